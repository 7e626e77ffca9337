/-! MODELS AND CONTRACTS, by program (wip/whole/gen_all.py): X5_lived, X5_surely, X4_draw, X2_slip, X5_slipAll, X5_isCoatAsBefore, X5_odds, X5_seed -/
theorem dX5_lived_0 : decode cX5_lived 0 = .ok (.aload_n 0, 1) := by decide +kernel
theorem dX5_lived_1 : decode cX5_lived 1 = .ok (.iload_n 1, 1) := by decide +kernel
theorem dX5_lived_2 : decode cX5_lived 2 = .ok (.invokevirtual 201, 3) := by decide +kernel
theorem dX5_lived_5 : decode cX5_lived 5 = .ok (.ifCond .ne 9, 3) := by decide +kernel
theorem dX5_lived_8 : decode cX5_lived 8 = .ok (.aload_n 0, 1) := by decide +kernel
theorem dX5_lived_9 : decode cX5_lived 9 = .ok (.iconst 0, 1) := by decide +kernel
theorem dX5_lived_10 : decode cX5_lived 10 = .ok (.invokevirtual 65, 3) := by decide +kernel
theorem dX5_lived_13 : decode cX5_lived 13 = .ok (.ireturn, 1) := by decide +kernel
theorem dX5_lived_14 : decode cX5_lived 14 = .ok (.aload_n 0, 1) := by decide +kernel
theorem dX5_lived_15 : decode cX5_lived 15 = .ok (.getfield 22, 3) := by decide +kernel
theorem dX5_lived_18 : decode cX5_lived 18 = .ok (.aload_n 0, 1) := by decide +kernel
theorem dX5_lived_19 : decode cX5_lived 19 = .ok (.getfield 10, 3) := by decide +kernel
theorem dX5_lived_22 : decode cX5_lived 22 = .ok (.invokevirtual 132, 3) := by decide +kernel
theorem dX5_lived_25 : decode cX5_lived 25 = .ok (.iconst 0, 1) := by decide +kernel
theorem dX5_lived_26 : decode cX5_lived 26 = .ok (.istore_n 2, 1) := by decide +kernel
theorem dX5_lived_27 : decode cX5_lived 27 = .ok (.iconst 1, 1) := by decide +kernel
theorem dX5_lived_28 : decode cX5_lived 28 = .ok (.istore_n 3, 1) := by decide +kernel
theorem dX5_lived_29 : decode cX5_lived 29 = .ok (.iload_n 3, 1) := by decide +kernel
theorem dX5_lived_30 : decode cX5_lived 30 = .ok (.iconst 1, 1) := by decide +kernel
theorem dX5_lived_31 : decode cX5_lived 31 = .ok (.aload_n 0, 1) := by decide +kernel
theorem dX5_lived_32 : decode cX5_lived 32 = .ok (.getfield 10, 3) := by decide +kernel
theorem dX5_lived_35 : decode cX5_lived 35 = .ok (.getfield 69, 3) := by decide +kernel
theorem dX5_lived_38 : decode cX5_lived 38 = .ok (.ishl, 1) := by decide +kernel
theorem dX5_lived_39 : decode cX5_lived 39 = .ok (.if_icmp .ge 26, 3) := by decide +kernel
theorem dX5_lived_42 : decode cX5_lived 42 = .ok (.iload_n 2, 1) := by decide +kernel
theorem dX5_lived_43 : decode cX5_lived 43 = .ok (.aload_n 0, 1) := by decide +kernel
theorem dX5_lived_44 : decode cX5_lived 44 = .ok (.iload_n 1, 1) := by decide +kernel
theorem dX5_lived_45 : decode cX5_lived 45 = .ok (.iload_n 3, 1) := by decide +kernel
theorem dX5_lived_46 : decode cX5_lived 46 = .ok (.invokevirtual 207, 3) := by decide +kernel
theorem dX5_lived_49 : decode cX5_lived 49 = .ok (.ifCond .eq 7, 3) := by decide +kernel
theorem dX5_lived_52 : decode cX5_lived 52 = .ok (.iconst 1, 1) := by decide +kernel
theorem dX5_lived_53 : decode cX5_lived 53 = .ok (.goto 4, 3) := by decide +kernel
theorem dX5_lived_56 : decode cX5_lived 56 = .ok (.iconst 0, 1) := by decide +kernel
theorem dX5_lived_57 : decode cX5_lived 57 = .ok (.iadd, 1) := by decide +kernel
theorem dX5_lived_58 : decode cX5_lived 58 = .ok (.istore_n 2, 1) := by decide +kernel
theorem dX5_lived_59 : decode cX5_lived 59 = .ok (.iinc 3 1, 3) := by decide +kernel
theorem dX5_lived_62 : decode cX5_lived 62 = .ok (.goto (-33), 3) := by decide +kernel
theorem dX5_lived_65 : decode cX5_lived 65 = .ok (.iload_n 2, 1) := by decide +kernel
theorem dX5_lived_66 : decode cX5_lived 66 = .ok (.ireturn, 1) := by decide +kernel
def m_X5_lived_b0 (u2 : zM) (a1 : Int32) (x4 : Int32) (x5 : Int32) : Option ((Int32 × Int32) ⊕ (Int32)) :=
  (if (zshl 1 (u2 1 6)) ≤ x5 then
some (.inr x4)
else
zbind (m_X5_cutsAsIn a1 x5 u2) (fun x9 => (if x9 = 0 then
some (.inl ((x4 + 0), (x5 + 1)))
else
some (.inl ((x4 + 1), (x5 + 1))))))
def m_X5_lived (a1 : Int32) (u : zM) : Option (Int32 × zM) :=
  (if (m_X5_isSpring a1 u) = 0 then
zbind2 (m_X5_finding 0 u) (fun x12 u13 => some (x12, u13))
else
zbind (m_X2_measureAll u) (fun u2 => zbind (zit zF (fun s : Int32 × Int32 => m_X5_lived_b0 u2 a1 s.1 s.2) (0, 1)) (fun x6 =>
some (x6, u2))))
set_option maxHeartbeats 4000000 in
set_option maxRecDepth 100000 in
theorem c_X5_lived (a1 : Int32)   (u : zM) (r : Int32) (u' : zM) (h : m_X5_lived a1 u = some (r, u')) : zCt 6 yX5_lived cX5_lived 4 (some .int) (fun E => [.ref (zad E 0), .int a1]) u (fun _ => some (.int r)) u' := by
  refine zCt.of (by decide +kernel) (fun E => Nat.le_of_ble_eq_true rfl) (fun X hX hR => ?_)
  have hX : zGood X RX5 cX5_lived 4 6 := hX
  show zG X u 0 [(0, .ref (zad X.1 0)), (1, .int a1)] []
  unfold m_X5_lived at h
  refine r_aload_n hX dX5_lived_0 0 rfl rfl ?_
  refine r_iload_n hX dX5_lived_1 1 rfl rfl ?_
  refine r_callV (As := [.int a1]) (rest := []) (st1 := [.int (m_X5_isSpring a1 u)]) hX dX5_lived_2 lv_RX5_201 (c_X5_isSpring a1  u _ rfl) (by decide) rfl rfl (zRecv.of (q := 0) (ci := 5) rfl rfl) rfl (Nat.le_of_ble_eq_true rfl) rfl ?_
  refine r_if_ne (tgt := 14) hX dX5_lived_5 (by decide) (fun c1 => ?_) (fun c1 => ?_)
  · have h := (if_neg c1).symm.trans h
    refine r_aload_n hX dX5_lived_14 0 rfl rfl ?_
    refine r_getR hX dX5_lived_15 f_RX5_22 zr_0_2 ?_
    refine r_aload_n hX dX5_lived_18 0 rfl rfl ?_
    refine r_getR hX dX5_lived_19 f_RX5_10 zr_0_0 ?_
    obtain ⟨u2, e3, h⟩ := zbind_elim h
    refine r_callV (As := [.ref (zad X.1 1)]) (rest := []) (st1 := []) hX dX5_lived_22 lv_RX5_132 (c_X2_measureAll   u _ e3) (by decide) rfl rfl (zRecv.of (q := 15) (ci := 2) rfl rfl) rfl (Nat.le_of_ble_eq_true rfl) rfl ?_
    refine r_iconst (v := 0) hX dX5_lived_25 (by decide) ?_
    refine r_istore_n (y := 0) (L' := [(2, .int 0), (0, .ref (zad X.1 0)), (1, .int a1)]) hX dX5_lived_26 rfl (by decide) rfl rfl ?_
    refine r_iconst (v := 1) hX dX5_lived_27 (by decide) ?_
    refine r_istore_n (y := 1) (L' := [(3, .int 1), (2, .int 0), (0, .ref (zad X.1 0)), (1, .int a1)]) hX dX5_lived_28 rfl (by decide) rfl rfl ?_
    refine r_sub [2, 3, 1, 0] (L' := [(0, .ref (zad X.1 0)), (1, .int a1), (2, .int 0), (3, .int 1)]) rfl ?_
    obtain ⟨x6, h7, h⟩ := zbind_elim h
    have Jh7 : zG X u2 65 [(2, .int x6)] [] := by
        refine r_iload_n hX dX5_lived_65 0 rfl rfl ?_
        obtain ⟨rfl, rfl⟩ := zinj2 (Option.some.inj h)
        exact r_iret hX hR dX5_lived_66
    clear h
    refine zit_walk (P := fun s0 : Int32 × Int32 => zG X u2 29 [(0, .ref (zad X.1 0)), (1, .int a1), (2, .int (s0.1)), (3, .int (s0.2))] []) ?_ zF _ h7
    clear h7
    intro s0 y0 h0b hin0 hout0
    obtain ⟨x4, x5⟩ := s0
    have h0b : m_X5_lived_b0 u2 a1 x4 x5 = some y0 := h0b
    unfold m_X5_lived_b0 at h0b
    show zG X u2 29 [(0, .ref (zad X.1 0)), (1, .int a1), (2, .int x4), (3, .int x5)] []
    refine r_iload_n hX dX5_lived_29 3 rfl rfl ?_
    refine r_iconst (v := 1) hX dX5_lived_30 (by decide) ?_
    refine r_aload_n hX dX5_lived_31 0 rfl rfl ?_
    refine r_getR hX dX5_lived_32 f_RX5_10 zr_0_0 ?_
    refine r_getI hX dX5_lived_35 f_RX5_69 zi_1_6 ?_
    refine r_ishl hX dX5_lived_38 ?_
    refine r_icmp_ge (tgt := 65) hX dX5_lived_39 (by decide) (fun c8 => ?_) (fun c8 => ?_)
    · have h0b := (if_pos c8).symm.trans h0b
      refine r_sub [2] (L' := [(2, .int x4)]) rfl ?_
      have h0b := hout0 _ (Option.some.inj h0b).symm
      obtain rfl := h0b
      exact Jh7
    · have h0b := (if_neg c8).symm.trans h0b
      refine r_iload_n hX dX5_lived_42 2 rfl rfl ?_
      refine r_aload_n hX dX5_lived_43 0 rfl rfl ?_
      refine r_iload_n hX dX5_lived_44 1 rfl rfl ?_
      refine r_iload_n hX dX5_lived_45 3 rfl rfl ?_
      obtain ⟨x9, e10, h0b⟩ := zbind_elim h0b
      refine r_callV (As := [.int a1, .int x5]) (rest := [.int x4]) (st1 := [.int x9, .int x4]) hX dX5_lived_46 lv_RX5_207 (c_X5_cutsAsIn a1 x5  u2 _ e10) (by decide) rfl rfl (zRecv.of (q := 0) (ci := 5) rfl rfl) rfl (Nat.le_of_ble_eq_true rfl) rfl ?_
      refine r_if_eq (tgt := 56) hX dX5_lived_49 (by decide) (fun c11 => ?_) (fun c11 => ?_)
      · have h0b := (if_pos c11).symm.trans h0b
        refine r_iconst (v := 0) hX dX5_lived_56 (by decide) ?_
        refine r_iadd hX dX5_lived_57 ?_
        refine r_istore_n (y := (x4 + 0)) (L' := [(2, .int (x4 + 0)), (0, .ref (zad X.1 0)), (1, .int a1), (3, .int x5)]) hX dX5_lived_58 rfl (by decide) rfl rfl ?_
        refine r_iinc (v := (x5 + 1)) (L' := [(3, .int (x5 + 1)), (2, .int (x4 + 0)), (0, .ref (zad X.1 0)), (1, .int a1)]) hX dX5_lived_59 (by decide) 3 rfl rfl rfl ?_
        refine r_goto (tgt := 29) hX dX5_lived_62 (by decide) ?_
        refine r_sub [2, 3, 1, 0] (L' := [(0, .ref (zad X.1 0)), (1, .int a1), (2, .int (x4 + 0)), (3, .int (x5 + 1))]) rfl ?_
        exact hin0 _ (Option.some.inj h0b).symm
      · have h0b := (if_neg c11).symm.trans h0b
        refine r_iconst (v := 1) hX dX5_lived_52 (by decide) ?_
        refine r_goto (tgt := 57) hX dX5_lived_53 (by decide) ?_
        refine r_iadd hX dX5_lived_57 ?_
        refine r_istore_n (y := (x4 + 1)) (L' := [(2, .int (x4 + 1)), (0, .ref (zad X.1 0)), (1, .int a1), (3, .int x5)]) hX dX5_lived_58 rfl (by decide) rfl rfl ?_
        refine r_iinc (v := (x5 + 1)) (L' := [(3, .int (x5 + 1)), (2, .int (x4 + 1)), (0, .ref (zad X.1 0)), (1, .int a1)]) hX dX5_lived_59 (by decide) 3 rfl rfl rfl ?_
        refine r_goto (tgt := 29) hX dX5_lived_62 (by decide) ?_
        refine r_sub [2, 3, 1, 0] (L' := [(0, .ref (zad X.1 0)), (1, .int a1), (2, .int (x4 + 1)), (3, .int (x5 + 1))]) rfl ?_
        exact hin0 _ (Option.some.inj h0b).symm
  · have h := (if_pos c1).symm.trans h
    refine r_aload_n hX dX5_lived_8 0 rfl rfl ?_
    refine r_iconst (v := 0) hX dX5_lived_9 (by decide) ?_
    obtain ⟨x12, u13, e14, h⟩ := zbind2_elim h
    refine r_callV (As := [.int 0]) (rest := []) (st1 := [.int x12]) hX dX5_lived_10 lv_RX5_65 (c_X5_finding 0  u _ _ e14) (by decide) rfl rfl (zRecv.of (q := 0) (ci := 5) rfl rfl) rfl (Nat.le_of_ble_eq_true rfl) rfl ?_
    obtain ⟨rfl, rfl⟩ := zinj2 (Option.some.inj h)
    exact r_iret hX hR dX5_lived_13
theorem dX5_surely_0 : decode cX5_surely 0 = .ok (.aload_n 0, 1) := by decide +kernel
theorem dX5_surely_1 : decode cX5_surely 1 = .ok (.iload_n 1, 1) := by decide +kernel
theorem dX5_surely_2 : decode cX5_surely 2 = .ok (.invokevirtual 201, 3) := by decide +kernel
theorem dX5_surely_5 : decode cX5_surely 5 = .ok (.ifCond .eq 12, 3) := by decide +kernel
theorem dX5_surely_8 : decode cX5_surely 8 = .ok (.iload_n 2, 1) := by decide +kernel
theorem dX5_surely_9 : decode cX5_surely 9 = .ok (.iconst 0, 1) := by decide +kernel
theorem dX5_surely_10 : decode cX5_surely 10 = .ok (.iconst 1, 1) := by decide +kernel
theorem dX5_surely_11 : decode cX5_surely 11 = .ok (.invokestatic 80, 3) := by decide +kernel
theorem dX5_surely_14 : decode cX5_surely 14 = .ok (.ifCond .ne 9, 3) := by decide +kernel
theorem dX5_surely_17 : decode cX5_surely 17 = .ok (.aload_n 0, 1) := by decide +kernel
theorem dX5_surely_18 : decode cX5_surely 18 = .ok (.iconst 0, 1) := by decide +kernel
theorem dX5_surely_19 : decode cX5_surely 19 = .ok (.invokevirtual 65, 3) := by decide +kernel
theorem dX5_surely_22 : decode cX5_surely 22 = .ok (.ireturn, 1) := by decide +kernel
theorem dX5_surely_23 : decode cX5_surely 23 = .ok (.aload_n 0, 1) := by decide +kernel
theorem dX5_surely_24 : decode cX5_surely 24 = .ok (.getfield 22, 3) := by decide +kernel
theorem dX5_surely_27 : decode cX5_surely 27 = .ok (.aload_n 0, 1) := by decide +kernel
theorem dX5_surely_28 : decode cX5_surely 28 = .ok (.getfield 10, 3) := by decide +kernel
theorem dX5_surely_31 : decode cX5_surely 31 = .ok (.invokevirtual 132, 3) := by decide +kernel
theorem dX5_surely_34 : decode cX5_surely 34 = .ok (.iconst (-1), 1) := by decide +kernel
theorem dX5_surely_35 : decode cX5_surely 35 = .ok (.istore_n 3, 1) := by decide +kernel
theorem dX5_surely_36 : decode cX5_surely 36 = .ok (.iconst 0, 1) := by decide +kernel
theorem dX5_surely_37 : decode cX5_surely 37 = .ok (.istore 4, 2) := by decide +kernel
theorem dX5_surely_39 : decode cX5_surely 39 = .ok (.iconst 1, 1) := by decide +kernel
theorem dX5_surely_40 : decode cX5_surely 40 = .ok (.istore 5, 2) := by decide +kernel
theorem dX5_surely_42 : decode cX5_surely 42 = .ok (.iload 5, 2) := by decide +kernel
theorem dX5_surely_44 : decode cX5_surely 44 = .ok (.iconst 1, 1) := by decide +kernel
theorem dX5_surely_45 : decode cX5_surely 45 = .ok (.aload_n 0, 1) := by decide +kernel
theorem dX5_surely_46 : decode cX5_surely 46 = .ok (.getfield 10, 3) := by decide +kernel
theorem dX5_surely_49 : decode cX5_surely 49 = .ok (.getfield 69, 3) := by decide +kernel
theorem dX5_surely_52 : decode cX5_surely 52 = .ok (.ishl, 1) := by decide +kernel
theorem dX5_surely_53 : decode cX5_surely 53 = .ok (.if_icmp .ge 31, 3) := by decide +kernel
theorem dX5_surely_56 : decode cX5_surely 56 = .ok (.aload_n 0, 1) := by decide +kernel
theorem dX5_surely_57 : decode cX5_surely 57 = .ok (.iload_n 1, 1) := by decide +kernel
theorem dX5_surely_58 : decode cX5_surely 58 = .ok (.iload 5, 2) := by decide +kernel
theorem dX5_surely_60 : decode cX5_surely 60 = .ok (.invokevirtual 207, 3) := by decide +kernel
theorem dX5_surely_63 : decode cX5_surely 63 = .ok (.ifCond .eq 15, 3) := by decide +kernel
theorem dX5_surely_66 : decode cX5_surely 66 = .ok (.iload_n 3, 1) := by decide +kernel
theorem dX5_surely_67 : decode cX5_surely 67 = .ok (.iload 5, 2) := by decide +kernel
theorem dX5_surely_69 : decode cX5_surely 69 = .ok (.iand, 1) := by decide +kernel
theorem dX5_surely_70 : decode cX5_surely 70 = .ok (.istore_n 3, 1) := by decide +kernel
theorem dX5_surely_71 : decode cX5_surely 71 = .ok (.iload 4, 2) := by decide +kernel
theorem dX5_surely_73 : decode cX5_surely 73 = .ok (.iload 5, 2) := by decide +kernel
theorem dX5_surely_75 : decode cX5_surely 75 = .ok (.ior, 1) := by decide +kernel
theorem dX5_surely_76 : decode cX5_surely 76 = .ok (.istore 4, 2) := by decide +kernel
theorem dX5_surely_78 : decode cX5_surely 78 = .ok (.iinc 5 1, 3) := by decide +kernel
theorem dX5_surely_81 : decode cX5_surely 81 = .ok (.goto (-39), 3) := by decide +kernel
theorem dX5_surely_84 : decode cX5_surely 84 = .ok (.iload 4, 2) := by decide +kernel
theorem dX5_surely_86 : decode cX5_surely 86 = .ok (.ifCond .ne 9, 3) := by decide +kernel
theorem dX5_surely_89 : decode cX5_surely 89 = .ok (.aload_n 0, 1) := by decide +kernel
theorem dX5_surely_90 : decode cX5_surely 90 = .ok (.iconst 3, 1) := by decide +kernel
theorem dX5_surely_91 : decode cX5_surely 91 = .ok (.invokevirtual 65, 3) := by decide +kernel
theorem dX5_surely_94 : decode cX5_surely 94 = .ok (.ireturn, 1) := by decide +kernel
theorem dX5_surely_95 : decode cX5_surely 95 = .ok (.iload_n 2, 1) := by decide +kernel
theorem dX5_surely_96 : decode cX5_surely 96 = .ok (.ifCond .ne 7, 3) := by decide +kernel
theorem dX5_surely_99 : decode cX5_surely 99 = .ok (.iload_n 3, 1) := by decide +kernel
theorem dX5_surely_100 : decode cX5_surely 100 = .ok (.goto 5, 3) := by decide +kernel
theorem dX5_surely_103 : decode cX5_surely 103 = .ok (.iload 4, 2) := by decide +kernel
theorem dX5_surely_105 : decode cX5_surely 105 = .ok (.ireturn, 1) := by decide +kernel
def m_X5_surely_b0 (u6 : zM) (a1 : Int32) (x8 : Int32) (x9 : Int32) (x10 : Int32) : Option ((Int32 × Int32 × Int32) ⊕ (Int32 × Int32)) :=
  (if (zshl 1 (u6 1 6)) ≤ x10 then
some (.inr (x8, x9))
else
zbind (m_X5_cutsAsIn a1 x10 u6) (fun x15 => (if x15 = 0 then
some (.inl (x8, x9, (x10 + 1)))
else
some (.inl ((x8 &&& x10), (x9 ||| x10), (x10 + 1))))))
def m_X5_surely (a1 : Int32) (a2 : Int32) (u : zM) : Option (Int32 × zM) :=
  (if (m_X5_isSpring a1 u) = 0 then
zbind2 (m_X5_finding 0 u) (fun x2 u3 => some (x2, u3))
else
(if (m_X5_within a2 0 1) = 0 then
zbind2 (m_X5_finding 0 u) (fun x23 u24 => some (x23, u24))
else
zbind (m_X2_measureAll u) (fun u6 => zbind2 (zit zF (fun s : Int32 × Int32 × Int32 => m_X5_surely_b0 u6 a1 s.1 s.2.1 s.2.2) ((-1), 0, 1)) (fun x11 x12 =>
(if x12 = 0 then
zbind2 (m_X5_finding 3 u6) (fun x20 u21 => some (x20, u21))
else
(if a2 = 0 then
some (x11, u6)
else
some (x12, u6)))))))
set_option maxHeartbeats 4000000 in
set_option maxRecDepth 100000 in
theorem c_X5_surely (a1 : Int32) (a2 : Int32)   (u : zM) (r : Int32) (u' : zM) (h : m_X5_surely a1 a2 u = some (r, u')) : zCt 6 yX5_surely cX5_surely 6 (some .int) (fun E => [.ref (zad E 0), .int a1, .int a2]) u (fun _ => some (.int r)) u' := by
  refine zCt.of (by decide +kernel) (fun E => Nat.le_of_ble_eq_true rfl) (fun X hX hR => ?_)
  have hX : zGood X RX5 cX5_surely 6 6 := hX
  show zG X u 0 [(0, .ref (zad X.1 0)), (1, .int a1), (2, .int a2)] []
  unfold m_X5_surely at h
  refine r_aload_n hX dX5_surely_0 0 rfl rfl ?_
  refine r_iload_n hX dX5_surely_1 1 rfl rfl ?_
  refine r_callV (As := [.int a1]) (rest := []) (st1 := [.int (m_X5_isSpring a1 u)]) hX dX5_surely_2 lv_RX5_201 (c_X5_isSpring a1  u _ rfl) (by decide) rfl rfl (zRecv.of (q := 0) (ci := 5) rfl rfl) rfl (Nat.le_of_ble_eq_true rfl) rfl ?_
  refine r_if_eq (tgt := 17) hX dX5_surely_5 (by decide) (fun c1 => ?_) (fun c1 => ?_)
  · have h := (if_pos c1).symm.trans h
    refine r_aload_n hX dX5_surely_17 0 rfl rfl ?_
    refine r_iconst (v := 0) hX dX5_surely_18 (by decide) ?_
    obtain ⟨x2, u3, e4, h⟩ := zbind2_elim h
    refine r_callV (As := [.int 0]) (rest := []) (st1 := [.int x2]) hX dX5_surely_19 lv_RX5_65 (c_X5_finding 0  u _ _ e4) (by decide) rfl rfl (zRecv.of (q := 0) (ci := 5) rfl rfl) rfl (Nat.le_of_ble_eq_true rfl) rfl ?_
    obtain ⟨rfl, rfl⟩ := zinj2 (Option.some.inj h)
    exact r_iret hX hR dX5_surely_22
  · have h := (if_neg c1).symm.trans h
    refine r_iload_n hX dX5_surely_8 2 rfl rfl ?_
    refine r_iconst (v := 0) hX dX5_surely_9 (by decide) ?_
    refine r_iconst (v := 1) hX dX5_surely_10 (by decide) ?_
    refine r_callS (As := [.int a2, .int 0, .int 1]) (rest := []) (st1 := [.int (m_X5_within a2 0 1)]) hX dX5_surely_11 ls_RX5_80 (c_X5_within a2 0 1  u _ rfl) (by decide) rfl rfl rfl (Nat.le_of_ble_eq_true rfl) rfl ?_
    refine r_if_ne (tgt := 23) hX dX5_surely_14 (by decide) (fun c5 => ?_) (fun c5 => ?_)
    · have h := (if_neg c5).symm.trans h
      refine r_aload_n hX dX5_surely_23 0 rfl rfl ?_
      refine r_getR hX dX5_surely_24 f_RX5_22 zr_0_2 ?_
      refine r_aload_n hX dX5_surely_27 0 rfl rfl ?_
      refine r_getR hX dX5_surely_28 f_RX5_10 zr_0_0 ?_
      obtain ⟨u6, e7, h⟩ := zbind_elim h
      refine r_callV (As := [.ref (zad X.1 1)]) (rest := []) (st1 := []) hX dX5_surely_31 lv_RX5_132 (c_X2_measureAll   u _ e7) (by decide) rfl rfl (zRecv.of (q := 15) (ci := 2) rfl rfl) rfl (Nat.le_of_ble_eq_true rfl) rfl ?_
      refine r_iconst (v := (-1)) hX dX5_surely_34 (by decide) ?_
      refine r_istore_n (y := (-1)) (L' := [(3, .int (-1)), (0, .ref (zad X.1 0)), (1, .int a1), (2, .int a2)]) hX dX5_surely_35 rfl (by decide) rfl rfl ?_
      refine r_iconst (v := 0) hX dX5_surely_36 (by decide) ?_
      refine r_istore (y := 0) (L' := [(4, .int 0), (3, .int (-1)), (0, .ref (zad X.1 0)), (1, .int a1), (2, .int a2)]) hX dX5_surely_37 (by decide) rfl rfl ?_
      refine r_iconst (v := 1) hX dX5_surely_39 (by decide) ?_
      refine r_istore (y := 1) (L' := [(5, .int 1), (4, .int 0), (3, .int (-1)), (0, .ref (zad X.1 0)), (1, .int a1), (2, .int a2)]) hX dX5_surely_40 (by decide) rfl rfl ?_
      refine r_sub [3, 4, 5, 2, 1, 0] (L' := [(0, .ref (zad X.1 0)), (1, .int a1), (2, .int a2), (3, .int (-1)), (4, .int 0), (5, .int 1)]) rfl ?_
      obtain ⟨x11, x12, h13, h⟩ := zbind2_elim h
      have Jh13 : zG X u6 84 [(0, .ref (zad X.1 0)), (2, .int a2), (3, .int x11), (4, .int x12)] [] := by
          refine r_iload hX dX5_surely_84 3 rfl ?_
          refine r_if_ne (tgt := 95) hX dX5_surely_86 (by decide) (fun c18 => ?_) (fun c18 => ?_)
          · have h := (if_neg c18).symm.trans h
            refine r_iload_n hX dX5_surely_95 1 rfl rfl ?_
            refine r_if_ne (tgt := 103) hX dX5_surely_96 (by decide) (fun c19 => ?_) (fun c19 => ?_)
            · have h := (if_neg c19).symm.trans h
              refine r_iload hX dX5_surely_103 3 rfl ?_
              obtain ⟨rfl, rfl⟩ := zinj2 (Option.some.inj h)
              exact r_iret hX hR dX5_surely_105
            · have h := (if_pos c19).symm.trans h
              refine r_iload_n hX dX5_surely_99 2 rfl rfl ?_
              refine r_goto (tgt := 105) hX dX5_surely_100 (by decide) ?_
              obtain ⟨rfl, rfl⟩ := zinj2 (Option.some.inj h)
              exact r_iret hX hR dX5_surely_105
          · have h := (if_pos c18).symm.trans h
            refine r_aload_n hX dX5_surely_89 0 rfl rfl ?_
            refine r_iconst (v := 3) hX dX5_surely_90 (by decide) ?_
            obtain ⟨x20, u21, e22, h⟩ := zbind2_elim h
            refine r_callV (As := [.int 3]) (rest := []) (st1 := [.int x20]) hX dX5_surely_91 lv_RX5_65 (c_X5_finding 3  u6 _ _ e22) (by decide) rfl rfl (zRecv.of (q := 0) (ci := 5) rfl rfl) rfl (Nat.le_of_ble_eq_true rfl) rfl ?_
            obtain ⟨rfl, rfl⟩ := zinj2 (Option.some.inj h)
            exact r_iret hX hR dX5_surely_94
      clear h
      refine zit_walk (P := fun s0 : Int32 × Int32 × Int32 => zG X u6 42 [(0, .ref (zad X.1 0)), (1, .int a1), (2, .int a2), (3, .int (s0.1)), (4, .int (s0.2.1)), (5, .int (s0.2.2))] []) ?_ zF _ h13
      clear h13
      intro s0 y0 h0b hin0 hout0
      obtain ⟨x8, x9, x10⟩ := s0
      have h0b : m_X5_surely_b0 u6 a1 x8 x9 x10 = some y0 := h0b
      unfold m_X5_surely_b0 at h0b
      show zG X u6 42 [(0, .ref (zad X.1 0)), (1, .int a1), (2, .int a2), (3, .int x8), (4, .int x9), (5, .int x10)] []
      refine r_iload hX dX5_surely_42 5 rfl ?_
      refine r_iconst (v := 1) hX dX5_surely_44 (by decide) ?_
      refine r_aload_n hX dX5_surely_45 0 rfl rfl ?_
      refine r_getR hX dX5_surely_46 f_RX5_10 zr_0_0 ?_
      refine r_getI hX dX5_surely_49 f_RX5_69 zi_1_6 ?_
      refine r_ishl hX dX5_surely_52 ?_
      refine r_icmp_ge (tgt := 84) hX dX5_surely_53 (by decide) (fun c14 => ?_) (fun c14 => ?_)
      · have h0b := (if_pos c14).symm.trans h0b
        refine r_sub [0, 2, 3, 4] (L' := [(0, .ref (zad X.1 0)), (2, .int a2), (3, .int x8), (4, .int x9)]) rfl ?_
        have h0b := hout0 _ (Option.some.inj h0b).symm
        obtain ⟨rfl, rfl⟩ := zinj2 h0b
        exact Jh13
      · have h0b := (if_neg c14).symm.trans h0b
        refine r_aload_n hX dX5_surely_56 0 rfl rfl ?_
        refine r_iload_n hX dX5_surely_57 1 rfl rfl ?_
        refine r_iload hX dX5_surely_58 5 rfl ?_
        obtain ⟨x15, e16, h0b⟩ := zbind_elim h0b
        refine r_callV (As := [.int a1, .int x10]) (rest := []) (st1 := [.int x15]) hX dX5_surely_60 lv_RX5_207 (c_X5_cutsAsIn a1 x10  u6 _ e16) (by decide) rfl rfl (zRecv.of (q := 0) (ci := 5) rfl rfl) rfl (Nat.le_of_ble_eq_true rfl) rfl ?_
        refine r_if_eq (tgt := 78) hX dX5_surely_63 (by decide) (fun c17 => ?_) (fun c17 => ?_)
        · have h0b := (if_pos c17).symm.trans h0b
          refine r_iinc (v := (x10 + 1)) (L' := [(5, .int (x10 + 1)), (0, .ref (zad X.1 0)), (1, .int a1), (2, .int a2), (3, .int x8), (4, .int x9)]) hX dX5_surely_78 (by decide) 5 rfl rfl rfl ?_
          refine r_goto (tgt := 42) hX dX5_surely_81 (by decide) ?_
          refine r_sub [1, 2, 3, 4, 5, 0] (L' := [(0, .ref (zad X.1 0)), (1, .int a1), (2, .int a2), (3, .int x8), (4, .int x9), (5, .int (x10 + 1))]) rfl ?_
          exact hin0 _ (Option.some.inj h0b).symm
        · have h0b := (if_neg c17).symm.trans h0b
          refine r_iload_n hX dX5_surely_66 3 rfl rfl ?_
          refine r_iload hX dX5_surely_67 5 rfl ?_
          refine r_iand hX dX5_surely_69 ?_
          refine r_istore_n (y := (x8 &&& x10)) (L' := [(3, .int (x8 &&& x10)), (0, .ref (zad X.1 0)), (1, .int a1), (2, .int a2), (4, .int x9), (5, .int x10)]) hX dX5_surely_70 rfl (by decide) rfl rfl ?_
          refine r_iload hX dX5_surely_71 4 rfl ?_
          refine r_iload hX dX5_surely_73 5 rfl ?_
          refine r_ior hX dX5_surely_75 ?_
          refine r_istore (y := (x9 ||| x10)) (L' := [(4, .int (x9 ||| x10)), (3, .int (x8 &&& x10)), (0, .ref (zad X.1 0)), (1, .int a1), (2, .int a2), (5, .int x10)]) hX dX5_surely_76 (by decide) rfl rfl ?_
          refine r_iinc (v := (x10 + 1)) (L' := [(5, .int (x10 + 1)), (4, .int (x9 ||| x10)), (3, .int (x8 &&& x10)), (0, .ref (zad X.1 0)), (1, .int a1), (2, .int a2)]) hX dX5_surely_78 (by decide) 5 rfl rfl rfl ?_
          refine r_goto (tgt := 42) hX dX5_surely_81 (by decide) ?_
          refine r_sub [3, 4, 5, 2, 1, 0] (L' := [(0, .ref (zad X.1 0)), (1, .int a1), (2, .int a2), (3, .int (x8 &&& x10)), (4, .int (x9 ||| x10)), (5, .int (x10 + 1))]) rfl ?_
          exact hin0 _ (Option.some.inj h0b).symm
    · have h := (if_pos c5).symm.trans h
      refine r_aload_n hX dX5_surely_17 0 rfl rfl ?_
      refine r_iconst (v := 0) hX dX5_surely_18 (by decide) ?_
      obtain ⟨x23, u24, e25, h⟩ := zbind2_elim h
      refine r_callV (As := [.int 0]) (rest := []) (st1 := [.int x23]) hX dX5_surely_19 lv_RX5_65 (c_X5_finding 0  u _ _ e25) (by decide) rfl rfl (zRecv.of (q := 0) (ci := 5) rfl rfl) rfl (Nat.le_of_ble_eq_true rfl) rfl ?_
      obtain ⟨rfl, rfl⟩ := zinj2 (Option.some.inj h)
      exact r_iret hX hR dX5_surely_22
theorem dX4_draw_0 : decode cX4_draw 0 = .ok (.aload_n 0, 1) := by decide +kernel
theorem dX4_draw_1 : decode cX4_draw 1 = .ok (.aload_n 0, 1) := by decide +kernel
theorem dX4_draw_2 : decode cX4_draw 2 = .ok (.getfield 49, 3) := by decide +kernel
theorem dX4_draw_5 : decode cX4_draw 5 = .ok (.ldc 94, 2) := by decide +kernel
theorem dX4_draw_7 : decode cX4_draw 7 = .ok (.imul, 1) := by decide +kernel
theorem dX4_draw_8 : decode cX4_draw 8 = .ok (.sipush 12345, 3) := by decide +kernel
theorem dX4_draw_11 : decode cX4_draw 11 = .ok (.iadd, 1) := by decide +kernel
theorem dX4_draw_12 : decode cX4_draw 12 = .ok (.putfield 49, 3) := by decide +kernel
theorem dX4_draw_15 : decode cX4_draw 15 = .ok (.aload_n 0, 1) := by decide +kernel
theorem dX4_draw_16 : decode cX4_draw 16 = .ok (.getfield 49, 3) := by decide +kernel
theorem dX4_draw_19 : decode cX4_draw 19 = .ok (.bipush 8, 2) := by decide +kernel
theorem dX4_draw_21 : decode cX4_draw 21 = .ok (.iushr, 1) := by decide +kernel
theorem dX4_draw_22 : decode cX4_draw 22 = .ok (.ireturn, 1) := by decide +kernel
def m_X4_draw  (u : zM) : Int32 × zM :=
  zlet (zst u 1 12 (((u 1 12) * 1103515245) + 12345)) (fun u1 => ((zushr (u1 1 12) 8), u1))
set_option maxHeartbeats 4000000 in
set_option maxRecDepth 100000 in
theorem c_X4_draw    (u : zM) (r : Int32) (u' : zM) (h : m_X4_draw u = (r, u')) : zCt 1 yX4_draw cX4_draw 1 (some .int) (fun E => [.ref (zad E 1)]) u (fun _ => some (.int r)) u' := by
  refine zCt.of (by decide +kernel) (fun E => Nat.le_of_ble_eq_true rfl) (fun X hX hR => ?_)
  have hX : zGood X RX4 cX4_draw 1 1 := hX
  show zG X u 0 [(0, .ref (zad X.1 1))] []
  unfold m_X4_draw at h
  refine r_aload_n hX dX4_draw_0 0 rfl rfl ?_
  refine r_aload_n hX dX4_draw_1 0 rfl rfl ?_
  refine r_getI hX dX4_draw_2 f_RX4_49 zi_1_12 ?_
  refine r_ldc (v := 1103515245) hX dX4_draw_5 (zT_in 666 (by decide +kernel) rfl) ?_
  refine r_imul hX dX4_draw_7 ?_
  refine r_sipush (v := 12345) hX dX4_draw_8 (by decide) ?_
  refine r_iadd hX dX4_draw_11 ?_
  obtain ⟨u1, e2, h⟩ := zlet_elim h
  refine r_putI hX dX4_draw_12 f_RX4_49 p_4_12 zi_1_12 ?_
  rw [e2]
  refine r_aload_n hX dX4_draw_15 0 rfl rfl ?_
  refine r_getI hX dX4_draw_16 f_RX4_49 zi_1_12 ?_
  refine r_bipush (v := 8) hX dX4_draw_19 (by decide) ?_
  refine r_iushr hX dX4_draw_21 ?_
  obtain ⟨rfl, rfl⟩ := zinj2 h
  exact r_iret hX hR dX4_draw_22
theorem dX2_slip_0 : decode cX2_slip 0 = .ok (.aload_n 0, 1) := by decide +kernel
theorem dX2_slip_1 : decode cX2_slip 1 = .ok (.iload_n 1, 1) := by decide +kernel
theorem dX2_slip_2 : decode cX2_slip 2 = .ok (.iload_n 2, 1) := by decide +kernel
theorem dX2_slip_3 : decode cX2_slip 3 = .ok (.aload_n 0, 1) := by decide +kernel
theorem dX2_slip_4 : decode cX2_slip 4 = .ok (.getfield 9, 3) := by decide +kernel
theorem dX2_slip_7 : decode cX2_slip 7 = .ok (.iload_n 1, 1) := by decide +kernel
theorem dX2_slip_8 : decode cX2_slip 8 = .ok (.bipush 12, 2) := by decide +kernel
theorem dX2_slip_10 : decode cX2_slip 10 = .ok (.imul, 1) := by decide +kernel
theorem dX2_slip_11 : decode cX2_slip 11 = .ok (.iload_n 2, 1) := by decide +kernel
theorem dX2_slip_12 : decode cX2_slip 12 = .ok (.iadd, 1) := by decide +kernel
theorem dX2_slip_13 : decode cX2_slip 13 = .ok (.iaload, 1) := by decide +kernel
theorem dX2_slip_14 : decode cX2_slip 14 = .ok (.iload_n 3, 1) := by decide +kernel
theorem dX2_slip_15 : decode cX2_slip 15 = .ok (.iadd, 1) := by decide +kernel
theorem dX2_slip_16 : decode cX2_slip 16 = .ok (.invokevirtual 43, 3) := by decide +kernel
theorem dX2_slip_19 : decode cX2_slip 19 = .ok (.return_, 1) := by decide +kernel
def m_X2_slip (a1 : Int32) (a2 : Int32) (a3 : Int32) (u : zM) : Option (zM) :=
  zbind (zld u 16 36 ((a1 * 12) + a2)) (fun x1 => zbind (m_X2_show a1 a2 (x1 + a3) u) (fun u3 => some u3))
set_option maxHeartbeats 4000000 in
set_option maxRecDepth 100000 in
theorem c_X2_slip (a1 : Int32) (a2 : Int32) (a3 : Int32)   (u : zM) (u' : zM) (h : m_X2_slip a1 a2 a3 u = some (u')) : zCt 3 yX2_slip cX2_slip 4 none (fun E => [.ref (zad E 15), .int a1, .int a2, .int a3]) u (fun _ => none) u' := by
  refine zCt.of (by decide +kernel) (fun E => Nat.le_of_ble_eq_true rfl) (fun X hX hR => ?_)
  have hX : zGood X RX2 cX2_slip 4 3 := hX
  show zG X u 0 [(0, .ref (zad X.1 15)), (1, .int a1), (2, .int a2), (3, .int a3)] []
  unfold m_X2_slip at h
  refine r_aload_n hX dX2_slip_0 0 rfl rfl ?_
  refine r_iload_n hX dX2_slip_1 1 rfl rfl ?_
  refine r_iload_n hX dX2_slip_2 2 rfl rfl ?_
  refine r_aload_n hX dX2_slip_3 0 rfl rfl ?_
  refine r_getR hX dX2_slip_4 f_RX2_9 zr_15_0 ?_
  refine r_iload_n hX dX2_slip_7 1 rfl rfl ?_
  refine r_bipush (v := 12) hX dX2_slip_8 (by decide) ?_
  refine r_imul hX dX2_slip_10 ?_
  refine r_iload_n hX dX2_slip_11 2 rfl rfl ?_
  refine r_iadd hX dX2_slip_12 ?_
  obtain ⟨x1, e2, h⟩ := zbind_elim h
  refine r_iald hX dX2_slip_13 rfl e2 ?_
  refine r_iload_n hX dX2_slip_14 3 rfl rfl ?_
  refine r_iadd hX dX2_slip_15 ?_
  obtain ⟨u3, e4, h⟩ := zbind_elim h
  refine r_callV (As := [.int a1, .int a2, .int (x1 + a3)]) (rest := []) (st1 := []) hX dX2_slip_16 lv_RX2_43 (c_X2_show a1 a2 (x1 + a3)  u _ e4) (by decide) rfl rfl (zRecv.of (q := 15) (ci := 2) rfl rfl) rfl (Nat.le_of_ble_eq_true rfl) rfl ?_
  obtain rfl := Option.some.inj h
  exact r_vret hX hR dX2_slip_19
theorem dX5_slipAll_0 : decode cX5_slipAll 0 = .ok (.iconst 0, 1) := by decide +kernel
theorem dX5_slipAll_1 : decode cX5_slipAll 1 = .ok (.istore_n 1, 1) := by decide +kernel
theorem dX5_slipAll_2 : decode cX5_slipAll 2 = .ok (.iload_n 1, 1) := by decide +kernel
theorem dX5_slipAll_3 : decode cX5_slipAll 3 = .ok (.aload_n 0, 1) := by decide +kernel
theorem dX5_slipAll_4 : decode cX5_slipAll 4 = .ok (.getfield 10, 3) := by decide +kernel
theorem dX5_slipAll_7 : decode cX5_slipAll 7 = .ok (.getfield 69, 3) := by decide +kernel
theorem dX5_slipAll_10 : decode cX5_slipAll 10 = .ok (.if_icmp .ge 53, 3) := by decide +kernel
theorem dX5_slipAll_13 : decode cX5_slipAll 13 = .ok (.aload_n 0, 1) := by decide +kernel
theorem dX5_slipAll_14 : decode cX5_slipAll 14 = .ok (.getfield 10, 3) := by decide +kernel
theorem dX5_slipAll_17 : decode cX5_slipAll 17 = .ok (.iload_n 1, 1) := by decide +kernel
theorem dX5_slipAll_18 : decode cX5_slipAll 18 = .ok (.invokevirtual 108, 3) := by decide +kernel
theorem dX5_slipAll_21 : decode cX5_slipAll 21 = .ok (.ifCond .eq 36, 3) := by decide +kernel
theorem dX5_slipAll_24 : decode cX5_slipAll 24 = .ok (.iconst 0, 1) := by decide +kernel
theorem dX5_slipAll_25 : decode cX5_slipAll 25 = .ok (.istore_n 2, 1) := by decide +kernel
theorem dX5_slipAll_26 : decode cX5_slipAll 26 = .ok (.iload_n 2, 1) := by decide +kernel
theorem dX5_slipAll_27 : decode cX5_slipAll 27 = .ok (.iconst 3, 1) := by decide +kernel
theorem dX5_slipAll_28 : decode cX5_slipAll 28 = .ok (.if_icmp .ge 29, 3) := by decide +kernel
theorem dX5_slipAll_31 : decode cX5_slipAll 31 = .ok (.aload_n 0, 1) := by decide +kernel
theorem dX5_slipAll_32 : decode cX5_slipAll 32 = .ok (.getfield 22, 3) := by decide +kernel
theorem dX5_slipAll_35 : decode cX5_slipAll 35 = .ok (.iload_n 2, 1) := by decide +kernel
theorem dX5_slipAll_36 : decode cX5_slipAll 36 = .ok (.iload_n 1, 1) := by decide +kernel
theorem dX5_slipAll_37 : decode cX5_slipAll 37 = .ok (.aload_n 0, 1) := by decide +kernel
theorem dX5_slipAll_38 : decode cX5_slipAll 38 = .ok (.getfield 10, 3) := by decide +kernel
theorem dX5_slipAll_41 : decode cX5_slipAll 41 = .ok (.invokevirtual 286, 3) := by decide +kernel
theorem dX5_slipAll_44 : decode cX5_slipAll 44 = .ok (.iconst 3, 1) := by decide +kernel
theorem dX5_slipAll_45 : decode cX5_slipAll 45 = .ok (.irem, 1) := by decide +kernel
theorem dX5_slipAll_46 : decode cX5_slipAll 46 = .ok (.iconst 1, 1) := by decide +kernel
theorem dX5_slipAll_47 : decode cX5_slipAll 47 = .ok (.isub, 1) := by decide +kernel
theorem dX5_slipAll_48 : decode cX5_slipAll 48 = .ok (.invokevirtual 289, 3) := by decide +kernel
theorem dX5_slipAll_51 : decode cX5_slipAll 51 = .ok (.iinc 2 1, 3) := by decide +kernel
theorem dX5_slipAll_54 : decode cX5_slipAll 54 = .ok (.goto (-28), 3) := by decide +kernel
theorem dX5_slipAll_57 : decode cX5_slipAll 57 = .ok (.iinc 1 1, 3) := by decide +kernel
theorem dX5_slipAll_60 : decode cX5_slipAll 60 = .ok (.goto (-58), 3) := by decide +kernel
theorem dX5_slipAll_63 : decode cX5_slipAll 63 = .ok (.return_, 1) := by decide +kernel
def m_X5_slipAll_b1 (x1 : Int32) (x7 : Int32) (u8 : zM) : Option ((Int32 × zM) ⊕ (zM)) :=
  (if 3 ≤ x7 then
some (.inr u8)
else
zlet2 (m_X4_draw u8) (fun x12 u13 => zbind (m_X2_slip x7 x1 ((zrem x12 3) - 1) u13) (fun u15 => some (.inl ((x7 + 1), u15)))))
def m_X5_slipAll_b0  (x1 : Int32) (u2 : zM) : Option ((Int32 × zM) ⊕ (zM)) :=
  (if (u2 1 6) ≤ x1 then
some (.inr u2)
else
(if (m_X4_isHere x1 u2) = 0 then
some (.inl ((x1 + 1), u2))
else
zbind (zit zF (fun s : Int32 × zM => m_X5_slipAll_b1 x1 s.1 s.2) (0, u2)) (fun u9 =>
some (.inl ((x1 + 1), u9)))))
def m_X5_slipAll  (u : zM) : Option (zM) :=
  zbind (zit zF (fun s : Int32 × zM => m_X5_slipAll_b0 s.1 s.2) (0, u)) (fun u3 =>
some u3)
set_option maxHeartbeats 4000000 in
set_option maxRecDepth 100000 in
theorem c_X5_slipAll    (u : zM) (u' : zM) (h : m_X5_slipAll u = some (u')) : zCt 4 yX5_slipAll cX5_slipAll 3 none (fun E => [.ref (zad E 0)]) u (fun _ => none) u' := by
  refine zCt.of (by decide +kernel) (fun E => Nat.le_of_ble_eq_true rfl) (fun X hX hR => ?_)
  have hX : zGood X RX5 cX5_slipAll 3 4 := hX
  show zG X u 0 [(0, .ref (zad X.1 0))] []
  unfold m_X5_slipAll at h
  refine r_iconst (v := 0) hX dX5_slipAll_0 (by decide) ?_
  refine r_istore_n (y := 0) (L' := [(1, .int 0), (0, .ref (zad X.1 0))]) hX dX5_slipAll_1 rfl (by decide) rfl rfl ?_
  refine r_sub [1, 0] (L' := [(0, .ref (zad X.1 0)), (1, .int 0)]) rfl ?_
  obtain ⟨u3, h4, h⟩ := zbind_elim h
  have Jh4 : zG X u3 63 [] [] := by
      obtain rfl := Option.some.inj h
      exact r_vret hX hR dX5_slipAll_63
  clear h
  refine zit_walk (P := fun s0 : Int32 × zM => zG X s0.2 2 [(0, .ref (zad X.1 0)), (1, .int (s0.1))] []) ?_ zF _ h4
  clear h4
  intro s0 y0 h0b hin0 hout0
  obtain ⟨x1, u2⟩ := s0
  have h0b : m_X5_slipAll_b0 x1 u2 = some y0 := h0b
  unfold m_X5_slipAll_b0 at h0b
  show zG X u2 2 [(0, .ref (zad X.1 0)), (1, .int x1)] []
  refine r_iload_n hX dX5_slipAll_2 1 rfl rfl ?_
  refine r_aload_n hX dX5_slipAll_3 0 rfl rfl ?_
  refine r_getR hX dX5_slipAll_4 f_RX5_10 zr_0_0 ?_
  refine r_getI hX dX5_slipAll_7 f_RX5_69 zi_1_6 ?_
  refine r_icmp_ge (tgt := 63) hX dX5_slipAll_10 (by decide) (fun c5 => ?_) (fun c5 => ?_)
  · have h0b := (if_pos c5).symm.trans h0b
    refine r_sub [] (L' := []) rfl ?_
    have h0b := hout0 _ (Option.some.inj h0b).symm
    obtain rfl := h0b
    exact Jh4
  · have h0b := (if_neg c5).symm.trans h0b
    refine r_aload_n hX dX5_slipAll_13 0 rfl rfl ?_
    refine r_getR hX dX5_slipAll_14 f_RX5_10 zr_0_0 ?_
    refine r_iload_n hX dX5_slipAll_17 1 rfl rfl ?_
    refine r_callV (As := [.int x1]) (rest := []) (st1 := [.int (m_X4_isHere x1 u2)]) hX dX5_slipAll_18 lv_RX5_108 (c_X4_isHere x1  u2 _ rfl) (by decide) rfl rfl (zRecv.of (q := 1) (ci := 4) rfl rfl) rfl (Nat.le_of_ble_eq_true rfl) rfl ?_
    refine r_if_eq (tgt := 57) hX dX5_slipAll_21 (by decide) (fun c6 => ?_) (fun c6 => ?_)
    · have h0b := (if_pos c6).symm.trans h0b
      refine r_iinc (v := (x1 + 1)) (L' := [(1, .int (x1 + 1)), (0, .ref (zad X.1 0))]) hX dX5_slipAll_57 (by decide) 1 rfl rfl rfl ?_
      refine r_goto (tgt := 2) hX dX5_slipAll_60 (by decide) ?_
      refine r_sub [1, 0] (L' := [(0, .ref (zad X.1 0)), (1, .int (x1 + 1))]) rfl ?_
      exact hin0 _ (Option.some.inj h0b).symm
    · have h0b := (if_neg c6).symm.trans h0b
      refine r_iconst (v := 0) hX dX5_slipAll_24 (by decide) ?_
      refine r_istore_n (y := 0) (L' := [(2, .int 0), (0, .ref (zad X.1 0)), (1, .int x1)]) hX dX5_slipAll_25 rfl (by decide) rfl rfl ?_
      refine r_sub [1, 2, 0] (L' := [(0, .ref (zad X.1 0)), (1, .int x1), (2, .int 0)]) rfl ?_
      obtain ⟨u9, h10, h0b⟩ := zbind_elim h0b
      have Jh10 : zG X u9 57 [(0, .ref (zad X.1 0)), (1, .int x1)] [] := by
          refine r_iinc (v := (x1 + 1)) (L' := [(1, .int (x1 + 1)), (0, .ref (zad X.1 0))]) hX dX5_slipAll_57 (by decide) 1 rfl rfl rfl ?_
          refine r_goto (tgt := 2) hX dX5_slipAll_60 (by decide) ?_
          refine r_sub [1, 0] (L' := [(0, .ref (zad X.1 0)), (1, .int (x1 + 1))]) rfl ?_
          exact hin0 _ (Option.some.inj h0b).symm
      clear h0b
      refine zit_walk (P := fun s1 : Int32 × zM => zG X s1.2 26 [(0, .ref (zad X.1 0)), (1, .int x1), (2, .int (s1.1))] []) ?_ zF _ h10
      clear h10
      intro s1 y1 h1b hin1 hout1
      obtain ⟨x7, u8⟩ := s1
      have h1b : m_X5_slipAll_b1 x1 x7 u8 = some y1 := h1b
      unfold m_X5_slipAll_b1 at h1b
      show zG X u8 26 [(0, .ref (zad X.1 0)), (1, .int x1), (2, .int x7)] []
      refine r_iload_n hX dX5_slipAll_26 2 rfl rfl ?_
      refine r_iconst (v := 3) hX dX5_slipAll_27 (by decide) ?_
      refine r_icmp_ge (tgt := 57) hX dX5_slipAll_28 (by decide) (fun c11 => ?_) (fun c11 => ?_)
      · have h1b := (if_pos c11).symm.trans h1b
        refine r_sub [0, 1] (L' := [(0, .ref (zad X.1 0)), (1, .int x1)]) rfl ?_
        have h1b := hout1 _ (Option.some.inj h1b).symm
        obtain rfl := h1b
        exact Jh10
      · have h1b := (if_neg c11).symm.trans h1b
        refine r_aload_n hX dX5_slipAll_31 0 rfl rfl ?_
        refine r_getR hX dX5_slipAll_32 f_RX5_22 zr_0_2 ?_
        refine r_iload_n hX dX5_slipAll_35 2 rfl rfl ?_
        refine r_iload_n hX dX5_slipAll_36 1 rfl rfl ?_
        refine r_aload_n hX dX5_slipAll_37 0 rfl rfl ?_
        refine r_getR hX dX5_slipAll_38 f_RX5_10 zr_0_0 ?_
        obtain ⟨x12, u13, e14, h1b⟩ := zlet2_elim h1b
        refine r_callV (As := []) (rest := [.int x1, .int x7, .ref (zad X.1 15)]) (st1 := [.int x12, .int x1, .int x7, .ref (zad X.1 15)]) hX dX5_slipAll_41 lv_RX5_286 (c_X4_draw   u8 _ _ e14) (by decide) rfl rfl (zRecv.of (q := 1) (ci := 4) rfl rfl) rfl (Nat.le_of_ble_eq_true rfl) rfl ?_
        refine r_iconst (v := 3) hX dX5_slipAll_44 (by decide) ?_
        refine r_irem hX dX5_slipAll_45 (by decide) ?_
        refine r_iconst (v := 1) hX dX5_slipAll_46 (by decide) ?_
        refine r_isub hX dX5_slipAll_47 ?_
        obtain ⟨u15, e16, h1b⟩ := zbind_elim h1b
        refine r_callV (As := [.int x7, .int x1, .int ((zrem x12 3) - 1)]) (rest := []) (st1 := []) hX dX5_slipAll_48 lv_RX5_289 (c_X2_slip x7 x1 ((zrem x12 3) - 1)  u13 _ e16) (by decide) rfl rfl (zRecv.of (q := 15) (ci := 2) rfl rfl) rfl (Nat.le_of_ble_eq_true rfl) rfl ?_
        refine r_iinc (v := (x7 + 1)) (L' := [(2, .int (x7 + 1)), (0, .ref (zad X.1 0)), (1, .int x1)]) hX dX5_slipAll_51 (by decide) 2 rfl rfl rfl ?_
        refine r_goto (tgt := 26) hX dX5_slipAll_54 (by decide) ?_
        refine r_sub [1, 2, 0] (L' := [(0, .ref (zad X.1 0)), (1, .int x1), (2, .int (x7 + 1))]) rfl ?_
        exact hin1 _ (Option.some.inj h1b).symm
theorem dX5_isCoatAsBefore_0 : decode cX5_isCoatAsBefore 0 = .ok (.iconst 0, 1) := by decide +kernel
theorem dX5_isCoatAsBefore_1 : decode cX5_isCoatAsBefore 1 = .ok (.istore_n 1, 1) := by decide +kernel
theorem dX5_isCoatAsBefore_2 : decode cX5_isCoatAsBefore 2 = .ok (.iload_n 1, 1) := by decide +kernel
theorem dX5_isCoatAsBefore_3 : decode cX5_isCoatAsBefore 3 = .ok (.iconst 3, 1) := by decide +kernel
theorem dX5_isCoatAsBefore_4 : decode cX5_isCoatAsBefore 4 = .ok (.if_icmp .ge 29, 3) := by decide +kernel
theorem dX5_isCoatAsBefore_7 : decode cX5_isCoatAsBefore 7 = .ok (.aload_n 0, 1) := by decide +kernel
theorem dX5_isCoatAsBefore_8 : decode cX5_isCoatAsBefore 8 = .ok (.getfield 22, 3) := by decide +kernel
theorem dX5_isCoatAsBefore_11 : decode cX5_isCoatAsBefore 11 = .ok (.getfield 129, 3) := by decide +kernel
theorem dX5_isCoatAsBefore_14 : decode cX5_isCoatAsBefore 14 = .ok (.iload_n 1, 1) := by decide +kernel
theorem dX5_isCoatAsBefore_15 : decode cX5_isCoatAsBefore 15 = .ok (.iaload, 1) := by decide +kernel
theorem dX5_isCoatAsBefore_16 : decode cX5_isCoatAsBefore 16 = .ok (.aload_n 0, 1) := by decide +kernel
theorem dX5_isCoatAsBefore_17 : decode cX5_isCoatAsBefore 17 = .ok (.getfield 53, 3) := by decide +kernel
theorem dX5_isCoatAsBefore_20 : decode cX5_isCoatAsBefore 20 = .ok (.iload_n 1, 1) := by decide +kernel
theorem dX5_isCoatAsBefore_21 : decode cX5_isCoatAsBefore 21 = .ok (.iaload, 1) := by decide +kernel
theorem dX5_isCoatAsBefore_22 : decode cX5_isCoatAsBefore 22 = .ok (.if_icmp .eq 5, 3) := by decide +kernel
theorem dX5_isCoatAsBefore_25 : decode cX5_isCoatAsBefore 25 = .ok (.iconst 0, 1) := by decide +kernel
theorem dX5_isCoatAsBefore_26 : decode cX5_isCoatAsBefore 26 = .ok (.ireturn, 1) := by decide +kernel
theorem dX5_isCoatAsBefore_27 : decode cX5_isCoatAsBefore 27 = .ok (.iinc 1 1, 3) := by decide +kernel
theorem dX5_isCoatAsBefore_30 : decode cX5_isCoatAsBefore 30 = .ok (.goto (-28), 3) := by decide +kernel
theorem dX5_isCoatAsBefore_33 : decode cX5_isCoatAsBefore 33 = .ok (.iconst 1, 1) := by decide +kernel
theorem dX5_isCoatAsBefore_34 : decode cX5_isCoatAsBefore 34 = .ok (.ireturn, 1) := by decide +kernel
def m_X5_isCoatAsBefore_b0 (u : zM) (x1 : Int32) : Option ((Int32) ⊕ (Int32)) :=
  (if 3 ≤ x1 then
some (.inr 1)
else
zbind (zld u 19 3 x1) (fun x3 => zbind (zld u 30 3 x1) (fun x5 => (if x3 = x5 then
some (.inl (x1 + 1))
else
some (.inr 0)))))
def m_X5_isCoatAsBefore  (u : zM) : Option (Int32) :=
  zit zF (fun s : Int32 => m_X5_isCoatAsBefore_b0 u s) 0
set_option maxHeartbeats 4000000 in
set_option maxRecDepth 100000 in
theorem c_X5_isCoatAsBefore    (u : zM) (r : Int32) (h : m_X5_isCoatAsBefore u = some r) : zCt 1 yX5_isCoatAsBefore cX5_isCoatAsBefore 2 (some .boolean) (fun E => [.ref (zad E 0)]) u (fun _ => some (.int r)) u := by
  refine zCt.of (by decide +kernel) (fun E => Nat.le_of_ble_eq_true rfl) (fun X hX hR => ?_)
  have hX : zGood X RX5 cX5_isCoatAsBefore 2 1 := hX
  show zG X u 0 [(0, .ref (zad X.1 0))] []
  unfold m_X5_isCoatAsBefore at h
  refine r_iconst (v := 0) hX dX5_isCoatAsBefore_0 (by decide) ?_
  refine r_istore_n (y := 0) (L' := [(1, .int 0), (0, .ref (zad X.1 0))]) hX dX5_isCoatAsBefore_1 rfl (by decide) rfl rfl ?_
  refine r_sub [1, 0] (L' := [(0, .ref (zad X.1 0)), (1, .int 0)]) rfl ?_
  refine zit_walk (P := fun s0 : Int32 => zG X u 2 [(0, .ref (zad X.1 0)), (1, .int s0)] []) ?_ zF _ h
  clear h
  intro s0 y0 h0b hin0 hout0
  obtain ⟨x1, es0⟩ : ∃ z, z = s0 := ⟨_, rfl⟩
  subst es0
  have h0b : m_X5_isCoatAsBefore_b0 u x1 = some y0 := h0b
  unfold m_X5_isCoatAsBefore_b0 at h0b
  show zG X u 2 [(0, .ref (zad X.1 0)), (1, .int x1)] []
  refine r_iload_n hX dX5_isCoatAsBefore_2 1 rfl rfl ?_
  refine r_iconst (v := 3) hX dX5_isCoatAsBefore_3 (by decide) ?_
  refine r_icmp_ge (tgt := 33) hX dX5_isCoatAsBefore_4 (by decide) (fun c2 => ?_) (fun c2 => ?_)
  · have h0b := (if_pos c2).symm.trans h0b
    refine r_iconst (v := 1) hX dX5_isCoatAsBefore_33 (by decide) ?_
    have h0b := hout0 _ (Option.some.inj h0b).symm
    obtain rfl := h0b
    exact r_zret1 hX hR dX5_isCoatAsBefore_34
  · have h0b := (if_neg c2).symm.trans h0b
    refine r_aload_n hX dX5_isCoatAsBefore_7 0 rfl rfl ?_
    refine r_getR hX dX5_isCoatAsBefore_8 f_RX5_22 zr_0_2 ?_
    refine r_getR hX dX5_isCoatAsBefore_11 f_RX5_129 zr_15_3 ?_
    refine r_iload_n hX dX5_isCoatAsBefore_14 1 rfl rfl ?_
    obtain ⟨x3, e4, h0b⟩ := zbind_elim h0b
    refine r_iald hX dX5_isCoatAsBefore_15 rfl e4 ?_
    refine r_aload_n hX dX5_isCoatAsBefore_16 0 rfl rfl ?_
    refine r_getR hX dX5_isCoatAsBefore_17 f_RX5_53 zr_0_8 ?_
    refine r_iload_n hX dX5_isCoatAsBefore_20 1 rfl rfl ?_
    obtain ⟨x5, e6, h0b⟩ := zbind_elim h0b
    refine r_iald hX dX5_isCoatAsBefore_21 rfl e6 ?_
    refine r_icmp_eq (tgt := 27) hX dX5_isCoatAsBefore_22 (by decide) (fun c7 => ?_) (fun c7 => ?_)
    · have h0b := (if_pos c7).symm.trans h0b
      refine r_iinc (v := (x1 + 1)) (L' := [(1, .int (x1 + 1)), (0, .ref (zad X.1 0))]) hX dX5_isCoatAsBefore_27 (by decide) 1 rfl rfl rfl ?_
      refine r_goto (tgt := 2) hX dX5_isCoatAsBefore_30 (by decide) ?_
      refine r_sub [1, 0] (L' := [(0, .ref (zad X.1 0)), (1, .int (x1 + 1))]) rfl ?_
      exact hin0 _ (Option.some.inj h0b).symm
    · have h0b := (if_neg c7).symm.trans h0b
      refine r_iconst (v := 0) hX dX5_isCoatAsBefore_25 (by decide) ?_
      have h0b := hout0 _ (Option.some.inj h0b).symm
      obtain rfl := h0b
      exact r_zret0 hX hR dX5_isCoatAsBefore_26
theorem dX5_odds_0 : decode cX5_odds 0 = .ok (.iload_n 1, 1) := by decide +kernel
theorem dX5_odds_1 : decode cX5_odds 1 = .ok (.iconst 1, 1) := by decide +kernel
theorem dX5_odds_2 : decode cX5_odds 2 = .ok (.bipush 30, 2) := by decide +kernel
theorem dX5_odds_4 : decode cX5_odds 4 = .ok (.invokestatic 80, 3) := by decide +kernel
theorem dX5_odds_7 : decode cX5_odds 7 = .ok (.ifCond .ne 9, 3) := by decide +kernel
theorem dX5_odds_10 : decode cX5_odds 10 = .ok (.aload_n 0, 1) := by decide +kernel
theorem dX5_odds_11 : decode cX5_odds 11 = .ok (.iconst 0, 1) := by decide +kernel
theorem dX5_odds_12 : decode cX5_odds 12 = .ok (.invokevirtual 65, 3) := by decide +kernel
theorem dX5_odds_15 : decode cX5_odds 15 = .ok (.ireturn, 1) := by decide +kernel
theorem dX5_odds_16 : decode cX5_odds 16 = .ok (.aload_n 0, 1) := by decide +kernel
theorem dX5_odds_17 : decode cX5_odds 17 = .ok (.invokevirtual 125, 3) := by decide +kernel
theorem dX5_odds_20 : decode cX5_odds 20 = .ok (.ifCond .ne 9, 3) := by decide +kernel
theorem dX5_odds_23 : decode cX5_odds 23 = .ok (.aload_n 0, 1) := by decide +kernel
theorem dX5_odds_24 : decode cX5_odds 24 = .ok (.iconst 3, 1) := by decide +kernel
theorem dX5_odds_25 : decode cX5_odds 25 = .ok (.invokevirtual 65, 3) := by decide +kernel
theorem dX5_odds_28 : decode cX5_odds 28 = .ok (.ireturn, 1) := by decide +kernel
theorem dX5_odds_29 : decode cX5_odds 29 = .ok (.aload_n 0, 1) := by decide +kernel
theorem dX5_odds_30 : decode cX5_odds 30 = .ok (.getfield 22, 3) := by decide +kernel
theorem dX5_odds_33 : decode cX5_odds 33 = .ok (.getfield 129, 3) := by decide +kernel
theorem dX5_odds_36 : decode cX5_odds 36 = .ok (.iconst 0, 1) := by decide +kernel
theorem dX5_odds_37 : decode cX5_odds 37 = .ok (.aload_n 0, 1) := by decide +kernel
theorem dX5_odds_38 : decode cX5_odds 38 = .ok (.getfield 53, 3) := by decide +kernel
theorem dX5_odds_41 : decode cX5_odds 41 = .ok (.iconst 0, 1) := by decide +kernel
theorem dX5_odds_42 : decode cX5_odds 42 = .ok (.iconst 3, 1) := by decide +kernel
theorem dX5_odds_43 : decode cX5_odds 43 = .ok (.invokestatic 210, 3) := by decide +kernel
theorem dX5_odds_46 : decode cX5_odds 46 = .ok (.iconst 0, 1) := by decide +kernel
theorem dX5_odds_47 : decode cX5_odds 47 = .ok (.istore_n 2, 1) := by decide +kernel
theorem dX5_odds_48 : decode cX5_odds 48 = .ok (.iconst 0, 1) := by decide +kernel
theorem dX5_odds_49 : decode cX5_odds 49 = .ok (.istore_n 3, 1) := by decide +kernel
theorem dX5_odds_50 : decode cX5_odds 50 = .ok (.iload_n 3, 1) := by decide +kernel
theorem dX5_odds_51 : decode cX5_odds 51 = .ok (.iload_n 1, 1) := by decide +kernel
theorem dX5_odds_52 : decode cX5_odds 52 = .ok (.if_icmp .ge 61, 3) := by decide +kernel
theorem dX5_odds_55 : decode cX5_odds 55 = .ok (.aload_n 0, 1) := by decide +kernel
theorem dX5_odds_56 : decode cX5_odds 56 = .ok (.getfield 22, 3) := by decide +kernel
theorem dX5_odds_59 : decode cX5_odds 59 = .ok (.aload_n 0, 1) := by decide +kernel
theorem dX5_odds_60 : decode cX5_odds 60 = .ok (.getfield 10, 3) := by decide +kernel
theorem dX5_odds_63 : decode cX5_odds 63 = .ok (.invokevirtual 132, 3) := by decide +kernel
theorem dX5_odds_66 : decode cX5_odds 66 = .ok (.aload_n 0, 1) := by decide +kernel
theorem dX5_odds_67 : decode cX5_odds 67 = .ok (.invokevirtual 216, 3) := by decide +kernel
theorem dX5_odds_70 : decode cX5_odds 70 = .ok (.aload_n 0, 1) := by decide +kernel
theorem dX5_odds_71 : decode cX5_odds 71 = .ok (.getfield 22, 3) := by decide +kernel
theorem dX5_odds_74 : decode cX5_odds 74 = .ok (.aload_n 0, 1) := by decide +kernel
theorem dX5_odds_75 : decode cX5_odds 75 = .ok (.getfield 10, 3) := by decide +kernel
theorem dX5_odds_78 : decode cX5_odds 78 = .ok (.getfield 96, 3) := by decide +kernel
theorem dX5_odds_81 : decode cX5_odds 81 = .ok (.aload_n 0, 1) := by decide +kernel
theorem dX5_odds_82 : decode cX5_odds 82 = .ok (.getfield 10, 3) := by decide +kernel
theorem dX5_odds_85 : decode cX5_odds 85 = .ok (.getfield 99, 3) := by decide +kernel
theorem dX5_odds_88 : decode cX5_odds 88 = .ok (.invokevirtual 219, 3) := by decide +kernel
theorem dX5_odds_91 : decode cX5_odds 91 = .ok (.pop, 1) := by decide +kernel
theorem dX5_odds_92 : decode cX5_odds 92 = .ok (.iload_n 2, 1) := by decide +kernel
theorem dX5_odds_93 : decode cX5_odds 93 = .ok (.aload_n 0, 1) := by decide +kernel
theorem dX5_odds_94 : decode cX5_odds 94 = .ok (.invokevirtual 222, 3) := by decide +kernel
theorem dX5_odds_97 : decode cX5_odds 97 = .ok (.ifCond .eq 7, 3) := by decide +kernel
theorem dX5_odds_100 : decode cX5_odds 100 = .ok (.iconst 1, 1) := by decide +kernel
theorem dX5_odds_101 : decode cX5_odds 101 = .ok (.goto 4, 3) := by decide +kernel
theorem dX5_odds_104 : decode cX5_odds 104 = .ok (.iconst 0, 1) := by decide +kernel
theorem dX5_odds_105 : decode cX5_odds 105 = .ok (.iadd, 1) := by decide +kernel
theorem dX5_odds_106 : decode cX5_odds 106 = .ok (.istore_n 2, 1) := by decide +kernel
theorem dX5_odds_107 : decode cX5_odds 107 = .ok (.iinc 3 1, 3) := by decide +kernel
theorem dX5_odds_110 : decode cX5_odds 110 = .ok (.goto (-60), 3) := by decide +kernel
theorem dX5_odds_113 : decode cX5_odds 113 = .ok (.iload_n 2, 1) := by decide +kernel
theorem dX5_odds_114 : decode cX5_odds 114 = .ok (.ireturn, 1) := by decide +kernel
def m_X5_odds_b0 (a1 : Int32) (x8 : Int32) (x9 : Int32) (u10 : zM) : Option ((Int32 × Int32 × zM) ⊕ (Int32 × zM)) :=
  (if a1 ≤ x9 then
some (.inr (x8, u10))
else
zbind (m_X2_measureAll u10) (fun u15 => zbind (m_X5_slipAll u15) (fun u17 => zbind2 (m_X2_cutAll (u17 1 7) (u17 1 8) u17) (fun x19 u20 => zbind (m_X5_isCoatAsBefore u20) (fun x22 => (if x22 = 0 then
some (.inl ((x8 + 0), (x9 + 1), u20))
else
some (.inl ((x8 + 1), (x9 + 1), u20))))))))
def m_X5_odds (a1 : Int32) (u : zM) : Option (Int32 × zM) :=
  (if (m_X5_within a1 1 30) = 0 then
zbind2 (m_X5_finding 0 u) (fun x28 u29 => some (x28, u29))
else
zbind2 (m_X5_cutForAllHere u) (fun x2 u3 => (if x2 = 0 then
zbind2 (m_X5_finding 3 u3) (fun x25 u26 => some (x25, u26))
else
zbind (zcp u3 19 3 0 30 3 0 3) (fun u6 => zbind2 (zit zF (fun s : Int32 × Int32 × zM => m_X5_odds_b0 a1 s.1 s.2.1 s.2.2) (0, 0, u6)) (fun x11 u12 =>
some (x11, u12))))))
set_option maxHeartbeats 4000000 in
set_option maxRecDepth 100000 in
theorem c_X5_odds (a1 : Int32)   (u : zM) (r : Int32) (u' : zM) (h : m_X5_odds a1 u = some (r, u')) : zCt 7 yX5_odds cX5_odds 4 (some .int) (fun E => [.ref (zad E 0), .int a1]) u (fun _ => some (.int r)) u' := by
  refine zCt.of (by decide +kernel) (fun E => Nat.le_of_ble_eq_true rfl) (fun X hX hR => ?_)
  have hX : zGood X RX5 cX5_odds 4 7 := hX
  show zG X u 0 [(0, .ref (zad X.1 0)), (1, .int a1)] []
  unfold m_X5_odds at h
  refine r_iload_n hX dX5_odds_0 1 rfl rfl ?_
  refine r_iconst (v := 1) hX dX5_odds_1 (by decide) ?_
  refine r_bipush (v := 30) hX dX5_odds_2 (by decide) ?_
  refine r_callS (As := [.int a1, .int 1, .int 30]) (rest := []) (st1 := [.int (m_X5_within a1 1 30)]) hX dX5_odds_4 ls_RX5_80 (c_X5_within a1 1 30  u _ rfl) (by decide) rfl rfl rfl (Nat.le_of_ble_eq_true rfl) rfl ?_
  refine r_if_ne (tgt := 16) hX dX5_odds_7 (by decide) (fun c1 => ?_) (fun c1 => ?_)
  · have h := (if_neg c1).symm.trans h
    refine r_aload_n hX dX5_odds_16 0 rfl rfl ?_
    obtain ⟨x2, u3, e4, h⟩ := zbind2_elim h
    refine r_callV (As := []) (rest := []) (st1 := [.int x2]) hX dX5_odds_17 lv_RX5_125 (c_X5_cutForAllHere   u _ _ e4) (by decide) rfl rfl (zRecv.of (q := 0) (ci := 5) rfl rfl) rfl (Nat.le_of_ble_eq_true rfl) rfl ?_
    refine r_if_ne (tgt := 29) hX dX5_odds_20 (by decide) (fun c5 => ?_) (fun c5 => ?_)
    · have h := (if_neg c5).symm.trans h
      refine r_aload_n hX dX5_odds_29 0 rfl rfl ?_
      refine r_getR hX dX5_odds_30 f_RX5_22 zr_0_2 ?_
      refine r_getR hX dX5_odds_33 f_RX5_129 zr_15_3 ?_
      refine r_iconst (v := 0) hX dX5_odds_36 (by decide) ?_
      refine r_aload_n hX dX5_odds_37 0 rfl rfl ?_
      refine r_getR hX dX5_odds_38 f_RX5_53 zr_0_8 ?_
      refine r_iconst (v := 0) hX dX5_odds_41 (by decide) ?_
      refine r_iconst (v := 3) hX dX5_odds_42 (by decide) ?_
      obtain ⟨u6, e7, h⟩ := zbind_elim h
      refine r_copy hX dX5_odds_43 la_RX5_210 rfl rfl (by decide) (Nat.le_of_ble_eq_true rfl) e7 ?_
      refine r_iconst (v := 0) hX dX5_odds_46 (by decide) ?_
      refine r_istore_n (y := 0) (L' := [(2, .int 0), (0, .ref (zad X.1 0)), (1, .int a1)]) hX dX5_odds_47 rfl (by decide) rfl rfl ?_
      refine r_iconst (v := 0) hX dX5_odds_48 (by decide) ?_
      refine r_istore_n (y := 0) (L' := [(3, .int 0), (2, .int 0), (0, .ref (zad X.1 0)), (1, .int a1)]) hX dX5_odds_49 rfl (by decide) rfl rfl ?_
      refine r_sub [2, 3, 1, 0] (L' := [(0, .ref (zad X.1 0)), (1, .int a1), (2, .int 0), (3, .int 0)]) rfl ?_
      obtain ⟨x11, u12, h13, h⟩ := zbind2_elim h
      have Jh13 : zG X u12 113 [(2, .int x11)] [] := by
          refine r_iload_n hX dX5_odds_113 0 rfl rfl ?_
          obtain ⟨rfl, rfl⟩ := zinj2 (Option.some.inj h)
          exact r_iret hX hR dX5_odds_114
      clear h
      refine zit_walk (P := fun s0 : Int32 × Int32 × zM => zG X s0.2.2 50 [(0, .ref (zad X.1 0)), (1, .int a1), (2, .int (s0.1)), (3, .int (s0.2.1))] []) ?_ zF _ h13
      clear h13
      intro s0 y0 h0b hin0 hout0
      obtain ⟨x8, x9, u10⟩ := s0
      have h0b : m_X5_odds_b0 a1 x8 x9 u10 = some y0 := h0b
      unfold m_X5_odds_b0 at h0b
      show zG X u10 50 [(0, .ref (zad X.1 0)), (1, .int a1), (2, .int x8), (3, .int x9)] []
      refine r_iload_n hX dX5_odds_50 3 rfl rfl ?_
      refine r_iload_n hX dX5_odds_51 1 rfl rfl ?_
      refine r_icmp_ge (tgt := 113) hX dX5_odds_52 (by decide) (fun c14 => ?_) (fun c14 => ?_)
      · have h0b := (if_pos c14).symm.trans h0b
        refine r_sub [2] (L' := [(2, .int x8)]) rfl ?_
        have h0b := hout0 _ (Option.some.inj h0b).symm
        obtain ⟨rfl, rfl⟩ := zinj2 h0b
        exact Jh13
      · have h0b := (if_neg c14).symm.trans h0b
        refine r_aload_n hX dX5_odds_55 0 rfl rfl ?_
        refine r_getR hX dX5_odds_56 f_RX5_22 zr_0_2 ?_
        refine r_aload_n hX dX5_odds_59 0 rfl rfl ?_
        refine r_getR hX dX5_odds_60 f_RX5_10 zr_0_0 ?_
        obtain ⟨u15, e16, h0b⟩ := zbind_elim h0b
        refine r_callV (As := [.ref (zad X.1 1)]) (rest := []) (st1 := []) hX dX5_odds_63 lv_RX5_132 (c_X2_measureAll   u10 _ e16) (by decide) rfl rfl (zRecv.of (q := 15) (ci := 2) rfl rfl) rfl (Nat.le_of_ble_eq_true rfl) rfl ?_
        refine r_aload_n hX dX5_odds_66 0 rfl rfl ?_
        obtain ⟨u17, e18, h0b⟩ := zbind_elim h0b
        refine r_callV (As := []) (rest := []) (st1 := []) hX dX5_odds_67 lv_RX5_216 (c_X5_slipAll   u15 _ e18) (by decide) rfl rfl (zRecv.of (q := 0) (ci := 5) rfl rfl) rfl (Nat.le_of_ble_eq_true rfl) rfl ?_
        refine r_aload_n hX dX5_odds_70 0 rfl rfl ?_
        refine r_getR hX dX5_odds_71 f_RX5_22 zr_0_2 ?_
        refine r_aload_n hX dX5_odds_74 0 rfl rfl ?_
        refine r_getR hX dX5_odds_75 f_RX5_10 zr_0_0 ?_
        refine r_getI hX dX5_odds_78 f_RX5_96 zi_1_7 ?_
        refine r_aload_n hX dX5_odds_81 0 rfl rfl ?_
        refine r_getR hX dX5_odds_82 f_RX5_10 zr_0_0 ?_
        refine r_getI hX dX5_odds_85 f_RX5_99 zi_1_8 ?_
        obtain ⟨x19, u20, e21, h0b⟩ := zbind2_elim h0b
        refine r_callV (As := [.int (u17 1 7), .int (u17 1 8)]) (rest := []) (st1 := [.int x19]) hX dX5_odds_88 lv_RX5_219 (c_X2_cutAll (u17 1 7) (u17 1 8)  u17 _ _ e21) (by decide) rfl rfl (zRecv.of (q := 15) (ci := 2) rfl rfl) rfl (Nat.le_of_ble_eq_true rfl) rfl ?_
        refine r_pop hX dX5_odds_91 rfl ?_
        refine r_iload_n hX dX5_odds_92 2 rfl rfl ?_
        refine r_aload_n hX dX5_odds_93 0 rfl rfl ?_
        obtain ⟨x22, e23, h0b⟩ := zbind_elim h0b
        refine r_callV (As := []) (rest := [.int x8]) (st1 := [.int x22, .int x8]) hX dX5_odds_94 lv_RX5_222 (c_X5_isCoatAsBefore   u20 _ e23) (by decide) rfl rfl (zRecv.of (q := 0) (ci := 5) rfl rfl) rfl (Nat.le_of_ble_eq_true rfl) rfl ?_
        refine r_if_eq (tgt := 104) hX dX5_odds_97 (by decide) (fun c24 => ?_) (fun c24 => ?_)
        · have h0b := (if_pos c24).symm.trans h0b
          refine r_iconst (v := 0) hX dX5_odds_104 (by decide) ?_
          refine r_iadd hX dX5_odds_105 ?_
          refine r_istore_n (y := (x8 + 0)) (L' := [(2, .int (x8 + 0)), (0, .ref (zad X.1 0)), (1, .int a1), (3, .int x9)]) hX dX5_odds_106 rfl (by decide) rfl rfl ?_
          refine r_iinc (v := (x9 + 1)) (L' := [(3, .int (x9 + 1)), (2, .int (x8 + 0)), (0, .ref (zad X.1 0)), (1, .int a1)]) hX dX5_odds_107 (by decide) 3 rfl rfl rfl ?_
          refine r_goto (tgt := 50) hX dX5_odds_110 (by decide) ?_
          refine r_sub [2, 3, 1, 0] (L' := [(0, .ref (zad X.1 0)), (1, .int a1), (2, .int (x8 + 0)), (3, .int (x9 + 1))]) rfl ?_
          exact hin0 _ (Option.some.inj h0b).symm
        · have h0b := (if_neg c24).symm.trans h0b
          refine r_iconst (v := 1) hX dX5_odds_100 (by decide) ?_
          refine r_goto (tgt := 105) hX dX5_odds_101 (by decide) ?_
          refine r_iadd hX dX5_odds_105 ?_
          refine r_istore_n (y := (x8 + 1)) (L' := [(2, .int (x8 + 1)), (0, .ref (zad X.1 0)), (1, .int a1), (3, .int x9)]) hX dX5_odds_106 rfl (by decide) rfl rfl ?_
          refine r_iinc (v := (x9 + 1)) (L' := [(3, .int (x9 + 1)), (2, .int (x8 + 1)), (0, .ref (zad X.1 0)), (1, .int a1)]) hX dX5_odds_107 (by decide) 3 rfl rfl rfl ?_
          refine r_goto (tgt := 50) hX dX5_odds_110 (by decide) ?_
          refine r_sub [2, 3, 1, 0] (L' := [(0, .ref (zad X.1 0)), (1, .int a1), (2, .int (x8 + 1)), (3, .int (x9 + 1))]) rfl ?_
          exact hin0 _ (Option.some.inj h0b).symm
    · have h := (if_pos c5).symm.trans h
      refine r_aload_n hX dX5_odds_23 0 rfl rfl ?_
      refine r_iconst (v := 3) hX dX5_odds_24 (by decide) ?_
      obtain ⟨x25, u26, e27, h⟩ := zbind2_elim h
      refine r_callV (As := [.int 3]) (rest := []) (st1 := [.int x25]) hX dX5_odds_25 lv_RX5_65 (c_X5_finding 3  u3 _ _ e27) (by decide) rfl rfl (zRecv.of (q := 0) (ci := 5) rfl rfl) rfl (Nat.le_of_ble_eq_true rfl) rfl ?_
      obtain ⟨rfl, rfl⟩ := zinj2 (Option.some.inj h)
      exact r_iret hX hR dX5_odds_28
  · have h := (if_pos c1).symm.trans h
    refine r_aload_n hX dX5_odds_10 0 rfl rfl ?_
    refine r_iconst (v := 0) hX dX5_odds_11 (by decide) ?_
    obtain ⟨x28, u29, e30, h⟩ := zbind2_elim h
    refine r_callV (As := [.int 0]) (rest := []) (st1 := [.int x28]) hX dX5_odds_12 lv_RX5_65 (c_X5_finding 0  u _ _ e30) (by decide) rfl rfl (zRecv.of (q := 0) (ci := 5) rfl rfl) rfl (Nat.le_of_ble_eq_true rfl) rfl ?_
    obtain ⟨rfl, rfl⟩ := zinj2 (Option.some.inj h)
    exact r_iret hX hR dX5_odds_15
theorem dX5_seed_0 : decode cX5_seed 0 = .ok (.aload_n 0, 1) := by decide +kernel
theorem dX5_seed_1 : decode cX5_seed 1 = .ok (.getfield 10, 3) := by decide +kernel
theorem dX5_seed_4 : decode cX5_seed 4 = .ok (.getfield 225, 3) := by decide +kernel
theorem dX5_seed_7 : decode cX5_seed 7 = .ok (.istore_n 2, 1) := by decide +kernel
theorem dX5_seed_8 : decode cX5_seed 8 = .ok (.aload_n 0, 1) := by decide +kernel
theorem dX5_seed_9 : decode cX5_seed 9 = .ok (.getfield 10, 3) := by decide +kernel
theorem dX5_seed_12 : decode cX5_seed 12 = .ok (.iload_n 1, 1) := by decide +kernel
theorem dX5_seed_13 : decode cX5_seed 13 = .ok (.putfield 225, 3) := by decide +kernel
theorem dX5_seed_16 : decode cX5_seed 16 = .ok (.iload_n 2, 1) := by decide +kernel
theorem dX5_seed_17 : decode cX5_seed 17 = .ok (.ireturn, 1) := by decide +kernel
def m_X5_seed (a1 : Int32) (u : zM) : Int32 × zM :=
  zlet (zst u 1 12 a1) (fun u1 => ((u 1 12), u1))
set_option maxHeartbeats 4000000 in
set_option maxRecDepth 100000 in
theorem c_X5_seed (a1 : Int32)   (u : zM) (r : Int32) (u' : zM) (h : m_X5_seed a1 u = (r, u')) : zCt 1 yX5_seed cX5_seed 3 (some .int) (fun E => [.ref (zad E 0), .int a1]) u (fun _ => some (.int r)) u' := by
  refine zCt.of (by decide +kernel) (fun E => Nat.le_of_ble_eq_true rfl) (fun X hX hR => ?_)
  have hX : zGood X RX5 cX5_seed 3 1 := hX
  show zG X u 0 [(0, .ref (zad X.1 0)), (1, .int a1)] []
  unfold m_X5_seed at h
  refine r_aload_n hX dX5_seed_0 0 rfl rfl ?_
  refine r_getR hX dX5_seed_1 f_RX5_10 zr_0_0 ?_
  refine r_getI hX dX5_seed_4 f_RX5_225 zi_1_12 ?_
  refine r_istore_n (y := (u 1 12)) (L' := [(2, .int (u 1 12)), (0, .ref (zad X.1 0)), (1, .int a1)]) hX dX5_seed_7 rfl (by decide) rfl rfl ?_
  refine r_aload_n hX dX5_seed_8 1 rfl rfl ?_
  refine r_getR hX dX5_seed_9 f_RX5_10 zr_0_0 ?_
  refine r_iload_n hX dX5_seed_12 2 rfl rfl ?_
  obtain ⟨u1, e2, h⟩ := zlet_elim h
  refine r_putI hX dX5_seed_13 f_RX5_225 p_4_12 zi_1_12 ?_
  rw [e2]
  refine r_iload_n hX dX5_seed_16 0 rfl rfl ?_
  obtain ⟨rfl, rfl⟩ := zinj2 h
  exact r_iret hX hR dX5_seed_17
