/-! MODELS AND CONTRACTS, by program (wip/whole/gen_all.py): X6_pins, X6_worst, X6_together, X6_marry, X6_bride, X6_bits -/
theorem dX6_pins_0 : decode cX6_pins 0 = .ok (.aload_n 0, 1) := by decide +kernel
theorem dX6_pins_1 : decode cX6_pins 1 = .ok (.iload_n 1, 1) := by decide +kernel
theorem dX6_pins_2 : decode cX6_pins 2 = .ok (.invokevirtual 96, 3) := by decide +kernel
theorem dX6_pins_5 : decode cX6_pins 5 = .ok (.ifCond .ne 10, 3) := by decide +kernel
theorem dX6_pins_8 : decode cX6_pins 8 = .ok (.aload_n 0, 1) := by decide +kernel
theorem dX6_pins_9 : decode cX6_pins 9 = .ok (.ldc 78, 2) := by decide +kernel
theorem dX6_pins_11 : decode cX6_pins 11 = .ok (.invokevirtual 83, 3) := by decide +kernel
theorem dX6_pins_14 : decode cX6_pins 14 = .ok (.ireturn, 1) := by decide +kernel
theorem dX6_pins_15 : decode cX6_pins 15 = .ok (.aload_n 0, 1) := by decide +kernel
theorem dX6_pins_16 : decode cX6_pins 16 = .ok (.invokevirtual 139, 3) := by decide +kernel
theorem dX6_pins_19 : decode cX6_pins 19 = .ok (.istore_n 2, 1) := by decide +kernel
theorem dX6_pins_20 : decode cX6_pins 20 = .ok (.iload_n 2, 1) := by decide +kernel
theorem dX6_pins_21 : decode cX6_pins 21 = .ok (.ifCond .ne 10, 3) := by decide +kernel
theorem dX6_pins_24 : decode cX6_pins 24 = .ok (.aload_n 0, 1) := by decide +kernel
theorem dX6_pins_25 : decode cX6_pins 25 = .ok (.ldc 142, 2) := by decide +kernel
theorem dX6_pins_27 : decode cX6_pins 27 = .ok (.invokevirtual 83, 3) := by decide +kernel
theorem dX6_pins_30 : decode cX6_pins 30 = .ok (.ireturn, 1) := by decide +kernel
theorem dX6_pins_31 : decode cX6_pins 31 = .ok (.aload_n 0, 1) := by decide +kernel
theorem dX6_pins_32 : decode cX6_pins 32 = .ok (.iload_n 2, 1) := by decide +kernel
theorem dX6_pins_33 : decode cX6_pins 33 = .ok (.invokevirtual 152, 3) := by decide +kernel
theorem dX6_pins_36 : decode cX6_pins 36 = .ok (.iconst 0, 1) := by decide +kernel
theorem dX6_pins_37 : decode cX6_pins 37 = .ok (.aload_n 0, 1) := by decide +kernel
theorem dX6_pins_38 : decode cX6_pins 38 = .ok (.iload_n 1, 1) := by decide +kernel
theorem dX6_pins_39 : decode cX6_pins 39 = .ok (.invokevirtual 149, 3) := by decide +kernel
theorem dX6_pins_42 : decode cX6_pins 42 = .ok (.aload_n 0, 1) := by decide +kernel
theorem dX6_pins_43 : decode cX6_pins 43 = .ok (.getfield 9, 3) := by decide +kernel
theorem dX6_pins_46 : decode cX6_pins 46 = .ok (.iconst 2, 1) := by decide +kernel
theorem dX6_pins_47 : decode cX6_pins 47 = .ok (.iaload, 1) := by decide +kernel
theorem dX6_pins_48 : decode cX6_pins 48 = .ok (.isub, 1) := by decide +kernel
theorem dX6_pins_49 : decode cX6_pins 49 = .ok (.invokestatic 113, 3) := by decide +kernel
theorem dX6_pins_52 : decode cX6_pins 52 = .ok (.istore_n 3, 1) := by decide +kernel
theorem dX6_pins_53 : decode cX6_pins 53 = .ok (.iload_n 3, 1) := by decide +kernel
theorem dX6_pins_54 : decode cX6_pins 54 = .ok (.bipush 99, 2) := by decide +kernel
theorem dX6_pins_56 : decode cX6_pins 56 = .ok (.if_icmp .le 12, 3) := by decide +kernel
theorem dX6_pins_59 : decode cX6_pins 59 = .ok (.aload_n 0, 1) := by decide +kernel
theorem dX6_pins_60 : decode cX6_pins 60 = .ok (.ldc 142, 2) := by decide +kernel
theorem dX6_pins_62 : decode cX6_pins 62 = .ok (.invokevirtual 83, 3) := by decide +kernel
theorem dX6_pins_65 : decode cX6_pins 65 = .ok (.goto 4, 3) := by decide +kernel
theorem dX6_pins_68 : decode cX6_pins 68 = .ok (.iload_n 3, 1) := by decide +kernel
theorem dX6_pins_69 : decode cX6_pins 69 = .ok (.ireturn, 1) := by decide +kernel
def m_X6_pins (a1 : Int32) (u : zM) : Option (Int32 × zM) :=
  (if (m_X6_isBody a1 u) = 0 then
zbind2 (m_X6_finding (-1000001) u) (fun x16 u17 => some (x16, u17))
else
zbind (m_X6_hereSet u) (fun x2 => (if x2 = 0 then
zbind2 (m_X6_finding (-1000004) u) (fun x13 u14 => some (x13, u14))
else
zbind (m_X6_cut x2 u) (fun u5 => zbind (m_X6_distance a1 u5) (fun x7 => (if (zmax 0 (x7 - (u5 40 2))) ≤ 99 then
some ((zmax 0 (x7 - (u5 40 2))), u5)
else
zbind2 (m_X6_finding (-1000004) u5) (fun x10 u11 => some (x10, u11))))))))
set_option maxHeartbeats 4000000 in
set_option maxRecDepth 100000 in
theorem c_X6_pins (a1 : Int32)   (u : zM) (r : Int32) (u' : zM) (h : m_X6_pins a1 u = some (r, u')) : zCt 6 yX6_pins cX6_pins 4 (some .int) (fun E => [.ref (zad E 39), .int a1]) u (fun _ => some (.int r)) u' := by
  refine zCt.of (by decide +kernel) (fun E => Nat.le_of_ble_eq_true rfl) (fun X hX hR => ?_)
  have hX : zGood X RX6 cX6_pins 4 6 := hX
  show zG X u 0 [(0, .ref (zad X.1 39)), (1, .int a1)] []
  unfold m_X6_pins at h
  refine r_aload_n hX dX6_pins_0 0 rfl rfl ?_
  refine r_iload_n hX dX6_pins_1 1 rfl rfl ?_
  refine r_callV (As := [.int a1]) (rest := []) (st1 := [.int (m_X6_isBody a1 u)]) hX dX6_pins_2 lv_RX6_96 (c_X6_isBody a1  u _ rfl) (by decide) rfl rfl (zRecv.of (q := 39) (ci := 6) rfl rfl) rfl (Nat.le_of_ble_eq_true rfl) rfl ?_
  refine r_if_ne (tgt := 15) hX dX6_pins_5 (by decide) (fun c1 => ?_) (fun c1 => ?_)
  · have h := (if_neg c1).symm.trans h
    refine r_aload_n hX dX6_pins_15 0 rfl rfl ?_
    obtain ⟨x2, e3, h⟩ := zbind_elim h
    refine r_callV (As := []) (rest := []) (st1 := [.int x2]) hX dX6_pins_16 lv_RX6_139 (c_X6_hereSet   u _ e3) (by decide) rfl rfl (zRecv.of (q := 39) (ci := 6) rfl rfl) rfl (Nat.le_of_ble_eq_true rfl) rfl ?_
    refine r_istore_n (y := x2) (L' := [(2, .int x2), (0, .ref (zad X.1 39)), (1, .int a1)]) hX dX6_pins_19 rfl (by decide) rfl rfl ?_
    refine r_iload_n hX dX6_pins_20 0 rfl rfl ?_
    refine r_if_ne (tgt := 31) hX dX6_pins_21 (by decide) (fun c4 => ?_) (fun c4 => ?_)
    · have h := (if_neg c4).symm.trans h
      refine r_aload_n hX dX6_pins_31 1 rfl rfl ?_
      refine r_iload_n hX dX6_pins_32 0 rfl rfl ?_
      obtain ⟨u5, e6, h⟩ := zbind_elim h
      refine r_callV (As := [.int x2]) (rest := []) (st1 := []) hX dX6_pins_33 lv_RX6_152 (c_X6_cut x2  u _ e6) (by decide) rfl rfl (zRecv.of (q := 39) (ci := 6) rfl rfl) rfl (Nat.le_of_ble_eq_true rfl) rfl ?_
      refine r_iconst (v := 0) hX dX6_pins_36 (by decide) ?_
      refine r_aload_n hX dX6_pins_37 1 rfl rfl ?_
      refine r_iload_n hX dX6_pins_38 2 rfl rfl ?_
      obtain ⟨x7, e8, h⟩ := zbind_elim h
      refine r_callV (As := [.int a1]) (rest := [.int 0]) (st1 := [.int x7, .int 0]) hX dX6_pins_39 lv_RX6_149 (c_X6_distance a1  u5 _ e8) (by decide) rfl rfl (zRecv.of (q := 39) (ci := 6) rfl rfl) rfl (Nat.le_of_ble_eq_true rfl) rfl ?_
      refine r_aload_n hX dX6_pins_42 1 rfl rfl ?_
      refine r_getR hX dX6_pins_43 f_RX6_9 zr_39_0 ?_
      refine r_iconst (v := 2) hX dX6_pins_46 (by decide) ?_
      refine r_ialdC (j := 2) hX dX6_pins_47 rfl (by decide +kernel) ?_
      refine r_isub hX dX6_pins_48 ?_
      refine r_max hX dX6_pins_49 lm_RX6_113 (by decide) (Nat.le_of_ble_eq_true rfl) ?_
      refine r_istore_n (y := (zmax 0 (x7 - (u5 40 2)))) (L' := [(3, .int (zmax 0 (x7 - (u5 40 2)))), (2, .int x2), (0, .ref (zad X.1 39)), (1, .int a1)]) hX dX6_pins_52 rfl (by decide) rfl rfl ?_
      refine r_iload_n hX dX6_pins_53 0 rfl rfl ?_
      refine r_bipush (v := 99) hX dX6_pins_54 (by decide) ?_
      refine r_icmp_le (tgt := 68) hX dX6_pins_56 (by decide) (fun c9 => ?_) (fun c9 => ?_)
      · have h := (if_pos c9).symm.trans h
        refine r_iload_n hX dX6_pins_68 0 rfl rfl ?_
        obtain ⟨rfl, rfl⟩ := zinj2 (Option.some.inj h)
        exact r_iret hX hR dX6_pins_69
      · have h := (if_neg c9).symm.trans h
        refine r_aload_n hX dX6_pins_59 2 rfl rfl ?_
        refine r_ldc (v := (-1000004)) hX dX6_pins_60 (zT_in 1114 (by decide +kernel) rfl) ?_
        obtain ⟨x10, u11, e12, h⟩ := zbind2_elim h
        refine r_callV (As := [.int (-1000004)]) (rest := []) (st1 := [.int x10]) hX dX6_pins_62 lv_RX6_83 (c_X6_finding (-1000004)  u5 _ _ e12) (by decide) rfl rfl (zRecv.of (q := 39) (ci := 6) rfl rfl) rfl (Nat.le_of_ble_eq_true rfl) rfl ?_
        refine r_goto (tgt := 69) hX dX6_pins_65 (by decide) ?_
        obtain ⟨rfl, rfl⟩ := zinj2 (Option.some.inj h)
        exact r_iret hX hR dX6_pins_69
    · have h := (if_pos c4).symm.trans h
      refine r_aload_n hX dX6_pins_24 1 rfl rfl ?_
      refine r_ldc (v := (-1000004)) hX dX6_pins_25 (zT_in 1114 (by decide +kernel) rfl) ?_
      obtain ⟨x13, u14, e15, h⟩ := zbind2_elim h
      refine r_callV (As := [.int (-1000004)]) (rest := []) (st1 := [.int x13]) hX dX6_pins_27 lv_RX6_83 (c_X6_finding (-1000004)  u _ _ e15) (by decide) rfl rfl (zRecv.of (q := 39) (ci := 6) rfl rfl) rfl (Nat.le_of_ble_eq_true rfl) rfl ?_
      obtain ⟨rfl, rfl⟩ := zinj2 (Option.some.inj h)
      exact r_iret hX hR dX6_pins_30
  · have h := (if_pos c1).symm.trans h
    refine r_aload_n hX dX6_pins_8 0 rfl rfl ?_
    refine r_ldc (v := (-1000001)) hX dX6_pins_9 (zT_in 1041 (by decide +kernel) rfl) ?_
    obtain ⟨x16, u17, e18, h⟩ := zbind2_elim h
    refine r_callV (As := [.int (-1000001)]) (rest := []) (st1 := [.int x16]) hX dX6_pins_11 lv_RX6_83 (c_X6_finding (-1000001)  u _ _ e18) (by decide) rfl rfl (zRecv.of (q := 39) (ci := 6) rfl rfl) rfl (Nat.le_of_ble_eq_true rfl) rfl ?_
    obtain ⟨rfl, rfl⟩ := zinj2 (Option.some.inj h)
    exact r_iret hX hR dX6_pins_14
theorem dX6_worst_0 : decode cX6_worst 0 = .ok (.aload_n 0, 1) := by decide +kernel
theorem dX6_worst_1 : decode cX6_worst 1 = .ok (.invokevirtual 139, 3) := by decide +kernel
theorem dX6_worst_4 : decode cX6_worst 4 = .ok (.istore_n 1, 1) := by decide +kernel
theorem dX6_worst_5 : decode cX6_worst 5 = .ok (.iload_n 1, 1) := by decide +kernel
theorem dX6_worst_6 : decode cX6_worst 6 = .ok (.ifCond .ne 10, 3) := by decide +kernel
theorem dX6_worst_9 : decode cX6_worst 9 = .ok (.aload_n 0, 1) := by decide +kernel
theorem dX6_worst_10 : decode cX6_worst 10 = .ok (.ldc 142, 2) := by decide +kernel
theorem dX6_worst_12 : decode cX6_worst 12 = .ok (.invokevirtual 83, 3) := by decide +kernel
theorem dX6_worst_15 : decode cX6_worst 15 = .ok (.ireturn, 1) := by decide +kernel
theorem dX6_worst_16 : decode cX6_worst 16 = .ok (.aload_n 0, 1) := by decide +kernel
theorem dX6_worst_17 : decode cX6_worst 17 = .ok (.iload_n 1, 1) := by decide +kernel
theorem dX6_worst_18 : decode cX6_worst 18 = .ok (.invokevirtual 152, 3) := by decide +kernel
theorem dX6_worst_21 : decode cX6_worst 21 = .ok (.iconst (-1), 1) := by decide +kernel
theorem dX6_worst_22 : decode cX6_worst 22 = .ok (.istore_n 2, 1) := by decide +kernel
theorem dX6_worst_23 : decode cX6_worst 23 = .ok (.iconst 0, 1) := by decide +kernel
theorem dX6_worst_24 : decode cX6_worst 24 = .ok (.istore_n 3, 1) := by decide +kernel
theorem dX6_worst_25 : decode cX6_worst 25 = .ok (.iload_n 3, 1) := by decide +kernel
theorem dX6_worst_26 : decode cX6_worst 26 = .ok (.aload_n 0, 1) := by decide +kernel
theorem dX6_worst_27 : decode cX6_worst 27 = .ok (.getfield 9, 3) := by decide +kernel
theorem dX6_worst_30 : decode cX6_worst 30 = .ok (.iconst 0, 1) := by decide +kernel
theorem dX6_worst_31 : decode cX6_worst 31 = .ok (.iaload, 1) := by decide +kernel
theorem dX6_worst_32 : decode cX6_worst 32 = .ok (.if_icmp .ge 40, 3) := by decide +kernel
theorem dX6_worst_35 : decode cX6_worst 35 = .ok (.iload_n 1, 1) := by decide +kernel
theorem dX6_worst_36 : decode cX6_worst 36 = .ok (.iload_n 3, 1) := by decide +kernel
theorem dX6_worst_37 : decode cX6_worst 37 = .ok (.invokestatic 122, 3) := by decide +kernel
theorem dX6_worst_40 : decode cX6_worst 40 = .ok (.ifCond .eq 24, 3) := by decide +kernel
theorem dX6_worst_43 : decode cX6_worst 43 = .ok (.iload_n 2, 1) := by decide +kernel
theorem dX6_worst_44 : decode cX6_worst 44 = .ok (.ifCond .lt 16, 3) := by decide +kernel
theorem dX6_worst_47 : decode cX6_worst 47 = .ok (.aload_n 0, 1) := by decide +kernel
theorem dX6_worst_48 : decode cX6_worst 48 = .ok (.iload_n 3, 1) := by decide +kernel
theorem dX6_worst_49 : decode cX6_worst 49 = .ok (.invokevirtual 156, 3) := by decide +kernel
theorem dX6_worst_52 : decode cX6_worst 52 = .ok (.aload_n 0, 1) := by decide +kernel
theorem dX6_worst_53 : decode cX6_worst 53 = .ok (.iload_n 2, 1) := by decide +kernel
theorem dX6_worst_54 : decode cX6_worst 54 = .ok (.invokevirtual 156, 3) := by decide +kernel
theorem dX6_worst_57 : decode cX6_worst 57 = .ok (.if_icmp .le 7, 3) := by decide +kernel
theorem dX6_worst_60 : decode cX6_worst 60 = .ok (.iload_n 3, 1) := by decide +kernel
theorem dX6_worst_61 : decode cX6_worst 61 = .ok (.goto 4, 3) := by decide +kernel
theorem dX6_worst_64 : decode cX6_worst 64 = .ok (.iload_n 2, 1) := by decide +kernel
theorem dX6_worst_65 : decode cX6_worst 65 = .ok (.istore_n 2, 1) := by decide +kernel
theorem dX6_worst_66 : decode cX6_worst 66 = .ok (.iinc 3 1, 3) := by decide +kernel
theorem dX6_worst_69 : decode cX6_worst 69 = .ok (.goto (-44), 3) := by decide +kernel
theorem dX6_worst_72 : decode cX6_worst 72 = .ok (.iload_n 2, 1) := by decide +kernel
theorem dX6_worst_73 : decode cX6_worst 73 = .ok (.ireturn, 1) := by decide +kernel
def m_X6_worst_b0 (u4 : zM) (x1 : Int32) (x6 : Int32) (x7 : Int32) : Option ((Int32 × Int32) ⊕ (Int32)) :=
  (if (u4 40 0) ≤ x7 then
some (.inr x6)
else
(if (m_X6_has x1 x7) = 0 then
some (.inl (x6, (x7 + 1)))
else
(if x6 < 0 then
some (.inl (x7, (x7 + 1)))
else
zbind (m_X6_costOf x7 u4) (fun x13 => zbind (m_X6_costOf x6 u4) (fun x15 => (if x13 ≤ x15 then
some (.inl (x6, (x7 + 1)))
else
some (.inl (x7, (x7 + 1)))))))))
def m_X6_worst  (u : zM) : Option (Int32 × zM) :=
  zbind (m_X6_hereSet u) (fun x1 => (if x1 = 0 then
zbind2 (m_X6_finding (-1000004) u) (fun x18 u19 => some (x18, u19))
else
zbind (m_X6_cut x1 u) (fun u4 => zbind (zit zF (fun s : Int32 × Int32 => m_X6_worst_b0 u4 x1 s.1 s.2) ((-1), 0)) (fun x8 =>
some (x8, u4)))))
set_option maxHeartbeats 4000000 in
set_option maxRecDepth 100000 in
theorem c_X6_worst    (u : zM) (r : Int32) (u' : zM) (h : m_X6_worst u = some (r, u')) : zCt 6 yX6_worst cX6_worst 4 (some .int) (fun E => [.ref (zad E 39)]) u (fun _ => some (.int r)) u' := by
  refine zCt.of (by decide +kernel) (fun E => Nat.le_of_ble_eq_true rfl) (fun X hX hR => ?_)
  have hX : zGood X RX6 cX6_worst 4 6 := hX
  show zG X u 0 [(0, .ref (zad X.1 39))] []
  unfold m_X6_worst at h
  refine r_aload_n hX dX6_worst_0 0 rfl rfl ?_
  obtain ⟨x1, e2, h⟩ := zbind_elim h
  refine r_callV (As := []) (rest := []) (st1 := [.int x1]) hX dX6_worst_1 lv_RX6_139 (c_X6_hereSet   u _ e2) (by decide) rfl rfl (zRecv.of (q := 39) (ci := 6) rfl rfl) rfl (Nat.le_of_ble_eq_true rfl) rfl ?_
  refine r_istore_n (y := x1) (L' := [(1, .int x1), (0, .ref (zad X.1 39))]) hX dX6_worst_4 rfl (by decide) rfl rfl ?_
  refine r_iload_n hX dX6_worst_5 0 rfl rfl ?_
  refine r_if_ne (tgt := 16) hX dX6_worst_6 (by decide) (fun c3 => ?_) (fun c3 => ?_)
  · have h := (if_neg c3).symm.trans h
    refine r_aload_n hX dX6_worst_16 1 rfl rfl ?_
    refine r_iload_n hX dX6_worst_17 0 rfl rfl ?_
    obtain ⟨u4, e5, h⟩ := zbind_elim h
    refine r_callV (As := [.int x1]) (rest := []) (st1 := []) hX dX6_worst_18 lv_RX6_152 (c_X6_cut x1  u _ e5) (by decide) rfl rfl (zRecv.of (q := 39) (ci := 6) rfl rfl) rfl (Nat.le_of_ble_eq_true rfl) rfl ?_
    refine r_iconst (v := (-1)) hX dX6_worst_21 (by decide) ?_
    refine r_istore_n (y := (-1)) (L' := [(2, .int (-1)), (1, .int x1), (0, .ref (zad X.1 39))]) hX dX6_worst_22 rfl (by decide) rfl rfl ?_
    refine r_iconst (v := 0) hX dX6_worst_23 (by decide) ?_
    refine r_istore_n (y := 0) (L' := [(3, .int 0), (2, .int (-1)), (1, .int x1), (0, .ref (zad X.1 39))]) hX dX6_worst_24 rfl (by decide) rfl rfl ?_
    refine r_sub [3, 2, 1, 0] (L' := [(0, .ref (zad X.1 39)), (1, .int x1), (2, .int (-1)), (3, .int 0)]) rfl ?_
    obtain ⟨x8, h9, h⟩ := zbind_elim h
    have Jh9 : zG X u4 72 [(2, .int x8)] [] := by
        refine r_iload_n hX dX6_worst_72 0 rfl rfl ?_
        obtain ⟨rfl, rfl⟩ := zinj2 (Option.some.inj h)
        exact r_iret hX hR dX6_worst_73
    clear h
    refine zit_walk (P := fun s0 : Int32 × Int32 => zG X u4 25 [(0, .ref (zad X.1 39)), (1, .int x1), (2, .int (s0.1)), (3, .int (s0.2))] []) ?_ zF _ h9
    clear h9
    intro s0 y0 h0b hin0 hout0
    obtain ⟨x6, x7⟩ := s0
    have h0b : m_X6_worst_b0 u4 x1 x6 x7 = some y0 := h0b
    unfold m_X6_worst_b0 at h0b
    show zG X u4 25 [(0, .ref (zad X.1 39)), (1, .int x1), (2, .int x6), (3, .int x7)] []
    refine r_iload_n hX dX6_worst_25 3 rfl rfl ?_
    refine r_aload_n hX dX6_worst_26 0 rfl rfl ?_
    refine r_getR hX dX6_worst_27 f_RX6_9 zr_39_0 ?_
    refine r_iconst (v := 0) hX dX6_worst_30 (by decide) ?_
    refine r_ialdC (j := 0) hX dX6_worst_31 rfl (by decide +kernel) ?_
    refine r_icmp_ge (tgt := 72) hX dX6_worst_32 (by decide) (fun c10 => ?_) (fun c10 => ?_)
    · have h0b := (if_pos c10).symm.trans h0b
      refine r_sub [2] (L' := [(2, .int x6)]) rfl ?_
      have h0b := hout0 _ (Option.some.inj h0b).symm
      obtain rfl := h0b
      exact Jh9
    · have h0b := (if_neg c10).symm.trans h0b
      refine r_iload_n hX dX6_worst_35 1 rfl rfl ?_
      refine r_iload_n hX dX6_worst_36 3 rfl rfl ?_
      refine r_callS (As := [.int x1, .int x7]) (rest := []) (st1 := [.int (m_X6_has x1 x7)]) hX dX6_worst_37 ls_RX6_122 (c_X6_has x1 x7  u4 _ rfl) (by decide) rfl rfl rfl (Nat.le_of_ble_eq_true rfl) rfl ?_
      refine r_if_eq (tgt := 64) hX dX6_worst_40 (by decide) (fun c11 => ?_) (fun c11 => ?_)
      · have h0b := (if_pos c11).symm.trans h0b
        refine r_iload_n hX dX6_worst_64 2 rfl rfl ?_
        refine r_istore_n (y := x6) (L' := [(2, .int x6), (0, .ref (zad X.1 39)), (1, .int x1), (3, .int x7)]) hX dX6_worst_65 rfl (by decide) rfl rfl ?_
        refine r_iinc (v := (x7 + 1)) (L' := [(3, .int (x7 + 1)), (2, .int x6), (0, .ref (zad X.1 39)), (1, .int x1)]) hX dX6_worst_66 (by decide) 3 rfl rfl rfl ?_
        refine r_goto (tgt := 25) hX dX6_worst_69 (by decide) ?_
        refine r_sub [2, 3, 1, 0] (L' := [(0, .ref (zad X.1 39)), (1, .int x1), (2, .int x6), (3, .int (x7 + 1))]) rfl ?_
        exact hin0 _ (Option.some.inj h0b).symm
      · have h0b := (if_neg c11).symm.trans h0b
        refine r_iload_n hX dX6_worst_43 2 rfl rfl ?_
        refine r_if_lt (tgt := 60) hX dX6_worst_44 (by decide) (fun c12 => ?_) (fun c12 => ?_)
        · have h0b := (if_pos c12).symm.trans h0b
          refine r_iload_n hX dX6_worst_60 3 rfl rfl ?_
          refine r_goto (tgt := 65) hX dX6_worst_61 (by decide) ?_
          refine r_istore_n (y := x7) (L' := [(2, .int x7), (0, .ref (zad X.1 39)), (1, .int x1), (3, .int x7)]) hX dX6_worst_65 rfl (by decide) rfl rfl ?_
          refine r_iinc (v := (x7 + 1)) (L' := [(3, .int (x7 + 1)), (2, .int x7), (0, .ref (zad X.1 39)), (1, .int x1)]) hX dX6_worst_66 (by decide) 3 rfl rfl rfl ?_
          refine r_goto (tgt := 25) hX dX6_worst_69 (by decide) ?_
          refine r_sub [2, 3, 1, 0] (L' := [(0, .ref (zad X.1 39)), (1, .int x1), (2, .int x7), (3, .int (x7 + 1))]) rfl ?_
          exact hin0 _ (Option.some.inj h0b).symm
        · have h0b := (if_neg c12).symm.trans h0b
          refine r_aload_n hX dX6_worst_47 0 rfl rfl ?_
          refine r_iload_n hX dX6_worst_48 3 rfl rfl ?_
          obtain ⟨x13, e14, h0b⟩ := zbind_elim h0b
          refine r_callV (As := [.int x7]) (rest := []) (st1 := [.int x13]) hX dX6_worst_49 lv_RX6_156 (c_X6_costOf x7  u4 _ e14) (by decide) rfl rfl (zRecv.of (q := 39) (ci := 6) rfl rfl) rfl (Nat.le_of_ble_eq_true rfl) rfl ?_
          refine r_aload_n hX dX6_worst_52 0 rfl rfl ?_
          refine r_iload_n hX dX6_worst_53 2 rfl rfl ?_
          obtain ⟨x15, e16, h0b⟩ := zbind_elim h0b
          refine r_callV (As := [.int x6]) (rest := [.int x13]) (st1 := [.int x15, .int x13]) hX dX6_worst_54 lv_RX6_156 (c_X6_costOf x6  u4 _ e16) (by decide) rfl rfl (zRecv.of (q := 39) (ci := 6) rfl rfl) rfl (Nat.le_of_ble_eq_true rfl) rfl ?_
          refine r_icmp_le (tgt := 64) hX dX6_worst_57 (by decide) (fun c17 => ?_) (fun c17 => ?_)
          · have h0b := (if_pos c17).symm.trans h0b
            refine r_iload_n hX dX6_worst_64 2 rfl rfl ?_
            refine r_istore_n (y := x6) (L' := [(2, .int x6), (0, .ref (zad X.1 39)), (1, .int x1), (3, .int x7)]) hX dX6_worst_65 rfl (by decide) rfl rfl ?_
            refine r_iinc (v := (x7 + 1)) (L' := [(3, .int (x7 + 1)), (2, .int x6), (0, .ref (zad X.1 39)), (1, .int x1)]) hX dX6_worst_66 (by decide) 3 rfl rfl rfl ?_
            refine r_goto (tgt := 25) hX dX6_worst_69 (by decide) ?_
            refine r_sub [2, 3, 1, 0] (L' := [(0, .ref (zad X.1 39)), (1, .int x1), (2, .int x6), (3, .int (x7 + 1))]) rfl ?_
            exact hin0 _ (Option.some.inj h0b).symm
          · have h0b := (if_neg c17).symm.trans h0b
            refine r_iload_n hX dX6_worst_60 3 rfl rfl ?_
            refine r_goto (tgt := 65) hX dX6_worst_61 (by decide) ?_
            refine r_istore_n (y := x7) (L' := [(2, .int x7), (0, .ref (zad X.1 39)), (1, .int x1), (3, .int x7)]) hX dX6_worst_65 rfl (by decide) rfl rfl ?_
            refine r_iinc (v := (x7 + 1)) (L' := [(3, .int (x7 + 1)), (2, .int x7), (0, .ref (zad X.1 39)), (1, .int x1)]) hX dX6_worst_66 (by decide) 3 rfl rfl rfl ?_
            refine r_goto (tgt := 25) hX dX6_worst_69 (by decide) ?_
            refine r_sub [2, 3, 1, 0] (L' := [(0, .ref (zad X.1 39)), (1, .int x1), (2, .int x7), (3, .int (x7 + 1))]) rfl ?_
            exact hin0 _ (Option.some.inj h0b).symm
  · have h := (if_pos c3).symm.trans h
    refine r_aload_n hX dX6_worst_9 1 rfl rfl ?_
    refine r_ldc (v := (-1000004)) hX dX6_worst_10 (zT_in 1114 (by decide +kernel) rfl) ?_
    obtain ⟨x18, u19, e20, h⟩ := zbind2_elim h
    refine r_callV (As := [.int (-1000004)]) (rest := []) (st1 := [.int x18]) hX dX6_worst_12 lv_RX6_83 (c_X6_finding (-1000004)  u _ _ e20) (by decide) rfl rfl (zRecv.of (q := 39) (ci := 6) rfl rfl) rfl (Nat.le_of_ble_eq_true rfl) rfl ?_
    obtain ⟨rfl, rfl⟩ := zinj2 (Option.some.inj h)
    exact r_iret hX hR dX6_worst_15
theorem dX6_together_0 : decode cX6_together 0 = .ok (.iconst 0, 1) := by decide +kernel
theorem dX6_together_1 : decode cX6_together 1 = .ok (.istore_n 3, 1) := by decide +kernel
theorem dX6_together_2 : decode cX6_together 2 = .ok (.iconst 0, 1) := by decide +kernel
theorem dX6_together_3 : decode cX6_together 3 = .ok (.istore 4, 2) := by decide +kernel
theorem dX6_together_5 : decode cX6_together 5 = .ok (.iload 4, 2) := by decide +kernel
theorem dX6_together_7 : decode cX6_together 7 = .ok (.iconst 3, 1) := by decide +kernel
theorem dX6_together_8 : decode cX6_together 8 = .ok (.if_icmp .ge 44, 3) := by decide +kernel
theorem dX6_together_11 : decode cX6_together 11 = .ok (.iload_n 3, 1) := by decide +kernel
theorem dX6_together_12 : decode cX6_together 12 = .ok (.aload_n 0, 1) := by decide +kernel
theorem dX6_together_13 : decode cX6_together 13 = .ok (.iload_n 1, 1) := by decide +kernel
theorem dX6_together_14 : decode cX6_together 14 = .ok (.iconst 1, 1) := by decide +kernel
theorem dX6_together_15 : decode cX6_together 15 = .ok (.iload 4, 2) := by decide +kernel
theorem dX6_together_17 : decode cX6_together 17 = .ok (.iadd, 1) := by decide +kernel
theorem dX6_together_18 : decode cX6_together 18 = .ok (.invokevirtual 92, 3) := by decide +kernel
theorem dX6_together_21 : decode cX6_together 21 = .ok (.aload_n 0, 1) := by decide +kernel
theorem dX6_together_22 : decode cX6_together 22 = .ok (.iload_n 2, 1) := by decide +kernel
theorem dX6_together_23 : decode cX6_together 23 = .ok (.iconst 1, 1) := by decide +kernel
theorem dX6_together_24 : decode cX6_together 24 = .ok (.iload 4, 2) := by decide +kernel
theorem dX6_together_26 : decode cX6_together 26 = .ok (.iadd, 1) := by decide +kernel
theorem dX6_together_27 : decode cX6_together 27 = .ok (.invokevirtual 92, 3) := by decide +kernel
theorem dX6_together_30 : decode cX6_together 30 = .ok (.iadd, 1) := by decide +kernel
theorem dX6_together_31 : decode cX6_together 31 = .ok (.iconst 2, 1) := by decide +kernel
theorem dX6_together_32 : decode cX6_together 32 = .ok (.idiv, 1) := by decide +kernel
theorem dX6_together_33 : decode cX6_together 33 = .ok (.aload_n 0, 1) := by decide +kernel
theorem dX6_together_34 : decode cX6_together 34 = .ok (.getfield 19, 3) := by decide +kernel
theorem dX6_together_37 : decode cX6_together 37 = .ok (.iload 4, 2) := by decide +kernel
theorem dX6_together_39 : decode cX6_together 39 = .ok (.iaload, 1) := by decide +kernel
theorem dX6_together_40 : decode cX6_together 40 = .ok (.isub, 1) := by decide +kernel
theorem dX6_together_41 : decode cX6_together 41 = .ok (.invokestatic 146, 3) := by decide +kernel
theorem dX6_together_44 : decode cX6_together 44 = .ok (.iadd, 1) := by decide +kernel
theorem dX6_together_45 : decode cX6_together 45 = .ok (.istore_n 3, 1) := by decide +kernel
theorem dX6_together_46 : decode cX6_together 46 = .ok (.iinc 4 1, 3) := by decide +kernel
theorem dX6_together_49 : decode cX6_together 49 = .ok (.goto (-44), 3) := by decide +kernel
theorem dX6_together_52 : decode cX6_together 52 = .ok (.iload_n 3, 1) := by decide +kernel
theorem dX6_together_53 : decode cX6_together 53 = .ok (.ireturn, 1) := by decide +kernel
def m_X6_together_b0 (a1 : Int32) (u : zM) (a2 : Int32) (x1 : Int32) (x2 : Int32) : Option ((Int32 × Int32) ⊕ (Int32)) :=
  (if 3 ≤ x2 then
some (.inr x1)
else
zbind (m_X6_bodyIs a1 (1 + x2) u) (fun x6 => zbind (m_X6_bodyIs a2 (1 + x2) u) (fun x8 => zbind (zld u 43 3 x2) (fun x10 => some (.inl ((x1 + (zabs (((x6 + x8) / 2) - x10))), (x2 + 1)))))))
def m_X6_together (a1 : Int32) (a2 : Int32) (u : zM) : Option (Int32) :=
  zbind (zit zF (fun s : Int32 × Int32 => m_X6_together_b0 a1 u a2 s.1 s.2) (0, 0)) (fun x3 =>
some x3)
set_option maxHeartbeats 4000000 in
set_option maxRecDepth 100000 in
theorem c_X6_together (a1 : Int32) (a2 : Int32)   (u : zM) (r : Int32) (h : m_X6_together a1 a2 u = some r) : zCt 2 yX6_together cX6_together 5 (some .int) (fun E => [.ref (zad E 39), .int a1, .int a2]) u (fun _ => some (.int r)) u := by
  refine zCt.of (by decide +kernel) (fun E => Nat.le_of_ble_eq_true rfl) (fun X hX hR => ?_)
  have hX : zGood X RX6 cX6_together 5 2 := hX
  show zG X u 0 [(0, .ref (zad X.1 39)), (1, .int a1), (2, .int a2)] []
  unfold m_X6_together at h
  refine r_iconst (v := 0) hX dX6_together_0 (by decide) ?_
  refine r_istore_n (y := 0) (L' := [(3, .int 0), (0, .ref (zad X.1 39)), (1, .int a1), (2, .int a2)]) hX dX6_together_1 rfl (by decide) rfl rfl ?_
  refine r_iconst (v := 0) hX dX6_together_2 (by decide) ?_
  refine r_istore (y := 0) (L' := [(4, .int 0), (3, .int 0), (0, .ref (zad X.1 39)), (1, .int a1), (2, .int a2)]) hX dX6_together_3 (by decide) rfl rfl ?_
  refine r_sub [2, 3, 4, 1, 0] (L' := [(0, .ref (zad X.1 39)), (1, .int a1), (2, .int a2), (3, .int 0), (4, .int 0)]) rfl ?_
  obtain ⟨x3, h4, h⟩ := zbind_elim h
  have Jh4 : zG X u 52 [(3, .int x3)] [] := by
      refine r_iload_n hX dX6_together_52 0 rfl rfl ?_
      obtain rfl := Option.some.inj h
      exact r_iret hX hR dX6_together_53
  clear h
  refine zit_walk (P := fun s0 : Int32 × Int32 => zG X u 5 [(0, .ref (zad X.1 39)), (1, .int a1), (2, .int a2), (3, .int (s0.1)), (4, .int (s0.2))] []) ?_ zF _ h4
  clear h4
  intro s0 y0 h0b hin0 hout0
  obtain ⟨x1, x2⟩ := s0
  have h0b : m_X6_together_b0 a1 u a2 x1 x2 = some y0 := h0b
  unfold m_X6_together_b0 at h0b
  show zG X u 5 [(0, .ref (zad X.1 39)), (1, .int a1), (2, .int a2), (3, .int x1), (4, .int x2)] []
  refine r_iload hX dX6_together_5 4 rfl ?_
  refine r_iconst (v := 3) hX dX6_together_7 (by decide) ?_
  refine r_icmp_ge (tgt := 52) hX dX6_together_8 (by decide) (fun c5 => ?_) (fun c5 => ?_)
  · have h0b := (if_pos c5).symm.trans h0b
    refine r_sub [3] (L' := [(3, .int x1)]) rfl ?_
    have h0b := hout0 _ (Option.some.inj h0b).symm
    obtain rfl := h0b
    exact Jh4
  · have h0b := (if_neg c5).symm.trans h0b
    refine r_iload_n hX dX6_together_11 3 rfl rfl ?_
    refine r_aload_n hX dX6_together_12 0 rfl rfl ?_
    refine r_iload_n hX dX6_together_13 1 rfl rfl ?_
    refine r_iconst (v := 1) hX dX6_together_14 (by decide) ?_
    refine r_iload hX dX6_together_15 4 rfl ?_
    refine r_iadd hX dX6_together_17 ?_
    obtain ⟨x6, e7, h0b⟩ := zbind_elim h0b
    refine r_callV (As := [.int a1, .int (1 + x2)]) (rest := [.int x1]) (st1 := [.int x6, .int x1]) hX dX6_together_18 lv_RX6_92 (c_X6_bodyIs a1 (1 + x2)  u _ e7) (by decide) rfl rfl (zRecv.of (q := 39) (ci := 6) rfl rfl) rfl (Nat.le_of_ble_eq_true rfl) rfl ?_
    refine r_aload_n hX dX6_together_21 0 rfl rfl ?_
    refine r_iload_n hX dX6_together_22 2 rfl rfl ?_
    refine r_iconst (v := 1) hX dX6_together_23 (by decide) ?_
    refine r_iload hX dX6_together_24 4 rfl ?_
    refine r_iadd hX dX6_together_26 ?_
    obtain ⟨x8, e9, h0b⟩ := zbind_elim h0b
    refine r_callV (As := [.int a2, .int (1 + x2)]) (rest := [.int x6, .int x1]) (st1 := [.int x8, .int x6, .int x1]) hX dX6_together_27 lv_RX6_92 (c_X6_bodyIs a2 (1 + x2)  u _ e9) (by decide) rfl rfl (zRecv.of (q := 39) (ci := 6) rfl rfl) rfl (Nat.le_of_ble_eq_true rfl) rfl ?_
    refine r_iadd hX dX6_together_30 ?_
    refine r_iconst (v := 2) hX dX6_together_31 (by decide) ?_
    refine r_idiv hX dX6_together_32 (by decide) ?_
    refine r_aload_n hX dX6_together_33 0 rfl rfl ?_
    refine r_getR hX dX6_together_34 f_RX6_19 zr_39_4 ?_
    refine r_iload hX dX6_together_37 4 rfl ?_
    obtain ⟨x10, e11, h0b⟩ := zbind_elim h0b
    refine r_iald hX dX6_together_39 rfl e11 ?_
    refine r_isub hX dX6_together_40 ?_
    refine r_abs hX dX6_together_41 lm_RX6_146 (by decide) (Nat.le_of_ble_eq_true rfl) ?_
    refine r_iadd hX dX6_together_44 ?_
    refine r_istore_n (y := (x1 + (zabs (((x6 + x8) / 2) - x10)))) (L' := [(3, .int (x1 + (zabs (((x6 + x8) / 2) - x10)))), (0, .ref (zad X.1 39)), (1, .int a1), (2, .int a2), (4, .int x2)]) hX dX6_together_45 rfl (by decide) rfl rfl ?_
    refine r_iinc (v := (x2 + 1)) (L' := [(4, .int (x2 + 1)), (3, .int (x1 + (zabs (((x6 + x8) / 2) - x10)))), (0, .ref (zad X.1 39)), (1, .int a1), (2, .int a2)]) hX dX6_together_46 (by decide) 4 rfl rfl rfl ?_
    refine r_goto (tgt := 5) hX dX6_together_49 (by decide) ?_
    refine r_sub [2, 3, 4, 1, 0] (L' := [(0, .ref (zad X.1 39)), (1, .int a1), (2, .int a2), (3, .int (x1 + (zabs (((x6 + x8) / 2) - x10)))), (4, .int (x2 + 1))]) rfl ?_
    exact hin0 _ (Option.some.inj h0b).symm
theorem dX6_marry_0 : decode cX6_marry 0 = .ok (.aload_n 0, 1) := by decide +kernel
theorem dX6_marry_1 : decode cX6_marry 1 = .ok (.iload_n 1, 1) := by decide +kernel
theorem dX6_marry_2 : decode cX6_marry 2 = .ok (.invokevirtual 96, 3) := by decide +kernel
theorem dX6_marry_5 : decode cX6_marry 5 = .ok (.ifCond .eq 16, 3) := by decide +kernel
theorem dX6_marry_8 : decode cX6_marry 8 = .ok (.aload_n 0, 1) := by decide +kernel
theorem dX6_marry_9 : decode cX6_marry 9 = .ok (.iload_n 2, 1) := by decide +kernel
theorem dX6_marry_10 : decode cX6_marry 10 = .ok (.invokevirtual 96, 3) := by decide +kernel
theorem dX6_marry_13 : decode cX6_marry 13 = .ok (.ifCond .eq 8, 3) := by decide +kernel
theorem dX6_marry_16 : decode cX6_marry 16 = .ok (.iload_n 1, 1) := by decide +kernel
theorem dX6_marry_17 : decode cX6_marry 17 = .ok (.iload_n 2, 1) := by decide +kernel
theorem dX6_marry_18 : decode cX6_marry 18 = .ok (.if_icmp .ne 10, 3) := by decide +kernel
theorem dX6_marry_21 : decode cX6_marry 21 = .ok (.aload_n 0, 1) := by decide +kernel
theorem dX6_marry_22 : decode cX6_marry 22 = .ok (.ldc 78, 2) := by decide +kernel
theorem dX6_marry_24 : decode cX6_marry 24 = .ok (.invokevirtual 83, 3) := by decide +kernel
theorem dX6_marry_27 : decode cX6_marry 27 = .ok (.ireturn, 1) := by decide +kernel
theorem dX6_marry_28 : decode cX6_marry 28 = .ok (.aload_n 0, 1) := by decide +kernel
theorem dX6_marry_29 : decode cX6_marry 29 = .ok (.invokevirtual 139, 3) := by decide +kernel
theorem dX6_marry_32 : decode cX6_marry 32 = .ok (.istore_n 3, 1) := by decide +kernel
theorem dX6_marry_33 : decode cX6_marry 33 = .ok (.iload_n 3, 1) := by decide +kernel
theorem dX6_marry_34 : decode cX6_marry 34 = .ok (.ifCond .ne 10, 3) := by decide +kernel
theorem dX6_marry_37 : decode cX6_marry 37 = .ok (.aload_n 0, 1) := by decide +kernel
theorem dX6_marry_38 : decode cX6_marry 38 = .ok (.ldc 142, 2) := by decide +kernel
theorem dX6_marry_40 : decode cX6_marry 40 = .ok (.invokevirtual 83, 3) := by decide +kernel
theorem dX6_marry_43 : decode cX6_marry 43 = .ok (.ireturn, 1) := by decide +kernel
theorem dX6_marry_44 : decode cX6_marry 44 = .ok (.aload_n 0, 1) := by decide +kernel
theorem dX6_marry_45 : decode cX6_marry 45 = .ok (.iload_n 3, 1) := by decide +kernel
theorem dX6_marry_46 : decode cX6_marry 46 = .ok (.invokevirtual 152, 3) := by decide +kernel
theorem dX6_marry_49 : decode cX6_marry 49 = .ok (.aload_n 0, 1) := by decide +kernel
theorem dX6_marry_50 : decode cX6_marry 50 = .ok (.iload_n 1, 1) := by decide +kernel
theorem dX6_marry_51 : decode cX6_marry 51 = .ok (.iload_n 2, 1) := by decide +kernel
theorem dX6_marry_52 : decode cX6_marry 52 = .ok (.invokevirtual 162, 3) := by decide +kernel
theorem dX6_marry_55 : decode cX6_marry 55 = .ok (.ireturn, 1) := by decide +kernel
def m_X6_marry (a1 : Int32) (a2 : Int32) (u : zM) : Option (Int32 × zM) :=
  (if (m_X6_isBody a1 u) = 0 then
zbind2 (m_X6_finding (-1000001) u) (fun x2 u3 => some (x2, u3))
else
(if (m_X6_isBody a2 u) = 0 then
zbind2 (m_X6_finding (-1000001) u) (fun x6 u7 => some (x6, u7))
else
(if a1 = a2 then
zbind2 (m_X6_finding (-1000001) u) (fun x20 u21 => some (x20, u21))
else
zbind (m_X6_hereSet u) (fun x10 => (if x10 = 0 then
zbind2 (m_X6_finding (-1000004) u) (fun x17 u18 => some (x17, u18))
else
zbind (m_X6_cut x10 u) (fun u13 => zbind (m_X6_together a1 a2 u13) (fun x15 => some (x15, u13))))))))
set_option maxHeartbeats 4000000 in
set_option maxRecDepth 100000 in
theorem c_X6_marry (a1 : Int32) (a2 : Int32)   (u : zM) (r : Int32) (u' : zM) (h : m_X6_marry a1 a2 u = some (r, u')) : zCt 6 yX6_marry cX6_marry 4 (some .int) (fun E => [.ref (zad E 39), .int a1, .int a2]) u (fun _ => some (.int r)) u' := by
  refine zCt.of (by decide +kernel) (fun E => Nat.le_of_ble_eq_true rfl) (fun X hX hR => ?_)
  have hX : zGood X RX6 cX6_marry 4 6 := hX
  show zG X u 0 [(0, .ref (zad X.1 39)), (1, .int a1), (2, .int a2)] []
  unfold m_X6_marry at h
  refine r_aload_n hX dX6_marry_0 0 rfl rfl ?_
  refine r_iload_n hX dX6_marry_1 1 rfl rfl ?_
  refine r_callV (As := [.int a1]) (rest := []) (st1 := [.int (m_X6_isBody a1 u)]) hX dX6_marry_2 lv_RX6_96 (c_X6_isBody a1  u _ rfl) (by decide) rfl rfl (zRecv.of (q := 39) (ci := 6) rfl rfl) rfl (Nat.le_of_ble_eq_true rfl) rfl ?_
  refine r_if_eq (tgt := 21) hX dX6_marry_5 (by decide) (fun c1 => ?_) (fun c1 => ?_)
  · have h := (if_pos c1).symm.trans h
    refine r_aload_n hX dX6_marry_21 0 rfl rfl ?_
    refine r_ldc (v := (-1000001)) hX dX6_marry_22 (zT_in 1041 (by decide +kernel) rfl) ?_
    obtain ⟨x2, u3, e4, h⟩ := zbind2_elim h
    refine r_callV (As := [.int (-1000001)]) (rest := []) (st1 := [.int x2]) hX dX6_marry_24 lv_RX6_83 (c_X6_finding (-1000001)  u _ _ e4) (by decide) rfl rfl (zRecv.of (q := 39) (ci := 6) rfl rfl) rfl (Nat.le_of_ble_eq_true rfl) rfl ?_
    obtain ⟨rfl, rfl⟩ := zinj2 (Option.some.inj h)
    exact r_iret hX hR dX6_marry_27
  · have h := (if_neg c1).symm.trans h
    refine r_aload_n hX dX6_marry_8 0 rfl rfl ?_
    refine r_iload_n hX dX6_marry_9 2 rfl rfl ?_
    refine r_callV (As := [.int a2]) (rest := []) (st1 := [.int (m_X6_isBody a2 u)]) hX dX6_marry_10 lv_RX6_96 (c_X6_isBody a2  u _ rfl) (by decide) rfl rfl (zRecv.of (q := 39) (ci := 6) rfl rfl) rfl (Nat.le_of_ble_eq_true rfl) rfl ?_
    refine r_if_eq (tgt := 21) hX dX6_marry_13 (by decide) (fun c5 => ?_) (fun c5 => ?_)
    · have h := (if_pos c5).symm.trans h
      refine r_aload_n hX dX6_marry_21 0 rfl rfl ?_
      refine r_ldc (v := (-1000001)) hX dX6_marry_22 (zT_in 1041 (by decide +kernel) rfl) ?_
      obtain ⟨x6, u7, e8, h⟩ := zbind2_elim h
      refine r_callV (As := [.int (-1000001)]) (rest := []) (st1 := [.int x6]) hX dX6_marry_24 lv_RX6_83 (c_X6_finding (-1000001)  u _ _ e8) (by decide) rfl rfl (zRecv.of (q := 39) (ci := 6) rfl rfl) rfl (Nat.le_of_ble_eq_true rfl) rfl ?_
      obtain ⟨rfl, rfl⟩ := zinj2 (Option.some.inj h)
      exact r_iret hX hR dX6_marry_27
    · have h := (if_neg c5).symm.trans h
      refine r_iload_n hX dX6_marry_16 1 rfl rfl ?_
      refine r_iload_n hX dX6_marry_17 2 rfl rfl ?_
      refine r_icmp_ne (tgt := 28) hX dX6_marry_18 (by decide) (fun c9 => ?_) (fun c9 => ?_)
      · have h := (if_neg c9).symm.trans h
        refine r_aload_n hX dX6_marry_28 0 rfl rfl ?_
        obtain ⟨x10, e11, h⟩ := zbind_elim h
        refine r_callV (As := []) (rest := []) (st1 := [.int x10]) hX dX6_marry_29 lv_RX6_139 (c_X6_hereSet   u _ e11) (by decide) rfl rfl (zRecv.of (q := 39) (ci := 6) rfl rfl) rfl (Nat.le_of_ble_eq_true rfl) rfl ?_
        refine r_istore_n (y := x10) (L' := [(3, .int x10), (0, .ref (zad X.1 39)), (1, .int a1), (2, .int a2)]) hX dX6_marry_32 rfl (by decide) rfl rfl ?_
        refine r_iload_n hX dX6_marry_33 0 rfl rfl ?_
        refine r_if_ne (tgt := 44) hX dX6_marry_34 (by decide) (fun c12 => ?_) (fun c12 => ?_)
        · have h := (if_neg c12).symm.trans h
          refine r_aload_n hX dX6_marry_44 1 rfl rfl ?_
          refine r_iload_n hX dX6_marry_45 0 rfl rfl ?_
          obtain ⟨u13, e14, h⟩ := zbind_elim h
          refine r_callV (As := [.int x10]) (rest := []) (st1 := []) hX dX6_marry_46 lv_RX6_152 (c_X6_cut x10  u _ e14) (by decide) rfl rfl (zRecv.of (q := 39) (ci := 6) rfl rfl) rfl (Nat.le_of_ble_eq_true rfl) rfl ?_
          refine r_aload_n hX dX6_marry_49 1 rfl rfl ?_
          refine r_iload_n hX dX6_marry_50 2 rfl rfl ?_
          refine r_iload_n hX dX6_marry_51 3 rfl rfl ?_
          obtain ⟨x15, e16, h⟩ := zbind_elim h
          refine r_callV (As := [.int a1, .int a2]) (rest := []) (st1 := [.int x15]) hX dX6_marry_52 lv_RX6_162 (c_X6_together a1 a2  u13 _ e16) (by decide) rfl rfl (zRecv.of (q := 39) (ci := 6) rfl rfl) rfl (Nat.le_of_ble_eq_true rfl) rfl ?_
          obtain ⟨rfl, rfl⟩ := zinj2 (Option.some.inj h)
          exact r_iret hX hR dX6_marry_55
        · have h := (if_pos c12).symm.trans h
          refine r_aload_n hX dX6_marry_37 1 rfl rfl ?_
          refine r_ldc (v := (-1000004)) hX dX6_marry_38 (zT_in 1114 (by decide +kernel) rfl) ?_
          obtain ⟨x17, u18, e19, h⟩ := zbind2_elim h
          refine r_callV (As := [.int (-1000004)]) (rest := []) (st1 := [.int x17]) hX dX6_marry_40 lv_RX6_83 (c_X6_finding (-1000004)  u _ _ e19) (by decide) rfl rfl (zRecv.of (q := 39) (ci := 6) rfl rfl) rfl (Nat.le_of_ble_eq_true rfl) rfl ?_
          obtain ⟨rfl, rfl⟩ := zinj2 (Option.some.inj h)
          exact r_iret hX hR dX6_marry_43
      · have h := (if_pos c9).symm.trans h
        refine r_aload_n hX dX6_marry_21 0 rfl rfl ?_
        refine r_ldc (v := (-1000001)) hX dX6_marry_22 (zT_in 1041 (by decide +kernel) rfl) ?_
        obtain ⟨x20, u21, e22, h⟩ := zbind2_elim h
        refine r_callV (As := [.int (-1000001)]) (rest := []) (st1 := [.int x20]) hX dX6_marry_24 lv_RX6_83 (c_X6_finding (-1000001)  u _ _ e22) (by decide) rfl rfl (zRecv.of (q := 39) (ci := 6) rfl rfl) rfl (Nat.le_of_ble_eq_true rfl) rfl ?_
        obtain ⟨rfl, rfl⟩ := zinj2 (Option.some.inj h)
        exact r_iret hX hR dX6_marry_27
theorem dX6_bride_0 : decode cX6_bride 0 = .ok (.aload_n 0, 1) := by decide +kernel
theorem dX6_bride_1 : decode cX6_bride 1 = .ok (.iload_n 1, 1) := by decide +kernel
theorem dX6_bride_2 : decode cX6_bride 2 = .ok (.invokevirtual 96, 3) := by decide +kernel
theorem dX6_bride_5 : decode cX6_bride 5 = .ok (.ifCond .ne 10, 3) := by decide +kernel
theorem dX6_bride_8 : decode cX6_bride 8 = .ok (.aload_n 0, 1) := by decide +kernel
theorem dX6_bride_9 : decode cX6_bride 9 = .ok (.ldc 78, 2) := by decide +kernel
theorem dX6_bride_11 : decode cX6_bride 11 = .ok (.invokevirtual 83, 3) := by decide +kernel
theorem dX6_bride_14 : decode cX6_bride 14 = .ok (.ireturn, 1) := by decide +kernel
theorem dX6_bride_15 : decode cX6_bride 15 = .ok (.aload_n 0, 1) := by decide +kernel
theorem dX6_bride_16 : decode cX6_bride 16 = .ok (.invokevirtual 139, 3) := by decide +kernel
theorem dX6_bride_19 : decode cX6_bride 19 = .ok (.istore_n 2, 1) := by decide +kernel
theorem dX6_bride_20 : decode cX6_bride 20 = .ok (.iload_n 2, 1) := by decide +kernel
theorem dX6_bride_21 : decode cX6_bride 21 = .ok (.iconst 1, 1) := by decide +kernel
theorem dX6_bride_22 : decode cX6_bride 22 = .ok (.iload_n 1, 1) := by decide +kernel
theorem dX6_bride_23 : decode cX6_bride 23 = .ok (.ishl, 1) := by decide +kernel
theorem dX6_bride_24 : decode cX6_bride 24 = .ok (.iconst (-1), 1) := by decide +kernel
theorem dX6_bride_25 : decode cX6_bride 25 = .ok (.ixor, 1) := by decide +kernel
theorem dX6_bride_26 : decode cX6_bride 26 = .ok (.iand, 1) := by decide +kernel
theorem dX6_bride_27 : decode cX6_bride 27 = .ok (.ifCond .ne 10, 3) := by decide +kernel
theorem dX6_bride_30 : decode cX6_bride 30 = .ok (.aload_n 0, 1) := by decide +kernel
theorem dX6_bride_31 : decode cX6_bride 31 = .ok (.ldc 142, 2) := by decide +kernel
theorem dX6_bride_33 : decode cX6_bride 33 = .ok (.invokevirtual 83, 3) := by decide +kernel
theorem dX6_bride_36 : decode cX6_bride 36 = .ok (.ireturn, 1) := by decide +kernel
theorem dX6_bride_37 : decode cX6_bride 37 = .ok (.aload_n 0, 1) := by decide +kernel
theorem dX6_bride_38 : decode cX6_bride 38 = .ok (.iload_n 2, 1) := by decide +kernel
theorem dX6_bride_39 : decode cX6_bride 39 = .ok (.invokevirtual 152, 3) := by decide +kernel
theorem dX6_bride_42 : decode cX6_bride 42 = .ok (.iconst (-1), 1) := by decide +kernel
theorem dX6_bride_43 : decode cX6_bride 43 = .ok (.istore_n 3, 1) := by decide +kernel
theorem dX6_bride_44 : decode cX6_bride 44 = .ok (.iconst 0, 1) := by decide +kernel
theorem dX6_bride_45 : decode cX6_bride 45 = .ok (.istore 4, 2) := by decide +kernel
theorem dX6_bride_47 : decode cX6_bride 47 = .ok (.iload 4, 2) := by decide +kernel
theorem dX6_bride_49 : decode cX6_bride 49 = .ok (.aload_n 0, 1) := by decide +kernel
theorem dX6_bride_50 : decode cX6_bride 50 = .ok (.getfield 9, 3) := by decide +kernel
theorem dX6_bride_53 : decode cX6_bride 53 = .ok (.iconst 0, 1) := by decide +kernel
theorem dX6_bride_54 : decode cX6_bride 54 = .ok (.iaload, 1) := by decide +kernel
theorem dX6_bride_55 : decode cX6_bride 55 = .ok (.if_icmp .ge 63, 3) := by decide +kernel
theorem dX6_bride_58 : decode cX6_bride 58 = .ok (.iload_n 2, 1) := by decide +kernel
theorem dX6_bride_59 : decode cX6_bride 59 = .ok (.iload 4, 2) := by decide +kernel
theorem dX6_bride_61 : decode cX6_bride 61 = .ok (.invokestatic 122, 3) := by decide +kernel
theorem dX6_bride_64 : decode cX6_bride 64 = .ok (.ifCond .eq 13, 3) := by decide +kernel
theorem dX6_bride_67 : decode cX6_bride 67 = .ok (.iload 4, 2) := by decide +kernel
theorem dX6_bride_69 : decode cX6_bride 69 = .ok (.iload_n 1, 1) := by decide +kernel
theorem dX6_bride_70 : decode cX6_bride 70 = .ok (.if_icmp .eq 7, 3) := by decide +kernel
theorem dX6_bride_73 : decode cX6_bride 73 = .ok (.iconst 1, 1) := by decide +kernel
theorem dX6_bride_74 : decode cX6_bride 74 = .ok (.goto 4, 3) := by decide +kernel
theorem dX6_bride_77 : decode cX6_bride 77 = .ok (.iconst 0, 1) := by decide +kernel
theorem dX6_bride_78 : decode cX6_bride 78 = .ok (.istore 5, 2) := by decide +kernel
theorem dX6_bride_80 : decode cX6_bride 80 = .ok (.iload 5, 2) := by decide +kernel
theorem dX6_bride_82 : decode cX6_bride 82 = .ok (.ifCond .eq 28, 3) := by decide +kernel
theorem dX6_bride_85 : decode cX6_bride 85 = .ok (.iload_n 3, 1) := by decide +kernel
theorem dX6_bride_86 : decode cX6_bride 86 = .ok (.ifCond .lt 19, 3) := by decide +kernel
theorem dX6_bride_89 : decode cX6_bride 89 = .ok (.aload_n 0, 1) := by decide +kernel
theorem dX6_bride_90 : decode cX6_bride 90 = .ok (.iload_n 1, 1) := by decide +kernel
theorem dX6_bride_91 : decode cX6_bride 91 = .ok (.iload 4, 2) := by decide +kernel
theorem dX6_bride_93 : decode cX6_bride 93 = .ok (.invokevirtual 162, 3) := by decide +kernel
theorem dX6_bride_96 : decode cX6_bride 96 = .ok (.aload_n 0, 1) := by decide +kernel
theorem dX6_bride_97 : decode cX6_bride 97 = .ok (.iload_n 1, 1) := by decide +kernel
theorem dX6_bride_98 : decode cX6_bride 98 = .ok (.iload_n 3, 1) := by decide +kernel
theorem dX6_bride_99 : decode cX6_bride 99 = .ok (.invokevirtual 162, 3) := by decide +kernel
theorem dX6_bride_102 : decode cX6_bride 102 = .ok (.if_icmp .ge 8, 3) := by decide +kernel
theorem dX6_bride_105 : decode cX6_bride 105 = .ok (.iload 4, 2) := by decide +kernel
theorem dX6_bride_107 : decode cX6_bride 107 = .ok (.goto 4, 3) := by decide +kernel
theorem dX6_bride_110 : decode cX6_bride 110 = .ok (.iload_n 3, 1) := by decide +kernel
theorem dX6_bride_111 : decode cX6_bride 111 = .ok (.istore_n 3, 1) := by decide +kernel
theorem dX6_bride_112 : decode cX6_bride 112 = .ok (.iinc 4 1, 3) := by decide +kernel
theorem dX6_bride_115 : decode cX6_bride 115 = .ok (.goto (-68), 3) := by decide +kernel
theorem dX6_bride_118 : decode cX6_bride 118 = .ok (.iload_n 3, 1) := by decide +kernel
theorem dX6_bride_119 : decode cX6_bride 119 = .ok (.ireturn, 1) := by decide +kernel
def m_X6_bride_b0 (u5 : zM) (x2 : Int32) (a1 : Int32) (x7 : Int32) (x8 : Int32) : Option ((Int32 × Int32) ⊕ (Int32)) :=
  (if (u5 40 0) ≤ x8 then
some (.inr x7)
else
zlet ((if (m_X6_has x2 x8) = 0 then
0
else
(if x8 = a1 then
0
else
1)) : Int32) (fun x12 =>
(if x12 = 0 then
some (.inl (x7, (x8 + 1)))
else
(if x7 < 0 then
some (.inl (x8, (x8 + 1)))
else
zbind (m_X6_together a1 x8 u5) (fun x18 => zbind (m_X6_together a1 x7 u5) (fun x20 => (if x20 ≤ x18 then
some (.inl (x7, (x8 + 1)))
else
some (.inl (x8, (x8 + 1))))))))))
def m_X6_bride (a1 : Int32) (u : zM) : Option (Int32 × zM) :=
  (if (m_X6_isBody a1 u) = 0 then
zbind2 (m_X6_finding (-1000001) u) (fun x26 u27 => some (x26, u27))
else
zbind (m_X6_hereSet u) (fun x2 => (if (x2 &&& ((zshl 1 a1) ^^^ (-1))) = 0 then
zbind2 (m_X6_finding (-1000004) u) (fun x23 u24 => some (x23, u24))
else
zbind (m_X6_cut x2 u) (fun u5 => zbind (zit zF (fun s : Int32 × Int32 => m_X6_bride_b0 u5 x2 a1 s.1 s.2) ((-1), 0)) (fun x9 =>
some (x9, u5))))))
set_option maxHeartbeats 4000000 in
set_option maxRecDepth 100000 in
theorem c_X6_bride (a1 : Int32)   (u : zM) (r : Int32) (u' : zM) (h : m_X6_bride a1 u = some (r, u')) : zCt 6 yX6_bride cX6_bride 6 (some .int) (fun E => [.ref (zad E 39), .int a1]) u (fun _ => some (.int r)) u' := by
  refine zCt.of (by decide +kernel) (fun E => Nat.le_of_ble_eq_true rfl) (fun X hX hR => ?_)
  have hX : zGood X RX6 cX6_bride 6 6 := hX
  show zG X u 0 [(0, .ref (zad X.1 39)), (1, .int a1)] []
  unfold m_X6_bride at h
  refine r_aload_n hX dX6_bride_0 0 rfl rfl ?_
  refine r_iload_n hX dX6_bride_1 1 rfl rfl ?_
  refine r_callV (As := [.int a1]) (rest := []) (st1 := [.int (m_X6_isBody a1 u)]) hX dX6_bride_2 lv_RX6_96 (c_X6_isBody a1  u _ rfl) (by decide) rfl rfl (zRecv.of (q := 39) (ci := 6) rfl rfl) rfl (Nat.le_of_ble_eq_true rfl) rfl ?_
  refine r_if_ne (tgt := 15) hX dX6_bride_5 (by decide) (fun c1 => ?_) (fun c1 => ?_)
  · have h := (if_neg c1).symm.trans h
    refine r_aload_n hX dX6_bride_15 0 rfl rfl ?_
    obtain ⟨x2, e3, h⟩ := zbind_elim h
    refine r_callV (As := []) (rest := []) (st1 := [.int x2]) hX dX6_bride_16 lv_RX6_139 (c_X6_hereSet   u _ e3) (by decide) rfl rfl (zRecv.of (q := 39) (ci := 6) rfl rfl) rfl (Nat.le_of_ble_eq_true rfl) rfl ?_
    refine r_istore_n (y := x2) (L' := [(2, .int x2), (0, .ref (zad X.1 39)), (1, .int a1)]) hX dX6_bride_19 rfl (by decide) rfl rfl ?_
    refine r_iload_n hX dX6_bride_20 0 rfl rfl ?_
    refine r_iconst (v := 1) hX dX6_bride_21 (by decide) ?_
    refine r_iload_n hX dX6_bride_22 2 rfl rfl ?_
    refine r_ishl hX dX6_bride_23 ?_
    refine r_iconst (v := (-1)) hX dX6_bride_24 (by decide) ?_
    refine r_ixor hX dX6_bride_25 ?_
    refine r_iand hX dX6_bride_26 ?_
    refine r_if_ne (tgt := 37) hX dX6_bride_27 (by decide) (fun c4 => ?_) (fun c4 => ?_)
    · have h := (if_neg c4).symm.trans h
      refine r_aload_n hX dX6_bride_37 1 rfl rfl ?_
      refine r_iload_n hX dX6_bride_38 0 rfl rfl ?_
      obtain ⟨u5, e6, h⟩ := zbind_elim h
      refine r_callV (As := [.int x2]) (rest := []) (st1 := []) hX dX6_bride_39 lv_RX6_152 (c_X6_cut x2  u _ e6) (by decide) rfl rfl (zRecv.of (q := 39) (ci := 6) rfl rfl) rfl (Nat.le_of_ble_eq_true rfl) rfl ?_
      refine r_iconst (v := (-1)) hX dX6_bride_42 (by decide) ?_
      refine r_istore_n (y := (-1)) (L' := [(3, .int (-1)), (2, .int x2), (0, .ref (zad X.1 39)), (1, .int a1)]) hX dX6_bride_43 rfl (by decide) rfl rfl ?_
      refine r_iconst (v := 0) hX dX6_bride_44 (by decide) ?_
      refine r_istore (y := 0) (L' := [(4, .int 0), (3, .int (-1)), (2, .int x2), (0, .ref (zad X.1 39)), (1, .int a1)]) hX dX6_bride_45 (by decide) rfl rfl ?_
      refine r_sub [3, 4, 2, 1, 0] (L' := [(0, .ref (zad X.1 39)), (1, .int a1), (2, .int x2), (3, .int (-1)), (4, .int 0)]) rfl ?_
      obtain ⟨x9, h10, h⟩ := zbind_elim h
      have Jh10 : zG X u5 118 [(3, .int x9)] [] := by
          refine r_iload_n hX dX6_bride_118 0 rfl rfl ?_
          obtain ⟨rfl, rfl⟩ := zinj2 (Option.some.inj h)
          exact r_iret hX hR dX6_bride_119
      clear h
      refine zit_walk (P := fun s0 : Int32 × Int32 => zG X u5 47 [(0, .ref (zad X.1 39)), (1, .int a1), (2, .int x2), (3, .int (s0.1)), (4, .int (s0.2))] []) ?_ zF _ h10
      clear h10
      intro s0 y0 h0b hin0 hout0
      obtain ⟨x7, x8⟩ := s0
      have h0b : m_X6_bride_b0 u5 x2 a1 x7 x8 = some y0 := h0b
      unfold m_X6_bride_b0 at h0b
      show zG X u5 47 [(0, .ref (zad X.1 39)), (1, .int a1), (2, .int x2), (3, .int x7), (4, .int x8)] []
      refine r_iload hX dX6_bride_47 4 rfl ?_
      refine r_aload_n hX dX6_bride_49 0 rfl rfl ?_
      refine r_getR hX dX6_bride_50 f_RX6_9 zr_39_0 ?_
      refine r_iconst (v := 0) hX dX6_bride_53 (by decide) ?_
      refine r_ialdC (j := 0) hX dX6_bride_54 rfl (by decide +kernel) ?_
      refine r_icmp_ge (tgt := 118) hX dX6_bride_55 (by decide) (fun c11 => ?_) (fun c11 => ?_)
      · have h0b := (if_pos c11).symm.trans h0b
        refine r_sub [3] (L' := [(3, .int x7)]) rfl ?_
        have h0b := hout0 _ (Option.some.inj h0b).symm
        obtain rfl := h0b
        exact Jh10
      · have h0b := (if_neg c11).symm.trans h0b
        refine r_iload_n hX dX6_bride_58 2 rfl rfl ?_
        refine r_iload hX dX6_bride_59 4 rfl ?_
        refine r_callS (As := [.int x2, .int x8]) (rest := []) (st1 := [.int (m_X6_has x2 x8)]) hX dX6_bride_61 ls_RX6_122 (c_X6_has x2 x8  u5 _ rfl) (by decide) rfl rfl rfl (Nat.le_of_ble_eq_true rfl) rfl ?_
        obtain ⟨x12, h13, h0b⟩ := zlet_elim h0b
        have Jh13 : zG X u5 78 [(0, .ref (zad X.1 39)), (1, .int a1), (2, .int x2), (3, .int x7), (4, .int x8)] [.int x12] := by
            refine r_istore (y := x12) (L' := [(5, .int x12), (0, .ref (zad X.1 39)), (1, .int a1), (2, .int x2), (3, .int x7), (4, .int x8)]) hX dX6_bride_78 (by decide) rfl rfl ?_
            refine r_iload hX dX6_bride_80 0 rfl ?_
            refine r_if_eq (tgt := 110) hX dX6_bride_82 (by decide) (fun c16 => ?_) (fun c16 => ?_)
            · have h0b := (if_pos c16).symm.trans h0b
              refine r_iload_n hX dX6_bride_110 4 rfl rfl ?_
              refine r_istore_n (y := x7) (L' := [(3, .int x7), (5, .int x12), (0, .ref (zad X.1 39)), (1, .int a1), (2, .int x2), (4, .int x8)]) hX dX6_bride_111 rfl (by decide) rfl rfl ?_
              refine r_iinc (v := (x8 + 1)) (L' := [(4, .int (x8 + 1)), (3, .int x7), (5, .int x12), (0, .ref (zad X.1 39)), (1, .int a1), (2, .int x2)]) hX dX6_bride_112 (by decide) 5 rfl rfl rfl ?_
              refine r_goto (tgt := 47) hX dX6_bride_115 (by decide) ?_
              refine r_sub [3, 4, 5, 1, 0] (L' := [(0, .ref (zad X.1 39)), (1, .int a1), (2, .int x2), (3, .int x7), (4, .int (x8 + 1))]) rfl ?_
              exact hin0 _ (Option.some.inj h0b).symm
            · have h0b := (if_neg c16).symm.trans h0b
              refine r_iload_n hX dX6_bride_85 4 rfl rfl ?_
              refine r_if_lt (tgt := 105) hX dX6_bride_86 (by decide) (fun c17 => ?_) (fun c17 => ?_)
              · have h0b := (if_pos c17).symm.trans h0b
                refine r_iload hX dX6_bride_105 5 rfl ?_
                refine r_goto (tgt := 111) hX dX6_bride_107 (by decide) ?_
                refine r_istore_n (y := x8) (L' := [(3, .int x8), (5, .int x12), (0, .ref (zad X.1 39)), (1, .int a1), (2, .int x2), (4, .int x8)]) hX dX6_bride_111 rfl (by decide) rfl rfl ?_
                refine r_iinc (v := (x8 + 1)) (L' := [(4, .int (x8 + 1)), (3, .int x8), (5, .int x12), (0, .ref (zad X.1 39)), (1, .int a1), (2, .int x2)]) hX dX6_bride_112 (by decide) 5 rfl rfl rfl ?_
                refine r_goto (tgt := 47) hX dX6_bride_115 (by decide) ?_
                refine r_sub [3, 4, 5, 1, 0] (L' := [(0, .ref (zad X.1 39)), (1, .int a1), (2, .int x2), (3, .int x8), (4, .int (x8 + 1))]) rfl ?_
                exact hin0 _ (Option.some.inj h0b).symm
              · have h0b := (if_neg c17).symm.trans h0b
                refine r_aload_n hX dX6_bride_89 1 rfl rfl ?_
                refine r_iload_n hX dX6_bride_90 2 rfl rfl ?_
                refine r_iload hX dX6_bride_91 5 rfl ?_
                obtain ⟨x18, e19, h0b⟩ := zbind_elim h0b
                refine r_callV (As := [.int a1, .int x8]) (rest := []) (st1 := [.int x18]) hX dX6_bride_93 lv_RX6_162 (c_X6_together a1 x8  u5 _ e19) (by decide) rfl rfl (zRecv.of (q := 39) (ci := 6) rfl rfl) rfl (Nat.le_of_ble_eq_true rfl) rfl ?_
                refine r_aload_n hX dX6_bride_96 1 rfl rfl ?_
                refine r_iload_n hX dX6_bride_97 2 rfl rfl ?_
                refine r_iload_n hX dX6_bride_98 4 rfl rfl ?_
                obtain ⟨x20, e21, h0b⟩ := zbind_elim h0b
                refine r_callV (As := [.int a1, .int x7]) (rest := [.int x18]) (st1 := [.int x20, .int x18]) hX dX6_bride_99 lv_RX6_162 (c_X6_together a1 x7  u5 _ e21) (by decide) rfl rfl (zRecv.of (q := 39) (ci := 6) rfl rfl) rfl (Nat.le_of_ble_eq_true rfl) rfl ?_
                refine r_icmp_ge (tgt := 110) hX dX6_bride_102 (by decide) (fun c22 => ?_) (fun c22 => ?_)
                · have h0b := (if_pos c22).symm.trans h0b
                  refine r_iload_n hX dX6_bride_110 4 rfl rfl ?_
                  refine r_istore_n (y := x7) (L' := [(3, .int x7), (5, .int x12), (0, .ref (zad X.1 39)), (1, .int a1), (2, .int x2), (4, .int x8)]) hX dX6_bride_111 rfl (by decide) rfl rfl ?_
                  refine r_iinc (v := (x8 + 1)) (L' := [(4, .int (x8 + 1)), (3, .int x7), (5, .int x12), (0, .ref (zad X.1 39)), (1, .int a1), (2, .int x2)]) hX dX6_bride_112 (by decide) 5 rfl rfl rfl ?_
                  refine r_goto (tgt := 47) hX dX6_bride_115 (by decide) ?_
                  refine r_sub [3, 4, 5, 1, 0] (L' := [(0, .ref (zad X.1 39)), (1, .int a1), (2, .int x2), (3, .int x7), (4, .int (x8 + 1))]) rfl ?_
                  exact hin0 _ (Option.some.inj h0b).symm
                · have h0b := (if_neg c22).symm.trans h0b
                  refine r_iload hX dX6_bride_105 5 rfl ?_
                  refine r_goto (tgt := 111) hX dX6_bride_107 (by decide) ?_
                  refine r_istore_n (y := x8) (L' := [(3, .int x8), (5, .int x12), (0, .ref (zad X.1 39)), (1, .int a1), (2, .int x2), (4, .int x8)]) hX dX6_bride_111 rfl (by decide) rfl rfl ?_
                  refine r_iinc (v := (x8 + 1)) (L' := [(4, .int (x8 + 1)), (3, .int x8), (5, .int x12), (0, .ref (zad X.1 39)), (1, .int a1), (2, .int x2)]) hX dX6_bride_112 (by decide) 5 rfl rfl rfl ?_
                  refine r_goto (tgt := 47) hX dX6_bride_115 (by decide) ?_
                  refine r_sub [3, 4, 5, 1, 0] (L' := [(0, .ref (zad X.1 39)), (1, .int a1), (2, .int x2), (3, .int x8), (4, .int (x8 + 1))]) rfl ?_
                  exact hin0 _ (Option.some.inj h0b).symm
        clear h0b
        refine r_if_eq (tgt := 77) hX dX6_bride_64 (by decide) (fun c14 => ?_) (fun c14 => ?_)
        · have h13 := (if_pos c14).symm.trans h13
          refine r_iconst (v := 0) hX dX6_bride_77 (by decide) ?_
          obtain rfl := h13
          exact Jh13
        · have h13 := (if_neg c14).symm.trans h13
          refine r_iload hX dX6_bride_67 4 rfl ?_
          refine r_iload_n hX dX6_bride_69 1 rfl rfl ?_
          refine r_icmp_eq (tgt := 77) hX dX6_bride_70 (by decide) (fun c15 => ?_) (fun c15 => ?_)
          · have h13 := (if_pos c15).symm.trans h13
            refine r_iconst (v := 0) hX dX6_bride_77 (by decide) ?_
            obtain rfl := h13
            exact Jh13
          · have h13 := (if_neg c15).symm.trans h13
            refine r_iconst (v := 1) hX dX6_bride_73 (by decide) ?_
            refine r_goto (tgt := 78) hX dX6_bride_74 (by decide) ?_
            obtain rfl := h13
            exact Jh13
    · have h := (if_pos c4).symm.trans h
      refine r_aload_n hX dX6_bride_30 1 rfl rfl ?_
      refine r_ldc (v := (-1000004)) hX dX6_bride_31 (zT_in 1114 (by decide +kernel) rfl) ?_
      obtain ⟨x23, u24, e25, h⟩ := zbind2_elim h
      refine r_callV (As := [.int (-1000004)]) (rest := []) (st1 := [.int x23]) hX dX6_bride_33 lv_RX6_83 (c_X6_finding (-1000004)  u _ _ e25) (by decide) rfl rfl (zRecv.of (q := 39) (ci := 6) rfl rfl) rfl (Nat.le_of_ble_eq_true rfl) rfl ?_
      obtain ⟨rfl, rfl⟩ := zinj2 (Option.some.inj h)
      exact r_iret hX hR dX6_bride_36
  · have h := (if_pos c1).symm.trans h
    refine r_aload_n hX dX6_bride_8 0 rfl rfl ?_
    refine r_ldc (v := (-1000001)) hX dX6_bride_9 (zT_in 1041 (by decide +kernel) rfl) ?_
    obtain ⟨x26, u27, e28, h⟩ := zbind2_elim h
    refine r_callV (As := [.int (-1000001)]) (rest := []) (st1 := [.int x26]) hX dX6_bride_11 lv_RX6_83 (c_X6_finding (-1000001)  u _ _ e28) (by decide) rfl rfl (zRecv.of (q := 39) (ci := 6) rfl rfl) rfl (Nat.le_of_ble_eq_true rfl) rfl ?_
    obtain ⟨rfl, rfl⟩ := zinj2 (Option.some.inj h)
    exact r_iret hX hR dX6_bride_14
theorem dX6_bits_0 : decode cX6_bits 0 = .ok (.iconst 0, 1) := by decide +kernel
theorem dX6_bits_1 : decode cX6_bits 1 = .ok (.istore_n 1, 1) := by decide +kernel
theorem dX6_bits_2 : decode cX6_bits 2 = .ok (.iload_n 0, 1) := by decide +kernel
theorem dX6_bits_3 : decode cX6_bits 3 = .ok (.istore_n 2, 1) := by decide +kernel
theorem dX6_bits_4 : decode cX6_bits 4 = .ok (.iload_n 2, 1) := by decide +kernel
theorem dX6_bits_5 : decode cX6_bits 5 = .ok (.ifCond .eq 15, 3) := by decide +kernel
theorem dX6_bits_8 : decode cX6_bits 8 = .ok (.iinc 1 1, 3) := by decide +kernel
theorem dX6_bits_11 : decode cX6_bits 11 = .ok (.iload_n 2, 1) := by decide +kernel
theorem dX6_bits_12 : decode cX6_bits 12 = .ok (.iload_n 2, 1) := by decide +kernel
theorem dX6_bits_13 : decode cX6_bits 13 = .ok (.iconst 1, 1) := by decide +kernel
theorem dX6_bits_14 : decode cX6_bits 14 = .ok (.isub, 1) := by decide +kernel
theorem dX6_bits_15 : decode cX6_bits 15 = .ok (.iand, 1) := by decide +kernel
theorem dX6_bits_16 : decode cX6_bits 16 = .ok (.istore_n 2, 1) := by decide +kernel
theorem dX6_bits_17 : decode cX6_bits 17 = .ok (.goto (-13), 3) := by decide +kernel
theorem dX6_bits_20 : decode cX6_bits 20 = .ok (.iload_n 1, 1) := by decide +kernel
theorem dX6_bits_21 : decode cX6_bits 21 = .ok (.ireturn, 1) := by decide +kernel
def m_X6_bits_b0  (x1 : Int32) (x2 : Int32) : Option ((Int32 × Int32) ⊕ (Int32)) :=
  (if x2 = 0 then
some (.inr x1)
else
some (.inl ((x1 + 1), (x2 &&& (x2 - 1)))))
def m_X6_bits (a1 : Int32) : Option (Int32) :=
  zbind (zit zF (fun s : Int32 × Int32 => m_X6_bits_b0 s.1 s.2) (0, a1)) (fun x3 =>
some x3)
set_option maxHeartbeats 4000000 in
set_option maxRecDepth 100000 in
theorem c_X6_bits (a1 : Int32)   (u : zM) (r : Int32) (h : m_X6_bits a1 = some r) : zCt 1 yX6_bits cX6_bits 3 (some .int) (fun E => [.int a1]) u (fun _ => some (.int r)) u := by
  refine zCt.of (by decide +kernel) (fun E => Nat.le_of_ble_eq_true rfl) (fun X hX hR => ?_)
  have hX : zGood X RX6 cX6_bits 3 1 := hX
  show zG X u 0 [(0, .int a1)] []
  unfold m_X6_bits at h
  refine r_iconst (v := 0) hX dX6_bits_0 (by decide) ?_
  refine r_istore_n (y := 0) (L' := [(1, .int 0), (0, .int a1)]) hX dX6_bits_1 rfl (by decide) rfl rfl ?_
  refine r_iload_n hX dX6_bits_2 1 rfl rfl ?_
  refine r_istore_n (y := a1) (L' := [(2, .int a1), (1, .int 0), (0, .int a1)]) hX dX6_bits_3 rfl (by decide) rfl rfl ?_
  refine r_sub [1, 0] (L' := [(1, .int 0), (2, .int a1)]) rfl ?_
  obtain ⟨x3, h4, h⟩ := zbind_elim h
  have Jh4 : zG X u 20 [(1, .int x3)] [] := by
      refine r_iload_n hX dX6_bits_20 0 rfl rfl ?_
      obtain rfl := Option.some.inj h
      exact r_iret hX hR dX6_bits_21
  clear h
  refine zit_walk (P := fun s0 : Int32 × Int32 => zG X u 4 [(1, .int (s0.1)), (2, .int (s0.2))] []) ?_ zF _ h4
  clear h4
  intro s0 y0 h0b hin0 hout0
  obtain ⟨x1, x2⟩ := s0
  have h0b : m_X6_bits_b0 x1 x2 = some y0 := h0b
  unfold m_X6_bits_b0 at h0b
  show zG X u 4 [(1, .int x1), (2, .int x2)] []
  refine r_iload_n hX dX6_bits_4 1 rfl rfl ?_
  refine r_if_eq (tgt := 20) hX dX6_bits_5 (by decide) (fun c5 => ?_) (fun c5 => ?_)
  · have h0b := (if_pos c5).symm.trans h0b
    refine r_sub [0] (L' := [(1, .int x1)]) rfl ?_
    have h0b := hout0 _ (Option.some.inj h0b).symm
    obtain rfl := h0b
    exact Jh4
  · have h0b := (if_neg c5).symm.trans h0b
    refine r_iinc (v := (x1 + 1)) (L' := [(1, .int (x1 + 1)), (2, .int x2)]) hX dX6_bits_8 (by decide) 0 rfl rfl rfl ?_
    refine r_iload_n hX dX6_bits_11 1 rfl rfl ?_
    refine r_iload_n hX dX6_bits_12 1 rfl rfl ?_
    refine r_iconst (v := 1) hX dX6_bits_13 (by decide) ?_
    refine r_isub hX dX6_bits_14 ?_
    refine r_iand hX dX6_bits_15 ?_
    refine r_istore_n (y := (x2 &&& (x2 - 1))) (L' := [(2, .int (x2 &&& (x2 - 1))), (1, .int (x1 + 1))]) hX dX6_bits_16 rfl (by decide) rfl rfl ?_
    refine r_goto (tgt := 4) hX dX6_bits_17 (by decide) ?_
    refine r_sub [1, 0] (L' := [(1, .int (x1 + 1)), (2, .int (x2 &&& (x2 - 1)))]) rfl ?_
    exact hin0 _ (Option.some.inj h0b).symm
