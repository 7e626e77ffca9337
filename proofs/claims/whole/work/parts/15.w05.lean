/-! MODELS AND CONTRACTS, by program (wip/whole/gen_all.py): X2_farOfPair, X5_marry, X5_bride, J6_bitCount_0f7a4, X5_fittingBy, X5_fittingIfSent -/
theorem dX2_farOfPair_0 : decode cX2_farOfPair 0 = .ok (.iconst 0, 1) := by decide +kernel
theorem dX2_farOfPair_1 : decode cX2_farOfPair 1 = .ok (.istore 4, 2) := by decide +kernel
theorem dX2_farOfPair_3 : decode cX2_farOfPair 3 = .ok (.iconst 0, 1) := by decide +kernel
theorem dX2_farOfPair_4 : decode cX2_farOfPair 4 = .ok (.istore 5, 2) := by decide +kernel
theorem dX2_farOfPair_6 : decode cX2_farOfPair 6 = .ok (.iload 5, 2) := by decide +kernel
theorem dX2_farOfPair_8 : decode cX2_farOfPair 8 = .ok (.iconst 3, 1) := by decide +kernel
theorem dX2_farOfPair_9 : decode cX2_farOfPair 9 = .ok (.if_icmp .ge 46, 3) := by decide +kernel
theorem dX2_farOfPair_12 : decode cX2_farOfPair 12 = .ok (.aload_n 1, 1) := by decide +kernel
theorem dX2_farOfPair_13 : decode cX2_farOfPair 13 = .ok (.iload_n 2, 1) := by decide +kernel
theorem dX2_farOfPair_14 : decode cX2_farOfPair 14 = .ok (.iload 5, 2) := by decide +kernel
theorem dX2_farOfPair_16 : decode cX2_farOfPair 16 = .ok (.invokevirtual 68, 3) := by decide +kernel
theorem dX2_farOfPair_19 : decode cX2_farOfPair 19 = .ok (.aload_n 1, 1) := by decide +kernel
theorem dX2_farOfPair_20 : decode cX2_farOfPair 20 = .ok (.iload_n 3, 1) := by decide +kernel
theorem dX2_farOfPair_21 : decode cX2_farOfPair 21 = .ok (.iload 5, 2) := by decide +kernel
theorem dX2_farOfPair_23 : decode cX2_farOfPair 23 = .ok (.invokevirtual 68, 3) := by decide +kernel
theorem dX2_farOfPair_26 : decode cX2_farOfPair 26 = .ok (.iadd, 1) := by decide +kernel
theorem dX2_farOfPair_27 : decode cX2_farOfPair 27 = .ok (.iconst 2, 1) := by decide +kernel
theorem dX2_farOfPair_28 : decode cX2_farOfPair 28 = .ok (.idiv, 1) := by decide +kernel
theorem dX2_farOfPair_29 : decode cX2_farOfPair 29 = .ok (.istore 6, 2) := by decide +kernel
theorem dX2_farOfPair_31 : decode cX2_farOfPair 31 = .ok (.iload 4, 2) := by decide +kernel
theorem dX2_farOfPair_33 : decode cX2_farOfPair 33 = .ok (.iload 6, 2) := by decide +kernel
theorem dX2_farOfPair_35 : decode cX2_farOfPair 35 = .ok (.aload_n 0, 1) := by decide +kernel
theorem dX2_farOfPair_36 : decode cX2_farOfPair 36 = .ok (.getfield 21, 3) := by decide +kernel
theorem dX2_farOfPair_39 : decode cX2_farOfPair 39 = .ok (.iload 5, 2) := by decide +kernel
theorem dX2_farOfPair_41 : decode cX2_farOfPair 41 = .ok (.iaload, 1) := by decide +kernel
theorem dX2_farOfPair_42 : decode cX2_farOfPair 42 = .ok (.isub, 1) := by decide +kernel
theorem dX2_farOfPair_43 : decode cX2_farOfPair 43 = .ok (.invokestatic 71, 3) := by decide +kernel
theorem dX2_farOfPair_46 : decode cX2_farOfPair 46 = .ok (.iadd, 1) := by decide +kernel
theorem dX2_farOfPair_47 : decode cX2_farOfPair 47 = .ok (.istore 4, 2) := by decide +kernel
theorem dX2_farOfPair_49 : decode cX2_farOfPair 49 = .ok (.iinc 5 1, 3) := by decide +kernel
theorem dX2_farOfPair_52 : decode cX2_farOfPair 52 = .ok (.goto (-46), 3) := by decide +kernel
theorem dX2_farOfPair_55 : decode cX2_farOfPair 55 = .ok (.iload 4, 2) := by decide +kernel
theorem dX2_farOfPair_57 : decode cX2_farOfPair 57 = .ok (.ireturn, 1) := by decide +kernel
def m_X2_farOfPair_b0 (a1 : Int32) (u : zM) (a2 : Int32) (x1 : Int32) (x2 : Int32) : Option ((Int32 × Int32) ⊕ (Int32)) :=
  (if 3 ≤ x2 then
some (.inr x1)
else
zbind (m_X4_inchesOf a1 x2 u) (fun x6 => zbind (m_X4_inchesOf a2 x2 u) (fun x8 => zbind (zld u 19 3 x2) (fun x10 => some (.inl ((x1 + (zabs (((x6 + x8) / 2) - x10))), (x2 + 1)))))))
def m_X2_farOfPair (a1 : Int32) (a2 : Int32) (u : zM) : Option (Int32) :=
  zbind (zit zF (fun s : Int32 × Int32 => m_X2_farOfPair_b0 a1 u a2 s.1 s.2) (0, 0)) (fun x3 =>
some x3)
set_option maxHeartbeats 4000000 in
set_option maxRecDepth 100000 in
theorem c_X2_farOfPair (a1 : Int32) (a2 : Int32)   (u : zM) (r : Int32) (h : m_X2_farOfPair a1 a2 u = some r) : zCt 2 yX2_farOfPair cX2_farOfPair 7 (some .int) (fun E => [.ref (zad E 15), .ref (zad E 1), .int a1, .int a2]) u (fun _ => some (.int r)) u := by
  refine zCt.of (by decide +kernel) (fun E => Nat.le_of_ble_eq_true rfl) (fun X hX hR => ?_)
  have hX : zGood X RX2 cX2_farOfPair 7 2 := hX
  show zG X u 0 [(0, .ref (zad X.1 15)), (1, .ref (zad X.1 1)), (2, .int a1), (3, .int a2)] []
  unfold m_X2_farOfPair at h
  refine r_iconst (v := 0) hX dX2_farOfPair_0 (by decide) ?_
  refine r_istore (y := 0) (L' := [(4, .int 0), (0, .ref (zad X.1 15)), (1, .ref (zad X.1 1)), (2, .int a1), (3, .int a2)]) hX dX2_farOfPair_1 (by decide) rfl rfl ?_
  refine r_iconst (v := 0) hX dX2_farOfPair_3 (by decide) ?_
  refine r_istore (y := 0) (L' := [(5, .int 0), (4, .int 0), (0, .ref (zad X.1 15)), (1, .ref (zad X.1 1)), (2, .int a1), (3, .int a2)]) hX dX2_farOfPair_4 (by decide) rfl rfl ?_
  refine r_sub [2, 3, 4, 5, 1, 0] (L' := [(0, .ref (zad X.1 15)), (1, .ref (zad X.1 1)), (2, .int a1), (3, .int a2), (4, .int 0), (5, .int 0)]) rfl ?_
  obtain ⟨x3, h4, h⟩ := zbind_elim h
  have Jh4 : zG X u 55 [(4, .int x3)] [] := by
      refine r_iload hX dX2_farOfPair_55 0 rfl ?_
      obtain rfl := Option.some.inj h
      exact r_iret hX hR dX2_farOfPair_57
  clear h
  refine zit_walk (P := fun s0 : Int32 × Int32 => zG X u 6 [(0, .ref (zad X.1 15)), (1, .ref (zad X.1 1)), (2, .int a1), (3, .int a2), (4, .int (s0.1)), (5, .int (s0.2))] []) ?_ zF _ h4
  clear h4
  intro s0 y0 h0b hin0 hout0
  obtain ⟨x1, x2⟩ := s0
  have h0b : m_X2_farOfPair_b0 a1 u a2 x1 x2 = some y0 := h0b
  unfold m_X2_farOfPair_b0 at h0b
  show zG X u 6 [(0, .ref (zad X.1 15)), (1, .ref (zad X.1 1)), (2, .int a1), (3, .int a2), (4, .int x1), (5, .int x2)] []
  refine r_iload hX dX2_farOfPair_6 5 rfl ?_
  refine r_iconst (v := 3) hX dX2_farOfPair_8 (by decide) ?_
  refine r_icmp_ge (tgt := 55) hX dX2_farOfPair_9 (by decide) (fun c5 => ?_) (fun c5 => ?_)
  · have h0b := (if_pos c5).symm.trans h0b
    refine r_sub [4] (L' := [(4, .int x1)]) rfl ?_
    have h0b := hout0 _ (Option.some.inj h0b).symm
    obtain rfl := h0b
    exact Jh4
  · have h0b := (if_neg c5).symm.trans h0b
    refine r_aload_n hX dX2_farOfPair_12 1 rfl rfl ?_
    refine r_iload_n hX dX2_farOfPair_13 2 rfl rfl ?_
    refine r_iload hX dX2_farOfPair_14 5 rfl ?_
    obtain ⟨x6, e7, h0b⟩ := zbind_elim h0b
    refine r_callV (As := [.int a1, .int x2]) (rest := []) (st1 := [.int x6]) hX dX2_farOfPair_16 lv_RX2_68 (c_X4_inchesOf a1 x2  u _ e7) (by decide) rfl rfl (zRecv.of (q := 1) (ci := 4) rfl rfl) rfl (Nat.le_of_ble_eq_true rfl) rfl ?_
    refine r_aload_n hX dX2_farOfPair_19 1 rfl rfl ?_
    refine r_iload_n hX dX2_farOfPair_20 3 rfl rfl ?_
    refine r_iload hX dX2_farOfPair_21 5 rfl ?_
    obtain ⟨x8, e9, h0b⟩ := zbind_elim h0b
    refine r_callV (As := [.int a2, .int x2]) (rest := [.int x6]) (st1 := [.int x8, .int x6]) hX dX2_farOfPair_23 lv_RX2_68 (c_X4_inchesOf a2 x2  u _ e9) (by decide) rfl rfl (zRecv.of (q := 1) (ci := 4) rfl rfl) rfl (Nat.le_of_ble_eq_true rfl) rfl ?_
    refine r_iadd hX dX2_farOfPair_26 ?_
    refine r_iconst (v := 2) hX dX2_farOfPair_27 (by decide) ?_
    refine r_idiv hX dX2_farOfPair_28 (by decide) ?_
    refine r_istore (y := ((x6 + x8) / 2)) (L' := [(6, .int ((x6 + x8) / 2)), (0, .ref (zad X.1 15)), (1, .ref (zad X.1 1)), (2, .int a1), (3, .int a2), (4, .int x1), (5, .int x2)]) hX dX2_farOfPair_29 (by decide) rfl rfl ?_
    refine r_iload hX dX2_farOfPair_31 5 rfl ?_
    refine r_iload hX dX2_farOfPair_33 0 rfl ?_
    refine r_aload_n hX dX2_farOfPair_35 1 rfl rfl ?_
    refine r_getR hX dX2_farOfPair_36 f_RX2_21 zr_15_3 ?_
    refine r_iload hX dX2_farOfPair_39 6 rfl ?_
    obtain ⟨x10, e11, h0b⟩ := zbind_elim h0b
    refine r_iald hX dX2_farOfPair_41 rfl e11 ?_
    refine r_isub hX dX2_farOfPair_42 ?_
    refine r_abs hX dX2_farOfPair_43 lm_RX2_71 (by decide) (Nat.le_of_ble_eq_true rfl) ?_
    refine r_iadd hX dX2_farOfPair_46 ?_
    refine r_istore (y := (x1 + (zabs (((x6 + x8) / 2) - x10)))) (L' := [(4, .int (x1 + (zabs (((x6 + x8) / 2) - x10)))), (6, .int ((x6 + x8) / 2)), (0, .ref (zad X.1 15)), (1, .ref (zad X.1 1)), (2, .int a1), (3, .int a2), (5, .int x2)]) hX dX2_farOfPair_47 (by decide) rfl rfl ?_
    refine r_iinc (v := (x2 + 1)) (L' := [(5, .int (x2 + 1)), (4, .int (x1 + (zabs (((x6 + x8) / 2) - x10)))), (6, .int ((x6 + x8) / 2)), (0, .ref (zad X.1 15)), (1, .ref (zad X.1 1)), (2, .int a1), (3, .int a2)]) hX dX2_farOfPair_49 (by decide) 6 rfl rfl rfl ?_
    refine r_goto (tgt := 6) hX dX2_farOfPair_52 (by decide) ?_
    refine r_sub [3, 4, 5, 6, 1, 0] (L' := [(0, .ref (zad X.1 15)), (1, .ref (zad X.1 1)), (2, .int a1), (3, .int a2), (4, .int (x1 + (zabs (((x6 + x8) / 2) - x10)))), (5, .int (x2 + 1))]) rfl ?_
    exact hin0 _ (Option.some.inj h0b).symm
theorem dX5_marry_0 : decode cX5_marry 0 = .ok (.aload_n 0, 1) := by decide +kernel
theorem dX5_marry_1 : decode cX5_marry 1 = .ok (.iload_n 1, 1) := by decide +kernel
theorem dX5_marry_2 : decode cX5_marry 2 = .ok (.invokevirtual 77, 3) := by decide +kernel
theorem dX5_marry_5 : decode cX5_marry 5 = .ok (.ifCond .eq 16, 3) := by decide +kernel
theorem dX5_marry_8 : decode cX5_marry 8 = .ok (.aload_n 0, 1) := by decide +kernel
theorem dX5_marry_9 : decode cX5_marry 9 = .ok (.iload_n 2, 1) := by decide +kernel
theorem dX5_marry_10 : decode cX5_marry 10 = .ok (.invokevirtual 77, 3) := by decide +kernel
theorem dX5_marry_13 : decode cX5_marry 13 = .ok (.ifCond .eq 8, 3) := by decide +kernel
theorem dX5_marry_16 : decode cX5_marry 16 = .ok (.iload_n 1, 1) := by decide +kernel
theorem dX5_marry_17 : decode cX5_marry 17 = .ok (.iload_n 2, 1) := by decide +kernel
theorem dX5_marry_18 : decode cX5_marry 18 = .ok (.if_icmp .ne 9, 3) := by decide +kernel
theorem dX5_marry_21 : decode cX5_marry 21 = .ok (.aload_n 0, 1) := by decide +kernel
theorem dX5_marry_22 : decode cX5_marry 22 = .ok (.iconst 0, 1) := by decide +kernel
theorem dX5_marry_23 : decode cX5_marry 23 = .ok (.invokevirtual 65, 3) := by decide +kernel
theorem dX5_marry_26 : decode cX5_marry 26 = .ok (.ireturn, 1) := by decide +kernel
theorem dX5_marry_27 : decode cX5_marry 27 = .ok (.aload_n 0, 1) := by decide +kernel
theorem dX5_marry_28 : decode cX5_marry 28 = .ok (.invokevirtual 125, 3) := by decide +kernel
theorem dX5_marry_31 : decode cX5_marry 31 = .ok (.ifCond .ne 9, 3) := by decide +kernel
theorem dX5_marry_34 : decode cX5_marry 34 = .ok (.aload_n 0, 1) := by decide +kernel
theorem dX5_marry_35 : decode cX5_marry 35 = .ok (.iconst 3, 1) := by decide +kernel
theorem dX5_marry_36 : decode cX5_marry 36 = .ok (.invokevirtual 65, 3) := by decide +kernel
theorem dX5_marry_39 : decode cX5_marry 39 = .ok (.ireturn, 1) := by decide +kernel
theorem dX5_marry_40 : decode cX5_marry 40 = .ok (.aload_n 0, 1) := by decide +kernel
theorem dX5_marry_41 : decode cX5_marry 41 = .ok (.getfield 22, 3) := by decide +kernel
theorem dX5_marry_44 : decode cX5_marry 44 = .ok (.aload_n 0, 1) := by decide +kernel
theorem dX5_marry_45 : decode cX5_marry 45 = .ok (.getfield 10, 3) := by decide +kernel
theorem dX5_marry_48 : decode cX5_marry 48 = .ok (.iload_n 1, 1) := by decide +kernel
theorem dX5_marry_49 : decode cX5_marry 49 = .ok (.iload_n 2, 1) := by decide +kernel
theorem dX5_marry_50 : decode cX5_marry 50 = .ok (.invokevirtual 155, 3) := by decide +kernel
theorem dX5_marry_53 : decode cX5_marry 53 = .ok (.ireturn, 1) := by decide +kernel
def m_X5_marry (a1 : Int32) (a2 : Int32) (u : zM) : Option (Int32 × zM) :=
  (if (m_X5_isBody a1 u) = 0 then
zbind2 (m_X5_finding 0 u) (fun x2 u3 => some (x2, u3))
else
(if (m_X5_isBody a2 u) = 0 then
zbind2 (m_X5_finding 0 u) (fun x6 u7 => some (x6, u7))
else
(if a1 = a2 then
zbind2 (m_X5_finding 0 u) (fun x19 u20 => some (x19, u20))
else
zbind2 (m_X5_cutForAllHere u) (fun x10 u11 => (if x10 = 0 then
zbind2 (m_X5_finding 3 u11) (fun x16 u17 => some (x16, u17))
else
zbind (m_X2_farOfPair a1 a2 u11) (fun x14 => some (x14, u11)))))))
set_option maxHeartbeats 4000000 in
set_option maxRecDepth 100000 in
theorem c_X5_marry (a1 : Int32) (a2 : Int32)   (u : zM) (r : Int32) (u' : zM) (h : m_X5_marry a1 a2 u = some (r, u')) : zCt 7 yX5_marry cX5_marry 3 (some .int) (fun E => [.ref (zad E 0), .int a1, .int a2]) u (fun _ => some (.int r)) u' := by
  refine zCt.of (by decide +kernel) (fun E => Nat.le_of_ble_eq_true rfl) (fun X hX hR => ?_)
  have hX : zGood X RX5 cX5_marry 3 7 := hX
  show zG X u 0 [(0, .ref (zad X.1 0)), (1, .int a1), (2, .int a2)] []
  unfold m_X5_marry at h
  refine r_aload_n hX dX5_marry_0 0 rfl rfl ?_
  refine r_iload_n hX dX5_marry_1 1 rfl rfl ?_
  refine r_callV (As := [.int a1]) (rest := []) (st1 := [.int (m_X5_isBody a1 u)]) hX dX5_marry_2 lv_RX5_77 (c_X5_isBody a1  u _ rfl) (by decide) rfl rfl (zRecv.of (q := 0) (ci := 5) rfl rfl) rfl (Nat.le_of_ble_eq_true rfl) rfl ?_
  refine r_if_eq (tgt := 21) hX dX5_marry_5 (by decide) (fun c1 => ?_) (fun c1 => ?_)
  · have h := (if_pos c1).symm.trans h
    refine r_aload_n hX dX5_marry_21 0 rfl rfl ?_
    refine r_iconst (v := 0) hX dX5_marry_22 (by decide) ?_
    obtain ⟨x2, u3, e4, h⟩ := zbind2_elim h
    refine r_callV (As := [.int 0]) (rest := []) (st1 := [.int x2]) hX dX5_marry_23 lv_RX5_65 (c_X5_finding 0  u _ _ e4) (by decide) rfl rfl (zRecv.of (q := 0) (ci := 5) rfl rfl) rfl (Nat.le_of_ble_eq_true rfl) rfl ?_
    obtain ⟨rfl, rfl⟩ := zinj2 (Option.some.inj h)
    exact r_iret hX hR dX5_marry_26
  · have h := (if_neg c1).symm.trans h
    refine r_aload_n hX dX5_marry_8 0 rfl rfl ?_
    refine r_iload_n hX dX5_marry_9 2 rfl rfl ?_
    refine r_callV (As := [.int a2]) (rest := []) (st1 := [.int (m_X5_isBody a2 u)]) hX dX5_marry_10 lv_RX5_77 (c_X5_isBody a2  u _ rfl) (by decide) rfl rfl (zRecv.of (q := 0) (ci := 5) rfl rfl) rfl (Nat.le_of_ble_eq_true rfl) rfl ?_
    refine r_if_eq (tgt := 21) hX dX5_marry_13 (by decide) (fun c5 => ?_) (fun c5 => ?_)
    · have h := (if_pos c5).symm.trans h
      refine r_aload_n hX dX5_marry_21 0 rfl rfl ?_
      refine r_iconst (v := 0) hX dX5_marry_22 (by decide) ?_
      obtain ⟨x6, u7, e8, h⟩ := zbind2_elim h
      refine r_callV (As := [.int 0]) (rest := []) (st1 := [.int x6]) hX dX5_marry_23 lv_RX5_65 (c_X5_finding 0  u _ _ e8) (by decide) rfl rfl (zRecv.of (q := 0) (ci := 5) rfl rfl) rfl (Nat.le_of_ble_eq_true rfl) rfl ?_
      obtain ⟨rfl, rfl⟩ := zinj2 (Option.some.inj h)
      exact r_iret hX hR dX5_marry_26
    · have h := (if_neg c5).symm.trans h
      refine r_iload_n hX dX5_marry_16 1 rfl rfl ?_
      refine r_iload_n hX dX5_marry_17 2 rfl rfl ?_
      refine r_icmp_ne (tgt := 27) hX dX5_marry_18 (by decide) (fun c9 => ?_) (fun c9 => ?_)
      · have h := (if_neg c9).symm.trans h
        refine r_aload_n hX dX5_marry_27 0 rfl rfl ?_
        obtain ⟨x10, u11, e12, h⟩ := zbind2_elim h
        refine r_callV (As := []) (rest := []) (st1 := [.int x10]) hX dX5_marry_28 lv_RX5_125 (c_X5_cutForAllHere   u _ _ e12) (by decide) rfl rfl (zRecv.of (q := 0) (ci := 5) rfl rfl) rfl (Nat.le_of_ble_eq_true rfl) rfl ?_
        refine r_if_ne (tgt := 40) hX dX5_marry_31 (by decide) (fun c13 => ?_) (fun c13 => ?_)
        · have h := (if_neg c13).symm.trans h
          refine r_aload_n hX dX5_marry_40 0 rfl rfl ?_
          refine r_getR hX dX5_marry_41 f_RX5_22 zr_0_2 ?_
          refine r_aload_n hX dX5_marry_44 0 rfl rfl ?_
          refine r_getR hX dX5_marry_45 f_RX5_10 zr_0_0 ?_
          refine r_iload_n hX dX5_marry_48 1 rfl rfl ?_
          refine r_iload_n hX dX5_marry_49 2 rfl rfl ?_
          obtain ⟨x14, e15, h⟩ := zbind_elim h
          refine r_callV (As := [.ref (zad X.1 1), .int a1, .int a2]) (rest := []) (st1 := [.int x14]) hX dX5_marry_50 lv_RX5_155 (c_X2_farOfPair a1 a2  u11 _ e15) (by decide) rfl rfl (zRecv.of (q := 15) (ci := 2) rfl rfl) rfl (Nat.le_of_ble_eq_true rfl) rfl ?_
          obtain ⟨rfl, rfl⟩ := zinj2 (Option.some.inj h)
          exact r_iret hX hR dX5_marry_53
        · have h := (if_pos c13).symm.trans h
          refine r_aload_n hX dX5_marry_34 0 rfl rfl ?_
          refine r_iconst (v := 3) hX dX5_marry_35 (by decide) ?_
          obtain ⟨x16, u17, e18, h⟩ := zbind2_elim h
          refine r_callV (As := [.int 3]) (rest := []) (st1 := [.int x16]) hX dX5_marry_36 lv_RX5_65 (c_X5_finding 3  u11 _ _ e18) (by decide) rfl rfl (zRecv.of (q := 0) (ci := 5) rfl rfl) rfl (Nat.le_of_ble_eq_true rfl) rfl ?_
          obtain ⟨rfl, rfl⟩ := zinj2 (Option.some.inj h)
          exact r_iret hX hR dX5_marry_39
      · have h := (if_pos c9).symm.trans h
        refine r_aload_n hX dX5_marry_21 0 rfl rfl ?_
        refine r_iconst (v := 0) hX dX5_marry_22 (by decide) ?_
        obtain ⟨x19, u20, e21, h⟩ := zbind2_elim h
        refine r_callV (As := [.int 0]) (rest := []) (st1 := [.int x19]) hX dX5_marry_23 lv_RX5_65 (c_X5_finding 0  u _ _ e21) (by decide) rfl rfl (zRecv.of (q := 0) (ci := 5) rfl rfl) rfl (Nat.le_of_ble_eq_true rfl) rfl ?_
        obtain ⟨rfl, rfl⟩ := zinj2 (Option.some.inj h)
        exact r_iret hX hR dX5_marry_26
theorem dX5_bride_0 : decode cX5_bride 0 = .ok (.aload_n 0, 1) := by decide +kernel
theorem dX5_bride_1 : decode cX5_bride 1 = .ok (.iload_n 1, 1) := by decide +kernel
theorem dX5_bride_2 : decode cX5_bride 2 = .ok (.invokevirtual 77, 3) := by decide +kernel
theorem dX5_bride_5 : decode cX5_bride 5 = .ok (.ifCond .ne 9, 3) := by decide +kernel
theorem dX5_bride_8 : decode cX5_bride 8 = .ok (.aload_n 0, 1) := by decide +kernel
theorem dX5_bride_9 : decode cX5_bride 9 = .ok (.iconst 0, 1) := by decide +kernel
theorem dX5_bride_10 : decode cX5_bride 10 = .ok (.invokevirtual 65, 3) := by decide +kernel
theorem dX5_bride_13 : decode cX5_bride 13 = .ok (.ireturn, 1) := by decide +kernel
theorem dX5_bride_14 : decode cX5_bride 14 = .ok (.aload_n 0, 1) := by decide +kernel
theorem dX5_bride_15 : decode cX5_bride 15 = .ok (.getfield 10, 3) := by decide +kernel
theorem dX5_bride_18 : decode cX5_bride 18 = .ok (.getfield 96, 3) := by decide +kernel
theorem dX5_bride_21 : decode cX5_bride 21 = .ok (.iconst 1, 1) := by decide +kernel
theorem dX5_bride_22 : decode cX5_bride 22 = .ok (.iload_n 1, 1) := by decide +kernel
theorem dX5_bride_23 : decode cX5_bride 23 = .ok (.ishl, 1) := by decide +kernel
theorem dX5_bride_24 : decode cX5_bride 24 = .ok (.iconst (-1), 1) := by decide +kernel
theorem dX5_bride_25 : decode cX5_bride 25 = .ok (.ixor, 1) := by decide +kernel
theorem dX5_bride_26 : decode cX5_bride 26 = .ok (.iand, 1) := by decide +kernel
theorem dX5_bride_27 : decode cX5_bride 27 = .ok (.ifCond .eq 10, 3) := by decide +kernel
theorem dX5_bride_30 : decode cX5_bride 30 = .ok (.aload_n 0, 1) := by decide +kernel
theorem dX5_bride_31 : decode cX5_bride 31 = .ok (.invokevirtual 125, 3) := by decide +kernel
theorem dX5_bride_34 : decode cX5_bride 34 = .ok (.ifCond .ne 9, 3) := by decide +kernel
theorem dX5_bride_37 : decode cX5_bride 37 = .ok (.aload_n 0, 1) := by decide +kernel
theorem dX5_bride_38 : decode cX5_bride 38 = .ok (.iconst 3, 1) := by decide +kernel
theorem dX5_bride_39 : decode cX5_bride 39 = .ok (.invokevirtual 65, 3) := by decide +kernel
theorem dX5_bride_42 : decode cX5_bride 42 = .ok (.ireturn, 1) := by decide +kernel
theorem dX5_bride_43 : decode cX5_bride 43 = .ok (.iconst 0, 1) := by decide +kernel
theorem dX5_bride_44 : decode cX5_bride 44 = .ok (.istore_n 2, 1) := by decide +kernel
theorem dX5_bride_45 : decode cX5_bride 45 = .ok (.ldc 159, 2) := by decide +kernel
theorem dX5_bride_47 : decode cX5_bride 47 = .ok (.istore_n 3, 1) := by decide +kernel
theorem dX5_bride_48 : decode cX5_bride 48 = .ok (.iconst 0, 1) := by decide +kernel
theorem dX5_bride_49 : decode cX5_bride 49 = .ok (.istore 4, 2) := by decide +kernel
theorem dX5_bride_51 : decode cX5_bride 51 = .ok (.iload 4, 2) := by decide +kernel
theorem dX5_bride_53 : decode cX5_bride 53 = .ok (.aload_n 0, 1) := by decide +kernel
theorem dX5_bride_54 : decode cX5_bride 54 = .ok (.getfield 10, 3) := by decide +kernel
theorem dX5_bride_57 : decode cX5_bride 57 = .ok (.getfield 69, 3) := by decide +kernel
theorem dX5_bride_60 : decode cX5_bride 60 = .ok (.if_icmp .ge 63, 3) := by decide +kernel
theorem dX5_bride_63 : decode cX5_bride 63 = .ok (.iload 4, 2) := by decide +kernel
theorem dX5_bride_65 : decode cX5_bride 65 = .ok (.iload_n 1, 1) := by decide +kernel
theorem dX5_bride_66 : decode cX5_bride 66 = .ok (.if_icmp .eq 51, 3) := by decide +kernel
theorem dX5_bride_69 : decode cX5_bride 69 = .ok (.aload_n 0, 1) := by decide +kernel
theorem dX5_bride_70 : decode cX5_bride 70 = .ok (.getfield 10, 3) := by decide +kernel
theorem dX5_bride_73 : decode cX5_bride 73 = .ok (.iload 4, 2) := by decide +kernel
theorem dX5_bride_75 : decode cX5_bride 75 = .ok (.invokevirtual 108, 3) := by decide +kernel
theorem dX5_bride_78 : decode cX5_bride 78 = .ok (.ifCond .eq 39, 3) := by decide +kernel
theorem dX5_bride_81 : decode cX5_bride 81 = .ok (.aload_n 0, 1) := by decide +kernel
theorem dX5_bride_82 : decode cX5_bride 82 = .ok (.getfield 22, 3) := by decide +kernel
theorem dX5_bride_85 : decode cX5_bride 85 = .ok (.aload_n 0, 1) := by decide +kernel
theorem dX5_bride_86 : decode cX5_bride 86 = .ok (.getfield 10, 3) := by decide +kernel
theorem dX5_bride_89 : decode cX5_bride 89 = .ok (.iload_n 1, 1) := by decide +kernel
theorem dX5_bride_90 : decode cX5_bride 90 = .ok (.iload 4, 2) := by decide +kernel
theorem dX5_bride_92 : decode cX5_bride 92 = .ok (.invokevirtual 155, 3) := by decide +kernel
theorem dX5_bride_95 : decode cX5_bride 95 = .ok (.iload_n 3, 1) := by decide +kernel
theorem dX5_bride_96 : decode cX5_bride 96 = .ok (.if_icmp .ge 21, 3) := by decide +kernel
theorem dX5_bride_99 : decode cX5_bride 99 = .ok (.aload_n 0, 1) := by decide +kernel
theorem dX5_bride_100 : decode cX5_bride 100 = .ok (.getfield 22, 3) := by decide +kernel
theorem dX5_bride_103 : decode cX5_bride 103 = .ok (.aload_n 0, 1) := by decide +kernel
theorem dX5_bride_104 : decode cX5_bride 104 = .ok (.getfield 10, 3) := by decide +kernel
theorem dX5_bride_107 : decode cX5_bride 107 = .ok (.iload_n 1, 1) := by decide +kernel
theorem dX5_bride_108 : decode cX5_bride 108 = .ok (.iload 4, 2) := by decide +kernel
theorem dX5_bride_110 : decode cX5_bride 110 = .ok (.invokevirtual 155, 3) := by decide +kernel
theorem dX5_bride_113 : decode cX5_bride 113 = .ok (.istore_n 3, 1) := by decide +kernel
theorem dX5_bride_114 : decode cX5_bride 114 = .ok (.iload 4, 2) := by decide +kernel
theorem dX5_bride_116 : decode cX5_bride 116 = .ok (.istore_n 2, 1) := by decide +kernel
theorem dX5_bride_117 : decode cX5_bride 117 = .ok (.iinc 4 1, 3) := by decide +kernel
theorem dX5_bride_120 : decode cX5_bride 120 = .ok (.goto (-69), 3) := by decide +kernel
theorem dX5_bride_123 : decode cX5_bride 123 = .ok (.iload_n 2, 1) := by decide +kernel
theorem dX5_bride_124 : decode cX5_bride 124 = .ok (.ireturn, 1) := by decide +kernel
def m_X5_bride_b0 (u7 : zM) (a1 : Int32) (x10 : Int32) (x11 : Int32) (x12 : Int32) : Option ((Int32 × Int32 × Int32) ⊕ (Int32)) :=
  (if (u7 1 6) ≤ x12 then
some (.inr x10)
else
(if x12 = a1 then
some (.inl (x10, x11, (x12 + 1)))
else
(if (m_X4_isHere x12 u7) = 0 then
some (.inl (x10, x11, (x12 + 1)))
else
zbind (m_X2_farOfPair a1 x12 u7) (fun x18 => (if x11 ≤ x18 then
some (.inl (x10, x11, (x12 + 1)))
else
zbind (m_X2_farOfPair a1 x12 u7) (fun x21 => some (.inl (x12, x21, (x12 + 1)))))))))
def m_X5_bride (a1 : Int32) (u : zM) : Option (Int32 × zM) :=
  (if (m_X5_isBody a1 u) = 0 then
zbind2 (m_X5_finding 0 u) (fun x26 u27 => some (x26, u27))
else
(if ((u 1 7) &&& ((zshl 1 a1) ^^^ (-1))) = 0 then
zbind2 (m_X5_finding 3 u) (fun x3 u4 => some (x3, u4))
else
zbind2 (m_X5_cutForAllHere u) (fun x6 u7 => (if x6 = 0 then
zbind2 (m_X5_finding 3 u7) (fun x23 u24 => some (x23, u24))
else
zbind (zit zF (fun s : Int32 × Int32 × Int32 => m_X5_bride_b0 u7 a1 s.1 s.2.1 s.2.2) (0, 1000000, 0)) (fun x13 =>
some (x13, u7))))))
set_option maxHeartbeats 4000000 in
set_option maxRecDepth 100000 in
theorem c_X5_bride (a1 : Int32)   (u : zM) (r : Int32) (u' : zM) (h : m_X5_bride a1 u = some (r, u')) : zCt 7 yX5_bride cX5_bride 5 (some .int) (fun E => [.ref (zad E 0), .int a1]) u (fun _ => some (.int r)) u' := by
  refine zCt.of (by decide +kernel) (fun E => Nat.le_of_ble_eq_true rfl) (fun X hX hR => ?_)
  have hX : zGood X RX5 cX5_bride 5 7 := hX
  show zG X u 0 [(0, .ref (zad X.1 0)), (1, .int a1)] []
  unfold m_X5_bride at h
  refine r_aload_n hX dX5_bride_0 0 rfl rfl ?_
  refine r_iload_n hX dX5_bride_1 1 rfl rfl ?_
  refine r_callV (As := [.int a1]) (rest := []) (st1 := [.int (m_X5_isBody a1 u)]) hX dX5_bride_2 lv_RX5_77 (c_X5_isBody a1  u _ rfl) (by decide) rfl rfl (zRecv.of (q := 0) (ci := 5) rfl rfl) rfl (Nat.le_of_ble_eq_true rfl) rfl ?_
  refine r_if_ne (tgt := 14) hX dX5_bride_5 (by decide) (fun c1 => ?_) (fun c1 => ?_)
  · have h := (if_neg c1).symm.trans h
    refine r_aload_n hX dX5_bride_14 0 rfl rfl ?_
    refine r_getR hX dX5_bride_15 f_RX5_10 zr_0_0 ?_
    refine r_getI hX dX5_bride_18 f_RX5_96 zi_1_7 ?_
    refine r_iconst (v := 1) hX dX5_bride_21 (by decide) ?_
    refine r_iload_n hX dX5_bride_22 1 rfl rfl ?_
    refine r_ishl hX dX5_bride_23 ?_
    refine r_iconst (v := (-1)) hX dX5_bride_24 (by decide) ?_
    refine r_ixor hX dX5_bride_25 ?_
    refine r_iand hX dX5_bride_26 ?_
    refine r_if_eq (tgt := 37) hX dX5_bride_27 (by decide) (fun c2 => ?_) (fun c2 => ?_)
    · have h := (if_pos c2).symm.trans h
      refine r_aload_n hX dX5_bride_37 0 rfl rfl ?_
      refine r_iconst (v := 3) hX dX5_bride_38 (by decide) ?_
      obtain ⟨x3, u4, e5, h⟩ := zbind2_elim h
      refine r_callV (As := [.int 3]) (rest := []) (st1 := [.int x3]) hX dX5_bride_39 lv_RX5_65 (c_X5_finding 3  u _ _ e5) (by decide) rfl rfl (zRecv.of (q := 0) (ci := 5) rfl rfl) rfl (Nat.le_of_ble_eq_true rfl) rfl ?_
      obtain ⟨rfl, rfl⟩ := zinj2 (Option.some.inj h)
      exact r_iret hX hR dX5_bride_42
    · have h := (if_neg c2).symm.trans h
      refine r_aload_n hX dX5_bride_30 0 rfl rfl ?_
      obtain ⟨x6, u7, e8, h⟩ := zbind2_elim h
      refine r_callV (As := []) (rest := []) (st1 := [.int x6]) hX dX5_bride_31 lv_RX5_125 (c_X5_cutForAllHere   u _ _ e8) (by decide) rfl rfl (zRecv.of (q := 0) (ci := 5) rfl rfl) rfl (Nat.le_of_ble_eq_true rfl) rfl ?_
      refine r_if_ne (tgt := 43) hX dX5_bride_34 (by decide) (fun c9 => ?_) (fun c9 => ?_)
      · have h := (if_neg c9).symm.trans h
        refine r_iconst (v := 0) hX dX5_bride_43 (by decide) ?_
        refine r_istore_n (y := 0) (L' := [(2, .int 0), (0, .ref (zad X.1 0)), (1, .int a1)]) hX dX5_bride_44 rfl (by decide) rfl rfl ?_
        refine r_ldc (v := 1000000) hX dX5_bride_45 (zT_in 529 (by decide +kernel) rfl) ?_
        refine r_istore_n (y := 1000000) (L' := [(3, .int 1000000), (2, .int 0), (0, .ref (zad X.1 0)), (1, .int a1)]) hX dX5_bride_47 rfl (by decide) rfl rfl ?_
        refine r_iconst (v := 0) hX dX5_bride_48 (by decide) ?_
        refine r_istore (y := 0) (L' := [(4, .int 0), (3, .int 1000000), (2, .int 0), (0, .ref (zad X.1 0)), (1, .int a1)]) hX dX5_bride_49 (by decide) rfl rfl ?_
        refine r_sub [3, 4, 2, 1, 0] (L' := [(0, .ref (zad X.1 0)), (1, .int a1), (2, .int 0), (3, .int 1000000), (4, .int 0)]) rfl ?_
        obtain ⟨x13, h14, h⟩ := zbind_elim h
        have Jh14 : zG X u7 123 [(2, .int x13)] [] := by
            refine r_iload_n hX dX5_bride_123 0 rfl rfl ?_
            obtain ⟨rfl, rfl⟩ := zinj2 (Option.some.inj h)
            exact r_iret hX hR dX5_bride_124
        clear h
        refine zit_walk (P := fun s0 : Int32 × Int32 × Int32 => zG X u7 51 [(0, .ref (zad X.1 0)), (1, .int a1), (2, .int (s0.1)), (3, .int (s0.2.1)), (4, .int (s0.2.2))] []) ?_ zF _ h14
        clear h14
        intro s0 y0 h0b hin0 hout0
        obtain ⟨x10, x11, x12⟩ := s0
        have h0b : m_X5_bride_b0 u7 a1 x10 x11 x12 = some y0 := h0b
        unfold m_X5_bride_b0 at h0b
        show zG X u7 51 [(0, .ref (zad X.1 0)), (1, .int a1), (2, .int x10), (3, .int x11), (4, .int x12)] []
        refine r_iload hX dX5_bride_51 4 rfl ?_
        refine r_aload_n hX dX5_bride_53 0 rfl rfl ?_
        refine r_getR hX dX5_bride_54 f_RX5_10 zr_0_0 ?_
        refine r_getI hX dX5_bride_57 f_RX5_69 zi_1_6 ?_
        refine r_icmp_ge (tgt := 123) hX dX5_bride_60 (by decide) (fun c15 => ?_) (fun c15 => ?_)
        · have h0b := (if_pos c15).symm.trans h0b
          refine r_sub [2] (L' := [(2, .int x10)]) rfl ?_
          have h0b := hout0 _ (Option.some.inj h0b).symm
          obtain rfl := h0b
          exact Jh14
        · have h0b := (if_neg c15).symm.trans h0b
          refine r_iload hX dX5_bride_63 4 rfl ?_
          refine r_iload_n hX dX5_bride_65 1 rfl rfl ?_
          refine r_icmp_eq (tgt := 117) hX dX5_bride_66 (by decide) (fun c16 => ?_) (fun c16 => ?_)
          · have h0b := (if_pos c16).symm.trans h0b
            refine r_iinc (v := (x12 + 1)) (L' := [(4, .int (x12 + 1)), (0, .ref (zad X.1 0)), (1, .int a1), (2, .int x10), (3, .int x11)]) hX dX5_bride_117 (by decide) 4 rfl rfl rfl ?_
            refine r_goto (tgt := 51) hX dX5_bride_120 (by decide) ?_
            refine r_sub [1, 2, 3, 4, 0] (L' := [(0, .ref (zad X.1 0)), (1, .int a1), (2, .int x10), (3, .int x11), (4, .int (x12 + 1))]) rfl ?_
            exact hin0 _ (Option.some.inj h0b).symm
          · have h0b := (if_neg c16).symm.trans h0b
            refine r_aload_n hX dX5_bride_69 0 rfl rfl ?_
            refine r_getR hX dX5_bride_70 f_RX5_10 zr_0_0 ?_
            refine r_iload hX dX5_bride_73 4 rfl ?_
            refine r_callV (As := [.int x12]) (rest := []) (st1 := [.int (m_X4_isHere x12 u7)]) hX dX5_bride_75 lv_RX5_108 (c_X4_isHere x12  u7 _ rfl) (by decide) rfl rfl (zRecv.of (q := 1) (ci := 4) rfl rfl) rfl (Nat.le_of_ble_eq_true rfl) rfl ?_
            refine r_if_eq (tgt := 117) hX dX5_bride_78 (by decide) (fun c17 => ?_) (fun c17 => ?_)
            · have h0b := (if_pos c17).symm.trans h0b
              refine r_iinc (v := (x12 + 1)) (L' := [(4, .int (x12 + 1)), (0, .ref (zad X.1 0)), (1, .int a1), (2, .int x10), (3, .int x11)]) hX dX5_bride_117 (by decide) 4 rfl rfl rfl ?_
              refine r_goto (tgt := 51) hX dX5_bride_120 (by decide) ?_
              refine r_sub [1, 2, 3, 4, 0] (L' := [(0, .ref (zad X.1 0)), (1, .int a1), (2, .int x10), (3, .int x11), (4, .int (x12 + 1))]) rfl ?_
              exact hin0 _ (Option.some.inj h0b).symm
            · have h0b := (if_neg c17).symm.trans h0b
              refine r_aload_n hX dX5_bride_81 0 rfl rfl ?_
              refine r_getR hX dX5_bride_82 f_RX5_22 zr_0_2 ?_
              refine r_aload_n hX dX5_bride_85 0 rfl rfl ?_
              refine r_getR hX dX5_bride_86 f_RX5_10 zr_0_0 ?_
              refine r_iload_n hX dX5_bride_89 1 rfl rfl ?_
              refine r_iload hX dX5_bride_90 4 rfl ?_
              obtain ⟨x18, e19, h0b⟩ := zbind_elim h0b
              refine r_callV (As := [.ref (zad X.1 1), .int a1, .int x12]) (rest := []) (st1 := [.int x18]) hX dX5_bride_92 lv_RX5_155 (c_X2_farOfPair a1 x12  u7 _ e19) (by decide) rfl rfl (zRecv.of (q := 15) (ci := 2) rfl rfl) rfl (Nat.le_of_ble_eq_true rfl) rfl ?_
              refine r_iload_n hX dX5_bride_95 3 rfl rfl ?_
              refine r_icmp_ge (tgt := 117) hX dX5_bride_96 (by decide) (fun c20 => ?_) (fun c20 => ?_)
              · have h0b := (if_pos c20).symm.trans h0b
                refine r_iinc (v := (x12 + 1)) (L' := [(4, .int (x12 + 1)), (0, .ref (zad X.1 0)), (1, .int a1), (2, .int x10), (3, .int x11)]) hX dX5_bride_117 (by decide) 4 rfl rfl rfl ?_
                refine r_goto (tgt := 51) hX dX5_bride_120 (by decide) ?_
                refine r_sub [1, 2, 3, 4, 0] (L' := [(0, .ref (zad X.1 0)), (1, .int a1), (2, .int x10), (3, .int x11), (4, .int (x12 + 1))]) rfl ?_
                exact hin0 _ (Option.some.inj h0b).symm
              · have h0b := (if_neg c20).symm.trans h0b
                refine r_aload_n hX dX5_bride_99 0 rfl rfl ?_
                refine r_getR hX dX5_bride_100 f_RX5_22 zr_0_2 ?_
                refine r_aload_n hX dX5_bride_103 0 rfl rfl ?_
                refine r_getR hX dX5_bride_104 f_RX5_10 zr_0_0 ?_
                refine r_iload_n hX dX5_bride_107 1 rfl rfl ?_
                refine r_iload hX dX5_bride_108 4 rfl ?_
                obtain ⟨x21, e22, h0b⟩ := zbind_elim h0b
                refine r_callV (As := [.ref (zad X.1 1), .int a1, .int x12]) (rest := []) (st1 := [.int x21]) hX dX5_bride_110 lv_RX5_155 (c_X2_farOfPair a1 x12  u7 _ e22) (by decide) rfl rfl (zRecv.of (q := 15) (ci := 2) rfl rfl) rfl (Nat.le_of_ble_eq_true rfl) rfl ?_
                refine r_istore_n (y := x21) (L' := [(3, .int x21), (0, .ref (zad X.1 0)), (1, .int a1), (2, .int x10), (4, .int x12)]) hX dX5_bride_113 rfl (by decide) rfl rfl ?_
                refine r_iload hX dX5_bride_114 4 rfl ?_
                refine r_istore_n (y := x12) (L' := [(2, .int x12), (3, .int x21), (0, .ref (zad X.1 0)), (1, .int a1), (4, .int x12)]) hX dX5_bride_116 rfl (by decide) rfl rfl ?_
                refine r_iinc (v := (x12 + 1)) (L' := [(4, .int (x12 + 1)), (2, .int x12), (3, .int x21), (0, .ref (zad X.1 0)), (1, .int a1)]) hX dX5_bride_117 (by decide) 4 rfl rfl rfl ?_
                refine r_goto (tgt := 51) hX dX5_bride_120 (by decide) ?_
                refine r_sub [3, 4, 1, 2, 0] (L' := [(0, .ref (zad X.1 0)), (1, .int a1), (2, .int x12), (3, .int x21), (4, .int (x12 + 1))]) rfl ?_
                exact hin0 _ (Option.some.inj h0b).symm
      · have h := (if_pos c9).symm.trans h
        refine r_aload_n hX dX5_bride_37 0 rfl rfl ?_
        refine r_iconst (v := 3) hX dX5_bride_38 (by decide) ?_
        obtain ⟨x23, u24, e25, h⟩ := zbind2_elim h
        refine r_callV (As := [.int 3]) (rest := []) (st1 := [.int x23]) hX dX5_bride_39 lv_RX5_65 (c_X5_finding 3  u7 _ _ e25) (by decide) rfl rfl (zRecv.of (q := 0) (ci := 5) rfl rfl) rfl (Nat.le_of_ble_eq_true rfl) rfl ?_
        obtain ⟨rfl, rfl⟩ := zinj2 (Option.some.inj h)
        exact r_iret hX hR dX5_bride_42
  · have h := (if_pos c1).symm.trans h
    refine r_aload_n hX dX5_bride_8 0 rfl rfl ?_
    refine r_iconst (v := 0) hX dX5_bride_9 (by decide) ?_
    obtain ⟨x26, u27, e28, h⟩ := zbind2_elim h
    refine r_callV (As := [.int 0]) (rest := []) (st1 := [.int x26]) hX dX5_bride_10 lv_RX5_65 (c_X5_finding 0  u _ _ e28) (by decide) rfl rfl (zRecv.of (q := 0) (ci := 5) rfl rfl) rfl (Nat.le_of_ble_eq_true rfl) rfl ?_
    obtain ⟨rfl, rfl⟩ := zinj2 (Option.some.inj h)
    exact r_iret hX hR dX5_bride_13
theorem dJ6_bitCount_0f7a4_0 : decode cJ6_bitCount_0f7a4 0 = .ok (.iload_n 0, 1) := by decide +kernel
theorem dJ6_bitCount_0f7a4_1 : decode cJ6_bitCount_0f7a4 1 = .ok (.iload_n 0, 1) := by decide +kernel
theorem dJ6_bitCount_0f7a4_2 : decode cJ6_bitCount_0f7a4 2 = .ok (.iconst 1, 1) := by decide +kernel
theorem dJ6_bitCount_0f7a4_3 : decode cJ6_bitCount_0f7a4 3 = .ok (.iushr, 1) := by decide +kernel
theorem dJ6_bitCount_0f7a4_4 : decode cJ6_bitCount_0f7a4 4 = .ok (.ldc_w 265, 3) := by decide +kernel
theorem dJ6_bitCount_0f7a4_7 : decode cJ6_bitCount_0f7a4 7 = .ok (.iand, 1) := by decide +kernel
theorem dJ6_bitCount_0f7a4_8 : decode cJ6_bitCount_0f7a4 8 = .ok (.isub, 1) := by decide +kernel
theorem dJ6_bitCount_0f7a4_9 : decode cJ6_bitCount_0f7a4 9 = .ok (.istore_n 0, 1) := by decide +kernel
theorem dJ6_bitCount_0f7a4_10 : decode cJ6_bitCount_0f7a4 10 = .ok (.iload_n 0, 1) := by decide +kernel
theorem dJ6_bitCount_0f7a4_11 : decode cJ6_bitCount_0f7a4 11 = .ok (.ldc_w 266, 3) := by decide +kernel
theorem dJ6_bitCount_0f7a4_14 : decode cJ6_bitCount_0f7a4 14 = .ok (.iand, 1) := by decide +kernel
theorem dJ6_bitCount_0f7a4_15 : decode cJ6_bitCount_0f7a4 15 = .ok (.iload_n 0, 1) := by decide +kernel
theorem dJ6_bitCount_0f7a4_16 : decode cJ6_bitCount_0f7a4 16 = .ok (.iconst 2, 1) := by decide +kernel
theorem dJ6_bitCount_0f7a4_17 : decode cJ6_bitCount_0f7a4 17 = .ok (.iushr, 1) := by decide +kernel
theorem dJ6_bitCount_0f7a4_18 : decode cJ6_bitCount_0f7a4 18 = .ok (.ldc_w 266, 3) := by decide +kernel
theorem dJ6_bitCount_0f7a4_21 : decode cJ6_bitCount_0f7a4 21 = .ok (.iand, 1) := by decide +kernel
theorem dJ6_bitCount_0f7a4_22 : decode cJ6_bitCount_0f7a4 22 = .ok (.iadd, 1) := by decide +kernel
theorem dJ6_bitCount_0f7a4_23 : decode cJ6_bitCount_0f7a4 23 = .ok (.istore_n 0, 1) := by decide +kernel
theorem dJ6_bitCount_0f7a4_24 : decode cJ6_bitCount_0f7a4 24 = .ok (.iload_n 0, 1) := by decide +kernel
theorem dJ6_bitCount_0f7a4_25 : decode cJ6_bitCount_0f7a4 25 = .ok (.iload_n 0, 1) := by decide +kernel
theorem dJ6_bitCount_0f7a4_26 : decode cJ6_bitCount_0f7a4 26 = .ok (.iconst 4, 1) := by decide +kernel
theorem dJ6_bitCount_0f7a4_27 : decode cJ6_bitCount_0f7a4 27 = .ok (.iushr, 1) := by decide +kernel
theorem dJ6_bitCount_0f7a4_28 : decode cJ6_bitCount_0f7a4 28 = .ok (.iadd, 1) := by decide +kernel
theorem dJ6_bitCount_0f7a4_29 : decode cJ6_bitCount_0f7a4 29 = .ok (.ldc_w 267, 3) := by decide +kernel
theorem dJ6_bitCount_0f7a4_32 : decode cJ6_bitCount_0f7a4 32 = .ok (.iand, 1) := by decide +kernel
theorem dJ6_bitCount_0f7a4_33 : decode cJ6_bitCount_0f7a4 33 = .ok (.istore_n 0, 1) := by decide +kernel
theorem dJ6_bitCount_0f7a4_34 : decode cJ6_bitCount_0f7a4 34 = .ok (.iload_n 0, 1) := by decide +kernel
theorem dJ6_bitCount_0f7a4_35 : decode cJ6_bitCount_0f7a4 35 = .ok (.iload_n 0, 1) := by decide +kernel
theorem dJ6_bitCount_0f7a4_36 : decode cJ6_bitCount_0f7a4 36 = .ok (.bipush 8, 2) := by decide +kernel
theorem dJ6_bitCount_0f7a4_38 : decode cJ6_bitCount_0f7a4 38 = .ok (.iushr, 1) := by decide +kernel
theorem dJ6_bitCount_0f7a4_39 : decode cJ6_bitCount_0f7a4 39 = .ok (.iadd, 1) := by decide +kernel
theorem dJ6_bitCount_0f7a4_40 : decode cJ6_bitCount_0f7a4 40 = .ok (.istore_n 0, 1) := by decide +kernel
theorem dJ6_bitCount_0f7a4_41 : decode cJ6_bitCount_0f7a4 41 = .ok (.iload_n 0, 1) := by decide +kernel
theorem dJ6_bitCount_0f7a4_42 : decode cJ6_bitCount_0f7a4 42 = .ok (.iload_n 0, 1) := by decide +kernel
theorem dJ6_bitCount_0f7a4_43 : decode cJ6_bitCount_0f7a4 43 = .ok (.bipush 16, 2) := by decide +kernel
theorem dJ6_bitCount_0f7a4_45 : decode cJ6_bitCount_0f7a4 45 = .ok (.iushr, 1) := by decide +kernel
theorem dJ6_bitCount_0f7a4_46 : decode cJ6_bitCount_0f7a4 46 = .ok (.iadd, 1) := by decide +kernel
theorem dJ6_bitCount_0f7a4_47 : decode cJ6_bitCount_0f7a4 47 = .ok (.istore_n 0, 1) := by decide +kernel
theorem dJ6_bitCount_0f7a4_48 : decode cJ6_bitCount_0f7a4 48 = .ok (.iload_n 0, 1) := by decide +kernel
theorem dJ6_bitCount_0f7a4_49 : decode cJ6_bitCount_0f7a4 49 = .ok (.bipush 63, 2) := by decide +kernel
theorem dJ6_bitCount_0f7a4_51 : decode cJ6_bitCount_0f7a4 51 = .ok (.iand, 1) := by decide +kernel
theorem dJ6_bitCount_0f7a4_52 : decode cJ6_bitCount_0f7a4 52 = .ok (.ireturn, 1) := by decide +kernel
def m_J6_bitCount_0f7a4 (a1 : Int32) : Int32 :=
  zlet (((a1 - ((zushr a1 1) &&& 1431655765)) &&& 858993459) + ((zushr (a1 - ((zushr a1 1) &&& 1431655765)) 2) &&& 858993459)) (fun x1 => zlet (((x1 + (zushr x1 4)) &&& 252645135) + (zushr ((x1 + (zushr x1 4)) &&& 252645135) 8)) (fun x3 => ((x3 + (zushr x3 16)) &&& 63)))
set_option maxHeartbeats 4000000 in
set_option maxRecDepth 100000 in
theorem c_J6_bitCount_0f7a4 (a1 : Int32)   (u : zM) (r : Int32) (h : m_J6_bitCount_0f7a4 a1 = r) : zCt 1 yJ6_bitCount_0f7a4 cJ6_bitCount_0f7a4 1 (some .int) (fun E => [.int a1]) u (fun _ => some (.int r)) u := by
  refine zCt.of (by decide +kernel) (fun E => Nat.le_of_ble_eq_true rfl) (fun X hX hR => ?_)
  have hX : zGood X RJ6 cJ6_bitCount_0f7a4 1 1 := hX
  show zG X u 0 [(0, .int a1)] []
  unfold m_J6_bitCount_0f7a4 at h
  refine r_iload_n hX dJ6_bitCount_0f7a4_0 0 rfl rfl ?_
  refine r_iload_n hX dJ6_bitCount_0f7a4_1 0 rfl rfl ?_
  refine r_iconst (v := 1) hX dJ6_bitCount_0f7a4_2 (by decide) ?_
  refine r_iushr hX dJ6_bitCount_0f7a4_3 ?_
  refine r_ldcw (v := 1431655765) hX dJ6_bitCount_0f7a4_4 (zT_in 545 (by decide +kernel) rfl) ?_
  refine r_iand hX dJ6_bitCount_0f7a4_7 ?_
  refine r_isub hX dJ6_bitCount_0f7a4_8 ?_
  refine r_istore_n (y := (a1 - ((zushr a1 1) &&& 1431655765))) (L' := [(0, .int (a1 - ((zushr a1 1) &&& 1431655765)))]) hX dJ6_bitCount_0f7a4_9 rfl (by decide) rfl rfl ?_
  refine r_iload_n hX dJ6_bitCount_0f7a4_10 0 rfl rfl ?_
  refine r_ldcw (v := 858993459) hX dJ6_bitCount_0f7a4_11 (zT_in 546 (by decide +kernel) rfl) ?_
  refine r_iand hX dJ6_bitCount_0f7a4_14 ?_
  refine r_iload_n hX dJ6_bitCount_0f7a4_15 0 rfl rfl ?_
  refine r_iconst (v := 2) hX dJ6_bitCount_0f7a4_16 (by decide) ?_
  refine r_iushr hX dJ6_bitCount_0f7a4_17 ?_
  refine r_ldcw (v := 858993459) hX dJ6_bitCount_0f7a4_18 (zT_in 546 (by decide +kernel) rfl) ?_
  refine r_iand hX dJ6_bitCount_0f7a4_21 ?_
  refine r_iadd hX dJ6_bitCount_0f7a4_22 ?_
  obtain ⟨x1, e2, h⟩ := zlet_elim h
  refine r_istore_n (y := x1) (L' := [(0, .int x1)]) hX dJ6_bitCount_0f7a4_23 rfl (by decide) e2.symm rfl ?_
  refine r_iload_n hX dJ6_bitCount_0f7a4_24 0 rfl rfl ?_
  refine r_iload_n hX dJ6_bitCount_0f7a4_25 0 rfl rfl ?_
  refine r_iconst (v := 4) hX dJ6_bitCount_0f7a4_26 (by decide) ?_
  refine r_iushr hX dJ6_bitCount_0f7a4_27 ?_
  refine r_iadd hX dJ6_bitCount_0f7a4_28 ?_
  refine r_ldcw (v := 252645135) hX dJ6_bitCount_0f7a4_29 (zT_in 547 (by decide +kernel) rfl) ?_
  refine r_iand hX dJ6_bitCount_0f7a4_32 ?_
  refine r_istore_n (y := ((x1 + (zushr x1 4)) &&& 252645135)) (L' := [(0, .int ((x1 + (zushr x1 4)) &&& 252645135))]) hX dJ6_bitCount_0f7a4_33 rfl (by decide) rfl rfl ?_
  refine r_iload_n hX dJ6_bitCount_0f7a4_34 0 rfl rfl ?_
  refine r_iload_n hX dJ6_bitCount_0f7a4_35 0 rfl rfl ?_
  refine r_bipush (v := 8) hX dJ6_bitCount_0f7a4_36 (by decide) ?_
  refine r_iushr hX dJ6_bitCount_0f7a4_38 ?_
  refine r_iadd hX dJ6_bitCount_0f7a4_39 ?_
  obtain ⟨x3, e4, h⟩ := zlet_elim h
  refine r_istore_n (y := x3) (L' := [(0, .int x3)]) hX dJ6_bitCount_0f7a4_40 rfl (by decide) e4.symm rfl ?_
  refine r_iload_n hX dJ6_bitCount_0f7a4_41 0 rfl rfl ?_
  refine r_iload_n hX dJ6_bitCount_0f7a4_42 0 rfl rfl ?_
  refine r_bipush (v := 16) hX dJ6_bitCount_0f7a4_43 (by decide) ?_
  refine r_iushr hX dJ6_bitCount_0f7a4_45 ?_
  refine r_iadd hX dJ6_bitCount_0f7a4_46 ?_
  refine r_istore_n (y := (x3 + (zushr x3 16))) (L' := [(0, .int (x3 + (zushr x3 16)))]) hX dJ6_bitCount_0f7a4_47 rfl (by decide) rfl rfl ?_
  refine r_iload_n hX dJ6_bitCount_0f7a4_48 0 rfl rfl ?_
  refine r_bipush (v := 63) hX dJ6_bitCount_0f7a4_49 (by decide) ?_
  refine r_iand hX dJ6_bitCount_0f7a4_51 ?_
  obtain rfl := h
  exact r_iret hX hR dJ6_bitCount_0f7a4_52
theorem dX5_fittingBy_0 : decode cX5_fittingBy 0 = .ok (.aload_n 0, 1) := by decide +kernel
theorem dX5_fittingBy_1 : decode cX5_fittingBy 1 = .ok (.getfield 22, 3) := by decide +kernel
theorem dX5_fittingBy_4 : decode cX5_fittingBy 4 = .ok (.iload_n 2, 1) := by decide +kernel
theorem dX5_fittingBy_5 : decode cX5_fittingBy 5 = .ok (.iload_n 1, 1) := by decide +kernel
theorem dX5_fittingBy_6 : decode cX5_fittingBy 6 = .ok (.invokevirtual 219, 3) := by decide +kernel
theorem dX5_fittingBy_9 : decode cX5_fittingBy 9 = .ok (.ifCond .eq 21, 3) := by decide +kernel
theorem dX5_fittingBy_12 : decode cX5_fittingBy 12 = .ok (.aload_n 0, 1) := by decide +kernel
theorem dX5_fittingBy_13 : decode cX5_fittingBy 13 = .ok (.getfield 22, 3) := by decide +kernel
theorem dX5_fittingBy_16 : decode cX5_fittingBy 16 = .ok (.aload_n 0, 1) := by decide +kernel
theorem dX5_fittingBy_17 : decode cX5_fittingBy 17 = .ok (.getfield 10, 3) := by decide +kernel
theorem dX5_fittingBy_20 : decode cX5_fittingBy 20 = .ok (.iload_n 2, 1) := by decide +kernel
theorem dX5_fittingBy_21 : decode cX5_fittingBy 21 = .ok (.invokevirtual 149, 3) := by decide +kernel
theorem dX5_fittingBy_24 : decode cX5_fittingBy 24 = .ok (.invokestatic 163, 3) := by decide +kernel
theorem dX5_fittingBy_27 : decode cX5_fittingBy 27 = .ok (.goto 4, 3) := by decide +kernel
theorem dX5_fittingBy_30 : decode cX5_fittingBy 30 = .ok (.iconst 0, 1) := by decide +kernel
theorem dX5_fittingBy_31 : decode cX5_fittingBy 31 = .ok (.ireturn, 1) := by decide +kernel
def m_X5_fittingBy (a1 : Int32) (a2 : Int32) (u : zM) : Option (Int32 × zM) :=
  zbind2 (m_X2_cutAll a2 a1 u) (fun x1 u2 => (if x1 = 0 then
some (0, u2)
else
zbind (m_X2_fitting a2 u2) (fun x5 => some ((m_J6_bitCount_0f7a4 x5), u2))))
set_option maxHeartbeats 4000000 in
set_option maxRecDepth 100000 in
theorem c_X5_fittingBy (a1 : Int32) (a2 : Int32)   (u : zM) (r : Int32) (u' : zM) (h : m_X5_fittingBy a1 a2 u = some (r, u')) : zCt 6 yX5_fittingBy cX5_fittingBy 3 (some .int) (fun E => [.ref (zad E 0), .int a1, .int a2]) u (fun _ => some (.int r)) u' := by
  refine zCt.of (by decide +kernel) (fun E => Nat.le_of_ble_eq_true rfl) (fun X hX hR => ?_)
  have hX : zGood X RX5 cX5_fittingBy 3 6 := hX
  show zG X u 0 [(0, .ref (zad X.1 0)), (1, .int a1), (2, .int a2)] []
  unfold m_X5_fittingBy at h
  refine r_aload_n hX dX5_fittingBy_0 0 rfl rfl ?_
  refine r_getR hX dX5_fittingBy_1 f_RX5_22 zr_0_2 ?_
  refine r_iload_n hX dX5_fittingBy_4 2 rfl rfl ?_
  refine r_iload_n hX dX5_fittingBy_5 1 rfl rfl ?_
  obtain ⟨x1, u2, e3, h⟩ := zbind2_elim h
  refine r_callV (As := [.int a2, .int a1]) (rest := []) (st1 := [.int x1]) hX dX5_fittingBy_6 lv_RX5_219 (c_X2_cutAll a2 a1  u _ _ e3) (by decide) rfl rfl (zRecv.of (q := 15) (ci := 2) rfl rfl) rfl (Nat.le_of_ble_eq_true rfl) rfl ?_
  refine r_if_eq (tgt := 30) hX dX5_fittingBy_9 (by decide) (fun c4 => ?_) (fun c4 => ?_)
  · have h := (if_pos c4).symm.trans h
    refine r_iconst (v := 0) hX dX5_fittingBy_30 (by decide) ?_
    obtain ⟨rfl, rfl⟩ := zinj2 (Option.some.inj h)
    exact r_iret hX hR dX5_fittingBy_31
  · have h := (if_neg c4).symm.trans h
    refine r_aload_n hX dX5_fittingBy_12 0 rfl rfl ?_
    refine r_getR hX dX5_fittingBy_13 f_RX5_22 zr_0_2 ?_
    refine r_aload_n hX dX5_fittingBy_16 0 rfl rfl ?_
    refine r_getR hX dX5_fittingBy_17 f_RX5_10 zr_0_0 ?_
    refine r_iload_n hX dX5_fittingBy_20 2 rfl rfl ?_
    obtain ⟨x5, e6, h⟩ := zbind_elim h
    refine r_callV (As := [.ref (zad X.1 1), .int a2]) (rest := []) (st1 := [.int x5]) hX dX5_fittingBy_21 lv_RX5_149 (c_X2_fitting a2  u2 _ e6) (by decide) rfl rfl (zRecv.of (q := 15) (ci := 2) rfl rfl) rfl (Nat.le_of_ble_eq_true rfl) rfl ?_
    refine r_callS (As := [.int x5]) (rest := []) (st1 := [.int (m_J6_bitCount_0f7a4 x5)]) hX dX5_fittingBy_24 ls_RX5_163 (c_J6_bitCount_0f7a4 x5  u2 _ rfl) (by decide) rfl rfl rfl (Nat.le_of_ble_eq_true rfl) rfl ?_
    refine r_goto (tgt := 31) hX dX5_fittingBy_27 (by decide) ?_
    obtain ⟨rfl, rfl⟩ := zinj2 (Option.some.inj h)
    exact r_iret hX hR dX5_fittingBy_31
theorem dX5_fittingIfSent_0 : decode cX5_fittingIfSent 0 = .ok (.aload_n 0, 1) := by decide +kernel
theorem dX5_fittingIfSent_1 : decode cX5_fittingIfSent 1 = .ok (.aload_n 0, 1) := by decide +kernel
theorem dX5_fittingIfSent_2 : decode cX5_fittingIfSent 2 = .ok (.getfield 10, 3) := by decide +kernel
theorem dX5_fittingIfSent_5 : decode cX5_fittingIfSent 5 = .ok (.getfield 99, 3) := by decide +kernel
theorem dX5_fittingIfSent_8 : decode cX5_fittingIfSent 8 = .ok (.aload_n 0, 1) := by decide +kernel
theorem dX5_fittingIfSent_9 : decode cX5_fittingIfSent 9 = .ok (.getfield 10, 3) := by decide +kernel
theorem dX5_fittingIfSent_12 : decode cX5_fittingIfSent 12 = .ok (.getfield 96, 3) := by decide +kernel
theorem dX5_fittingIfSent_15 : decode cX5_fittingIfSent 15 = .ok (.iload_n 1, 1) := by decide +kernel
theorem dX5_fittingIfSent_16 : decode cX5_fittingIfSent 16 = .ok (.iconst (-1), 1) := by decide +kernel
theorem dX5_fittingIfSent_17 : decode cX5_fittingIfSent 17 = .ok (.ixor, 1) := by decide +kernel
theorem dX5_fittingIfSent_18 : decode cX5_fittingIfSent 18 = .ok (.iand, 1) := by decide +kernel
theorem dX5_fittingIfSent_19 : decode cX5_fittingIfSent 19 = .ok (.invokevirtual 168, 3) := by decide +kernel
theorem dX5_fittingIfSent_22 : decode cX5_fittingIfSent 22 = .ok (.ireturn, 1) := by decide +kernel
def m_X5_fittingIfSent (a1 : Int32) (u : zM) : Option (Int32 × zM) :=
  zbind2 (m_X5_fittingBy (u 1 8) ((u 1 7) &&& (a1 ^^^ (-1))) u) (fun x1 u2 => some (x1, u2))
set_option maxHeartbeats 4000000 in
set_option maxRecDepth 100000 in
theorem c_X5_fittingIfSent (a1 : Int32)   (u : zM) (r : Int32) (u' : zM) (h : m_X5_fittingIfSent a1 u = some (r, u')) : zCt 7 yX5_fittingIfSent cX5_fittingIfSent 2 (some .int) (fun E => [.ref (zad E 0), .int a1]) u (fun _ => some (.int r)) u' := by
  refine zCt.of (by decide +kernel) (fun E => Nat.le_of_ble_eq_true rfl) (fun X hX hR => ?_)
  have hX : zGood X RX5 cX5_fittingIfSent 2 7 := hX
  show zG X u 0 [(0, .ref (zad X.1 0)), (1, .int a1)] []
  unfold m_X5_fittingIfSent at h
  refine r_aload_n hX dX5_fittingIfSent_0 0 rfl rfl ?_
  refine r_aload_n hX dX5_fittingIfSent_1 0 rfl rfl ?_
  refine r_getR hX dX5_fittingIfSent_2 f_RX5_10 zr_0_0 ?_
  refine r_getI hX dX5_fittingIfSent_5 f_RX5_99 zi_1_8 ?_
  refine r_aload_n hX dX5_fittingIfSent_8 0 rfl rfl ?_
  refine r_getR hX dX5_fittingIfSent_9 f_RX5_10 zr_0_0 ?_
  refine r_getI hX dX5_fittingIfSent_12 f_RX5_96 zi_1_7 ?_
  refine r_iload_n hX dX5_fittingIfSent_15 1 rfl rfl ?_
  refine r_iconst (v := (-1)) hX dX5_fittingIfSent_16 (by decide) ?_
  refine r_ixor hX dX5_fittingIfSent_17 ?_
  refine r_iand hX dX5_fittingIfSent_18 ?_
  obtain ⟨x1, u2, e3, h⟩ := zbind2_elim h
  refine r_callV (As := [.int (u 1 8), .int ((u 1 7) &&& (a1 ^^^ (-1)))]) (rest := []) (st1 := [.int x1]) hX dX5_fittingIfSent_19 lv_RX5_168 (c_X5_fittingBy (u 1 8) ((u 1 7) &&& (a1 ^^^ (-1)))  u _ _ e3) (by decide) rfl rfl (zRecv.of (q := 0) (ci := 5) rfl rfl) rfl (Nat.le_of_ble_eq_true rfl) rfl ?_
  obtain ⟨rfl, rfl⟩ := zinj2 (Option.some.inj h)
  exact r_iret hX hR dX5_fittingIfSent_22
