/-! MODELS AND CONTRACTS, by program (wip/whole/gen_all.py): X2_farOf, X2_costOf, X5_cost, X2_fitting, X5_fits, X5_costs, X5_fines, X5_pins, X5_worst -/
theorem dX2_farOf_0 : decode cX2_farOf 0 = .ok (.iconst 0, 1) := by decide +kernel
theorem dX2_farOf_1 : decode cX2_farOf 1 = .ok (.istore_n 3, 1) := by decide +kernel
theorem dX2_farOf_2 : decode cX2_farOf 2 = .ok (.iconst 0, 1) := by decide +kernel
theorem dX2_farOf_3 : decode cX2_farOf 3 = .ok (.istore 4, 2) := by decide +kernel
theorem dX2_farOf_5 : decode cX2_farOf 5 = .ok (.iload 4, 2) := by decide +kernel
theorem dX2_farOf_7 : decode cX2_farOf 7 = .ok (.iconst 3, 1) := by decide +kernel
theorem dX2_farOf_8 : decode cX2_farOf 8 = .ok (.if_icmp .ge 30, 3) := by decide +kernel
theorem dX2_farOf_11 : decode cX2_farOf 11 = .ok (.iload_n 3, 1) := by decide +kernel
theorem dX2_farOf_12 : decode cX2_farOf 12 = .ok (.aload_n 1, 1) := by decide +kernel
theorem dX2_farOf_13 : decode cX2_farOf 13 = .ok (.iload_n 2, 1) := by decide +kernel
theorem dX2_farOf_14 : decode cX2_farOf 14 = .ok (.iload 4, 2) := by decide +kernel
theorem dX2_farOf_16 : decode cX2_farOf 16 = .ok (.invokevirtual 68, 3) := by decide +kernel
theorem dX2_farOf_19 : decode cX2_farOf 19 = .ok (.aload_n 0, 1) := by decide +kernel
theorem dX2_farOf_20 : decode cX2_farOf 20 = .ok (.getfield 21, 3) := by decide +kernel
theorem dX2_farOf_23 : decode cX2_farOf 23 = .ok (.iload 4, 2) := by decide +kernel
theorem dX2_farOf_25 : decode cX2_farOf 25 = .ok (.iaload, 1) := by decide +kernel
theorem dX2_farOf_26 : decode cX2_farOf 26 = .ok (.isub, 1) := by decide +kernel
theorem dX2_farOf_27 : decode cX2_farOf 27 = .ok (.invokestatic 71, 3) := by decide +kernel
theorem dX2_farOf_30 : decode cX2_farOf 30 = .ok (.iadd, 1) := by decide +kernel
theorem dX2_farOf_31 : decode cX2_farOf 31 = .ok (.istore_n 3, 1) := by decide +kernel
theorem dX2_farOf_32 : decode cX2_farOf 32 = .ok (.iinc 4 1, 3) := by decide +kernel
theorem dX2_farOf_35 : decode cX2_farOf 35 = .ok (.goto (-30), 3) := by decide +kernel
theorem dX2_farOf_38 : decode cX2_farOf 38 = .ok (.iload_n 3, 1) := by decide +kernel
theorem dX2_farOf_39 : decode cX2_farOf 39 = .ok (.ireturn, 1) := by decide +kernel
def m_X2_farOf_b0 (a1 : Int32) (u : zM) (x1 : Int32) (x2 : Int32) : Option ((Int32 × Int32) ⊕ (Int32)) :=
  (if 3 ≤ x2 then
some (.inr x1)
else
zbind (m_X4_inchesOf a1 x2 u) (fun x6 => zbind (zld u 19 3 x2) (fun x8 => some (.inl ((x1 + (zabs (x6 - x8))), (x2 + 1))))))
def m_X2_farOf (a1 : Int32) (u : zM) : Option (Int32) :=
  zbind (zit zF (fun s : Int32 × Int32 => m_X2_farOf_b0 a1 u s.1 s.2) (0, 0)) (fun x3 =>
some x3)
set_option maxHeartbeats 4000000 in
set_option maxRecDepth 100000 in
theorem c_X2_farOf (a1 : Int32)   (u : zM) (r : Int32) (h : m_X2_farOf a1 u = some r) : zCt 2 yX2_farOf cX2_farOf 5 (some .int) (fun E => [.ref (zad E 15), .ref (zad E 1), .int a1]) u (fun _ => some (.int r)) u := by
  refine zCt.of (by decide +kernel) (fun E => Nat.le_of_ble_eq_true rfl) (fun X hX hR => ?_)
  have hX : zGood X RX2 cX2_farOf 5 2 := hX
  show zG X u 0 [(0, .ref (zad X.1 15)), (1, .ref (zad X.1 1)), (2, .int a1)] []
  unfold m_X2_farOf at h
  refine r_iconst (v := 0) hX dX2_farOf_0 (by decide) ?_
  refine r_istore_n (y := 0) (L' := [(3, .int 0), (0, .ref (zad X.1 15)), (1, .ref (zad X.1 1)), (2, .int a1)]) hX dX2_farOf_1 rfl (by decide) rfl rfl ?_
  refine r_iconst (v := 0) hX dX2_farOf_2 (by decide) ?_
  refine r_istore (y := 0) (L' := [(4, .int 0), (3, .int 0), (0, .ref (zad X.1 15)), (1, .ref (zad X.1 1)), (2, .int a1)]) hX dX2_farOf_3 (by decide) rfl rfl ?_
  refine r_sub [2, 3, 4, 1, 0] (L' := [(0, .ref (zad X.1 15)), (1, .ref (zad X.1 1)), (2, .int a1), (3, .int 0), (4, .int 0)]) rfl ?_
  obtain ⟨x3, h4, h⟩ := zbind_elim h
  have Jh4 : zG X u 38 [(3, .int x3)] [] := by
      refine r_iload_n hX dX2_farOf_38 0 rfl rfl ?_
      obtain rfl := Option.some.inj h
      exact r_iret hX hR dX2_farOf_39
  clear h
  refine zit_walk (P := fun s0 : Int32 × Int32 => zG X u 5 [(0, .ref (zad X.1 15)), (1, .ref (zad X.1 1)), (2, .int a1), (3, .int (s0.1)), (4, .int (s0.2))] []) ?_ zF _ h4
  clear h4
  intro s0 y0 h0b hin0 hout0
  obtain ⟨x1, x2⟩ := s0
  have h0b : m_X2_farOf_b0 a1 u x1 x2 = some y0 := h0b
  unfold m_X2_farOf_b0 at h0b
  show zG X u 5 [(0, .ref (zad X.1 15)), (1, .ref (zad X.1 1)), (2, .int a1), (3, .int x1), (4, .int x2)] []
  refine r_iload hX dX2_farOf_5 4 rfl ?_
  refine r_iconst (v := 3) hX dX2_farOf_7 (by decide) ?_
  refine r_icmp_ge (tgt := 38) hX dX2_farOf_8 (by decide) (fun c5 => ?_) (fun c5 => ?_)
  · have h0b := (if_pos c5).symm.trans h0b
    refine r_sub [3] (L' := [(3, .int x1)]) rfl ?_
    have h0b := hout0 _ (Option.some.inj h0b).symm
    obtain rfl := h0b
    exact Jh4
  · have h0b := (if_neg c5).symm.trans h0b
    refine r_iload_n hX dX2_farOf_11 3 rfl rfl ?_
    refine r_aload_n hX dX2_farOf_12 1 rfl rfl ?_
    refine r_iload_n hX dX2_farOf_13 2 rfl rfl ?_
    refine r_iload hX dX2_farOf_14 4 rfl ?_
    obtain ⟨x6, e7, h0b⟩ := zbind_elim h0b
    refine r_callV (As := [.int a1, .int x2]) (rest := [.int x1]) (st1 := [.int x6, .int x1]) hX dX2_farOf_16 lv_RX2_68 (c_X4_inchesOf a1 x2  u _ e7) (by decide) rfl rfl (zRecv.of (q := 1) (ci := 4) rfl rfl) rfl (Nat.le_of_ble_eq_true rfl) rfl ?_
    refine r_aload_n hX dX2_farOf_19 0 rfl rfl ?_
    refine r_getR hX dX2_farOf_20 f_RX2_21 zr_15_3 ?_
    refine r_iload hX dX2_farOf_23 4 rfl ?_
    obtain ⟨x8, e9, h0b⟩ := zbind_elim h0b
    refine r_iald hX dX2_farOf_25 rfl e9 ?_
    refine r_isub hX dX2_farOf_26 ?_
    refine r_abs hX dX2_farOf_27 lm_RX2_71 (by decide) (Nat.le_of_ble_eq_true rfl) ?_
    refine r_iadd hX dX2_farOf_30 ?_
    refine r_istore_n (y := (x1 + (zabs (x6 - x8)))) (L' := [(3, .int (x1 + (zabs (x6 - x8)))), (0, .ref (zad X.1 15)), (1, .ref (zad X.1 1)), (2, .int a1), (4, .int x2)]) hX dX2_farOf_31 rfl (by decide) rfl rfl ?_
    refine r_iinc (v := (x2 + 1)) (L' := [(4, .int (x2 + 1)), (3, .int (x1 + (zabs (x6 - x8)))), (0, .ref (zad X.1 15)), (1, .ref (zad X.1 1)), (2, .int a1)]) hX dX2_farOf_32 (by decide) 4 rfl rfl rfl ?_
    refine r_goto (tgt := 5) hX dX2_farOf_35 (by decide) ?_
    refine r_sub [2, 3, 4, 1, 0] (L' := [(0, .ref (zad X.1 15)), (1, .ref (zad X.1 1)), (2, .int a1), (3, .int (x1 + (zabs (x6 - x8)))), (4, .int (x2 + 1))]) rfl ?_
    exact hin0 _ (Option.some.inj h0b).symm
theorem dX2_costOf_0 : decode cX2_costOf 0 = .ok (.iconst 0, 1) := by decide +kernel
theorem dX2_costOf_1 : decode cX2_costOf 1 = .ok (.aload_n 0, 1) := by decide +kernel
theorem dX2_costOf_2 : decode cX2_costOf 2 = .ok (.aload_n 1, 1) := by decide +kernel
theorem dX2_costOf_3 : decode cX2_costOf 3 = .ok (.iload_n 2, 1) := by decide +kernel
theorem dX2_costOf_4 : decode cX2_costOf 4 = .ok (.invokevirtual 76, 3) := by decide +kernel
theorem dX2_costOf_7 : decode cX2_costOf 7 = .ok (.aload_n 1, 1) := by decide +kernel
theorem dX2_costOf_8 : decode cX2_costOf 8 = .ok (.getfield 80, 3) := by decide +kernel
theorem dX2_costOf_11 : decode cX2_costOf 11 = .ok (.iload_n 2, 1) := by decide +kernel
theorem dX2_costOf_12 : decode cX2_costOf 12 = .ok (.iaload, 1) := by decide +kernel
theorem dX2_costOf_13 : decode cX2_costOf 13 = .ok (.isub, 1) := by decide +kernel
theorem dX2_costOf_14 : decode cX2_costOf 14 = .ok (.invokestatic 83, 3) := by decide +kernel
theorem dX2_costOf_17 : decode cX2_costOf 17 = .ok (.ireturn, 1) := by decide +kernel
def m_X2_costOf (a1 : Int32) (u : zM) : Option (Int32) :=
  zbind (m_X2_farOf a1 u) (fun x1 => zbind (zld u 5 12 a1) (fun x3 => some (zmax 0 (x1 - x3))))
set_option maxHeartbeats 4000000 in
set_option maxRecDepth 100000 in
theorem c_X2_costOf (a1 : Int32)   (u : zM) (r : Int32) (h : m_X2_costOf a1 u = some r) : zCt 3 yX2_costOf cX2_costOf 3 (some .int) (fun E => [.ref (zad E 15), .ref (zad E 1), .int a1]) u (fun _ => some (.int r)) u := by
  refine zCt.of (by decide +kernel) (fun E => Nat.le_of_ble_eq_true rfl) (fun X hX hR => ?_)
  have hX : zGood X RX2 cX2_costOf 3 3 := hX
  show zG X u 0 [(0, .ref (zad X.1 15)), (1, .ref (zad X.1 1)), (2, .int a1)] []
  unfold m_X2_costOf at h
  refine r_iconst (v := 0) hX dX2_costOf_0 (by decide) ?_
  refine r_aload_n hX dX2_costOf_1 0 rfl rfl ?_
  refine r_aload_n hX dX2_costOf_2 1 rfl rfl ?_
  refine r_iload_n hX dX2_costOf_3 2 rfl rfl ?_
  obtain ⟨x1, e2, h⟩ := zbind_elim h
  refine r_callV (As := [.ref (zad X.1 1), .int a1]) (rest := [.int 0]) (st1 := [.int x1, .int 0]) hX dX2_costOf_4 lv_RX2_76 (c_X2_farOf a1  u _ e2) (by decide) rfl rfl (zRecv.of (q := 15) (ci := 2) rfl rfl) rfl (Nat.le_of_ble_eq_true rfl) rfl ?_
  refine r_aload_n hX dX2_costOf_7 1 rfl rfl ?_
  refine r_getR hX dX2_costOf_8 f_RX2_80 zr_1_3 ?_
  refine r_iload_n hX dX2_costOf_11 2 rfl rfl ?_
  obtain ⟨x3, e4, h⟩ := zbind_elim h
  refine r_iald hX dX2_costOf_12 rfl e4 ?_
  refine r_isub hX dX2_costOf_13 ?_
  refine r_max hX dX2_costOf_14 lm_RX2_83 (by decide) (Nat.le_of_ble_eq_true rfl) ?_
  obtain rfl := Option.some.inj h
  exact r_iret hX hR dX2_costOf_17
theorem dX5_cost_0 : decode cX5_cost 0 = .ok (.aload_n 0, 1) := by decide +kernel
theorem dX5_cost_1 : decode cX5_cost 1 = .ok (.iload_n 1, 1) := by decide +kernel
theorem dX5_cost_2 : decode cX5_cost 2 = .ok (.invokevirtual 77, 3) := by decide +kernel
theorem dX5_cost_5 : decode cX5_cost 5 = .ok (.ifCond .ne 9, 3) := by decide +kernel
theorem dX5_cost_8 : decode cX5_cost 8 = .ok (.aload_n 0, 1) := by decide +kernel
theorem dX5_cost_9 : decode cX5_cost 9 = .ok (.iconst 0, 1) := by decide +kernel
theorem dX5_cost_10 : decode cX5_cost 10 = .ok (.invokevirtual 65, 3) := by decide +kernel
theorem dX5_cost_13 : decode cX5_cost 13 = .ok (.ireturn, 1) := by decide +kernel
theorem dX5_cost_14 : decode cX5_cost 14 = .ok (.aload_n 0, 1) := by decide +kernel
theorem dX5_cost_15 : decode cX5_cost 15 = .ok (.invokevirtual 125, 3) := by decide +kernel
theorem dX5_cost_18 : decode cX5_cost 18 = .ok (.ifCond .ne 9, 3) := by decide +kernel
theorem dX5_cost_21 : decode cX5_cost 21 = .ok (.aload_n 0, 1) := by decide +kernel
theorem dX5_cost_22 : decode cX5_cost 22 = .ok (.iconst 3, 1) := by decide +kernel
theorem dX5_cost_23 : decode cX5_cost 23 = .ok (.invokevirtual 65, 3) := by decide +kernel
theorem dX5_cost_26 : decode cX5_cost 26 = .ok (.ireturn, 1) := by decide +kernel
theorem dX5_cost_27 : decode cX5_cost 27 = .ok (.aload_n 0, 1) := by decide +kernel
theorem dX5_cost_28 : decode cX5_cost 28 = .ok (.getfield 22, 3) := by decide +kernel
theorem dX5_cost_31 : decode cX5_cost 31 = .ok (.aload_n 0, 1) := by decide +kernel
theorem dX5_cost_32 : decode cX5_cost 32 = .ok (.getfield 10, 3) := by decide +kernel
theorem dX5_cost_35 : decode cX5_cost 35 = .ok (.iload_n 1, 1) := by decide +kernel
theorem dX5_cost_36 : decode cX5_cost 36 = .ok (.invokevirtual 145, 3) := by decide +kernel
theorem dX5_cost_39 : decode cX5_cost 39 = .ok (.ireturn, 1) := by decide +kernel
def m_X5_cost (a1 : Int32) (u : zM) : Option (Int32 × zM) :=
  (if (m_X5_isBody a1 u) = 0 then
zbind2 (m_X5_finding 0 u) (fun x11 u12 => some (x11, u12))
else
zbind2 (m_X5_cutForAllHere u) (fun x2 u3 => (if x2 = 0 then
zbind2 (m_X5_finding 3 u3) (fun x8 u9 => some (x8, u9))
else
zbind (m_X2_costOf a1 u3) (fun x6 => some (x6, u3)))))
set_option maxHeartbeats 4000000 in
set_option maxRecDepth 100000 in
theorem c_X5_cost (a1 : Int32)   (u : zM) (r : Int32) (u' : zM) (h : m_X5_cost a1 u = some (r, u')) : zCt 7 yX5_cost cX5_cost 2 (some .int) (fun E => [.ref (zad E 0), .int a1]) u (fun _ => some (.int r)) u' := by
  refine zCt.of (by decide +kernel) (fun E => Nat.le_of_ble_eq_true rfl) (fun X hX hR => ?_)
  have hX : zGood X RX5 cX5_cost 2 7 := hX
  show zG X u 0 [(0, .ref (zad X.1 0)), (1, .int a1)] []
  unfold m_X5_cost at h
  refine r_aload_n hX dX5_cost_0 0 rfl rfl ?_
  refine r_iload_n hX dX5_cost_1 1 rfl rfl ?_
  refine r_callV (As := [.int a1]) (rest := []) (st1 := [.int (m_X5_isBody a1 u)]) hX dX5_cost_2 lv_RX5_77 (c_X5_isBody a1  u _ rfl) (by decide) rfl rfl (zRecv.of (q := 0) (ci := 5) rfl rfl) rfl (Nat.le_of_ble_eq_true rfl) rfl ?_
  refine r_if_ne (tgt := 14) hX dX5_cost_5 (by decide) (fun c1 => ?_) (fun c1 => ?_)
  · have h := (if_neg c1).symm.trans h
    refine r_aload_n hX dX5_cost_14 0 rfl rfl ?_
    obtain ⟨x2, u3, e4, h⟩ := zbind2_elim h
    refine r_callV (As := []) (rest := []) (st1 := [.int x2]) hX dX5_cost_15 lv_RX5_125 (c_X5_cutForAllHere   u _ _ e4) (by decide) rfl rfl (zRecv.of (q := 0) (ci := 5) rfl rfl) rfl (Nat.le_of_ble_eq_true rfl) rfl ?_
    refine r_if_ne (tgt := 27) hX dX5_cost_18 (by decide) (fun c5 => ?_) (fun c5 => ?_)
    · have h := (if_neg c5).symm.trans h
      refine r_aload_n hX dX5_cost_27 0 rfl rfl ?_
      refine r_getR hX dX5_cost_28 f_RX5_22 zr_0_2 ?_
      refine r_aload_n hX dX5_cost_31 0 rfl rfl ?_
      refine r_getR hX dX5_cost_32 f_RX5_10 zr_0_0 ?_
      refine r_iload_n hX dX5_cost_35 1 rfl rfl ?_
      obtain ⟨x6, e7, h⟩ := zbind_elim h
      refine r_callV (As := [.ref (zad X.1 1), .int a1]) (rest := []) (st1 := [.int x6]) hX dX5_cost_36 lv_RX5_145 (c_X2_costOf a1  u3 _ e7) (by decide) rfl rfl (zRecv.of (q := 15) (ci := 2) rfl rfl) rfl (Nat.le_of_ble_eq_true rfl) rfl ?_
      obtain ⟨rfl, rfl⟩ := zinj2 (Option.some.inj h)
      exact r_iret hX hR dX5_cost_39
    · have h := (if_pos c5).symm.trans h
      refine r_aload_n hX dX5_cost_21 0 rfl rfl ?_
      refine r_iconst (v := 3) hX dX5_cost_22 (by decide) ?_
      obtain ⟨x8, u9, e10, h⟩ := zbind2_elim h
      refine r_callV (As := [.int 3]) (rest := []) (st1 := [.int x8]) hX dX5_cost_23 lv_RX5_65 (c_X5_finding 3  u3 _ _ e10) (by decide) rfl rfl (zRecv.of (q := 0) (ci := 5) rfl rfl) rfl (Nat.le_of_ble_eq_true rfl) rfl ?_
      obtain ⟨rfl, rfl⟩ := zinj2 (Option.some.inj h)
      exact r_iret hX hR dX5_cost_26
  · have h := (if_pos c1).symm.trans h
    refine r_aload_n hX dX5_cost_8 0 rfl rfl ?_
    refine r_iconst (v := 0) hX dX5_cost_9 (by decide) ?_
    obtain ⟨x11, u12, e13, h⟩ := zbind2_elim h
    refine r_callV (As := [.int 0]) (rest := []) (st1 := [.int x11]) hX dX5_cost_10 lv_RX5_65 (c_X5_finding 0  u _ _ e13) (by decide) rfl rfl (zRecv.of (q := 0) (ci := 5) rfl rfl) rfl (Nat.le_of_ble_eq_true rfl) rfl ?_
    obtain ⟨rfl, rfl⟩ := zinj2 (Option.some.inj h)
    exact r_iret hX hR dX5_cost_13
theorem dX2_fitting_0 : decode cX2_fitting 0 = .ok (.iconst 0, 1) := by decide +kernel
theorem dX2_fitting_1 : decode cX2_fitting 1 = .ok (.istore_n 3, 1) := by decide +kernel
theorem dX2_fitting_2 : decode cX2_fitting 2 = .ok (.iconst 0, 1) := by decide +kernel
theorem dX2_fitting_3 : decode cX2_fitting 3 = .ok (.istore 4, 2) := by decide +kernel
theorem dX2_fitting_5 : decode cX2_fitting 5 = .ok (.iload 4, 2) := by decide +kernel
theorem dX2_fitting_7 : decode cX2_fitting 7 = .ok (.aload_n 0, 1) := by decide +kernel
theorem dX2_fitting_8 : decode cX2_fitting 8 = .ok (.getfield 24, 3) := by decide +kernel
theorem dX2_fitting_11 : decode cX2_fitting 11 = .ok (.if_icmp .ge 39, 3) := by decide +kernel
theorem dX2_fitting_14 : decode cX2_fitting 14 = .ok (.iload_n 2, 1) := by decide +kernel
theorem dX2_fitting_15 : decode cX2_fitting 15 = .ok (.iload 4, 2) := by decide +kernel
theorem dX2_fitting_17 : decode cX2_fitting 17 = .ok (.invokestatic 64, 3) := by decide +kernel
theorem dX2_fitting_20 : decode cX2_fitting 20 = .ok (.ifCond .eq 24, 3) := by decide +kernel
theorem dX2_fitting_23 : decode cX2_fitting 23 = .ok (.aload_n 0, 1) := by decide +kernel
theorem dX2_fitting_24 : decode cX2_fitting 24 = .ok (.aload_n 1, 1) := by decide +kernel
theorem dX2_fitting_25 : decode cX2_fitting 25 = .ok (.iload 4, 2) := by decide +kernel
theorem dX2_fitting_27 : decode cX2_fitting 27 = .ok (.invokevirtual 86, 3) := by decide +kernel
theorem dX2_fitting_30 : decode cX2_fitting 30 = .ok (.aload_n 1, 1) := by decide +kernel
theorem dX2_fitting_31 : decode cX2_fitting 31 = .ok (.getfield 89, 3) := by decide +kernel
theorem dX2_fitting_34 : decode cX2_fitting 34 = .ok (.if_icmp .gt 10, 3) := by decide +kernel
theorem dX2_fitting_37 : decode cX2_fitting 37 = .ok (.iload_n 3, 1) := by decide +kernel
theorem dX2_fitting_38 : decode cX2_fitting 38 = .ok (.iconst 1, 1) := by decide +kernel
theorem dX2_fitting_39 : decode cX2_fitting 39 = .ok (.iload 4, 2) := by decide +kernel
theorem dX2_fitting_41 : decode cX2_fitting 41 = .ok (.ishl, 1) := by decide +kernel
theorem dX2_fitting_42 : decode cX2_fitting 42 = .ok (.ior, 1) := by decide +kernel
theorem dX2_fitting_43 : decode cX2_fitting 43 = .ok (.istore_n 3, 1) := by decide +kernel
theorem dX2_fitting_44 : decode cX2_fitting 44 = .ok (.iinc 4 1, 3) := by decide +kernel
theorem dX2_fitting_47 : decode cX2_fitting 47 = .ok (.goto (-42), 3) := by decide +kernel
theorem dX2_fitting_50 : decode cX2_fitting 50 = .ok (.iload_n 3, 1) := by decide +kernel
theorem dX2_fitting_51 : decode cX2_fitting 51 = .ok (.ireturn, 1) := by decide +kernel
def m_X2_fitting_b0 (u : zM) (a1 : Int32) (x1 : Int32) (x2 : Int32) : Option ((Int32 × Int32) ⊕ (Int32)) :=
  (if (u 15 4) ≤ x2 then
some (.inr x1)
else
(if (m_X5_holds a1 x2) = 0 then
some (.inl (x1, (x2 + 1)))
else
zbind (m_X2_costOf x2 u) (fun x7 => (if (u 1 9) < x7 then
some (.inl (x1, (x2 + 1)))
else
some (.inl ((x1 ||| (zshl 1 x2)), (x2 + 1)))))))
def m_X2_fitting (a1 : Int32) (u : zM) : Option (Int32) :=
  zbind (zit zF (fun s : Int32 × Int32 => m_X2_fitting_b0 u a1 s.1 s.2) (0, 0)) (fun x3 =>
some x3)
set_option maxHeartbeats 4000000 in
set_option maxRecDepth 100000 in
theorem c_X2_fitting (a1 : Int32)   (u : zM) (r : Int32) (h : m_X2_fitting a1 u = some r) : zCt 4 yX2_fitting cX2_fitting 5 (some .int) (fun E => [.ref (zad E 15), .ref (zad E 1), .int a1]) u (fun _ => some (.int r)) u := by
  refine zCt.of (by decide +kernel) (fun E => Nat.le_of_ble_eq_true rfl) (fun X hX hR => ?_)
  have hX : zGood X RX2 cX2_fitting 5 4 := hX
  show zG X u 0 [(0, .ref (zad X.1 15)), (1, .ref (zad X.1 1)), (2, .int a1)] []
  unfold m_X2_fitting at h
  refine r_iconst (v := 0) hX dX2_fitting_0 (by decide) ?_
  refine r_istore_n (y := 0) (L' := [(3, .int 0), (0, .ref (zad X.1 15)), (1, .ref (zad X.1 1)), (2, .int a1)]) hX dX2_fitting_1 rfl (by decide) rfl rfl ?_
  refine r_iconst (v := 0) hX dX2_fitting_2 (by decide) ?_
  refine r_istore (y := 0) (L' := [(4, .int 0), (3, .int 0), (0, .ref (zad X.1 15)), (1, .ref (zad X.1 1)), (2, .int a1)]) hX dX2_fitting_3 (by decide) rfl rfl ?_
  refine r_sub [2, 3, 4, 1, 0] (L' := [(0, .ref (zad X.1 15)), (1, .ref (zad X.1 1)), (2, .int a1), (3, .int 0), (4, .int 0)]) rfl ?_
  obtain ⟨x3, h4, h⟩ := zbind_elim h
  have Jh4 : zG X u 50 [(3, .int x3)] [] := by
      refine r_iload_n hX dX2_fitting_50 0 rfl rfl ?_
      obtain rfl := Option.some.inj h
      exact r_iret hX hR dX2_fitting_51
  clear h
  refine zit_walk (P := fun s0 : Int32 × Int32 => zG X u 5 [(0, .ref (zad X.1 15)), (1, .ref (zad X.1 1)), (2, .int a1), (3, .int (s0.1)), (4, .int (s0.2))] []) ?_ zF _ h4
  clear h4
  intro s0 y0 h0b hin0 hout0
  obtain ⟨x1, x2⟩ := s0
  have h0b : m_X2_fitting_b0 u a1 x1 x2 = some y0 := h0b
  unfold m_X2_fitting_b0 at h0b
  show zG X u 5 [(0, .ref (zad X.1 15)), (1, .ref (zad X.1 1)), (2, .int a1), (3, .int x1), (4, .int x2)] []
  refine r_iload hX dX2_fitting_5 4 rfl ?_
  refine r_aload_n hX dX2_fitting_7 0 rfl rfl ?_
  refine r_getI hX dX2_fitting_8 f_RX2_24 zi_15_4 ?_
  refine r_icmp_ge (tgt := 50) hX dX2_fitting_11 (by decide) (fun c5 => ?_) (fun c5 => ?_)
  · have h0b := (if_pos c5).symm.trans h0b
    refine r_sub [3] (L' := [(3, .int x1)]) rfl ?_
    have h0b := hout0 _ (Option.some.inj h0b).symm
    obtain rfl := h0b
    exact Jh4
  · have h0b := (if_neg c5).symm.trans h0b
    refine r_iload_n hX dX2_fitting_14 2 rfl rfl ?_
    refine r_iload hX dX2_fitting_15 4 rfl ?_
    refine r_callS (As := [.int a1, .int x2]) (rest := []) (st1 := [.int (m_X5_holds a1 x2)]) hX dX2_fitting_17 ls_RX2_64 (c_X5_holds a1 x2  u _ rfl) (by decide) rfl rfl rfl (Nat.le_of_ble_eq_true rfl) rfl ?_
    refine r_if_eq (tgt := 44) hX dX2_fitting_20 (by decide) (fun c6 => ?_) (fun c6 => ?_)
    · have h0b := (if_pos c6).symm.trans h0b
      refine r_iinc (v := (x2 + 1)) (L' := [(4, .int (x2 + 1)), (0, .ref (zad X.1 15)), (1, .ref (zad X.1 1)), (2, .int a1), (3, .int x1)]) hX dX2_fitting_44 (by decide) 4 rfl rfl rfl ?_
      refine r_goto (tgt := 5) hX dX2_fitting_47 (by decide) ?_
      refine r_sub [1, 2, 3, 4, 0] (L' := [(0, .ref (zad X.1 15)), (1, .ref (zad X.1 1)), (2, .int a1), (3, .int x1), (4, .int (x2 + 1))]) rfl ?_
      exact hin0 _ (Option.some.inj h0b).symm
    · have h0b := (if_neg c6).symm.trans h0b
      refine r_aload_n hX dX2_fitting_23 0 rfl rfl ?_
      refine r_aload_n hX dX2_fitting_24 1 rfl rfl ?_
      refine r_iload hX dX2_fitting_25 4 rfl ?_
      obtain ⟨x7, e8, h0b⟩ := zbind_elim h0b
      refine r_callV (As := [.ref (zad X.1 1), .int x2]) (rest := []) (st1 := [.int x7]) hX dX2_fitting_27 lv_RX2_86 (c_X2_costOf x2  u _ e8) (by decide) rfl rfl (zRecv.of (q := 15) (ci := 2) rfl rfl) rfl (Nat.le_of_ble_eq_true rfl) rfl ?_
      refine r_aload_n hX dX2_fitting_30 1 rfl rfl ?_
      refine r_getI hX dX2_fitting_31 f_RX2_89 zi_1_9 ?_
      refine r_icmp_gt (tgt := 44) hX dX2_fitting_34 (by decide) (fun c9 => ?_) (fun c9 => ?_)
      · have h0b := (if_pos c9).symm.trans h0b
        refine r_iinc (v := (x2 + 1)) (L' := [(4, .int (x2 + 1)), (0, .ref (zad X.1 15)), (1, .ref (zad X.1 1)), (2, .int a1), (3, .int x1)]) hX dX2_fitting_44 (by decide) 4 rfl rfl rfl ?_
        refine r_goto (tgt := 5) hX dX2_fitting_47 (by decide) ?_
        refine r_sub [1, 2, 3, 4, 0] (L' := [(0, .ref (zad X.1 15)), (1, .ref (zad X.1 1)), (2, .int a1), (3, .int x1), (4, .int (x2 + 1))]) rfl ?_
        exact hin0 _ (Option.some.inj h0b).symm
      · have h0b := (if_neg c9).symm.trans h0b
        refine r_iload_n hX dX2_fitting_37 3 rfl rfl ?_
        refine r_iconst (v := 1) hX dX2_fitting_38 (by decide) ?_
        refine r_iload hX dX2_fitting_39 4 rfl ?_
        refine r_ishl hX dX2_fitting_41 ?_
        refine r_ior hX dX2_fitting_42 ?_
        refine r_istore_n (y := (x1 ||| (zshl 1 x2))) (L' := [(3, .int (x1 ||| (zshl 1 x2))), (0, .ref (zad X.1 15)), (1, .ref (zad X.1 1)), (2, .int a1), (4, .int x2)]) hX dX2_fitting_43 rfl (by decide) rfl rfl ?_
        refine r_iinc (v := (x2 + 1)) (L' := [(4, .int (x2 + 1)), (3, .int (x1 ||| (zshl 1 x2))), (0, .ref (zad X.1 15)), (1, .ref (zad X.1 1)), (2, .int a1)]) hX dX2_fitting_44 (by decide) 4 rfl rfl rfl ?_
        refine r_goto (tgt := 5) hX dX2_fitting_47 (by decide) ?_
        refine r_sub [2, 3, 4, 1, 0] (L' := [(0, .ref (zad X.1 15)), (1, .ref (zad X.1 1)), (2, .int a1), (3, .int (x1 ||| (zshl 1 x2))), (4, .int (x2 + 1))]) rfl ?_
        exact hin0 _ (Option.some.inj h0b).symm
theorem dX5_fits_0 : decode cX5_fits 0 = .ok (.aload_n 0, 1) := by decide +kernel
theorem dX5_fits_1 : decode cX5_fits 1 = .ok (.invokevirtual 125, 3) := by decide +kernel
theorem dX5_fits_4 : decode cX5_fits 4 = .ok (.ifCond .eq 24, 3) := by decide +kernel
theorem dX5_fits_7 : decode cX5_fits 7 = .ok (.aload_n 0, 1) := by decide +kernel
theorem dX5_fits_8 : decode cX5_fits 8 = .ok (.getfield 22, 3) := by decide +kernel
theorem dX5_fits_11 : decode cX5_fits 11 = .ok (.aload_n 0, 1) := by decide +kernel
theorem dX5_fits_12 : decode cX5_fits 12 = .ok (.getfield 10, 3) := by decide +kernel
theorem dX5_fits_15 : decode cX5_fits 15 = .ok (.aload_n 0, 1) := by decide +kernel
theorem dX5_fits_16 : decode cX5_fits 16 = .ok (.getfield 10, 3) := by decide +kernel
theorem dX5_fits_19 : decode cX5_fits 19 = .ok (.getfield 96, 3) := by decide +kernel
theorem dX5_fits_22 : decode cX5_fits 22 = .ok (.invokevirtual 149, 3) := by decide +kernel
theorem dX5_fits_25 : decode cX5_fits 25 = .ok (.goto 4, 3) := by decide +kernel
theorem dX5_fits_28 : decode cX5_fits 28 = .ok (.iconst 0, 1) := by decide +kernel
theorem dX5_fits_29 : decode cX5_fits 29 = .ok (.ireturn, 1) := by decide +kernel
def m_X5_fits  (u : zM) : Option (Int32 × zM) :=
  zbind2 (m_X5_cutForAllHere u) (fun x1 u2 => (if x1 = 0 then
some (0, u2)
else
zbind (m_X2_fitting (u2 1 7) u2) (fun x5 => some (x5, u2))))
set_option maxHeartbeats 4000000 in
set_option maxRecDepth 100000 in
theorem c_X5_fits    (u : zM) (r : Int32) (u' : zM) (h : m_X5_fits u = some (r, u')) : zCt 7 yX5_fits cX5_fits 1 (some .int) (fun E => [.ref (zad E 0)]) u (fun _ => some (.int r)) u' := by
  refine zCt.of (by decide +kernel) (fun E => Nat.le_of_ble_eq_true rfl) (fun X hX hR => ?_)
  have hX : zGood X RX5 cX5_fits 1 7 := hX
  show zG X u 0 [(0, .ref (zad X.1 0))] []
  unfold m_X5_fits at h
  refine r_aload_n hX dX5_fits_0 0 rfl rfl ?_
  obtain ⟨x1, u2, e3, h⟩ := zbind2_elim h
  refine r_callV (As := []) (rest := []) (st1 := [.int x1]) hX dX5_fits_1 lv_RX5_125 (c_X5_cutForAllHere   u _ _ e3) (by decide) rfl rfl (zRecv.of (q := 0) (ci := 5) rfl rfl) rfl (Nat.le_of_ble_eq_true rfl) rfl ?_
  refine r_if_eq (tgt := 28) hX dX5_fits_4 (by decide) (fun c4 => ?_) (fun c4 => ?_)
  · have h := (if_pos c4).symm.trans h
    refine r_iconst (v := 0) hX dX5_fits_28 (by decide) ?_
    obtain ⟨rfl, rfl⟩ := zinj2 (Option.some.inj h)
    exact r_iret hX hR dX5_fits_29
  · have h := (if_neg c4).symm.trans h
    refine r_aload_n hX dX5_fits_7 0 rfl rfl ?_
    refine r_getR hX dX5_fits_8 f_RX5_22 zr_0_2 ?_
    refine r_aload_n hX dX5_fits_11 0 rfl rfl ?_
    refine r_getR hX dX5_fits_12 f_RX5_10 zr_0_0 ?_
    refine r_aload_n hX dX5_fits_15 0 rfl rfl ?_
    refine r_getR hX dX5_fits_16 f_RX5_10 zr_0_0 ?_
    refine r_getI hX dX5_fits_19 f_RX5_96 zi_1_7 ?_
    obtain ⟨x5, e6, h⟩ := zbind_elim h
    refine r_callV (As := [.ref (zad X.1 1), .int (u2 1 7)]) (rest := []) (st1 := [.int x5]) hX dX5_fits_22 lv_RX5_149 (c_X2_fitting (u2 1 7)  u2 _ e6) (by decide) rfl rfl (zRecv.of (q := 15) (ci := 2) rfl rfl) rfl (Nat.le_of_ble_eq_true rfl) rfl ?_
    refine r_goto (tgt := 29) hX dX5_fits_25 (by decide) ?_
    obtain ⟨rfl, rfl⟩ := zinj2 (Option.some.inj h)
    exact r_iret hX hR dX5_fits_29
theorem dX5_costs_0 : decode cX5_costs 0 = .ok (.iconst 0, 1) := by decide +kernel
theorem dX5_costs_1 : decode cX5_costs 1 = .ok (.istore_n 1, 1) := by decide +kernel
theorem dX5_costs_2 : decode cX5_costs 2 = .ok (.aload_n 0, 1) := by decide +kernel
theorem dX5_costs_3 : decode cX5_costs 3 = .ok (.invokevirtual 125, 3) := by decide +kernel
theorem dX5_costs_6 : decode cX5_costs 6 = .ok (.ifCond .eq 52, 3) := by decide +kernel
theorem dX5_costs_9 : decode cX5_costs 9 = .ok (.iconst 0, 1) := by decide +kernel
theorem dX5_costs_10 : decode cX5_costs 10 = .ok (.istore_n 2, 1) := by decide +kernel
theorem dX5_costs_11 : decode cX5_costs 11 = .ok (.iload_n 2, 1) := by decide +kernel
theorem dX5_costs_12 : decode cX5_costs 12 = .ok (.aload_n 0, 1) := by decide +kernel
theorem dX5_costs_13 : decode cX5_costs 13 = .ok (.getfield 10, 3) := by decide +kernel
theorem dX5_costs_16 : decode cX5_costs 16 = .ok (.getfield 69, 3) := by decide +kernel
theorem dX5_costs_19 : decode cX5_costs 19 = .ok (.if_icmp .ge 39, 3) := by decide +kernel
theorem dX5_costs_22 : decode cX5_costs 22 = .ok (.iload_n 1, 1) := by decide +kernel
theorem dX5_costs_23 : decode cX5_costs 23 = .ok (.aload_n 0, 1) := by decide +kernel
theorem dX5_costs_24 : decode cX5_costs 24 = .ok (.getfield 10, 3) := by decide +kernel
theorem dX5_costs_27 : decode cX5_costs 27 = .ok (.iload_n 2, 1) := by decide +kernel
theorem dX5_costs_28 : decode cX5_costs 28 = .ok (.invokevirtual 108, 3) := by decide +kernel
theorem dX5_costs_31 : decode cX5_costs 31 = .ok (.ifCond .eq 18, 3) := by decide +kernel
theorem dX5_costs_34 : decode cX5_costs 34 = .ok (.aload_n 0, 1) := by decide +kernel
theorem dX5_costs_35 : decode cX5_costs 35 = .ok (.getfield 22, 3) := by decide +kernel
theorem dX5_costs_38 : decode cX5_costs 38 = .ok (.aload_n 0, 1) := by decide +kernel
theorem dX5_costs_39 : decode cX5_costs 39 = .ok (.getfield 10, 3) := by decide +kernel
theorem dX5_costs_42 : decode cX5_costs 42 = .ok (.iload_n 2, 1) := by decide +kernel
theorem dX5_costs_43 : decode cX5_costs 43 = .ok (.invokevirtual 145, 3) := by decide +kernel
theorem dX5_costs_46 : decode cX5_costs 46 = .ok (.goto 4, 3) := by decide +kernel
theorem dX5_costs_49 : decode cX5_costs 49 = .ok (.iconst 0, 1) := by decide +kernel
theorem dX5_costs_50 : decode cX5_costs 50 = .ok (.iadd, 1) := by decide +kernel
theorem dX5_costs_51 : decode cX5_costs 51 = .ok (.istore_n 1, 1) := by decide +kernel
theorem dX5_costs_52 : decode cX5_costs 52 = .ok (.iinc 2 1, 3) := by decide +kernel
theorem dX5_costs_55 : decode cX5_costs 55 = .ok (.goto (-44), 3) := by decide +kernel
theorem dX5_costs_58 : decode cX5_costs 58 = .ok (.iload_n 1, 1) := by decide +kernel
theorem dX5_costs_59 : decode cX5_costs 59 = .ok (.ireturn, 1) := by decide +kernel
def m_X5_costs_b0 (u2 : zM) (x5 : Int32) (x6 : Int32) : Option ((Int32 × Int32) ⊕ (Int32)) :=
  (if (u2 1 6) ≤ x6 then
some (.inr x5)
else
(if (m_X4_isHere x6 u2) = 0 then
some (.inl ((x5 + 0), (x6 + 1)))
else
zbind (m_X2_costOf x6 u2) (fun x11 => some (.inl ((x5 + x11), (x6 + 1))))))
def m_X5_costs  (u : zM) : Option (Int32 × zM) :=
  zbind2 (m_X5_cutForAllHere u) (fun x1 u2 => (if x1 = 0 then
some (0, u2)
else
zbind (zit zF (fun s : Int32 × Int32 => m_X5_costs_b0 u2 s.1 s.2) (0, 0)) (fun x7 =>
some (x7, u2))))
set_option maxHeartbeats 4000000 in
set_option maxRecDepth 100000 in
theorem c_X5_costs    (u : zM) (r : Int32) (u' : zM) (h : m_X5_costs u = some (r, u')) : zCt 7 yX5_costs cX5_costs 3 (some .int) (fun E => [.ref (zad E 0)]) u (fun _ => some (.int r)) u' := by
  refine zCt.of (by decide +kernel) (fun E => Nat.le_of_ble_eq_true rfl) (fun X hX hR => ?_)
  have hX : zGood X RX5 cX5_costs 3 7 := hX
  show zG X u 0 [(0, .ref (zad X.1 0))] []
  unfold m_X5_costs at h
  refine r_iconst (v := 0) hX dX5_costs_0 (by decide) ?_
  refine r_istore_n (y := 0) (L' := [(1, .int 0), (0, .ref (zad X.1 0))]) hX dX5_costs_1 rfl (by decide) rfl rfl ?_
  refine r_aload_n hX dX5_costs_2 1 rfl rfl ?_
  obtain ⟨x1, u2, e3, h⟩ := zbind2_elim h
  refine r_callV (As := []) (rest := []) (st1 := [.int x1]) hX dX5_costs_3 lv_RX5_125 (c_X5_cutForAllHere   u _ _ e3) (by decide) rfl rfl (zRecv.of (q := 0) (ci := 5) rfl rfl) rfl (Nat.le_of_ble_eq_true rfl) rfl ?_
  refine r_if_eq (tgt := 58) hX dX5_costs_6 (by decide) (fun c4 => ?_) (fun c4 => ?_)
  · have h := (if_pos c4).symm.trans h
    refine r_iload_n hX dX5_costs_58 0 rfl rfl ?_
    obtain ⟨rfl, rfl⟩ := zinj2 (Option.some.inj h)
    exact r_iret hX hR dX5_costs_59
  · have h := (if_neg c4).symm.trans h
    refine r_iconst (v := 0) hX dX5_costs_9 (by decide) ?_
    refine r_istore_n (y := 0) (L' := [(2, .int 0), (1, .int 0), (0, .ref (zad X.1 0))]) hX dX5_costs_10 rfl (by decide) rfl rfl ?_
    refine r_sub [2, 1, 0] (L' := [(0, .ref (zad X.1 0)), (1, .int 0), (2, .int 0)]) rfl ?_
    obtain ⟨x7, h8, h⟩ := zbind_elim h
    have Jh8 : zG X u2 58 [(1, .int x7)] [] := by
        refine r_iload_n hX dX5_costs_58 0 rfl rfl ?_
        obtain ⟨rfl, rfl⟩ := zinj2 (Option.some.inj h)
        exact r_iret hX hR dX5_costs_59
    clear h
    refine zit_walk (P := fun s0 : Int32 × Int32 => zG X u2 11 [(0, .ref (zad X.1 0)), (1, .int (s0.1)), (2, .int (s0.2))] []) ?_ zF _ h8
    clear h8
    intro s0 y0 h0b hin0 hout0
    obtain ⟨x5, x6⟩ := s0
    have h0b : m_X5_costs_b0 u2 x5 x6 = some y0 := h0b
    unfold m_X5_costs_b0 at h0b
    show zG X u2 11 [(0, .ref (zad X.1 0)), (1, .int x5), (2, .int x6)] []
    refine r_iload_n hX dX5_costs_11 2 rfl rfl ?_
    refine r_aload_n hX dX5_costs_12 0 rfl rfl ?_
    refine r_getR hX dX5_costs_13 f_RX5_10 zr_0_0 ?_
    refine r_getI hX dX5_costs_16 f_RX5_69 zi_1_6 ?_
    refine r_icmp_ge (tgt := 58) hX dX5_costs_19 (by decide) (fun c9 => ?_) (fun c9 => ?_)
    · have h0b := (if_pos c9).symm.trans h0b
      refine r_sub [1] (L' := [(1, .int x5)]) rfl ?_
      have h0b := hout0 _ (Option.some.inj h0b).symm
      obtain rfl := h0b
      exact Jh8
    · have h0b := (if_neg c9).symm.trans h0b
      refine r_iload_n hX dX5_costs_22 1 rfl rfl ?_
      refine r_aload_n hX dX5_costs_23 0 rfl rfl ?_
      refine r_getR hX dX5_costs_24 f_RX5_10 zr_0_0 ?_
      refine r_iload_n hX dX5_costs_27 2 rfl rfl ?_
      refine r_callV (As := [.int x6]) (rest := [.int x5]) (st1 := [.int (m_X4_isHere x6 u2), .int x5]) hX dX5_costs_28 lv_RX5_108 (c_X4_isHere x6  u2 _ rfl) (by decide) rfl rfl (zRecv.of (q := 1) (ci := 4) rfl rfl) rfl (Nat.le_of_ble_eq_true rfl) rfl ?_
      refine r_if_eq (tgt := 49) hX dX5_costs_31 (by decide) (fun c10 => ?_) (fun c10 => ?_)
      · have h0b := (if_pos c10).symm.trans h0b
        refine r_iconst (v := 0) hX dX5_costs_49 (by decide) ?_
        refine r_iadd hX dX5_costs_50 ?_
        refine r_istore_n (y := (x5 + 0)) (L' := [(1, .int (x5 + 0)), (0, .ref (zad X.1 0)), (2, .int x6)]) hX dX5_costs_51 rfl (by decide) rfl rfl ?_
        refine r_iinc (v := (x6 + 1)) (L' := [(2, .int (x6 + 1)), (1, .int (x5 + 0)), (0, .ref (zad X.1 0))]) hX dX5_costs_52 (by decide) 2 rfl rfl rfl ?_
        refine r_goto (tgt := 11) hX dX5_costs_55 (by decide) ?_
        refine r_sub [2, 1, 0] (L' := [(0, .ref (zad X.1 0)), (1, .int (x5 + 0)), (2, .int (x6 + 1))]) rfl ?_
        exact hin0 _ (Option.some.inj h0b).symm
      · have h0b := (if_neg c10).symm.trans h0b
        refine r_aload_n hX dX5_costs_34 0 rfl rfl ?_
        refine r_getR hX dX5_costs_35 f_RX5_22 zr_0_2 ?_
        refine r_aload_n hX dX5_costs_38 0 rfl rfl ?_
        refine r_getR hX dX5_costs_39 f_RX5_10 zr_0_0 ?_
        refine r_iload_n hX dX5_costs_42 2 rfl rfl ?_
        obtain ⟨x11, e12, h0b⟩ := zbind_elim h0b
        refine r_callV (As := [.ref (zad X.1 1), .int x6]) (rest := [.int x5]) (st1 := [.int x11, .int x5]) hX dX5_costs_43 lv_RX5_145 (c_X2_costOf x6  u2 _ e12) (by decide) rfl rfl (zRecv.of (q := 15) (ci := 2) rfl rfl) rfl (Nat.le_of_ble_eq_true rfl) rfl ?_
        refine r_goto (tgt := 50) hX dX5_costs_46 (by decide) ?_
        refine r_iadd hX dX5_costs_50 ?_
        refine r_istore_n (y := (x5 + x11)) (L' := [(1, .int (x5 + x11)), (0, .ref (zad X.1 0)), (2, .int x6)]) hX dX5_costs_51 rfl (by decide) rfl rfl ?_
        refine r_iinc (v := (x6 + 1)) (L' := [(2, .int (x6 + 1)), (1, .int (x5 + x11)), (0, .ref (zad X.1 0))]) hX dX5_costs_52 (by decide) 2 rfl rfl rfl ?_
        refine r_goto (tgt := 11) hX dX5_costs_55 (by decide) ?_
        refine r_sub [2, 1, 0] (L' := [(0, .ref (zad X.1 0)), (1, .int (x5 + x11)), (2, .int (x6 + 1))]) rfl ?_
        exact hin0 _ (Option.some.inj h0b).symm
theorem dX5_fines_0 : decode cX5_fines 0 = .ok (.iconst 0, 1) := by decide +kernel
theorem dX5_fines_1 : decode cX5_fines 1 = .ok (.istore_n 1, 1) := by decide +kernel
theorem dX5_fines_2 : decode cX5_fines 2 = .ok (.iconst 0, 1) := by decide +kernel
theorem dX5_fines_3 : decode cX5_fines 3 = .ok (.istore_n 2, 1) := by decide +kernel
theorem dX5_fines_4 : decode cX5_fines 4 = .ok (.iload_n 2, 1) := by decide +kernel
theorem dX5_fines_5 : decode cX5_fines 5 = .ok (.aload_n 0, 1) := by decide +kernel
theorem dX5_fines_6 : decode cX5_fines 6 = .ok (.getfield 10, 3) := by decide +kernel
theorem dX5_fines_9 : decode cX5_fines 9 = .ok (.getfield 69, 3) := by decide +kernel
theorem dX5_fines_12 : decode cX5_fines 12 = .ok (.if_icmp .ge 36, 3) := by decide +kernel
theorem dX5_fines_15 : decode cX5_fines 15 = .ok (.iload_n 1, 1) := by decide +kernel
theorem dX5_fines_16 : decode cX5_fines 16 = .ok (.aload_n 0, 1) := by decide +kernel
theorem dX5_fines_17 : decode cX5_fines 17 = .ok (.getfield 10, 3) := by decide +kernel
theorem dX5_fines_20 : decode cX5_fines 20 = .ok (.iload_n 2, 1) := by decide +kernel
theorem dX5_fines_21 : decode cX5_fines 21 = .ok (.invokevirtual 108, 3) := by decide +kernel
theorem dX5_fines_24 : decode cX5_fines 24 = .ok (.ifCond .eq 15, 3) := by decide +kernel
theorem dX5_fines_27 : decode cX5_fines 27 = .ok (.aload_n 0, 1) := by decide +kernel
theorem dX5_fines_28 : decode cX5_fines 28 = .ok (.getfield 10, 3) := by decide +kernel
theorem dX5_fines_31 : decode cX5_fines 31 = .ok (.iload_n 2, 1) := by decide +kernel
theorem dX5_fines_32 : decode cX5_fines 32 = .ok (.iconst 5, 1) := by decide +kernel
theorem dX5_fines_33 : decode cX5_fines 33 = .ok (.invokevirtual 84, 3) := by decide +kernel
theorem dX5_fines_36 : decode cX5_fines 36 = .ok (.goto 4, 3) := by decide +kernel
theorem dX5_fines_39 : decode cX5_fines 39 = .ok (.iconst 0, 1) := by decide +kernel
theorem dX5_fines_40 : decode cX5_fines 40 = .ok (.iadd, 1) := by decide +kernel
theorem dX5_fines_41 : decode cX5_fines 41 = .ok (.istore_n 1, 1) := by decide +kernel
theorem dX5_fines_42 : decode cX5_fines 42 = .ok (.iinc 2 1, 3) := by decide +kernel
theorem dX5_fines_45 : decode cX5_fines 45 = .ok (.goto (-41), 3) := by decide +kernel
theorem dX5_fines_48 : decode cX5_fines 48 = .ok (.iload_n 1, 1) := by decide +kernel
theorem dX5_fines_49 : decode cX5_fines 49 = .ok (.aload_n 0, 1) := by decide +kernel
theorem dX5_fines_50 : decode cX5_fines 50 = .ok (.getfield 10, 3) := by decide +kernel
theorem dX5_fines_53 : decode cX5_fines 53 = .ok (.getfield 105, 3) := by decide +kernel
theorem dX5_fines_56 : decode cX5_fines 56 = .ok (.imul, 1) := by decide +kernel
theorem dX5_fines_57 : decode cX5_fines 57 = .ok (.ireturn, 1) := by decide +kernel
def m_X5_fines_b0 (u : zM) (x1 : Int32) (x2 : Int32) : Option ((Int32 × Int32) ⊕ (Int32)) :=
  (if (u 1 6) ≤ x2 then
some (.inr x1)
else
(if (m_X4_isHere x2 u) = 0 then
some (.inl ((x1 + 0), (x2 + 1)))
else
zbind (m_X4_tell x2 5 u) (fun x7 => some (.inl ((x1 + x7), (x2 + 1))))))
def m_X5_fines  (u : zM) : Option (Int32) :=
  zbind (zit zF (fun s : Int32 × Int32 => m_X5_fines_b0 u s.1 s.2) (0, 0)) (fun x3 =>
some (x3 * (u 1 10)))
set_option maxHeartbeats 4000000 in
set_option maxRecDepth 100000 in
theorem c_X5_fines    (u : zM) (r : Int32) (h : m_X5_fines u = some r) : zCt 6 yX5_fines cX5_fines 3 (some .int) (fun E => [.ref (zad E 0)]) u (fun _ => some (.int r)) u := by
  refine zCt.of (by decide +kernel) (fun E => Nat.le_of_ble_eq_true rfl) (fun X hX hR => ?_)
  have hX : zGood X RX5 cX5_fines 3 6 := hX
  show zG X u 0 [(0, .ref (zad X.1 0))] []
  unfold m_X5_fines at h
  refine r_iconst (v := 0) hX dX5_fines_0 (by decide) ?_
  refine r_istore_n (y := 0) (L' := [(1, .int 0), (0, .ref (zad X.1 0))]) hX dX5_fines_1 rfl (by decide) rfl rfl ?_
  refine r_iconst (v := 0) hX dX5_fines_2 (by decide) ?_
  refine r_istore_n (y := 0) (L' := [(2, .int 0), (1, .int 0), (0, .ref (zad X.1 0))]) hX dX5_fines_3 rfl (by decide) rfl rfl ?_
  refine r_sub [2, 1, 0] (L' := [(0, .ref (zad X.1 0)), (1, .int 0), (2, .int 0)]) rfl ?_
  obtain ⟨x3, h4, h⟩ := zbind_elim h
  have Jh4 : zG X u 48 [(0, .ref (zad X.1 0)), (1, .int x3)] [] := by
      refine r_iload_n hX dX5_fines_48 1 rfl rfl ?_
      refine r_aload_n hX dX5_fines_49 0 rfl rfl ?_
      refine r_getR hX dX5_fines_50 f_RX5_10 zr_0_0 ?_
      refine r_getI hX dX5_fines_53 f_RX5_105 zi_1_10 ?_
      refine r_imul hX dX5_fines_56 ?_
      obtain rfl := Option.some.inj h
      exact r_iret hX hR dX5_fines_57
  clear h
  refine zit_walk (P := fun s0 : Int32 × Int32 => zG X u 4 [(0, .ref (zad X.1 0)), (1, .int (s0.1)), (2, .int (s0.2))] []) ?_ zF _ h4
  clear h4
  intro s0 y0 h0b hin0 hout0
  obtain ⟨x1, x2⟩ := s0
  have h0b : m_X5_fines_b0 u x1 x2 = some y0 := h0b
  unfold m_X5_fines_b0 at h0b
  show zG X u 4 [(0, .ref (zad X.1 0)), (1, .int x1), (2, .int x2)] []
  refine r_iload_n hX dX5_fines_4 2 rfl rfl ?_
  refine r_aload_n hX dX5_fines_5 0 rfl rfl ?_
  refine r_getR hX dX5_fines_6 f_RX5_10 zr_0_0 ?_
  refine r_getI hX dX5_fines_9 f_RX5_69 zi_1_6 ?_
  refine r_icmp_ge (tgt := 48) hX dX5_fines_12 (by decide) (fun c5 => ?_) (fun c5 => ?_)
  · have h0b := (if_pos c5).symm.trans h0b
    refine r_sub [0, 1] (L' := [(0, .ref (zad X.1 0)), (1, .int x1)]) rfl ?_
    have h0b := hout0 _ (Option.some.inj h0b).symm
    obtain rfl := h0b
    exact Jh4
  · have h0b := (if_neg c5).symm.trans h0b
    refine r_iload_n hX dX5_fines_15 1 rfl rfl ?_
    refine r_aload_n hX dX5_fines_16 0 rfl rfl ?_
    refine r_getR hX dX5_fines_17 f_RX5_10 zr_0_0 ?_
    refine r_iload_n hX dX5_fines_20 2 rfl rfl ?_
    refine r_callV (As := [.int x2]) (rest := [.int x1]) (st1 := [.int (m_X4_isHere x2 u), .int x1]) hX dX5_fines_21 lv_RX5_108 (c_X4_isHere x2  u _ rfl) (by decide) rfl rfl (zRecv.of (q := 1) (ci := 4) rfl rfl) rfl (Nat.le_of_ble_eq_true rfl) rfl ?_
    refine r_if_eq (tgt := 39) hX dX5_fines_24 (by decide) (fun c6 => ?_) (fun c6 => ?_)
    · have h0b := (if_pos c6).symm.trans h0b
      refine r_iconst (v := 0) hX dX5_fines_39 (by decide) ?_
      refine r_iadd hX dX5_fines_40 ?_
      refine r_istore_n (y := (x1 + 0)) (L' := [(1, .int (x1 + 0)), (0, .ref (zad X.1 0)), (2, .int x2)]) hX dX5_fines_41 rfl (by decide) rfl rfl ?_
      refine r_iinc (v := (x2 + 1)) (L' := [(2, .int (x2 + 1)), (1, .int (x1 + 0)), (0, .ref (zad X.1 0))]) hX dX5_fines_42 (by decide) 2 rfl rfl rfl ?_
      refine r_goto (tgt := 4) hX dX5_fines_45 (by decide) ?_
      refine r_sub [2, 1, 0] (L' := [(0, .ref (zad X.1 0)), (1, .int (x1 + 0)), (2, .int (x2 + 1))]) rfl ?_
      exact hin0 _ (Option.some.inj h0b).symm
    · have h0b := (if_neg c6).symm.trans h0b
      refine r_aload_n hX dX5_fines_27 0 rfl rfl ?_
      refine r_getR hX dX5_fines_28 f_RX5_10 zr_0_0 ?_
      refine r_iload_n hX dX5_fines_31 2 rfl rfl ?_
      refine r_iconst (v := 5) hX dX5_fines_32 (by decide) ?_
      obtain ⟨x7, e8, h0b⟩ := zbind_elim h0b
      refine r_callV (As := [.int x2, .int 5]) (rest := [.int x1]) (st1 := [.int x7, .int x1]) hX dX5_fines_33 lv_RX5_84 (c_X4_tell x2 5  u _ e8) (by decide) rfl rfl (zRecv.of (q := 1) (ci := 4) rfl rfl) rfl (Nat.le_of_ble_eq_true rfl) rfl ?_
      refine r_goto (tgt := 40) hX dX5_fines_36 (by decide) ?_
      refine r_iadd hX dX5_fines_40 ?_
      refine r_istore_n (y := (x1 + x7)) (L' := [(1, .int (x1 + x7)), (0, .ref (zad X.1 0)), (2, .int x2)]) hX dX5_fines_41 rfl (by decide) rfl rfl ?_
      refine r_iinc (v := (x2 + 1)) (L' := [(2, .int (x2 + 1)), (1, .int (x1 + x7)), (0, .ref (zad X.1 0))]) hX dX5_fines_42 (by decide) 2 rfl rfl rfl ?_
      refine r_goto (tgt := 4) hX dX5_fines_45 (by decide) ?_
      refine r_sub [2, 1, 0] (L' := [(0, .ref (zad X.1 0)), (1, .int (x1 + x7)), (2, .int (x2 + 1))]) rfl ?_
      exact hin0 _ (Option.some.inj h0b).symm
theorem dX5_pins_0 : decode cX5_pins 0 = .ok (.aload_n 0, 1) := by decide +kernel
theorem dX5_pins_1 : decode cX5_pins 1 = .ok (.iload_n 1, 1) := by decide +kernel
theorem dX5_pins_2 : decode cX5_pins 2 = .ok (.invokevirtual 77, 3) := by decide +kernel
theorem dX5_pins_5 : decode cX5_pins 5 = .ok (.ifCond .ne 9, 3) := by decide +kernel
theorem dX5_pins_8 : decode cX5_pins 8 = .ok (.aload_n 0, 1) := by decide +kernel
theorem dX5_pins_9 : decode cX5_pins 9 = .ok (.iconst 0, 1) := by decide +kernel
theorem dX5_pins_10 : decode cX5_pins 10 = .ok (.invokevirtual 65, 3) := by decide +kernel
theorem dX5_pins_13 : decode cX5_pins 13 = .ok (.ireturn, 1) := by decide +kernel
theorem dX5_pins_14 : decode cX5_pins 14 = .ok (.aload_n 0, 1) := by decide +kernel
theorem dX5_pins_15 : decode cX5_pins 15 = .ok (.invokevirtual 125, 3) := by decide +kernel
theorem dX5_pins_18 : decode cX5_pins 18 = .ok (.ifCond .ne 9, 3) := by decide +kernel
theorem dX5_pins_21 : decode cX5_pins 21 = .ok (.aload_n 0, 1) := by decide +kernel
theorem dX5_pins_22 : decode cX5_pins 22 = .ok (.iconst 3, 1) := by decide +kernel
theorem dX5_pins_23 : decode cX5_pins 23 = .ok (.invokevirtual 65, 3) := by decide +kernel
theorem dX5_pins_26 : decode cX5_pins 26 = .ok (.ireturn, 1) := by decide +kernel
theorem dX5_pins_27 : decode cX5_pins 27 = .ok (.iconst 0, 1) := by decide +kernel
theorem dX5_pins_28 : decode cX5_pins 28 = .ok (.aload_n 0, 1) := by decide +kernel
theorem dX5_pins_29 : decode cX5_pins 29 = .ok (.getfield 22, 3) := by decide +kernel
theorem dX5_pins_32 : decode cX5_pins 32 = .ok (.aload_n 0, 1) := by decide +kernel
theorem dX5_pins_33 : decode cX5_pins 33 = .ok (.getfield 10, 3) := by decide +kernel
theorem dX5_pins_36 : decode cX5_pins 36 = .ok (.iload_n 1, 1) := by decide +kernel
theorem dX5_pins_37 : decode cX5_pins 37 = .ok (.invokevirtual 152, 3) := by decide +kernel
theorem dX5_pins_40 : decode cX5_pins 40 = .ok (.aload_n 0, 1) := by decide +kernel
theorem dX5_pins_41 : decode cX5_pins 41 = .ok (.getfield 10, 3) := by decide +kernel
theorem dX5_pins_44 : decode cX5_pins 44 = .ok (.getfield 102, 3) := by decide +kernel
theorem dX5_pins_47 : decode cX5_pins 47 = .ok (.isub, 1) := by decide +kernel
theorem dX5_pins_48 : decode cX5_pins 48 = .ok (.invokestatic 114, 3) := by decide +kernel
theorem dX5_pins_51 : decode cX5_pins 51 = .ok (.istore_n 2, 1) := by decide +kernel
theorem dX5_pins_52 : decode cX5_pins 52 = .ok (.iload_n 2, 1) := by decide +kernel
theorem dX5_pins_53 : decode cX5_pins 53 = .ok (.bipush 99, 2) := by decide +kernel
theorem dX5_pins_55 : decode cX5_pins 55 = .ok (.if_icmp .le 11, 3) := by decide +kernel
theorem dX5_pins_58 : decode cX5_pins 58 = .ok (.aload_n 0, 1) := by decide +kernel
theorem dX5_pins_59 : decode cX5_pins 59 = .ok (.iconst 3, 1) := by decide +kernel
theorem dX5_pins_60 : decode cX5_pins 60 = .ok (.invokevirtual 65, 3) := by decide +kernel
theorem dX5_pins_63 : decode cX5_pins 63 = .ok (.goto 4, 3) := by decide +kernel
theorem dX5_pins_66 : decode cX5_pins 66 = .ok (.iload_n 2, 1) := by decide +kernel
theorem dX5_pins_67 : decode cX5_pins 67 = .ok (.ireturn, 1) := by decide +kernel
def m_X5_pins (a1 : Int32) (u : zM) : Option (Int32 × zM) :=
  (if (m_X5_isBody a1 u) = 0 then
zbind2 (m_X5_finding 0 u) (fun x15 u16 => some (x15, u16))
else
zbind2 (m_X5_cutForAllHere u) (fun x2 u3 => (if x2 = 0 then
zbind2 (m_X5_finding 3 u3) (fun x12 u13 => some (x12, u13))
else
zbind (m_X2_farOf a1 u3) (fun x6 => (if (zmax 0 (x6 - (u3 1 9))) ≤ 99 then
some ((zmax 0 (x6 - (u3 1 9))), u3)
else
zbind2 (m_X5_finding 3 u3) (fun x9 u10 => some (x9, u10)))))))
set_option maxHeartbeats 4000000 in
set_option maxRecDepth 100000 in
theorem c_X5_pins (a1 : Int32)   (u : zM) (r : Int32) (u' : zM) (h : m_X5_pins a1 u = some (r, u')) : zCt 7 yX5_pins cX5_pins 3 (some .int) (fun E => [.ref (zad E 0), .int a1]) u (fun _ => some (.int r)) u' := by
  refine zCt.of (by decide +kernel) (fun E => Nat.le_of_ble_eq_true rfl) (fun X hX hR => ?_)
  have hX : zGood X RX5 cX5_pins 3 7 := hX
  show zG X u 0 [(0, .ref (zad X.1 0)), (1, .int a1)] []
  unfold m_X5_pins at h
  refine r_aload_n hX dX5_pins_0 0 rfl rfl ?_
  refine r_iload_n hX dX5_pins_1 1 rfl rfl ?_
  refine r_callV (As := [.int a1]) (rest := []) (st1 := [.int (m_X5_isBody a1 u)]) hX dX5_pins_2 lv_RX5_77 (c_X5_isBody a1  u _ rfl) (by decide) rfl rfl (zRecv.of (q := 0) (ci := 5) rfl rfl) rfl (Nat.le_of_ble_eq_true rfl) rfl ?_
  refine r_if_ne (tgt := 14) hX dX5_pins_5 (by decide) (fun c1 => ?_) (fun c1 => ?_)
  · have h := (if_neg c1).symm.trans h
    refine r_aload_n hX dX5_pins_14 0 rfl rfl ?_
    obtain ⟨x2, u3, e4, h⟩ := zbind2_elim h
    refine r_callV (As := []) (rest := []) (st1 := [.int x2]) hX dX5_pins_15 lv_RX5_125 (c_X5_cutForAllHere   u _ _ e4) (by decide) rfl rfl (zRecv.of (q := 0) (ci := 5) rfl rfl) rfl (Nat.le_of_ble_eq_true rfl) rfl ?_
    refine r_if_ne (tgt := 27) hX dX5_pins_18 (by decide) (fun c5 => ?_) (fun c5 => ?_)
    · have h := (if_neg c5).symm.trans h
      refine r_iconst (v := 0) hX dX5_pins_27 (by decide) ?_
      refine r_aload_n hX dX5_pins_28 0 rfl rfl ?_
      refine r_getR hX dX5_pins_29 f_RX5_22 zr_0_2 ?_
      refine r_aload_n hX dX5_pins_32 0 rfl rfl ?_
      refine r_getR hX dX5_pins_33 f_RX5_10 zr_0_0 ?_
      refine r_iload_n hX dX5_pins_36 1 rfl rfl ?_
      obtain ⟨x6, e7, h⟩ := zbind_elim h
      refine r_callV (As := [.ref (zad X.1 1), .int a1]) (rest := [.int 0]) (st1 := [.int x6, .int 0]) hX dX5_pins_37 lv_RX5_152 (c_X2_farOf a1  u3 _ e7) (by decide) rfl rfl (zRecv.of (q := 15) (ci := 2) rfl rfl) rfl (Nat.le_of_ble_eq_true rfl) rfl ?_
      refine r_aload_n hX dX5_pins_40 0 rfl rfl ?_
      refine r_getR hX dX5_pins_41 f_RX5_10 zr_0_0 ?_
      refine r_getI hX dX5_pins_44 f_RX5_102 zi_1_9 ?_
      refine r_isub hX dX5_pins_47 ?_
      refine r_max hX dX5_pins_48 lm_RX5_114 (by decide) (Nat.le_of_ble_eq_true rfl) ?_
      refine r_istore_n (y := (zmax 0 (x6 - (u3 1 9)))) (L' := [(2, .int (zmax 0 (x6 - (u3 1 9)))), (0, .ref (zad X.1 0)), (1, .int a1)]) hX dX5_pins_51 rfl (by decide) rfl rfl ?_
      refine r_iload_n hX dX5_pins_52 0 rfl rfl ?_
      refine r_bipush (v := 99) hX dX5_pins_53 (by decide) ?_
      refine r_icmp_le (tgt := 66) hX dX5_pins_55 (by decide) (fun c8 => ?_) (fun c8 => ?_)
      · have h := (if_pos c8).symm.trans h
        refine r_iload_n hX dX5_pins_66 0 rfl rfl ?_
        obtain ⟨rfl, rfl⟩ := zinj2 (Option.some.inj h)
        exact r_iret hX hR dX5_pins_67
      · have h := (if_neg c8).symm.trans h
        refine r_aload_n hX dX5_pins_58 1 rfl rfl ?_
        refine r_iconst (v := 3) hX dX5_pins_59 (by decide) ?_
        obtain ⟨x9, u10, e11, h⟩ := zbind2_elim h
        refine r_callV (As := [.int 3]) (rest := []) (st1 := [.int x9]) hX dX5_pins_60 lv_RX5_65 (c_X5_finding 3  u3 _ _ e11) (by decide) rfl rfl (zRecv.of (q := 0) (ci := 5) rfl rfl) rfl (Nat.le_of_ble_eq_true rfl) rfl ?_
        refine r_goto (tgt := 67) hX dX5_pins_63 (by decide) ?_
        obtain ⟨rfl, rfl⟩ := zinj2 (Option.some.inj h)
        exact r_iret hX hR dX5_pins_67
    · have h := (if_pos c5).symm.trans h
      refine r_aload_n hX dX5_pins_21 0 rfl rfl ?_
      refine r_iconst (v := 3) hX dX5_pins_22 (by decide) ?_
      obtain ⟨x12, u13, e14, h⟩ := zbind2_elim h
      refine r_callV (As := [.int 3]) (rest := []) (st1 := [.int x12]) hX dX5_pins_23 lv_RX5_65 (c_X5_finding 3  u3 _ _ e14) (by decide) rfl rfl (zRecv.of (q := 0) (ci := 5) rfl rfl) rfl (Nat.le_of_ble_eq_true rfl) rfl ?_
      obtain ⟨rfl, rfl⟩ := zinj2 (Option.some.inj h)
      exact r_iret hX hR dX5_pins_26
  · have h := (if_pos c1).symm.trans h
    refine r_aload_n hX dX5_pins_8 0 rfl rfl ?_
    refine r_iconst (v := 0) hX dX5_pins_9 (by decide) ?_
    obtain ⟨x15, u16, e17, h⟩ := zbind2_elim h
    refine r_callV (As := [.int 0]) (rest := []) (st1 := [.int x15]) hX dX5_pins_10 lv_RX5_65 (c_X5_finding 0  u _ _ e17) (by decide) rfl rfl (zRecv.of (q := 0) (ci := 5) rfl rfl) rfl (Nat.le_of_ble_eq_true rfl) rfl ?_
    obtain ⟨rfl, rfl⟩ := zinj2 (Option.some.inj h)
    exact r_iret hX hR dX5_pins_13
theorem dX5_worst_0 : decode cX5_worst 0 = .ok (.aload_n 0, 1) := by decide +kernel
theorem dX5_worst_1 : decode cX5_worst 1 = .ok (.invokevirtual 125, 3) := by decide +kernel
theorem dX5_worst_4 : decode cX5_worst 4 = .ok (.ifCond .ne 9, 3) := by decide +kernel
theorem dX5_worst_7 : decode cX5_worst 7 = .ok (.aload_n 0, 1) := by decide +kernel
theorem dX5_worst_8 : decode cX5_worst 8 = .ok (.iconst 3, 1) := by decide +kernel
theorem dX5_worst_9 : decode cX5_worst 9 = .ok (.invokevirtual 65, 3) := by decide +kernel
theorem dX5_worst_12 : decode cX5_worst 12 = .ok (.ireturn, 1) := by decide +kernel
theorem dX5_worst_13 : decode cX5_worst 13 = .ok (.iconst 0, 1) := by decide +kernel
theorem dX5_worst_14 : decode cX5_worst 14 = .ok (.istore_n 1, 1) := by decide +kernel
theorem dX5_worst_15 : decode cX5_worst 15 = .ok (.iconst (-1), 1) := by decide +kernel
theorem dX5_worst_16 : decode cX5_worst 16 = .ok (.istore_n 2, 1) := by decide +kernel
theorem dX5_worst_17 : decode cX5_worst 17 = .ok (.iconst 0, 1) := by decide +kernel
theorem dX5_worst_18 : decode cX5_worst 18 = .ok (.istore_n 3, 1) := by decide +kernel
theorem dX5_worst_19 : decode cX5_worst 19 = .ok (.iload_n 3, 1) := by decide +kernel
theorem dX5_worst_20 : decode cX5_worst 20 = .ok (.aload_n 0, 1) := by decide +kernel
theorem dX5_worst_21 : decode cX5_worst 21 = .ok (.getfield 10, 3) := by decide +kernel
theorem dX5_worst_24 : decode cX5_worst 24 = .ok (.getfield 69, 3) := by decide +kernel
theorem dX5_worst_27 : decode cX5_worst 27 = .ok (.if_icmp .ge 51, 3) := by decide +kernel
theorem dX5_worst_30 : decode cX5_worst 30 = .ok (.aload_n 0, 1) := by decide +kernel
theorem dX5_worst_31 : decode cX5_worst 31 = .ok (.getfield 10, 3) := by decide +kernel
theorem dX5_worst_34 : decode cX5_worst 34 = .ok (.iload_n 3, 1) := by decide +kernel
theorem dX5_worst_35 : decode cX5_worst 35 = .ok (.invokevirtual 108, 3) := by decide +kernel
theorem dX5_worst_38 : decode cX5_worst 38 = .ok (.ifCond .eq 34, 3) := by decide +kernel
theorem dX5_worst_41 : decode cX5_worst 41 = .ok (.aload_n 0, 1) := by decide +kernel
theorem dX5_worst_42 : decode cX5_worst 42 = .ok (.getfield 22, 3) := by decide +kernel
theorem dX5_worst_45 : decode cX5_worst 45 = .ok (.aload_n 0, 1) := by decide +kernel
theorem dX5_worst_46 : decode cX5_worst 46 = .ok (.getfield 10, 3) := by decide +kernel
theorem dX5_worst_49 : decode cX5_worst 49 = .ok (.iload_n 3, 1) := by decide +kernel
theorem dX5_worst_50 : decode cX5_worst 50 = .ok (.invokevirtual 145, 3) := by decide +kernel
theorem dX5_worst_53 : decode cX5_worst 53 = .ok (.iload_n 2, 1) := by decide +kernel
theorem dX5_worst_54 : decode cX5_worst 54 = .ok (.if_icmp .le 18, 3) := by decide +kernel
theorem dX5_worst_57 : decode cX5_worst 57 = .ok (.aload_n 0, 1) := by decide +kernel
theorem dX5_worst_58 : decode cX5_worst 58 = .ok (.getfield 22, 3) := by decide +kernel
theorem dX5_worst_61 : decode cX5_worst 61 = .ok (.aload_n 0, 1) := by decide +kernel
theorem dX5_worst_62 : decode cX5_worst 62 = .ok (.getfield 10, 3) := by decide +kernel
theorem dX5_worst_65 : decode cX5_worst 65 = .ok (.iload_n 3, 1) := by decide +kernel
theorem dX5_worst_66 : decode cX5_worst 66 = .ok (.invokevirtual 145, 3) := by decide +kernel
theorem dX5_worst_69 : decode cX5_worst 69 = .ok (.istore_n 2, 1) := by decide +kernel
theorem dX5_worst_70 : decode cX5_worst 70 = .ok (.iload_n 3, 1) := by decide +kernel
theorem dX5_worst_71 : decode cX5_worst 71 = .ok (.istore_n 1, 1) := by decide +kernel
theorem dX5_worst_72 : decode cX5_worst 72 = .ok (.iinc 3 1, 3) := by decide +kernel
theorem dX5_worst_75 : decode cX5_worst 75 = .ok (.goto (-56), 3) := by decide +kernel
theorem dX5_worst_78 : decode cX5_worst 78 = .ok (.iload_n 1, 1) := by decide +kernel
theorem dX5_worst_79 : decode cX5_worst 79 = .ok (.ireturn, 1) := by decide +kernel
def m_X5_worst_b0 (u2 : zM) (x5 : Int32) (x6 : Int32) (x7 : Int32) : Option ((Int32 × Int32 × Int32) ⊕ (Int32)) :=
  (if (u2 1 6) ≤ x7 then
some (.inr x5)
else
(if (m_X4_isHere x7 u2) = 0 then
some (.inl (x5, x6, (x7 + 1)))
else
zbind (m_X2_costOf x7 u2) (fun x12 => (if x12 ≤ x6 then
some (.inl (x5, x6, (x7 + 1)))
else
zbind (m_X2_costOf x7 u2) (fun x15 => some (.inl (x7, x15, (x7 + 1))))))))
def m_X5_worst  (u : zM) : Option (Int32 × zM) :=
  zbind2 (m_X5_cutForAllHere u) (fun x1 u2 => (if x1 = 0 then
zbind2 (m_X5_finding 3 u2) (fun x17 u18 => some (x17, u18))
else
zbind (zit zF (fun s : Int32 × Int32 × Int32 => m_X5_worst_b0 u2 s.1 s.2.1 s.2.2) (0, (-1), 0)) (fun x8 =>
some (x8, u2))))
set_option maxHeartbeats 4000000 in
set_option maxRecDepth 100000 in
theorem c_X5_worst    (u : zM) (r : Int32) (u' : zM) (h : m_X5_worst u = some (r, u')) : zCt 7 yX5_worst cX5_worst 4 (some .int) (fun E => [.ref (zad E 0)]) u (fun _ => some (.int r)) u' := by
  refine zCt.of (by decide +kernel) (fun E => Nat.le_of_ble_eq_true rfl) (fun X hX hR => ?_)
  have hX : zGood X RX5 cX5_worst 4 7 := hX
  show zG X u 0 [(0, .ref (zad X.1 0))] []
  unfold m_X5_worst at h
  refine r_aload_n hX dX5_worst_0 0 rfl rfl ?_
  obtain ⟨x1, u2, e3, h⟩ := zbind2_elim h
  refine r_callV (As := []) (rest := []) (st1 := [.int x1]) hX dX5_worst_1 lv_RX5_125 (c_X5_cutForAllHere   u _ _ e3) (by decide) rfl rfl (zRecv.of (q := 0) (ci := 5) rfl rfl) rfl (Nat.le_of_ble_eq_true rfl) rfl ?_
  refine r_if_ne (tgt := 13) hX dX5_worst_4 (by decide) (fun c4 => ?_) (fun c4 => ?_)
  · have h := (if_neg c4).symm.trans h
    refine r_iconst (v := 0) hX dX5_worst_13 (by decide) ?_
    refine r_istore_n (y := 0) (L' := [(1, .int 0), (0, .ref (zad X.1 0))]) hX dX5_worst_14 rfl (by decide) rfl rfl ?_
    refine r_iconst (v := (-1)) hX dX5_worst_15 (by decide) ?_
    refine r_istore_n (y := (-1)) (L' := [(2, .int (-1)), (1, .int 0), (0, .ref (zad X.1 0))]) hX dX5_worst_16 rfl (by decide) rfl rfl ?_
    refine r_iconst (v := 0) hX dX5_worst_17 (by decide) ?_
    refine r_istore_n (y := 0) (L' := [(3, .int 0), (2, .int (-1)), (1, .int 0), (0, .ref (zad X.1 0))]) hX dX5_worst_18 rfl (by decide) rfl rfl ?_
    refine r_sub [3, 2, 1, 0] (L' := [(0, .ref (zad X.1 0)), (1, .int 0), (2, .int (-1)), (3, .int 0)]) rfl ?_
    obtain ⟨x8, h9, h⟩ := zbind_elim h
    have Jh9 : zG X u2 78 [(1, .int x8)] [] := by
        refine r_iload_n hX dX5_worst_78 0 rfl rfl ?_
        obtain ⟨rfl, rfl⟩ := zinj2 (Option.some.inj h)
        exact r_iret hX hR dX5_worst_79
    clear h
    refine zit_walk (P := fun s0 : Int32 × Int32 × Int32 => zG X u2 19 [(0, .ref (zad X.1 0)), (1, .int (s0.1)), (2, .int (s0.2.1)), (3, .int (s0.2.2))] []) ?_ zF _ h9
    clear h9
    intro s0 y0 h0b hin0 hout0
    obtain ⟨x5, x6, x7⟩ := s0
    have h0b : m_X5_worst_b0 u2 x5 x6 x7 = some y0 := h0b
    unfold m_X5_worst_b0 at h0b
    show zG X u2 19 [(0, .ref (zad X.1 0)), (1, .int x5), (2, .int x6), (3, .int x7)] []
    refine r_iload_n hX dX5_worst_19 3 rfl rfl ?_
    refine r_aload_n hX dX5_worst_20 0 rfl rfl ?_
    refine r_getR hX dX5_worst_21 f_RX5_10 zr_0_0 ?_
    refine r_getI hX dX5_worst_24 f_RX5_69 zi_1_6 ?_
    refine r_icmp_ge (tgt := 78) hX dX5_worst_27 (by decide) (fun c10 => ?_) (fun c10 => ?_)
    · have h0b := (if_pos c10).symm.trans h0b
      refine r_sub [1] (L' := [(1, .int x5)]) rfl ?_
      have h0b := hout0 _ (Option.some.inj h0b).symm
      obtain rfl := h0b
      exact Jh9
    · have h0b := (if_neg c10).symm.trans h0b
      refine r_aload_n hX dX5_worst_30 0 rfl rfl ?_
      refine r_getR hX dX5_worst_31 f_RX5_10 zr_0_0 ?_
      refine r_iload_n hX dX5_worst_34 3 rfl rfl ?_
      refine r_callV (As := [.int x7]) (rest := []) (st1 := [.int (m_X4_isHere x7 u2)]) hX dX5_worst_35 lv_RX5_108 (c_X4_isHere x7  u2 _ rfl) (by decide) rfl rfl (zRecv.of (q := 1) (ci := 4) rfl rfl) rfl (Nat.le_of_ble_eq_true rfl) rfl ?_
      refine r_if_eq (tgt := 72) hX dX5_worst_38 (by decide) (fun c11 => ?_) (fun c11 => ?_)
      · have h0b := (if_pos c11).symm.trans h0b
        refine r_iinc (v := (x7 + 1)) (L' := [(3, .int (x7 + 1)), (0, .ref (zad X.1 0)), (1, .int x5), (2, .int x6)]) hX dX5_worst_72 (by decide) 3 rfl rfl rfl ?_
        refine r_goto (tgt := 19) hX dX5_worst_75 (by decide) ?_
        refine r_sub [1, 2, 3, 0] (L' := [(0, .ref (zad X.1 0)), (1, .int x5), (2, .int x6), (3, .int (x7 + 1))]) rfl ?_
        exact hin0 _ (Option.some.inj h0b).symm
      · have h0b := (if_neg c11).symm.trans h0b
        refine r_aload_n hX dX5_worst_41 0 rfl rfl ?_
        refine r_getR hX dX5_worst_42 f_RX5_22 zr_0_2 ?_
        refine r_aload_n hX dX5_worst_45 0 rfl rfl ?_
        refine r_getR hX dX5_worst_46 f_RX5_10 zr_0_0 ?_
        refine r_iload_n hX dX5_worst_49 3 rfl rfl ?_
        obtain ⟨x12, e13, h0b⟩ := zbind_elim h0b
        refine r_callV (As := [.ref (zad X.1 1), .int x7]) (rest := []) (st1 := [.int x12]) hX dX5_worst_50 lv_RX5_145 (c_X2_costOf x7  u2 _ e13) (by decide) rfl rfl (zRecv.of (q := 15) (ci := 2) rfl rfl) rfl (Nat.le_of_ble_eq_true rfl) rfl ?_
        refine r_iload_n hX dX5_worst_53 2 rfl rfl ?_
        refine r_icmp_le (tgt := 72) hX dX5_worst_54 (by decide) (fun c14 => ?_) (fun c14 => ?_)
        · have h0b := (if_pos c14).symm.trans h0b
          refine r_iinc (v := (x7 + 1)) (L' := [(3, .int (x7 + 1)), (0, .ref (zad X.1 0)), (1, .int x5), (2, .int x6)]) hX dX5_worst_72 (by decide) 3 rfl rfl rfl ?_
          refine r_goto (tgt := 19) hX dX5_worst_75 (by decide) ?_
          refine r_sub [1, 2, 3, 0] (L' := [(0, .ref (zad X.1 0)), (1, .int x5), (2, .int x6), (3, .int (x7 + 1))]) rfl ?_
          exact hin0 _ (Option.some.inj h0b).symm
        · have h0b := (if_neg c14).symm.trans h0b
          refine r_aload_n hX dX5_worst_57 0 rfl rfl ?_
          refine r_getR hX dX5_worst_58 f_RX5_22 zr_0_2 ?_
          refine r_aload_n hX dX5_worst_61 0 rfl rfl ?_
          refine r_getR hX dX5_worst_62 f_RX5_10 zr_0_0 ?_
          refine r_iload_n hX dX5_worst_65 3 rfl rfl ?_
          obtain ⟨x15, e16, h0b⟩ := zbind_elim h0b
          refine r_callV (As := [.ref (zad X.1 1), .int x7]) (rest := []) (st1 := [.int x15]) hX dX5_worst_66 lv_RX5_145 (c_X2_costOf x7  u2 _ e16) (by decide) rfl rfl (zRecv.of (q := 15) (ci := 2) rfl rfl) rfl (Nat.le_of_ble_eq_true rfl) rfl ?_
          refine r_istore_n (y := x15) (L' := [(2, .int x15), (0, .ref (zad X.1 0)), (1, .int x5), (3, .int x7)]) hX dX5_worst_69 rfl (by decide) rfl rfl ?_
          refine r_iload_n hX dX5_worst_70 3 rfl rfl ?_
          refine r_istore_n (y := x7) (L' := [(1, .int x7), (2, .int x15), (0, .ref (zad X.1 0)), (3, .int x7)]) hX dX5_worst_71 rfl (by decide) rfl rfl ?_
          refine r_iinc (v := (x7 + 1)) (L' := [(3, .int (x7 + 1)), (1, .int x7), (2, .int x15), (0, .ref (zad X.1 0))]) hX dX5_worst_72 (by decide) 3 rfl rfl rfl ?_
          refine r_goto (tgt := 19) hX dX5_worst_75 (by decide) ?_
          refine r_sub [3, 1, 2, 0] (L' := [(0, .ref (zad X.1 0)), (1, .int x7), (2, .int x15), (3, .int (x7 + 1))]) rfl ?_
          exact hin0 _ (Option.some.inj h0b).symm
  · have h := (if_pos c4).symm.trans h
    refine r_aload_n hX dX5_worst_7 0 rfl rfl ?_
    refine r_iconst (v := 3) hX dX5_worst_8 (by decide) ?_
    obtain ⟨x17, u18, e19, h⟩ := zbind2_elim h
    refine r_callV (As := [.int 3]) (rest := []) (st1 := [.int x17]) hX dX5_worst_9 lv_RX5_65 (c_X5_finding 3  u2 _ _ e19) (by decide) rfl rfl (zRecv.of (q := 0) (ci := 5) rfl rfl) rfl (Nat.le_of_ble_eq_true rfl) rfl ?_
    obtain ⟨rfl, rfl⟩ := zinj2 (Option.some.inj h)
    exact r_iret hX hR dX5_worst_12
