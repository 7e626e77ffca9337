/-! MODELS AND CONTRACTS, by program (wip/whole/gen_all.py): X0_readItems, X5_text, X5_isSpot, X5_hold, X5_as, X5_isSheet, X1_lay -/
theorem dX0_readItems_0 : decode cX0_readItems 0 = .ok (.aload_n 0, 1) := by decide +kernel
theorem dX0_readItems_1 : decode cX0_readItems 1 = .ok (.bipush 12, 2) := by decide +kernel
theorem dX0_readItems_3 : decode cX0_readItems 3 = .ok (.aload_n 2, 1) := by decide +kernel
theorem dX0_readItems_4 : decode cX0_readItems 4 = .ok (.getfield 25, 3) := by decide +kernel
theorem dX0_readItems_7 : decode cX0_readItems 7 = .ok (.isub, 1) := by decide +kernel
theorem dX0_readItems_8 : decode cX0_readItems 8 = .ok (.putfield 22, 3) := by decide +kernel
theorem dX0_readItems_11 : decode cX0_readItems 11 = .ok (.aload_n 1, 1) := by decide +kernel
theorem dX0_readItems_12 : decode cX0_readItems 12 = .ok (.invokevirtual 30, 3) := by decide +kernel
theorem dX0_readItems_15 : decode cX0_readItems 15 = .ok (.iconst 1, 1) := by decide +kernel
theorem dX0_readItems_16 : decode cX0_readItems 16 = .ok (.istore 4, 2) := by decide +kernel
theorem dX0_readItems_18 : decode cX0_readItems 18 = .ok (.iload 4, 2) := by decide +kernel
theorem dX0_readItems_20 : decode cX0_readItems 20 = .ok (.bipush 120, 2) := by decide +kernel
theorem dX0_readItems_22 : decode cX0_readItems 22 = .ok (.if_icmp .gt 56, 3) := by decide +kernel
theorem dX0_readItems_25 : decode cX0_readItems 25 = .ok (.aload_n 0, 1) := by decide +kernel
theorem dX0_readItems_26 : decode cX0_readItems 26 = .ok (.aload_n 1, 1) := by decide +kernel
theorem dX0_readItems_27 : decode cX0_readItems 27 = .ok (.aload_n 2, 1) := by decide +kernel
theorem dX0_readItems_28 : decode cX0_readItems 28 = .ok (.iload_n 3, 1) := by decide +kernel
theorem dX0_readItems_29 : decode cX0_readItems 29 = .ok (.invokevirtual 35, 3) := by decide +kernel
theorem dX0_readItems_32 : decode cX0_readItems 32 = .ok (.ifCond .ne 10, 3) := by decide +kernel
theorem dX0_readItems_35 : decode cX0_readItems 35 = .ok (.iconst (-1), 1) := by decide +kernel
theorem dX0_readItems_36 : decode cX0_readItems 36 = .ok (.aload_n 1, 1) := by decide +kernel
theorem dX0_readItems_37 : decode cX0_readItems 37 = .ok (.invokevirtual 39, 3) := by decide +kernel
theorem dX0_readItems_40 : decode cX0_readItems 40 = .ok (.isub, 1) := by decide +kernel
theorem dX0_readItems_41 : decode cX0_readItems 41 = .ok (.ireturn, 1) := by decide +kernel
theorem dX0_readItems_42 : decode cX0_readItems 42 = .ok (.aload_n 1, 1) := by decide +kernel
theorem dX0_readItems_43 : decode cX0_readItems 43 = .ok (.invokevirtual 43, 3) := by decide +kernel
theorem dX0_readItems_46 : decode cX0_readItems 46 = .ok (.ifCond .eq 6, 3) := by decide +kernel
theorem dX0_readItems_49 : decode cX0_readItems 49 = .ok (.iload 4, 2) := by decide +kernel
theorem dX0_readItems_51 : decode cX0_readItems 51 = .ok (.ireturn, 1) := by decide +kernel
theorem dX0_readItems_52 : decode cX0_readItems 52 = .ok (.aload_n 1, 1) := by decide +kernel
theorem dX0_readItems_53 : decode cX0_readItems 53 = .ok (.bipush 59, 2) := by decide +kernel
theorem dX0_readItems_55 : decode cX0_readItems 55 = .ok (.invokevirtual 47, 3) := by decide +kernel
theorem dX0_readItems_58 : decode cX0_readItems 58 = .ok (.ifCond .ne 10, 3) := by decide +kernel
theorem dX0_readItems_61 : decode cX0_readItems 61 = .ok (.iconst (-1), 1) := by decide +kernel
theorem dX0_readItems_62 : decode cX0_readItems 62 = .ok (.aload_n 1, 1) := by decide +kernel
theorem dX0_readItems_63 : decode cX0_readItems 63 = .ok (.invokevirtual 39, 3) := by decide +kernel
theorem dX0_readItems_66 : decode cX0_readItems 66 = .ok (.isub, 1) := by decide +kernel
theorem dX0_readItems_67 : decode cX0_readItems 67 = .ok (.ireturn, 1) := by decide +kernel
theorem dX0_readItems_68 : decode cX0_readItems 68 = .ok (.aload_n 1, 1) := by decide +kernel
theorem dX0_readItems_69 : decode cX0_readItems 69 = .ok (.invokevirtual 51, 3) := by decide +kernel
theorem dX0_readItems_72 : decode cX0_readItems 72 = .ok (.iinc 4 1, 3) := by decide +kernel
theorem dX0_readItems_75 : decode cX0_readItems 75 = .ok (.goto (-57), 3) := by decide +kernel
theorem dX0_readItems_78 : decode cX0_readItems 78 = .ok (.iconst (-1), 1) := by decide +kernel
theorem dX0_readItems_79 : decode cX0_readItems 79 = .ok (.aload_n 1, 1) := by decide +kernel
theorem dX0_readItems_80 : decode cX0_readItems 80 = .ok (.invokevirtual 39, 3) := by decide +kernel
theorem dX0_readItems_83 : decode cX0_readItems 83 = .ok (.isub, 1) := by decide +kernel
theorem dX0_readItems_84 : decode cX0_readItems 84 = .ok (.ireturn, 1) := by decide +kernel
def m_X0_readItems_b0 (a1 : Int32) (x5 : Int32) (u6 : zM) : Option ((Int32 × zM) ⊕ (Int32 × zM)) :=
  (if 120 < x5 then
zbind (m_X3_begin u6) (fun x8 => some (.inr (((-1) - x8), u6)))
else
zbind2 (m_X0_readItem a1 u6) (fun x10 u11 => (if x10 = 0 then
zbind (m_X3_begin u11) (fun x24 => some (.inr (((-1) - x24), u11)))
else
zbind (m_X3_isEnd u11) (fun x14 => (if x14 = 0 then
zbind (m_X3_isSign 59 u11) (fun x17 => (if x17 = 0 then
zbind (m_X3_begin u11) (fun x22 => some (.inr (((-1) - x22), u11)))
else
zlet (m_X3_moveOn u11) (fun u20 => some (.inl ((x5 + 1), u20)))))
else
some (.inr (x5, u11)))))))
def m_X0_readItems (a1 : Int32) (u : zM) : Option (Int32 × zM) :=
  zlet (zst u 25 3 (12 - (u 1 6))) (fun u1 => zbind (m_X3_split u1) (fun u3 => zit zF (fun s : Int32 × zM => m_X0_readItems_b0 a1 s.1 s.2) (1, u3)))
set_option maxHeartbeats 4000000 in
set_option maxRecDepth 100000 in
theorem c_X0_readItems (a1 : Int32)   (u : zM) (r : Int32) (u' : zM) (h : m_X0_readItems a1 u = some (r, u')) : zCt 9 yX0_readItems cX0_readItems 5 (some .int) (fun E => [.ref (zad E 25), .ref (zad E 20), .ref (zad E 1), .int a1]) u (fun _ => some (.int r)) u' := by
  refine zCt.of (by decide +kernel) (fun E => Nat.le_of_ble_eq_true rfl) (fun X hX hR => ?_)
  have hX : zGood X RX0 cX0_readItems 5 9 := hX
  show zG X u 0 [(0, .ref (zad X.1 25)), (1, .ref (zad X.1 20)), (2, .ref (zad X.1 1)), (3, .int a1)] []
  unfold m_X0_readItems at h
  refine r_aload_n hX dX0_readItems_0 0 rfl rfl ?_
  refine r_bipush (v := 12) hX dX0_readItems_1 (by decide) ?_
  refine r_aload_n hX dX0_readItems_3 2 rfl rfl ?_
  refine r_getI hX dX0_readItems_4 f_RX0_25 zi_1_6 ?_
  refine r_isub hX dX0_readItems_7 ?_
  obtain ⟨u1, e2, h⟩ := zlet_elim h
  refine r_putI hX dX0_readItems_8 f_RX0_22 p_0_3 zi_25_3 ?_
  rw [e2]
  refine r_aload_n hX dX0_readItems_11 1 rfl rfl ?_
  obtain ⟨u3, e4, h⟩ := zbind_elim h
  refine r_callV (As := []) (rest := []) (st1 := []) hX dX0_readItems_12 lv_RX0_30 (c_X3_split   u1 _ e4) (by decide) rfl rfl (zRecv.of (q := 20) (ci := 3) rfl rfl) rfl (Nat.le_of_ble_eq_true rfl) rfl ?_
  refine r_iconst (v := 1) hX dX0_readItems_15 (by decide) ?_
  refine r_istore (y := 1) (L' := [(4, .int 1), (0, .ref (zad X.1 25)), (1, .ref (zad X.1 20)), (2, .ref (zad X.1 1)), (3, .int a1)]) hX dX0_readItems_16 (by decide) rfl rfl ?_
  refine r_sub [1, 2, 3, 4, 0] (L' := [(0, .ref (zad X.1 25)), (1, .ref (zad X.1 20)), (2, .ref (zad X.1 1)), (3, .int a1), (4, .int 1)]) rfl ?_
  refine zit_walk (P := fun s0 : Int32 × zM => zG X s0.2 18 [(0, .ref (zad X.1 25)), (1, .ref (zad X.1 20)), (2, .ref (zad X.1 1)), (3, .int a1), (4, .int (s0.1))] []) ?_ zF _ h
  clear h
  intro s0 y0 h0b hin0 hout0
  obtain ⟨x5, u6⟩ := s0
  have h0b : m_X0_readItems_b0 a1 x5 u6 = some y0 := h0b
  unfold m_X0_readItems_b0 at h0b
  show zG X u6 18 [(0, .ref (zad X.1 25)), (1, .ref (zad X.1 20)), (2, .ref (zad X.1 1)), (3, .int a1), (4, .int x5)] []
  refine r_iload hX dX0_readItems_18 4 rfl ?_
  refine r_bipush (v := 120) hX dX0_readItems_20 (by decide) ?_
  refine r_icmp_gt (tgt := 78) hX dX0_readItems_22 (by decide) (fun c7 => ?_) (fun c7 => ?_)
  · have h0b := (if_pos c7).symm.trans h0b
    refine r_iconst (v := (-1)) hX dX0_readItems_78 (by decide) ?_
    refine r_aload_n hX dX0_readItems_79 1 rfl rfl ?_
    obtain ⟨x8, e9, h0b⟩ := zbind_elim h0b
    refine r_callV (As := []) (rest := [.int (-1)]) (st1 := [.int x8, .int (-1)]) hX dX0_readItems_80 lv_RX0_39 (c_X3_begin   u6 _ e9) (by decide) rfl rfl (zRecv.of (q := 20) (ci := 3) rfl rfl) rfl (Nat.le_of_ble_eq_true rfl) rfl ?_
    refine r_isub hX dX0_readItems_83 ?_
    have h0b := hout0 _ (Option.some.inj h0b).symm
    obtain ⟨rfl, rfl⟩ := zinj2 h0b
    exact r_iret hX hR dX0_readItems_84
  · have h0b := (if_neg c7).symm.trans h0b
    refine r_aload_n hX dX0_readItems_25 0 rfl rfl ?_
    refine r_aload_n hX dX0_readItems_26 1 rfl rfl ?_
    refine r_aload_n hX dX0_readItems_27 2 rfl rfl ?_
    refine r_iload_n hX dX0_readItems_28 3 rfl rfl ?_
    obtain ⟨x10, u11, e12, h0b⟩ := zbind2_elim h0b
    refine r_callV (As := [.ref (zad X.1 20), .ref (zad X.1 1), .int a1]) (rest := []) (st1 := [.int x10]) hX dX0_readItems_29 lv_RX0_35 (c_X0_readItem a1  u6 _ _ e12) (by decide) rfl rfl (zRecv.of (q := 25) (ci := 0) rfl rfl) rfl (Nat.le_of_ble_eq_true rfl) rfl ?_
    refine r_if_ne (tgt := 42) hX dX0_readItems_32 (by decide) (fun c13 => ?_) (fun c13 => ?_)
    · have h0b := (if_neg c13).symm.trans h0b
      refine r_aload_n hX dX0_readItems_42 1 rfl rfl ?_
      obtain ⟨x14, e15, h0b⟩ := zbind_elim h0b
      refine r_callV (As := []) (rest := []) (st1 := [.int x14]) hX dX0_readItems_43 lv_RX0_43 (c_X3_isEnd   u11 _ e15) (by decide) rfl rfl (zRecv.of (q := 20) (ci := 3) rfl rfl) rfl (Nat.le_of_ble_eq_true rfl) rfl ?_
      refine r_if_eq (tgt := 52) hX dX0_readItems_46 (by decide) (fun c16 => ?_) (fun c16 => ?_)
      · have h0b := (if_pos c16).symm.trans h0b
        refine r_aload_n hX dX0_readItems_52 1 rfl rfl ?_
        refine r_bipush (v := 59) hX dX0_readItems_53 (by decide) ?_
        obtain ⟨x17, e18, h0b⟩ := zbind_elim h0b
        refine r_callV (As := [.int 59]) (rest := []) (st1 := [.int x17]) hX dX0_readItems_55 lv_RX0_47 (c_X3_isSign 59  u11 _ e18) (by decide) rfl rfl (zRecv.of (q := 20) (ci := 3) rfl rfl) rfl (Nat.le_of_ble_eq_true rfl) rfl ?_
        refine r_if_ne (tgt := 68) hX dX0_readItems_58 (by decide) (fun c19 => ?_) (fun c19 => ?_)
        · have h0b := (if_neg c19).symm.trans h0b
          refine r_aload_n hX dX0_readItems_68 1 rfl rfl ?_
          obtain ⟨u20, e21, h0b⟩ := zlet_elim h0b
          refine r_callV (As := []) (rest := []) (st1 := []) hX dX0_readItems_69 lv_RX0_51 (c_X3_moveOn   u11 _ e21) (by decide) rfl rfl (zRecv.of (q := 20) (ci := 3) rfl rfl) rfl (Nat.le_of_ble_eq_true rfl) rfl ?_
          refine r_iinc (v := (x5 + 1)) (L' := [(4, .int (x5 + 1)), (0, .ref (zad X.1 25)), (1, .ref (zad X.1 20)), (2, .ref (zad X.1 1)), (3, .int a1)]) hX dX0_readItems_72 (by decide) 4 rfl rfl rfl ?_
          refine r_goto (tgt := 18) hX dX0_readItems_75 (by decide) ?_
          refine r_sub [1, 2, 3, 4, 0] (L' := [(0, .ref (zad X.1 25)), (1, .ref (zad X.1 20)), (2, .ref (zad X.1 1)), (3, .int a1), (4, .int (x5 + 1))]) rfl ?_
          exact hin0 _ (Option.some.inj h0b).symm
        · have h0b := (if_pos c19).symm.trans h0b
          refine r_iconst (v := (-1)) hX dX0_readItems_61 (by decide) ?_
          refine r_aload_n hX dX0_readItems_62 1 rfl rfl ?_
          obtain ⟨x22, e23, h0b⟩ := zbind_elim h0b
          refine r_callV (As := []) (rest := [.int (-1)]) (st1 := [.int x22, .int (-1)]) hX dX0_readItems_63 lv_RX0_39 (c_X3_begin   u11 _ e23) (by decide) rfl rfl (zRecv.of (q := 20) (ci := 3) rfl rfl) rfl (Nat.le_of_ble_eq_true rfl) rfl ?_
          refine r_isub hX dX0_readItems_66 ?_
          have h0b := hout0 _ (Option.some.inj h0b).symm
          obtain ⟨rfl, rfl⟩ := zinj2 h0b
          exact r_iret hX hR dX0_readItems_67
      · have h0b := (if_neg c16).symm.trans h0b
        refine r_iload hX dX0_readItems_49 4 rfl ?_
        have h0b := hout0 _ (Option.some.inj h0b).symm
        obtain ⟨rfl, rfl⟩ := zinj2 h0b
        exact r_iret hX hR dX0_readItems_51
    · have h0b := (if_pos c13).symm.trans h0b
      refine r_iconst (v := (-1)) hX dX0_readItems_35 (by decide) ?_
      refine r_aload_n hX dX0_readItems_36 1 rfl rfl ?_
      obtain ⟨x24, e25, h0b⟩ := zbind_elim h0b
      refine r_callV (As := []) (rest := [.int (-1)]) (st1 := [.int x24, .int (-1)]) hX dX0_readItems_37 lv_RX0_39 (c_X3_begin   u11 _ e25) (by decide) rfl rfl (zRecv.of (q := 20) (ci := 3) rfl rfl) rfl (Nat.le_of_ble_eq_true rfl) rfl ?_
      refine r_isub hX dX0_readItems_40 ?_
      have h0b := hout0 _ (Option.some.inj h0b).symm
      obtain ⟨rfl, rfl⟩ := zinj2 h0b
      exact r_iret hX hR dX0_readItems_41
theorem dX5_text_0 : decode cX5_text 0 = .ok (.aload_n 0, 1) := by decide +kernel
theorem dX5_text_1 : decode cX5_text 1 = .ok (.getfield 36, 3) := by decide +kernel
theorem dX5_text_4 : decode cX5_text 4 = .ok (.aload_n 0, 1) := by decide +kernel
theorem dX5_text_5 : decode cX5_text 5 = .ok (.getfield 29, 3) := by decide +kernel
theorem dX5_text_8 : decode cX5_text 8 = .ok (.aload_n 0, 1) := by decide +kernel
theorem dX5_text_9 : decode cX5_text 9 = .ok (.getfield 10, 3) := by decide +kernel
theorem dX5_text_12 : decode cX5_text 12 = .ok (.iconst 0, 1) := by decide +kernel
theorem dX5_text_13 : decode cX5_text 13 = .ok (.invokevirtual 234, 3) := by decide +kernel
theorem dX5_text_16 : decode cX5_text 16 = .ok (.istore_n 1, 1) := by decide +kernel
theorem dX5_text_17 : decode cX5_text 17 = .ok (.iload_n 1, 1) := by decide +kernel
theorem dX5_text_18 : decode cX5_text 18 = .ok (.ifCond .lt 20, 3) := by decide +kernel
theorem dX5_text_21 : decode cX5_text 21 = .ok (.aload_n 0, 1) := by decide +kernel
theorem dX5_text_22 : decode cX5_text 22 = .ok (.getfield 36, 3) := by decide +kernel
theorem dX5_text_25 : decode cX5_text 25 = .ok (.aload_n 0, 1) := by decide +kernel
theorem dX5_text_26 : decode cX5_text 26 = .ok (.getfield 29, 3) := by decide +kernel
theorem dX5_text_29 : decode cX5_text 29 = .ok (.aload_n 0, 1) := by decide +kernel
theorem dX5_text_30 : decode cX5_text 30 = .ok (.getfield 10, 3) := by decide +kernel
theorem dX5_text_33 : decode cX5_text 33 = .ok (.iconst 1, 1) := by decide +kernel
theorem dX5_text_34 : decode cX5_text 34 = .ok (.invokevirtual 234, 3) := by decide +kernel
theorem dX5_text_37 : decode cX5_text 37 = .ok (.istore_n 1, 1) := by decide +kernel
theorem dX5_text_38 : decode cX5_text 38 = .ok (.aload_n 0, 1) := by decide +kernel
theorem dX5_text_39 : decode cX5_text 39 = .ok (.getfield 29, 3) := by decide +kernel
theorem dX5_text_42 : decode cX5_text 42 = .ok (.iconst 0, 1) := by decide +kernel
theorem dX5_text_43 : decode cX5_text 43 = .ok (.putfield 228, 3) := by decide +kernel
theorem dX5_text_46 : decode cX5_text 46 = .ok (.iload_n 1, 1) := by decide +kernel
theorem dX5_text_47 : decode cX5_text 47 = .ok (.ireturn, 1) := by decide +kernel
def m_X5_text  (u : zM) : Option (Int32 × zM) :=
  zbind2 (m_X0_readItems 0 u) (fun x1 u2 => (if x1 < 0 then
zlet (zst u2 20 4 0) (fun u5 => some (x1, u5))
else
zbind2 (m_X0_readItems 1 u2) (fun x7 u8 => zlet (zst u8 20 4 0) (fun u10 => some (x7, u10)))))
set_option maxHeartbeats 4000000 in
set_option maxRecDepth 100000 in
theorem c_X5_text    (u : zM) (r : Int32) (u' : zM) (h : m_X5_text u = some (r, u')) : zCt 10 yX5_text cX5_text 2 (some .int) (fun E => [.ref (zad E 0)]) u (fun _ => some (.int r)) u' := by
  refine zCt.of (by decide +kernel) (fun E => Nat.le_of_ble_eq_true rfl) (fun X hX hR => ?_)
  have hX : zGood X RX5 cX5_text 2 10 := hX
  show zG X u 0 [(0, .ref (zad X.1 0))] []
  unfold m_X5_text at h
  refine r_aload_n hX dX5_text_0 0 rfl rfl ?_
  refine r_getR hX dX5_text_1 f_RX5_36 zr_0_4 ?_
  refine r_aload_n hX dX5_text_4 0 rfl rfl ?_
  refine r_getR hX dX5_text_5 f_RX5_29 zr_0_3 ?_
  refine r_aload_n hX dX5_text_8 0 rfl rfl ?_
  refine r_getR hX dX5_text_9 f_RX5_10 zr_0_0 ?_
  refine r_iconst (v := 0) hX dX5_text_12 (by decide) ?_
  obtain ⟨x1, u2, e3, h⟩ := zbind2_elim h
  refine r_callV (As := [.ref (zad X.1 20), .ref (zad X.1 1), .int 0]) (rest := []) (st1 := [.int x1]) hX dX5_text_13 lv_RX5_234 (c_X0_readItems 0  u _ _ e3) (by decide) rfl rfl (zRecv.of (q := 25) (ci := 0) rfl rfl) rfl (Nat.le_of_ble_eq_true rfl) rfl ?_
  refine r_istore_n (y := x1) (L' := [(1, .int x1), (0, .ref (zad X.1 0))]) hX dX5_text_16 rfl (by decide) rfl rfl ?_
  refine r_iload_n hX dX5_text_17 0 rfl rfl ?_
  refine r_if_lt (tgt := 38) hX dX5_text_18 (by decide) (fun c4 => ?_) (fun c4 => ?_)
  · have h := (if_pos c4).symm.trans h
    refine r_aload_n hX dX5_text_38 1 rfl rfl ?_
    refine r_getR hX dX5_text_39 f_RX5_29 zr_0_3 ?_
    refine r_iconst (v := 0) hX dX5_text_42 (by decide) ?_
    obtain ⟨u5, e6, h⟩ := zlet_elim h
    refine r_putI hX dX5_text_43 f_RX5_228 p_3_4 zi_20_4 ?_
    rw [e6]
    refine r_iload_n hX dX5_text_46 0 rfl rfl ?_
    obtain ⟨rfl, rfl⟩ := zinj2 (Option.some.inj h)
    exact r_iret hX hR dX5_text_47
  · have h := (if_neg c4).symm.trans h
    refine r_aload_n hX dX5_text_21 1 rfl rfl ?_
    refine r_getR hX dX5_text_22 f_RX5_36 zr_0_4 ?_
    refine r_aload_n hX dX5_text_25 1 rfl rfl ?_
    refine r_getR hX dX5_text_26 f_RX5_29 zr_0_3 ?_
    refine r_aload_n hX dX5_text_29 1 rfl rfl ?_
    refine r_getR hX dX5_text_30 f_RX5_10 zr_0_0 ?_
    refine r_iconst (v := 1) hX dX5_text_33 (by decide) ?_
    obtain ⟨x7, u8, e9, h⟩ := zbind2_elim h
    refine r_callV (As := [.ref (zad X.1 20), .ref (zad X.1 1), .int 1]) (rest := []) (st1 := [.int x7]) hX dX5_text_34 lv_RX5_234 (c_X0_readItems 1  u2 _ _ e9) (by decide) rfl rfl (zRecv.of (q := 25) (ci := 0) rfl rfl) rfl (Nat.le_of_ble_eq_true rfl) rfl ?_
    refine r_istore_n (y := x7) (L' := [(1, .int x7), (0, .ref (zad X.1 0))]) hX dX5_text_37 rfl (by decide) rfl rfl ?_
    refine r_aload_n hX dX5_text_38 1 rfl rfl ?_
    refine r_getR hX dX5_text_39 f_RX5_29 zr_0_3 ?_
    refine r_iconst (v := 0) hX dX5_text_42 (by decide) ?_
    obtain ⟨u10, e11, h⟩ := zlet_elim h
    refine r_putI hX dX5_text_43 f_RX5_228 p_3_4 zi_20_4 ?_
    rw [e11]
    refine r_iload_n hX dX5_text_46 0 rfl rfl ?_
    obtain ⟨rfl, rfl⟩ := zinj2 (Option.some.inj h)
    exact r_iret hX hR dX5_text_47
theorem dX5_isSpot_0 : decode cX5_isSpot 0 = .ok (.iload_n 0, 1) := by decide +kernel
theorem dX5_isSpot_1 : decode cX5_isSpot 1 = .ok (.iconst 0, 1) := by decide +kernel
theorem dX5_isSpot_2 : decode cX5_isSpot 2 = .ok (.bipush 9, 2) := by decide +kernel
theorem dX5_isSpot_4 : decode cX5_isSpot 4 = .ok (.invokestatic 80, 3) := by decide +kernel
theorem dX5_isSpot_7 : decode cX5_isSpot 7 = .ok (.ireturn, 1) := by decide +kernel
def m_X5_isSpot (a1 : Int32) : Int32 :=
  (zb (m_X5_within a1 0 9))
set_option maxHeartbeats 4000000 in
set_option maxRecDepth 100000 in
theorem c_X5_isSpot (a1 : Int32)   (u : zM) (r : Int32) (h : m_X5_isSpot a1 = r) : zCt 2 yX5_isSpot cX5_isSpot 1 (some .boolean) (fun E => [.int a1]) u (fun _ => some (.int r)) u := by
  refine zCt.of (by decide +kernel) (fun E => Nat.le_of_ble_eq_true rfl) (fun X hX hR => ?_)
  have hX : zGood X RX5 cX5_isSpot 1 2 := hX
  show zG X u 0 [(0, .int a1)] []
  unfold m_X5_isSpot at h
  refine r_iload_n hX dX5_isSpot_0 0 rfl rfl ?_
  refine r_iconst (v := 0) hX dX5_isSpot_1 (by decide) ?_
  refine r_bipush (v := 9) hX dX5_isSpot_2 (by decide) ?_
  refine r_callS (As := [.int a1, .int 0, .int 9]) (rest := []) (st1 := [.int (m_X5_within a1 0 9)]) hX dX5_isSpot_4 ls_RX5_80 (c_X5_within a1 0 9  u _ rfl) (by decide) rfl rfl rfl (Nat.le_of_ble_eq_true rfl) rfl ?_
  obtain rfl := h
  exact r_zret hX hR dX5_isSpot_7
theorem dX5_hold_0 : decode cX5_hold 0 = .ok (.iload_n 1, 1) := by decide +kernel
theorem dX5_hold_1 : decode cX5_hold 1 = .ok (.invokestatic 238, 3) := by decide +kernel
theorem dX5_hold_4 : decode cX5_hold 4 = .ok (.ifCond .eq 16, 3) := by decide +kernel
theorem dX5_hold_7 : decode cX5_hold 7 = .ok (.iload_n 2, 1) := by decide +kernel
theorem dX5_hold_8 : decode cX5_hold 8 = .ok (.iconst (-1), 1) := by decide +kernel
theorem dX5_hold_9 : decode cX5_hold 9 = .ok (.if_icmp .eq 17, 3) := by decide +kernel
theorem dX5_hold_12 : decode cX5_hold 12 = .ok (.aload_n 0, 1) := by decide +kernel
theorem dX5_hold_13 : decode cX5_hold 13 = .ok (.iload_n 2, 1) := by decide +kernel
theorem dX5_hold_14 : decode cX5_hold 14 = .ok (.invokevirtual 77, 3) := by decide +kernel
theorem dX5_hold_17 : decode cX5_hold 17 = .ok (.ifCond .ne 9, 3) := by decide +kernel
theorem dX5_hold_20 : decode cX5_hold 20 = .ok (.aload_n 0, 1) := by decide +kernel
theorem dX5_hold_21 : decode cX5_hold 21 = .ok (.iconst 0, 1) := by decide +kernel
theorem dX5_hold_22 : decode cX5_hold 22 = .ok (.invokevirtual 65, 3) := by decide +kernel
theorem dX5_hold_25 : decode cX5_hold 25 = .ok (.ireturn, 1) := by decide +kernel
theorem dX5_hold_26 : decode cX5_hold 26 = .ok (.aload_n 0, 1) := by decide +kernel
theorem dX5_hold_27 : decode cX5_hold 27 = .ok (.getfield 10, 3) := by decide +kernel
theorem dX5_hold_30 : decode cX5_hold 30 = .ok (.getfield 241, 3) := by decide +kernel
theorem dX5_hold_33 : decode cX5_hold 33 = .ok (.iload_n 1, 1) := by decide +kernel
theorem dX5_hold_34 : decode cX5_hold 34 = .ok (.iload_n 2, 1) := by decide +kernel
theorem dX5_hold_35 : decode cX5_hold 35 = .ok (.iastore, 1) := by decide +kernel
theorem dX5_hold_36 : decode cX5_hold 36 = .ok (.iconst 1, 1) := by decide +kernel
theorem dX5_hold_37 : decode cX5_hold 37 = .ok (.ireturn, 1) := by decide +kernel
def m_X5_hold (a1 : Int32) (a2 : Int32) (u : zM) : Option (Int32 × zM) :=
  (if (m_X5_isSpot a1) = 0 then
zbind2 (m_X5_finding 0 u) (fun x2 u3 => some (x2, u3))
else
(if a2 = (-1) then
zbind (zsv u 7 10 a1 a2) (fun u6 => some (1, u6))
else
(if (m_X5_isBody a2 u) = 0 then
zbind2 (m_X5_finding 0 u) (fun x11 u12 => some (x11, u12))
else
zbind (zsv u 7 10 a1 a2) (fun u9 => some (1, u9)))))
set_option maxHeartbeats 4000000 in
set_option maxRecDepth 100000 in
theorem c_X5_hold (a1 : Int32) (a2 : Int32)   (u : zM) (r : Int32) (u' : zM) (h : m_X5_hold a1 a2 u = some (r, u')) : zCt 3 yX5_hold cX5_hold 3 (some .int) (fun E => [.ref (zad E 0), .int a1, .int a2]) u (fun _ => some (.int r)) u' := by
  refine zCt.of (by decide +kernel) (fun E => Nat.le_of_ble_eq_true rfl) (fun X hX hR => ?_)
  have hX : zGood X RX5 cX5_hold 3 3 := hX
  show zG X u 0 [(0, .ref (zad X.1 0)), (1, .int a1), (2, .int a2)] []
  unfold m_X5_hold at h
  refine r_iload_n hX dX5_hold_0 1 rfl rfl ?_
  refine r_callS (As := [.int a1]) (rest := []) (st1 := [.int (m_X5_isSpot a1)]) hX dX5_hold_1 ls_RX5_238 (c_X5_isSpot a1  u _ rfl) (by decide) rfl rfl rfl (Nat.le_of_ble_eq_true rfl) rfl ?_
  refine r_if_eq (tgt := 20) hX dX5_hold_4 (by decide) (fun c1 => ?_) (fun c1 => ?_)
  · have h := (if_pos c1).symm.trans h
    refine r_aload_n hX dX5_hold_20 0 rfl rfl ?_
    refine r_iconst (v := 0) hX dX5_hold_21 (by decide) ?_
    obtain ⟨x2, u3, e4, h⟩ := zbind2_elim h
    refine r_callV (As := [.int 0]) (rest := []) (st1 := [.int x2]) hX dX5_hold_22 lv_RX5_65 (c_X5_finding 0  u _ _ e4) (by decide) rfl rfl (zRecv.of (q := 0) (ci := 5) rfl rfl) rfl (Nat.le_of_ble_eq_true rfl) rfl ?_
    obtain ⟨rfl, rfl⟩ := zinj2 (Option.some.inj h)
    exact r_iret hX hR dX5_hold_25
  · have h := (if_neg c1).symm.trans h
    refine r_iload_n hX dX5_hold_7 2 rfl rfl ?_
    refine r_iconst (v := (-1)) hX dX5_hold_8 (by decide) ?_
    refine r_icmp_eq (tgt := 26) hX dX5_hold_9 (by decide) (fun c5 => ?_) (fun c5 => ?_)
    · have h := (if_pos c5).symm.trans h
      refine r_aload_n hX dX5_hold_26 0 rfl rfl ?_
      refine r_getR hX dX5_hold_27 f_RX5_10 zr_0_0 ?_
      refine r_getR hX dX5_hold_30 f_RX5_241 zr_1_5 ?_
      refine r_iload_n hX dX5_hold_33 1 rfl rfl ?_
      refine r_iload_n hX dX5_hold_34 2 rfl rfl ?_
      obtain ⟨u6, e7, h⟩ := zbind_elim h
      refine r_iast hX dX5_hold_35 rfl e7 ?_
      refine r_iconst (v := 1) hX dX5_hold_36 (by decide) ?_
      obtain ⟨rfl, rfl⟩ := zinj2 (Option.some.inj h)
      exact r_iret hX hR dX5_hold_37
    · have h := (if_neg c5).symm.trans h
      refine r_aload_n hX dX5_hold_12 0 rfl rfl ?_
      refine r_iload_n hX dX5_hold_13 2 rfl rfl ?_
      refine r_callV (As := [.int a2]) (rest := []) (st1 := [.int (m_X5_isBody a2 u)]) hX dX5_hold_14 lv_RX5_77 (c_X5_isBody a2  u _ rfl) (by decide) rfl rfl (zRecv.of (q := 0) (ci := 5) rfl rfl) rfl (Nat.le_of_ble_eq_true rfl) rfl ?_
      refine r_if_ne (tgt := 26) hX dX5_hold_17 (by decide) (fun c8 => ?_) (fun c8 => ?_)
      · have h := (if_neg c8).symm.trans h
        refine r_aload_n hX dX5_hold_26 0 rfl rfl ?_
        refine r_getR hX dX5_hold_27 f_RX5_10 zr_0_0 ?_
        refine r_getR hX dX5_hold_30 f_RX5_241 zr_1_5 ?_
        refine r_iload_n hX dX5_hold_33 1 rfl rfl ?_
        refine r_iload_n hX dX5_hold_34 2 rfl rfl ?_
        obtain ⟨u9, e10, h⟩ := zbind_elim h
        refine r_iast hX dX5_hold_35 rfl e10 ?_
        refine r_iconst (v := 1) hX dX5_hold_36 (by decide) ?_
        obtain ⟨rfl, rfl⟩ := zinj2 (Option.some.inj h)
        exact r_iret hX hR dX5_hold_37
      · have h := (if_pos c8).symm.trans h
        refine r_aload_n hX dX5_hold_20 0 rfl rfl ?_
        refine r_iconst (v := 0) hX dX5_hold_21 (by decide) ?_
        obtain ⟨x11, u12, e13, h⟩ := zbind2_elim h
        refine r_callV (As := [.int 0]) (rest := []) (st1 := [.int x11]) hX dX5_hold_22 lv_RX5_65 (c_X5_finding 0  u _ _ e13) (by decide) rfl rfl (zRecv.of (q := 0) (ci := 5) rfl rfl) rfl (Nat.le_of_ble_eq_true rfl) rfl ?_
        obtain ⟨rfl, rfl⟩ := zinj2 (Option.some.inj h)
        exact r_iret hX hR dX5_hold_25
theorem dX5_as_0 : decode cX5_as 0 = .ok (.iload_n 1, 1) := by decide +kernel
theorem dX5_as_1 : decode cX5_as 1 = .ok (.invokestatic 238, 3) := by decide +kernel
theorem dX5_as_4 : decode cX5_as 4 = .ok (.ifCond .eq 10, 3) := by decide +kernel
theorem dX5_as_7 : decode cX5_as 7 = .ok (.iload_n 2, 1) := by decide +kernel
theorem dX5_as_8 : decode cX5_as 8 = .ok (.invokestatic 61, 3) := by decide +kernel
theorem dX5_as_11 : decode cX5_as 11 = .ok (.ifCond .ne 9, 3) := by decide +kernel
theorem dX5_as_14 : decode cX5_as 14 = .ok (.aload_n 0, 1) := by decide +kernel
theorem dX5_as_15 : decode cX5_as 15 = .ok (.iconst 0, 1) := by decide +kernel
theorem dX5_as_16 : decode cX5_as 16 = .ok (.invokevirtual 65, 3) := by decide +kernel
theorem dX5_as_19 : decode cX5_as 19 = .ok (.ireturn, 1) := by decide +kernel
theorem dX5_as_20 : decode cX5_as 20 = .ok (.aload_n 0, 1) := by decide +kernel
theorem dX5_as_21 : decode cX5_as 21 = .ok (.getfield 10, 3) := by decide +kernel
theorem dX5_as_24 : decode cX5_as 24 = .ok (.getfield 241, 3) := by decide +kernel
theorem dX5_as_27 : decode cX5_as 27 = .ok (.iload_n 1, 1) := by decide +kernel
theorem dX5_as_28 : decode cX5_as 28 = .ok (.iaload, 1) := by decide +kernel
theorem dX5_as_29 : decode cX5_as 29 = .ok (.istore_n 3, 1) := by decide +kernel
theorem dX5_as_30 : decode cX5_as 30 = .ok (.iload_n 3, 1) := by decide +kernel
theorem dX5_as_31 : decode cX5_as 31 = .ok (.iconst (-1), 1) := by decide +kernel
theorem dX5_as_32 : decode cX5_as 32 = .ok (.if_icmp .ne 9, 3) := by decide +kernel
theorem dX5_as_35 : decode cX5_as 35 = .ok (.aload_n 0, 1) := by decide +kernel
theorem dX5_as_36 : decode cX5_as 36 = .ok (.iconst 5, 1) := by decide +kernel
theorem dX5_as_37 : decode cX5_as 37 = .ok (.invokevirtual 65, 3) := by decide +kernel
theorem dX5_as_40 : decode cX5_as 40 = .ok (.ireturn, 1) := by decide +kernel
theorem dX5_as_41 : decode cX5_as 41 = .ok (.aload_n 0, 1) := by decide +kernel
theorem dX5_as_42 : decode cX5_as 42 = .ok (.getfield 10, 3) := by decide +kernel
theorem dX5_as_45 : decode cX5_as 45 = .ok (.iload_n 3, 1) := by decide +kernel
theorem dX5_as_46 : decode cX5_as 46 = .ok (.iconst 0, 1) := by decide +kernel
theorem dX5_as_47 : decode cX5_as 47 = .ok (.invokevirtual 84, 3) := by decide +kernel
theorem dX5_as_50 : decode cX5_as 50 = .ok (.iload_n 2, 1) := by decide +kernel
theorem dX5_as_51 : decode cX5_as 51 = .ok (.invokestatic 244, 3) := by decide +kernel
theorem dX5_as_54 : decode cX5_as 54 = .ok (.ifCond .eq 7, 3) := by decide +kernel
theorem dX5_as_57 : decode cX5_as 57 = .ok (.iload_n 3, 1) := by decide +kernel
theorem dX5_as_58 : decode cX5_as 58 = .ok (.goto 8, 3) := by decide +kernel
theorem dX5_as_61 : decode cX5_as 61 = .ok (.aload_n 0, 1) := by decide +kernel
theorem dX5_as_62 : decode cX5_as 62 = .ok (.iconst 2, 1) := by decide +kernel
theorem dX5_as_63 : decode cX5_as 63 = .ok (.invokevirtual 65, 3) := by decide +kernel
theorem dX5_as_66 : decode cX5_as 66 = .ok (.ireturn, 1) := by decide +kernel
def m_X5_as (a1 : Int32) (a2 : Int32) (u : zM) : Option (Int32 × zM) :=
  (if (m_X5_isSpot a1) = 0 then
zbind2 (m_X5_finding 0 u) (fun x2 u3 => some (x2, u3))
else
(if (m_X5_isKind a2) = 0 then
zbind2 (m_X5_finding 0 u) (fun x20 u21 => some (x20, u21))
else
zbind (zld u 7 10 a1) (fun x6 => (if x6 = (-1) then
zbind2 (m_X5_finding 5 u) (fun x17 u18 => some (x17, u18))
else
zbind (m_X4_tell x6 0 u) (fun x9 => zbind (m_X5_isUnder x9 a2) (fun x11 => (if x11 = 0 then
zbind2 (m_X5_finding 2 u) (fun x14 u15 => some (x14, u15))
else
some (x6, u))))))))
set_option maxHeartbeats 4000000 in
set_option maxRecDepth 100000 in
theorem c_X5_as (a1 : Int32) (a2 : Int32)   (u : zM) (r : Int32) (u' : zM) (h : m_X5_as a1 a2 u = some (r, u')) : zCt 6 yX5_as cX5_as 4 (some .int) (fun E => [.ref (zad E 0), .int a1, .int a2]) u (fun _ => some (.int r)) u' := by
  refine zCt.of (by decide +kernel) (fun E => Nat.le_of_ble_eq_true rfl) (fun X hX hR => ?_)
  have hX : zGood X RX5 cX5_as 4 6 := hX
  show zG X u 0 [(0, .ref (zad X.1 0)), (1, .int a1), (2, .int a2)] []
  unfold m_X5_as at h
  refine r_iload_n hX dX5_as_0 1 rfl rfl ?_
  refine r_callS (As := [.int a1]) (rest := []) (st1 := [.int (m_X5_isSpot a1)]) hX dX5_as_1 ls_RX5_238 (c_X5_isSpot a1  u _ rfl) (by decide) rfl rfl rfl (Nat.le_of_ble_eq_true rfl) rfl ?_
  refine r_if_eq (tgt := 14) hX dX5_as_4 (by decide) (fun c1 => ?_) (fun c1 => ?_)
  · have h := (if_pos c1).symm.trans h
    refine r_aload_n hX dX5_as_14 0 rfl rfl ?_
    refine r_iconst (v := 0) hX dX5_as_15 (by decide) ?_
    obtain ⟨x2, u3, e4, h⟩ := zbind2_elim h
    refine r_callV (As := [.int 0]) (rest := []) (st1 := [.int x2]) hX dX5_as_16 lv_RX5_65 (c_X5_finding 0  u _ _ e4) (by decide) rfl rfl (zRecv.of (q := 0) (ci := 5) rfl rfl) rfl (Nat.le_of_ble_eq_true rfl) rfl ?_
    obtain ⟨rfl, rfl⟩ := zinj2 (Option.some.inj h)
    exact r_iret hX hR dX5_as_19
  · have h := (if_neg c1).symm.trans h
    refine r_iload_n hX dX5_as_7 2 rfl rfl ?_
    refine r_callS (As := [.int a2]) (rest := []) (st1 := [.int (m_X5_isKind a2)]) hX dX5_as_8 ls_RX5_61 (c_X5_isKind a2  u _ rfl) (by decide) rfl rfl rfl (Nat.le_of_ble_eq_true rfl) rfl ?_
    refine r_if_ne (tgt := 20) hX dX5_as_11 (by decide) (fun c5 => ?_) (fun c5 => ?_)
    · have h := (if_neg c5).symm.trans h
      refine r_aload_n hX dX5_as_20 0 rfl rfl ?_
      refine r_getR hX dX5_as_21 f_RX5_10 zr_0_0 ?_
      refine r_getR hX dX5_as_24 f_RX5_241 zr_1_5 ?_
      refine r_iload_n hX dX5_as_27 1 rfl rfl ?_
      obtain ⟨x6, e7, h⟩ := zbind_elim h
      refine r_iald hX dX5_as_28 rfl e7 ?_
      refine r_istore_n (y := x6) (L' := [(3, .int x6), (0, .ref (zad X.1 0)), (1, .int a1), (2, .int a2)]) hX dX5_as_29 rfl (by decide) rfl rfl ?_
      refine r_iload_n hX dX5_as_30 0 rfl rfl ?_
      refine r_iconst (v := (-1)) hX dX5_as_31 (by decide) ?_
      refine r_icmp_ne (tgt := 41) hX dX5_as_32 (by decide) (fun c8 => ?_) (fun c8 => ?_)
      · have h := (if_neg c8).symm.trans h
        refine r_aload_n hX dX5_as_41 1 rfl rfl ?_
        refine r_getR hX dX5_as_42 f_RX5_10 zr_0_0 ?_
        refine r_iload_n hX dX5_as_45 0 rfl rfl ?_
        refine r_iconst (v := 0) hX dX5_as_46 (by decide) ?_
        obtain ⟨x9, e10, h⟩ := zbind_elim h
        refine r_callV (As := [.int x6, .int 0]) (rest := []) (st1 := [.int x9]) hX dX5_as_47 lv_RX5_84 (c_X4_tell x6 0  u _ e10) (by decide) rfl rfl (zRecv.of (q := 1) (ci := 4) rfl rfl) rfl (Nat.le_of_ble_eq_true rfl) rfl ?_
        refine r_iload_n hX dX5_as_50 3 rfl rfl ?_
        obtain ⟨x11, e12, h⟩ := zbind_elim h
        refine r_callS (As := [.int x9, .int a2]) (rest := []) (st1 := [.int x11]) hX dX5_as_51 ls_RX5_244 (c_X5_isUnder x9 a2  u _ e12) (by decide) rfl rfl rfl (Nat.le_of_ble_eq_true rfl) rfl ?_
        refine r_if_eq (tgt := 61) hX dX5_as_54 (by decide) (fun c13 => ?_) (fun c13 => ?_)
        · have h := (if_pos c13).symm.trans h
          refine r_aload_n hX dX5_as_61 1 rfl rfl ?_
          refine r_iconst (v := 2) hX dX5_as_62 (by decide) ?_
          obtain ⟨x14, u15, e16, h⟩ := zbind2_elim h
          refine r_callV (As := [.int 2]) (rest := []) (st1 := [.int x14]) hX dX5_as_63 lv_RX5_65 (c_X5_finding 2  u _ _ e16) (by decide) rfl rfl (zRecv.of (q := 0) (ci := 5) rfl rfl) rfl (Nat.le_of_ble_eq_true rfl) rfl ?_
          obtain ⟨rfl, rfl⟩ := zinj2 (Option.some.inj h)
          exact r_iret hX hR dX5_as_66
        · have h := (if_neg c13).symm.trans h
          refine r_iload_n hX dX5_as_57 0 rfl rfl ?_
          refine r_goto (tgt := 66) hX dX5_as_58 (by decide) ?_
          obtain ⟨rfl, rfl⟩ := zinj2 (Option.some.inj h)
          exact r_iret hX hR dX5_as_66
      · have h := (if_pos c8).symm.trans h
        refine r_aload_n hX dX5_as_35 1 rfl rfl ?_
        refine r_iconst (v := 5) hX dX5_as_36 (by decide) ?_
        obtain ⟨x17, u18, e19, h⟩ := zbind2_elim h
        refine r_callV (As := [.int 5]) (rest := []) (st1 := [.int x17]) hX dX5_as_37 lv_RX5_65 (c_X5_finding 5  u _ _ e19) (by decide) rfl rfl (zRecv.of (q := 0) (ci := 5) rfl rfl) rfl (Nat.le_of_ble_eq_true rfl) rfl ?_
        obtain ⟨rfl, rfl⟩ := zinj2 (Option.some.inj h)
        exact r_iret hX hR dX5_as_40
    · have h := (if_pos c5).symm.trans h
      refine r_aload_n hX dX5_as_14 0 rfl rfl ?_
      refine r_iconst (v := 0) hX dX5_as_15 (by decide) ?_
      obtain ⟨x20, u21, e22, h⟩ := zbind2_elim h
      refine r_callV (As := [.int 0]) (rest := []) (st1 := [.int x20]) hX dX5_as_16 lv_RX5_65 (c_X5_finding 0  u _ _ e22) (by decide) rfl rfl (zRecv.of (q := 0) (ci := 5) rfl rfl) rfl (Nat.le_of_ble_eq_true rfl) rfl ?_
      obtain ⟨rfl, rfl⟩ := zinj2 (Option.some.inj h)
      exact r_iret hX hR dX5_as_19
theorem dX5_isSheet_0 : decode cX5_isSheet 0 = .ok (.iload_n 0, 1) := by decide +kernel
theorem dX5_isSheet_1 : decode cX5_isSheet 1 = .ok (.iconst 0, 1) := by decide +kernel
theorem dX5_isSheet_2 : decode cX5_isSheet 2 = .ok (.iconst 3, 1) := by decide +kernel
theorem dX5_isSheet_3 : decode cX5_isSheet 3 = .ok (.invokestatic 80, 3) := by decide +kernel
theorem dX5_isSheet_6 : decode cX5_isSheet 6 = .ok (.ireturn, 1) := by decide +kernel
def m_X5_isSheet (a1 : Int32) : Int32 :=
  (zb (m_X5_within a1 0 3))
set_option maxHeartbeats 4000000 in
set_option maxRecDepth 100000 in
theorem c_X5_isSheet (a1 : Int32)   (u : zM) (r : Int32) (h : m_X5_isSheet a1 = r) : zCt 2 yX5_isSheet cX5_isSheet 1 (some .boolean) (fun E => [.int a1]) u (fun _ => some (.int r)) u := by
  refine zCt.of (by decide +kernel) (fun E => Nat.le_of_ble_eq_true rfl) (fun X hX hR => ?_)
  have hX : zGood X RX5 cX5_isSheet 1 2 := hX
  show zG X u 0 [(0, .int a1)] []
  unfold m_X5_isSheet at h
  refine r_iload_n hX dX5_isSheet_0 0 rfl rfl ?_
  refine r_iconst (v := 0) hX dX5_isSheet_1 (by decide) ?_
  refine r_iconst (v := 3) hX dX5_isSheet_2 (by decide) ?_
  refine r_callS (As := [.int a1, .int 0, .int 3]) (rest := []) (st1 := [.int (m_X5_within a1 0 3)]) hX dX5_isSheet_3 ls_RX5_80 (c_X5_within a1 0 3  u _ rfl) (by decide) rfl rfl rfl (Nat.le_of_ble_eq_true rfl) rfl ?_
  obtain rfl := h
  exact r_zret hX hR dX5_isSheet_6
theorem dX1_lay_0 : decode cX1_lay 0 = .ok (.aload_n 0, 1) := by decide +kernel
theorem dX1_lay_1 : decode cX1_lay 1 = .ok (.iload_n 1, 1) := by decide +kernel
theorem dX1_lay_2 : decode cX1_lay 2 = .ok (.putfield 15, 3) := by decide +kernel
theorem dX1_lay_5 : decode cX1_lay 5 = .ok (.aload_n 0, 1) := by decide +kernel
theorem dX1_lay_6 : decode cX1_lay 6 = .ok (.iload_n 2, 1) := by decide +kernel
theorem dX1_lay_7 : decode cX1_lay 7 = .ok (.putfield 19, 3) := by decide +kernel
theorem dX1_lay_10 : decode cX1_lay 10 = .ok (.iconst 0, 1) := by decide +kernel
theorem dX1_lay_11 : decode cX1_lay 11 = .ok (.istore_n 3, 1) := by decide +kernel
theorem dX1_lay_12 : decode cX1_lay 12 = .ok (.iload_n 3, 1) := by decide +kernel
theorem dX1_lay_13 : decode cX1_lay 13 = .ok (.bipush 40, 2) := by decide +kernel
theorem dX1_lay_15 : decode cX1_lay 15 = .ok (.if_icmp .ge 16, 3) := by decide +kernel
theorem dX1_lay_18 : decode cX1_lay 18 = .ok (.aload_n 0, 1) := by decide +kernel
theorem dX1_lay_19 : decode cX1_lay 19 = .ok (.getfield 9, 3) := by decide +kernel
theorem dX1_lay_22 : decode cX1_lay 22 = .ok (.iload_n 3, 1) := by decide +kernel
theorem dX1_lay_23 : decode cX1_lay 23 = .ok (.iconst 0, 1) := by decide +kernel
theorem dX1_lay_24 : decode cX1_lay 24 = .ok (.iastore, 1) := by decide +kernel
theorem dX1_lay_25 : decode cX1_lay 25 = .ok (.iinc 3 1, 3) := by decide +kernel
theorem dX1_lay_28 : decode cX1_lay 28 = .ok (.goto (-16), 3) := by decide +kernel
theorem dX1_lay_31 : decode cX1_lay 31 = .ok (.return_, 1) := by decide +kernel
def m_X1_lay_b0 (k0 : Nat) (x5 : Int32) (u6 : zM) : Option ((Int32 × zM) ⊕ (zM)) :=
  (if 40 ≤ x5 then
some (.inr u6)
else
zbind (zsv u6 (k0 + 1) 40 x5 0) (fun u10 => some (.inl ((x5 + 1), u10))))
def m_X1_lay (k0 : Nat) (a1 : Int32) (a2 : Int32) (u : zM) : Option (zM) :=
  zlet (zst u k0 1 a1) (fun u1 => zlet (zst u1 k0 2 a2) (fun u3 => zbind (zit zF (fun s : Int32 × zM => m_X1_lay_b0 k0 s.1 s.2) (0, u3)) (fun u7 =>
some u7)))
set_option maxHeartbeats 4000000 in
set_option maxRecDepth 100000 in
theorem c_X1_lay (k0 : Nat) (a1 : Int32) (a2 : Int32) (hk0 : zSh k0)  (u : zM) (u' : zM) (h : m_X1_lay k0 a1 a2 u = some (u')) : zCt 1 yX1_lay cX1_lay 4 none (fun E => [.ref (zad E k0), .int a1, .int a2]) u (fun _ => none) u' := by
  refine zCt.of (by decide +kernel) (fun E => Nat.le_of_ble_eq_true rfl) (fun X hX hR => ?_)
  have hX : zGood X RX1 cX1_lay 4 1 := hX
  show zG X u 0 [(0, .ref (zad X.1 k0)), (1, .int a1), (2, .int a2)] []
  unfold m_X1_lay at h
  refine r_aload_n hX dX1_lay_0 0 rfl rfl ?_
  refine r_iload_n hX dX1_lay_1 1 rfl rfl ?_
  obtain ⟨u1, e2, h⟩ := zlet_elim h
  refine r_putI hX dX1_lay_2 f_RX1_15 p_1_1 (zSh_1 hk0) ?_
  rw [e2]
  refine r_aload_n hX dX1_lay_5 0 rfl rfl ?_
  refine r_iload_n hX dX1_lay_6 2 rfl rfl ?_
  obtain ⟨u3, e4, h⟩ := zlet_elim h
  refine r_putI hX dX1_lay_7 f_RX1_19 p_1_2 (zSh_2 hk0) ?_
  rw [e4]
  refine r_iconst (v := 0) hX dX1_lay_10 (by decide) ?_
  refine r_istore_n (y := 0) (L' := [(3, .int 0), (0, .ref (zad X.1 k0)), (1, .int a1), (2, .int a2)]) hX dX1_lay_11 rfl (by decide) rfl rfl ?_
  refine r_sub [1, 0] (L' := [(0, .ref (zad X.1 k0)), (3, .int 0)]) rfl ?_
  obtain ⟨u7, h8, h⟩ := zbind_elim h
  have Jh8 : zG X u7 31 [] [] := by
      obtain rfl := Option.some.inj h
      exact r_vret hX hR dX1_lay_31
  clear h
  refine zit_walk (P := fun s0 : Int32 × zM => zG X s0.2 12 [(0, .ref (zad X.1 k0)), (3, .int (s0.1))] []) ?_ zF _ h8
  clear h8
  intro s0 y0 h0b hin0 hout0
  obtain ⟨x5, u6⟩ := s0
  have h0b : m_X1_lay_b0 k0 x5 u6 = some y0 := h0b
  unfold m_X1_lay_b0 at h0b
  show zG X u6 12 [(0, .ref (zad X.1 k0)), (3, .int x5)] []
  refine r_iload_n hX dX1_lay_12 1 rfl rfl ?_
  refine r_bipush (v := 40) hX dX1_lay_13 (by decide) ?_
  refine r_icmp_ge (tgt := 31) hX dX1_lay_15 (by decide) (fun c9 => ?_) (fun c9 => ?_)
  · have h0b := (if_pos c9).symm.trans h0b
    refine r_sub [] (L' := []) rfl ?_
    have h0b := hout0 _ (Option.some.inj h0b).symm
    obtain rfl := h0b
    exact Jh8
  · have h0b := (if_neg c9).symm.trans h0b
    refine r_aload_n hX dX1_lay_18 0 rfl rfl ?_
    refine r_getR hX dX1_lay_19 f_RX1_9 (zSh_0 hk0) ?_
    refine r_iload_n hX dX1_lay_22 1 rfl rfl ?_
    refine r_iconst (v := 0) hX dX1_lay_23 (by decide) ?_
    obtain ⟨u10, e11, h0b⟩ := zbind_elim h0b
    refine r_iast hX dX1_lay_24 (zSh_n hk0) e11 ?_
    refine r_iinc (v := (x5 + 1)) (L' := [(3, .int (x5 + 1)), (0, .ref (zad X.1 k0))]) hX dX1_lay_25 (by decide) 1 rfl rfl rfl ?_
    refine r_goto (tgt := 12) hX dX1_lay_28 (by decide) ?_
    refine r_sub [1, 0] (L' := [(0, .ref (zad X.1 k0)), (3, .int (x5 + 1))]) rfl ?_
    exact hin0 _ (Option.some.inj h0b).symm
