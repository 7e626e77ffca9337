/-! MODELS AND CONTRACTS, by program (wip/whole/gen_all.py): X2_greatestOf, X2_middleOf, X2_cutOne, X2_cutAll, X5_cutForAllHere, X5_coat, X5_greatestDivisor, X5_mean -/
theorem dX2_greatestOf_0 : decode cX2_greatestOf 0 = .ok (.iload_n 1, 1) := by decide +kernel
theorem dX2_greatestOf_1 : decode cX2_greatestOf 1 = .ok (.bipush 12, 2) := by decide +kernel
theorem dX2_greatestOf_3 : decode cX2_greatestOf 3 = .ok (.imul, 1) := by decide +kernel
theorem dX2_greatestOf_4 : decode cX2_greatestOf 4 = .ok (.istore_n 3, 1) := by decide +kernel
theorem dX2_greatestOf_5 : decode cX2_greatestOf 5 = .ok (.aload_n 0, 1) := by decide +kernel
theorem dX2_greatestOf_6 : decode cX2_greatestOf 6 = .ok (.getfield 24, 3) := by decide +kernel
theorem dX2_greatestOf_9 : decode cX2_greatestOf 9 = .ok (.iconst 1, 1) := by decide +kernel
theorem dX2_greatestOf_10 : decode cX2_greatestOf 10 = .ok (.isub, 1) := by decide +kernel
theorem dX2_greatestOf_11 : decode cX2_greatestOf 11 = .ok (.istore 4, 2) := by decide +kernel
theorem dX2_greatestOf_13 : decode cX2_greatestOf 13 = .ok (.iload 4, 2) := by decide +kernel
theorem dX2_greatestOf_15 : decode cX2_greatestOf 15 = .ok (.ifCond .lt 39, 3) := by decide +kernel
theorem dX2_greatestOf_18 : decode cX2_greatestOf 18 = .ok (.aload_n 0, 1) := by decide +kernel
theorem dX2_greatestOf_19 : decode cX2_greatestOf 19 = .ok (.getfield 15, 3) := by decide +kernel
theorem dX2_greatestOf_22 : decode cX2_greatestOf 22 = .ok (.iload_n 3, 1) := by decide +kernel
theorem dX2_greatestOf_23 : decode cX2_greatestOf 23 = .ok (.iload 4, 2) := by decide +kernel
theorem dX2_greatestOf_25 : decode cX2_greatestOf 25 = .ok (.iadd, 1) := by decide +kernel
theorem dX2_greatestOf_26 : decode cX2_greatestOf 26 = .ok (.iaload, 1) := by decide +kernel
theorem dX2_greatestOf_27 : decode cX2_greatestOf 27 = .ok (.istore 5, 2) := by decide +kernel
theorem dX2_greatestOf_29 : decode cX2_greatestOf 29 = .ok (.iload_n 2, 1) := by decide +kernel
theorem dX2_greatestOf_30 : decode cX2_greatestOf 30 = .ok (.iload 5, 2) := by decide +kernel
theorem dX2_greatestOf_32 : decode cX2_greatestOf 32 = .ok (.invokestatic 64, 3) := by decide +kernel
theorem dX2_greatestOf_35 : decode cX2_greatestOf 35 = .ok (.ifCond .eq 13, 3) := by decide +kernel
theorem dX2_greatestOf_38 : decode cX2_greatestOf 38 = .ok (.aload_n 0, 1) := by decide +kernel
theorem dX2_greatestOf_39 : decode cX2_greatestOf 39 = .ok (.getfield 9, 3) := by decide +kernel
theorem dX2_greatestOf_42 : decode cX2_greatestOf 42 = .ok (.iload_n 3, 1) := by decide +kernel
theorem dX2_greatestOf_43 : decode cX2_greatestOf 43 = .ok (.iload 5, 2) := by decide +kernel
theorem dX2_greatestOf_45 : decode cX2_greatestOf 45 = .ok (.iadd, 1) := by decide +kernel
theorem dX2_greatestOf_46 : decode cX2_greatestOf 46 = .ok (.iaload, 1) := by decide +kernel
theorem dX2_greatestOf_47 : decode cX2_greatestOf 47 = .ok (.ireturn, 1) := by decide +kernel
theorem dX2_greatestOf_48 : decode cX2_greatestOf 48 = .ok (.iinc 4 (-1), 3) := by decide +kernel
theorem dX2_greatestOf_51 : decode cX2_greatestOf 51 = .ok (.goto (-38), 3) := by decide +kernel
theorem dX2_greatestOf_54 : decode cX2_greatestOf 54 = .ok (.iconst 0, 1) := by decide +kernel
theorem dX2_greatestOf_55 : decode cX2_greatestOf 55 = .ok (.ireturn, 1) := by decide +kernel
def m_X2_greatestOf_b0 (u : zM) (a1 : Int32) (a2 : Int32) (x1 : Int32) : Option ((Int32) ⊕ (Int32)) :=
  (if x1 < 0 then
some (.inr 0)
else
zbind (zld u 17 36 ((a1 * 12) + x1)) (fun x3 => (if (m_X5_holds a2 x3) = 0 then
some (.inl (x1 + (-1)))
else
zbind (zld u 16 36 ((a1 * 12) + x3)) (fun x6 => some (.inr x6)))))
def m_X2_greatestOf (a1 : Int32) (a2 : Int32) (u : zM) : Option (Int32) :=
  zit zF (fun s : Int32 => m_X2_greatestOf_b0 u a1 a2 s) ((u 15 4) - 1)
set_option maxHeartbeats 4000000 in
set_option maxRecDepth 100000 in
theorem c_X2_greatestOf (a1 : Int32) (a2 : Int32)   (u : zM) (r : Int32) (h : m_X2_greatestOf a1 a2 u = some r) : zCt 2 yX2_greatestOf cX2_greatestOf 6 (some .int) (fun E => [.ref (zad E 15), .int a1, .int a2]) u (fun _ => some (.int r)) u := by
  refine zCt.of (by decide +kernel) (fun E => Nat.le_of_ble_eq_true rfl) (fun X hX hR => ?_)
  have hX : zGood X RX2 cX2_greatestOf 6 2 := hX
  show zG X u 0 [(0, .ref (zad X.1 15)), (1, .int a1), (2, .int a2)] []
  unfold m_X2_greatestOf at h
  refine r_iload_n hX dX2_greatestOf_0 1 rfl rfl ?_
  refine r_bipush (v := 12) hX dX2_greatestOf_1 (by decide) ?_
  refine r_imul hX dX2_greatestOf_3 ?_
  refine r_istore_n (y := (a1 * 12)) (L' := [(3, .int (a1 * 12)), (0, .ref (zad X.1 15)), (1, .int a1), (2, .int a2)]) hX dX2_greatestOf_4 rfl (by decide) rfl rfl ?_
  refine r_aload_n hX dX2_greatestOf_5 1 rfl rfl ?_
  refine r_getI hX dX2_greatestOf_6 f_RX2_24 zi_15_4 ?_
  refine r_iconst (v := 1) hX dX2_greatestOf_9 (by decide) ?_
  refine r_isub hX dX2_greatestOf_10 ?_
  refine r_istore (y := ((u 15 4) - 1)) (L' := [(4, .int ((u 15 4) - 1)), (3, .int (a1 * 12)), (0, .ref (zad X.1 15)), (1, .int a1), (2, .int a2)]) hX dX2_greatestOf_11 (by decide) rfl rfl ?_
  refine r_sub [2, 4, 1, 0] (L' := [(0, .ref (zad X.1 15)), (2, .int a2), (3, .int (a1 * 12)), (4, .int ((u 15 4) - 1))]) rfl ?_
  refine zit_walk (P := fun s0 : Int32 => zG X u 13 [(0, .ref (zad X.1 15)), (2, .int a2), (3, .int (a1 * 12)), (4, .int s0)] []) ?_ zF _ h
  clear h
  intro s0 y0 h0b hin0 hout0
  obtain ⟨x1, es0⟩ : ∃ z, z = s0 := ⟨_, rfl⟩
  subst es0
  have h0b : m_X2_greatestOf_b0 u a1 a2 x1 = some y0 := h0b
  unfold m_X2_greatestOf_b0 at h0b
  show zG X u 13 [(0, .ref (zad X.1 15)), (2, .int a2), (3, .int (a1 * 12)), (4, .int x1)] []
  refine r_iload hX dX2_greatestOf_13 3 rfl ?_
  refine r_if_lt (tgt := 54) hX dX2_greatestOf_15 (by decide) (fun c2 => ?_) (fun c2 => ?_)
  · have h0b := (if_pos c2).symm.trans h0b
    refine r_iconst (v := 0) hX dX2_greatestOf_54 (by decide) ?_
    have h0b := hout0 _ (Option.some.inj h0b).symm
    obtain rfl := h0b
    exact r_iret hX hR dX2_greatestOf_55
  · have h0b := (if_neg c2).symm.trans h0b
    refine r_aload_n hX dX2_greatestOf_18 0 rfl rfl ?_
    refine r_getR hX dX2_greatestOf_19 f_RX2_15 zr_15_1 ?_
    refine r_iload_n hX dX2_greatestOf_22 2 rfl rfl ?_
    refine r_iload hX dX2_greatestOf_23 3 rfl ?_
    refine r_iadd hX dX2_greatestOf_25 ?_
    obtain ⟨x3, e4, h0b⟩ := zbind_elim h0b
    refine r_iald hX dX2_greatestOf_26 rfl e4 ?_
    refine r_istore (y := x3) (L' := [(5, .int x3), (0, .ref (zad X.1 15)), (2, .int a2), (3, .int (a1 * 12)), (4, .int x1)]) hX dX2_greatestOf_27 (by decide) rfl rfl ?_
    refine r_iload_n hX dX2_greatestOf_29 2 rfl rfl ?_
    refine r_iload hX dX2_greatestOf_30 0 rfl ?_
    refine r_callS (As := [.int a2, .int x3]) (rest := []) (st1 := [.int (m_X5_holds a2 x3)]) hX dX2_greatestOf_32 ls_RX2_64 (c_X5_holds a2 x3  u _ rfl) (by decide) rfl rfl rfl (Nat.le_of_ble_eq_true rfl) rfl ?_
    refine r_if_eq (tgt := 48) hX dX2_greatestOf_35 (by decide) (fun c5 => ?_) (fun c5 => ?_)
    · have h0b := (if_pos c5).symm.trans h0b
      refine r_iinc (v := (x1 + (-1))) (L' := [(4, .int (x1 + (-1))), (5, .int x3), (0, .ref (zad X.1 15)), (2, .int a2), (3, .int (a1 * 12))]) hX dX2_greatestOf_48 (by decide) 4 rfl rfl rfl ?_
      refine r_goto (tgt := 13) hX dX2_greatestOf_51 (by decide) ?_
      refine r_sub [2, 3, 4, 0] (L' := [(0, .ref (zad X.1 15)), (2, .int a2), (3, .int (a1 * 12)), (4, .int (x1 + (-1)))]) rfl ?_
      exact hin0 _ (Option.some.inj h0b).symm
    · have h0b := (if_neg c5).symm.trans h0b
      refine r_aload_n hX dX2_greatestOf_38 1 rfl rfl ?_
      refine r_getR hX dX2_greatestOf_39 f_RX2_9 zr_15_0 ?_
      refine r_iload_n hX dX2_greatestOf_42 3 rfl rfl ?_
      refine r_iload hX dX2_greatestOf_43 0 rfl ?_
      refine r_iadd hX dX2_greatestOf_45 ?_
      obtain ⟨x6, e7, h0b⟩ := zbind_elim h0b
      refine r_iald hX dX2_greatestOf_46 rfl e7 ?_
      have h0b := hout0 _ (Option.some.inj h0b).symm
      obtain rfl := h0b
      exact r_iret hX hR dX2_greatestOf_47
theorem dX2_middleOf_0 : decode cX2_middleOf 0 = .ok (.iload_n 1, 1) := by decide +kernel
theorem dX2_middleOf_1 : decode cX2_middleOf 1 = .ok (.bipush 12, 2) := by decide +kernel
theorem dX2_middleOf_3 : decode cX2_middleOf 3 = .ok (.imul, 1) := by decide +kernel
theorem dX2_middleOf_4 : decode cX2_middleOf 4 = .ok (.istore_n 3, 1) := by decide +kernel
theorem dX2_middleOf_5 : decode cX2_middleOf 5 = .ok (.aload_n 0, 1) := by decide +kernel
theorem dX2_middleOf_6 : decode cX2_middleOf 6 = .ok (.iload_n 2, 1) := by decide +kernel
theorem dX2_middleOf_7 : decode cX2_middleOf 7 = .ok (.invokevirtual 60, 3) := by decide +kernel
theorem dX2_middleOf_10 : decode cX2_middleOf 10 = .ok (.iconst 1, 1) := by decide +kernel
theorem dX2_middleOf_11 : decode cX2_middleOf 11 = .ok (.isub, 1) := by decide +kernel
theorem dX2_middleOf_12 : decode cX2_middleOf 12 = .ok (.iconst 2, 1) := by decide +kernel
theorem dX2_middleOf_13 : decode cX2_middleOf 13 = .ok (.idiv, 1) := by decide +kernel
theorem dX2_middleOf_14 : decode cX2_middleOf 14 = .ok (.istore 4, 2) := by decide +kernel
theorem dX2_middleOf_16 : decode cX2_middleOf 16 = .ok (.iconst 0, 1) := by decide +kernel
theorem dX2_middleOf_17 : decode cX2_middleOf 17 = .ok (.istore 5, 2) := by decide +kernel
theorem dX2_middleOf_19 : decode cX2_middleOf 19 = .ok (.iload 5, 2) := by decide +kernel
theorem dX2_middleOf_21 : decode cX2_middleOf 21 = .ok (.aload_n 0, 1) := by decide +kernel
theorem dX2_middleOf_22 : decode cX2_middleOf 22 = .ok (.getfield 24, 3) := by decide +kernel
theorem dX2_middleOf_25 : decode cX2_middleOf 25 = .ok (.if_icmp .ge 56, 3) := by decide +kernel
theorem dX2_middleOf_28 : decode cX2_middleOf 28 = .ok (.aload_n 0, 1) := by decide +kernel
theorem dX2_middleOf_29 : decode cX2_middleOf 29 = .ok (.getfield 15, 3) := by decide +kernel
theorem dX2_middleOf_32 : decode cX2_middleOf 32 = .ok (.iload_n 3, 1) := by decide +kernel
theorem dX2_middleOf_33 : decode cX2_middleOf 33 = .ok (.iload 5, 2) := by decide +kernel
theorem dX2_middleOf_35 : decode cX2_middleOf 35 = .ok (.iadd, 1) := by decide +kernel
theorem dX2_middleOf_36 : decode cX2_middleOf 36 = .ok (.iaload, 1) := by decide +kernel
theorem dX2_middleOf_37 : decode cX2_middleOf 37 = .ok (.istore 6, 2) := by decide +kernel
theorem dX2_middleOf_39 : decode cX2_middleOf 39 = .ok (.iload_n 2, 1) := by decide +kernel
theorem dX2_middleOf_40 : decode cX2_middleOf 40 = .ok (.iload 6, 2) := by decide +kernel
theorem dX2_middleOf_42 : decode cX2_middleOf 42 = .ok (.invokestatic 64, 3) := by decide +kernel
theorem dX2_middleOf_45 : decode cX2_middleOf 45 = .ok (.ifCond .eq 30, 3) := by decide +kernel
theorem dX2_middleOf_48 : decode cX2_middleOf 48 = .ok (.iload 4, 2) := by decide +kernel
theorem dX2_middleOf_50 : decode cX2_middleOf 50 = .ok (.aload_n 0, 1) := by decide +kernel
theorem dX2_middleOf_51 : decode cX2_middleOf 51 = .ok (.getfield 18, 3) := by decide +kernel
theorem dX2_middleOf_54 : decode cX2_middleOf 54 = .ok (.iload 6, 2) := by decide +kernel
theorem dX2_middleOf_56 : decode cX2_middleOf 56 = .ok (.iaload, 1) := by decide +kernel
theorem dX2_middleOf_57 : decode cX2_middleOf 57 = .ok (.isub, 1) := by decide +kernel
theorem dX2_middleOf_58 : decode cX2_middleOf 58 = .ok (.istore 4, 2) := by decide +kernel
theorem dX2_middleOf_60 : decode cX2_middleOf 60 = .ok (.iload 4, 2) := by decide +kernel
theorem dX2_middleOf_62 : decode cX2_middleOf 62 = .ok (.ifCond .ge 13, 3) := by decide +kernel
theorem dX2_middleOf_65 : decode cX2_middleOf 65 = .ok (.aload_n 0, 1) := by decide +kernel
theorem dX2_middleOf_66 : decode cX2_middleOf 66 = .ok (.getfield 9, 3) := by decide +kernel
theorem dX2_middleOf_69 : decode cX2_middleOf 69 = .ok (.iload_n 3, 1) := by decide +kernel
theorem dX2_middleOf_70 : decode cX2_middleOf 70 = .ok (.iload 6, 2) := by decide +kernel
theorem dX2_middleOf_72 : decode cX2_middleOf 72 = .ok (.iadd, 1) := by decide +kernel
theorem dX2_middleOf_73 : decode cX2_middleOf 73 = .ok (.iaload, 1) := by decide +kernel
theorem dX2_middleOf_74 : decode cX2_middleOf 74 = .ok (.ireturn, 1) := by decide +kernel
theorem dX2_middleOf_75 : decode cX2_middleOf 75 = .ok (.iinc 5 1, 3) := by decide +kernel
theorem dX2_middleOf_78 : decode cX2_middleOf 78 = .ok (.goto (-59), 3) := by decide +kernel
theorem dX2_middleOf_81 : decode cX2_middleOf 81 = .ok (.iconst 0, 1) := by decide +kernel
theorem dX2_middleOf_82 : decode cX2_middleOf 82 = .ok (.ireturn, 1) := by decide +kernel
def m_X2_middleOf_b0 (u : zM) (a1 : Int32) (a2 : Int32) (x3 : Int32) (x4 : Int32) : Option ((Int32 × Int32) ⊕ (Int32)) :=
  (if (u 15 4) ≤ x4 then
some (.inr 0)
else
zbind (zld u 17 36 ((a1 * 12) + x4)) (fun x6 => (if (m_X5_holds a2 x6) = 0 then
some (.inl (x3, (x4 + 1)))
else
zbind (zld u 18 12 x6) (fun x9 => (if 0 ≤ (x3 - x9) then
some (.inl ((x3 - x9), (x4 + 1)))
else
zbind (zld u 16 36 ((a1 * 12) + x6)) (fun x12 => some (.inr x12)))))))
def m_X2_middleOf (a1 : Int32) (a2 : Int32) (u : zM) : Option (Int32) :=
  zbind (m_X2_timesOf a2 u) (fun x1 => zit zF (fun s : Int32 × Int32 => m_X2_middleOf_b0 u a1 a2 s.1 s.2) (((x1 - 1) / 2), 0))
set_option maxHeartbeats 4000000 in
set_option maxRecDepth 100000 in
theorem c_X2_middleOf (a1 : Int32) (a2 : Int32)   (u : zM) (r : Int32) (h : m_X2_middleOf a1 a2 u = some r) : zCt 3 yX2_middleOf cX2_middleOf 7 (some .int) (fun E => [.ref (zad E 15), .int a1, .int a2]) u (fun _ => some (.int r)) u := by
  refine zCt.of (by decide +kernel) (fun E => Nat.le_of_ble_eq_true rfl) (fun X hX hR => ?_)
  have hX : zGood X RX2 cX2_middleOf 7 3 := hX
  show zG X u 0 [(0, .ref (zad X.1 15)), (1, .int a1), (2, .int a2)] []
  unfold m_X2_middleOf at h
  refine r_iload_n hX dX2_middleOf_0 1 rfl rfl ?_
  refine r_bipush (v := 12) hX dX2_middleOf_1 (by decide) ?_
  refine r_imul hX dX2_middleOf_3 ?_
  refine r_istore_n (y := (a1 * 12)) (L' := [(3, .int (a1 * 12)), (0, .ref (zad X.1 15)), (1, .int a1), (2, .int a2)]) hX dX2_middleOf_4 rfl (by decide) rfl rfl ?_
  refine r_aload_n hX dX2_middleOf_5 1 rfl rfl ?_
  refine r_iload_n hX dX2_middleOf_6 3 rfl rfl ?_
  obtain ⟨x1, e2, h⟩ := zbind_elim h
  refine r_callV (As := [.int a2]) (rest := []) (st1 := [.int x1]) hX dX2_middleOf_7 lv_RX2_60 (c_X2_timesOf a2  u _ e2) (by decide) rfl rfl (zRecv.of (q := 15) (ci := 2) rfl rfl) rfl (Nat.le_of_ble_eq_true rfl) rfl ?_
  refine r_iconst (v := 1) hX dX2_middleOf_10 (by decide) ?_
  refine r_isub hX dX2_middleOf_11 ?_
  refine r_iconst (v := 2) hX dX2_middleOf_12 (by decide) ?_
  refine r_idiv hX dX2_middleOf_13 (by decide) ?_
  refine r_istore (y := ((x1 - 1) / 2)) (L' := [(4, .int ((x1 - 1) / 2)), (3, .int (a1 * 12)), (0, .ref (zad X.1 15)), (1, .int a1), (2, .int a2)]) hX dX2_middleOf_14 (by decide) rfl rfl ?_
  refine r_iconst (v := 0) hX dX2_middleOf_16 (by decide) ?_
  refine r_istore (y := 0) (L' := [(5, .int 0), (4, .int ((x1 - 1) / 2)), (3, .int (a1 * 12)), (0, .ref (zad X.1 15)), (1, .int a1), (2, .int a2)]) hX dX2_middleOf_17 (by decide) rfl rfl ?_
  refine r_sub [3, 5, 2, 1, 0] (L' := [(0, .ref (zad X.1 15)), (2, .int a2), (3, .int (a1 * 12)), (4, .int ((x1 - 1) / 2)), (5, .int 0)]) rfl ?_
  refine zit_walk (P := fun s0 : Int32 × Int32 => zG X u 19 [(0, .ref (zad X.1 15)), (2, .int a2), (3, .int (a1 * 12)), (4, .int (s0.1)), (5, .int (s0.2))] []) ?_ zF _ h
  clear h
  intro s0 y0 h0b hin0 hout0
  obtain ⟨x3, x4⟩ := s0
  have h0b : m_X2_middleOf_b0 u a1 a2 x3 x4 = some y0 := h0b
  unfold m_X2_middleOf_b0 at h0b
  show zG X u 19 [(0, .ref (zad X.1 15)), (2, .int a2), (3, .int (a1 * 12)), (4, .int x3), (5, .int x4)] []
  refine r_iload hX dX2_middleOf_19 4 rfl ?_
  refine r_aload_n hX dX2_middleOf_21 0 rfl rfl ?_
  refine r_getI hX dX2_middleOf_22 f_RX2_24 zi_15_4 ?_
  refine r_icmp_ge (tgt := 81) hX dX2_middleOf_25 (by decide) (fun c5 => ?_) (fun c5 => ?_)
  · have h0b := (if_pos c5).symm.trans h0b
    refine r_iconst (v := 0) hX dX2_middleOf_81 (by decide) ?_
    have h0b := hout0 _ (Option.some.inj h0b).symm
    obtain rfl := h0b
    exact r_iret hX hR dX2_middleOf_82
  · have h0b := (if_neg c5).symm.trans h0b
    refine r_aload_n hX dX2_middleOf_28 0 rfl rfl ?_
    refine r_getR hX dX2_middleOf_29 f_RX2_15 zr_15_1 ?_
    refine r_iload_n hX dX2_middleOf_32 2 rfl rfl ?_
    refine r_iload hX dX2_middleOf_33 4 rfl ?_
    refine r_iadd hX dX2_middleOf_35 ?_
    obtain ⟨x6, e7, h0b⟩ := zbind_elim h0b
    refine r_iald hX dX2_middleOf_36 rfl e7 ?_
    refine r_istore (y := x6) (L' := [(6, .int x6), (0, .ref (zad X.1 15)), (2, .int a2), (3, .int (a1 * 12)), (4, .int x3), (5, .int x4)]) hX dX2_middleOf_37 (by decide) rfl rfl ?_
    refine r_iload_n hX dX2_middleOf_39 2 rfl rfl ?_
    refine r_iload hX dX2_middleOf_40 0 rfl ?_
    refine r_callS (As := [.int a2, .int x6]) (rest := []) (st1 := [.int (m_X5_holds a2 x6)]) hX dX2_middleOf_42 ls_RX2_64 (c_X5_holds a2 x6  u _ rfl) (by decide) rfl rfl rfl (Nat.le_of_ble_eq_true rfl) rfl ?_
    refine r_if_eq (tgt := 75) hX dX2_middleOf_45 (by decide) (fun c8 => ?_) (fun c8 => ?_)
    · have h0b := (if_pos c8).symm.trans h0b
      refine r_iinc (v := (x4 + 1)) (L' := [(5, .int (x4 + 1)), (6, .int x6), (0, .ref (zad X.1 15)), (2, .int a2), (3, .int (a1 * 12)), (4, .int x3)]) hX dX2_middleOf_75 (by decide) 5 rfl rfl rfl ?_
      refine r_goto (tgt := 19) hX dX2_middleOf_78 (by decide) ?_
      refine r_sub [2, 3, 4, 5, 0] (L' := [(0, .ref (zad X.1 15)), (2, .int a2), (3, .int (a1 * 12)), (4, .int x3), (5, .int (x4 + 1))]) rfl ?_
      exact hin0 _ (Option.some.inj h0b).symm
    · have h0b := (if_neg c8).symm.trans h0b
      refine r_iload hX dX2_middleOf_48 4 rfl ?_
      refine r_aload_n hX dX2_middleOf_50 1 rfl rfl ?_
      refine r_getR hX dX2_middleOf_51 f_RX2_18 zr_15_2 ?_
      refine r_iload hX dX2_middleOf_54 0 rfl ?_
      obtain ⟨x9, e10, h0b⟩ := zbind_elim h0b
      refine r_iald hX dX2_middleOf_56 rfl e10 ?_
      refine r_isub hX dX2_middleOf_57 ?_
      refine r_istore (y := (x3 - x9)) (L' := [(4, .int (x3 - x9)), (6, .int x6), (0, .ref (zad X.1 15)), (2, .int a2), (3, .int (a1 * 12)), (5, .int x4)]) hX dX2_middleOf_58 (by decide) rfl rfl ?_
      refine r_iload hX dX2_middleOf_60 0 rfl ?_
      refine r_if_ge (tgt := 75) hX dX2_middleOf_62 (by decide) (fun c11 => ?_) (fun c11 => ?_)
      · have h0b := (if_pos c11).symm.trans h0b
        refine r_iinc (v := (x4 + 1)) (L' := [(5, .int (x4 + 1)), (4, .int (x3 - x9)), (6, .int x6), (0, .ref (zad X.1 15)), (2, .int a2), (3, .int (a1 * 12))]) hX dX2_middleOf_75 (by decide) 5 rfl rfl rfl ?_
        refine r_goto (tgt := 19) hX dX2_middleOf_78 (by decide) ?_
        refine r_sub [3, 4, 5, 1, 0] (L' := [(0, .ref (zad X.1 15)), (2, .int a2), (3, .int (a1 * 12)), (4, .int (x3 - x9)), (5, .int (x4 + 1))]) rfl ?_
        exact hin0 _ (Option.some.inj h0b).symm
      · have h0b := (if_neg c11).symm.trans h0b
        refine r_aload_n hX dX2_middleOf_65 2 rfl rfl ?_
        refine r_getR hX dX2_middleOf_66 f_RX2_9 zr_15_0 ?_
        refine r_iload_n hX dX2_middleOf_69 4 rfl rfl ?_
        refine r_iload hX dX2_middleOf_70 1 rfl ?_
        refine r_iadd hX dX2_middleOf_72 ?_
        obtain ⟨x12, e13, h0b⟩ := zbind_elim h0b
        refine r_iald hX dX2_middleOf_73 rfl e13 ?_
        have h0b := hout0 _ (Option.some.inj h0b).symm
        obtain rfl := h0b
        exact r_iret hX hR dX2_middleOf_74
theorem dX2_cutOne_0 : decode cX2_cutOne 0 = .ok (.iload_n 3, 1) := by decide +kernel
theorem dX2_cutOne_1 : decode cX2_cutOne 1 = .ok (.lookupswitch 41 #[(1, 27), (2, 34)], 27) := by decide +kernel
theorem dX2_cutOne_28 : decode cX2_cutOne 28 = .ok (.aload_n 0, 1) := by decide +kernel
theorem dX2_cutOne_29 : decode cX2_cutOne 29 = .ok (.iload_n 1, 1) := by decide +kernel
theorem dX2_cutOne_30 : decode cX2_cutOne 30 = .ok (.iload_n 2, 1) := by decide +kernel
theorem dX2_cutOne_31 : decode cX2_cutOne 31 = .ok (.invokevirtual 51, 3) := by decide +kernel
theorem dX2_cutOne_34 : decode cX2_cutOne 34 = .ok (.ireturn, 1) := by decide +kernel
theorem dX2_cutOne_35 : decode cX2_cutOne 35 = .ok (.aload_n 0, 1) := by decide +kernel
theorem dX2_cutOne_36 : decode cX2_cutOne 36 = .ok (.iload_n 1, 1) := by decide +kernel
theorem dX2_cutOne_37 : decode cX2_cutOne 37 = .ok (.iload_n 2, 1) := by decide +kernel
theorem dX2_cutOne_38 : decode cX2_cutOne 38 = .ok (.invokevirtual 54, 3) := by decide +kernel
theorem dX2_cutOne_41 : decode cX2_cutOne 41 = .ok (.ireturn, 1) := by decide +kernel
theorem dX2_cutOne_42 : decode cX2_cutOne 42 = .ok (.aload_n 0, 1) := by decide +kernel
theorem dX2_cutOne_43 : decode cX2_cutOne 43 = .ok (.iload_n 1, 1) := by decide +kernel
theorem dX2_cutOne_44 : decode cX2_cutOne 44 = .ok (.iload_n 2, 1) := by decide +kernel
theorem dX2_cutOne_45 : decode cX2_cutOne 45 = .ok (.invokevirtual 57, 3) := by decide +kernel
theorem dX2_cutOne_48 : decode cX2_cutOne 48 = .ok (.ireturn, 1) := by decide +kernel
def m_X2_cutOne (a1 : Int32) (a2 : Int32) (a3 : Int32) (u : zM) : Option (Int32) :=
  (if a3 = 1 then
zbind (m_X2_middleOf a1 a2 u) (fun x2 => some x2)
else
if a3 = 2 then
zbind (m_X2_greatestOf a1 a2 u) (fun x5 => some x5)
else
zbind (m_X2_cutMeanOf a1 a2 u) (fun x7 => some x7))
set_option maxHeartbeats 4000000 in
set_option maxRecDepth 100000 in
theorem c_X2_cutOne (a1 : Int32) (a2 : Int32) (a3 : Int32)   (u : zM) (r : Int32) (h : m_X2_cutOne a1 a2 a3 u = some r) : zCt 4 yX2_cutOne cX2_cutOne 4 (some .int) (fun E => [.ref (zad E 15), .int a1, .int a2, .int a3]) u (fun _ => some (.int r)) u := by
  refine zCt.of (by decide +kernel) (fun E => Nat.le_of_ble_eq_true rfl) (fun X hX hR => ?_)
  have hX : zGood X RX2 cX2_cutOne 4 4 := hX
  show zG X u 0 [(0, .ref (zad X.1 15)), (1, .int a1), (2, .int a2), (3, .int a3)] []
  unfold m_X2_cutOne at h
  refine r_iload_n hX dX2_cutOne_0 3 rfl rfl ?_
  by_cases c1 : a3 = 1
  · have h := (if_pos c1).symm.trans h
    refine r_ls (off := 27) (tgt := 28) hX dX2_cutOne_1 (by decide) (by rw [c1]; decide +kernel) (by decide) ?_
    refine r_aload_n hX dX2_cutOne_28 0 rfl rfl ?_
    refine r_iload_n hX dX2_cutOne_29 1 rfl rfl ?_
    refine r_iload_n hX dX2_cutOne_30 2 rfl rfl ?_
    obtain ⟨x2, e3, h⟩ := zbind_elim h
    refine r_callV (As := [.int a1, .int a2]) (rest := []) (st1 := [.int x2]) hX dX2_cutOne_31 lv_RX2_51 (c_X2_middleOf a1 a2  u _ e3) (by decide) rfl rfl (zRecv.of (q := 15) (ci := 2) rfl rfl) rfl (Nat.le_of_ble_eq_true rfl) rfl ?_
    obtain rfl := Option.some.inj h
    exact r_iret hX hR dX2_cutOne_34
  have h := (if_neg c1).symm.trans h
  by_cases c4 : a3 = 2
  · have h := (if_pos c4).symm.trans h
    refine r_ls (off := 34) (tgt := 35) hX dX2_cutOne_1 (by decide) (by rw [c4]; decide +kernel) (by decide) ?_
    refine r_aload_n hX dX2_cutOne_35 0 rfl rfl ?_
    refine r_iload_n hX dX2_cutOne_36 1 rfl rfl ?_
    refine r_iload_n hX dX2_cutOne_37 2 rfl rfl ?_
    obtain ⟨x5, e6, h⟩ := zbind_elim h
    refine r_callV (As := [.int a1, .int a2]) (rest := []) (st1 := [.int x5]) hX dX2_cutOne_38 lv_RX2_54 (c_X2_greatestOf a1 a2  u _ e6) (by decide) rfl rfl (zRecv.of (q := 15) (ci := 2) rfl rfl) rfl (Nat.le_of_ble_eq_true rfl) rfl ?_
    obtain rfl := Option.some.inj h
    exact r_iret hX hR dX2_cutOne_41
  have h := (if_neg c4).symm.trans h
  refine r_ls (off := 41) (tgt := 42) hX dX2_cutOne_1 (by decide) (zls_out a3 _ _ (fun q hq => by simp only [List.mem_cons, List.not_mem_nil, or_false] at hq; rcases hq with rfl | rfl <;> first | exact zi_ne c1 rfl | exact zi_ne c4 rfl)) (by decide) ?_
  refine r_aload_n hX dX2_cutOne_42 0 rfl rfl ?_
  refine r_iload_n hX dX2_cutOne_43 1 rfl rfl ?_
  refine r_iload_n hX dX2_cutOne_44 2 rfl rfl ?_
  obtain ⟨x7, e8, h⟩ := zbind_elim h
  refine r_callV (As := [.int a1, .int a2]) (rest := []) (st1 := [.int x7]) hX dX2_cutOne_45 lv_RX2_57 (c_X2_cutMeanOf a1 a2  u _ e8) (by decide) rfl rfl (zRecv.of (q := 15) (ci := 2) rfl rfl) rfl (Nat.le_of_ble_eq_true rfl) rfl ?_
  obtain rfl := Option.some.inj h
  exact r_iret hX hR dX2_cutOne_48
theorem dX2_cutAll_0 : decode cX2_cutAll 0 = .ok (.iload_n 1, 1) := by decide +kernel
theorem dX2_cutAll_1 : decode cX2_cutAll 1 = .ok (.ifCond .ne 5, 3) := by decide +kernel
theorem dX2_cutAll_4 : decode cX2_cutAll 4 = .ok (.iconst 0, 1) := by decide +kernel
theorem dX2_cutAll_5 : decode cX2_cutAll 5 = .ok (.ireturn, 1) := by decide +kernel
theorem dX2_cutAll_6 : decode cX2_cutAll 6 = .ok (.iconst 0, 1) := by decide +kernel
theorem dX2_cutAll_7 : decode cX2_cutAll 7 = .ok (.istore_n 3, 1) := by decide +kernel
theorem dX2_cutAll_8 : decode cX2_cutAll 8 = .ok (.iload_n 3, 1) := by decide +kernel
theorem dX2_cutAll_9 : decode cX2_cutAll 9 = .ok (.iconst 3, 1) := by decide +kernel
theorem dX2_cutAll_10 : decode cX2_cutAll 10 = .ok (.if_icmp .ge 22, 3) := by decide +kernel
theorem dX2_cutAll_13 : decode cX2_cutAll 13 = .ok (.aload_n 0, 1) := by decide +kernel
theorem dX2_cutAll_14 : decode cX2_cutAll 14 = .ok (.getfield 21, 3) := by decide +kernel
theorem dX2_cutAll_17 : decode cX2_cutAll 17 = .ok (.iload_n 3, 1) := by decide +kernel
theorem dX2_cutAll_18 : decode cX2_cutAll 18 = .ok (.aload_n 0, 1) := by decide +kernel
theorem dX2_cutAll_19 : decode cX2_cutAll 19 = .ok (.iload_n 3, 1) := by decide +kernel
theorem dX2_cutAll_20 : decode cX2_cutAll 20 = .ok (.iload_n 1, 1) := by decide +kernel
theorem dX2_cutAll_21 : decode cX2_cutAll 21 = .ok (.iload_n 2, 1) := by decide +kernel
theorem dX2_cutAll_22 : decode cX2_cutAll 22 = .ok (.invokevirtual 47, 3) := by decide +kernel
theorem dX2_cutAll_25 : decode cX2_cutAll 25 = .ok (.iastore, 1) := by decide +kernel
theorem dX2_cutAll_26 : decode cX2_cutAll 26 = .ok (.iinc 3 1, 3) := by decide +kernel
theorem dX2_cutAll_29 : decode cX2_cutAll 29 = .ok (.goto (-21), 3) := by decide +kernel
theorem dX2_cutAll_32 : decode cX2_cutAll 32 = .ok (.iconst 1, 1) := by decide +kernel
theorem dX2_cutAll_33 : decode cX2_cutAll 33 = .ok (.ireturn, 1) := by decide +kernel
def m_X2_cutAll_b0 (a1 : Int32) (a2 : Int32) (x2 : Int32) (u3 : zM) : Option ((Int32 × zM) ⊕ (zM)) :=
  (if 3 ≤ x2 then
some (.inr u3)
else
zbind (m_X2_cutOne x2 a1 a2 u3) (fun x7 => zbind (zsv u3 19 3 x2 x7) (fun u9 => some (.inl ((x2 + 1), u9)))))
def m_X2_cutAll (a1 : Int32) (a2 : Int32) (u : zM) : Option (Int32 × zM) :=
  (if a1 = 0 then
some (0, u)
else
zbind (zit zF (fun s : Int32 × zM => m_X2_cutAll_b0 a1 a2 s.1 s.2) (0, u)) (fun u4 =>
some (1, u4)))
set_option maxHeartbeats 4000000 in
set_option maxRecDepth 100000 in
theorem c_X2_cutAll (a1 : Int32) (a2 : Int32)   (u : zM) (r : Int32) (u' : zM) (h : m_X2_cutAll a1 a2 u = some (r, u')) : zCt 5 yX2_cutAll cX2_cutAll 4 (some .boolean) (fun E => [.ref (zad E 15), .int a1, .int a2]) u (fun _ => some (.int r)) u' := by
  refine zCt.of (by decide +kernel) (fun E => Nat.le_of_ble_eq_true rfl) (fun X hX hR => ?_)
  have hX : zGood X RX2 cX2_cutAll 4 5 := hX
  show zG X u 0 [(0, .ref (zad X.1 15)), (1, .int a1), (2, .int a2)] []
  unfold m_X2_cutAll at h
  refine r_iload_n hX dX2_cutAll_0 1 rfl rfl ?_
  refine r_if_ne (tgt := 6) hX dX2_cutAll_1 (by decide) (fun c1 => ?_) (fun c1 => ?_)
  · have h := (if_neg c1).symm.trans h
    refine r_iconst (v := 0) hX dX2_cutAll_6 (by decide) ?_
    refine r_istore_n (y := 0) (L' := [(3, .int 0), (0, .ref (zad X.1 15)), (1, .int a1), (2, .int a2)]) hX dX2_cutAll_7 rfl (by decide) rfl rfl ?_
    refine r_sub [1, 2, 3, 0] (L' := [(0, .ref (zad X.1 15)), (1, .int a1), (2, .int a2), (3, .int 0)]) rfl ?_
    obtain ⟨u4, h5, h⟩ := zbind_elim h
    have Jh5 : zG X u4 32 [] [] := by
        refine r_iconst (v := 1) hX dX2_cutAll_32 (by decide) ?_
        obtain ⟨rfl, rfl⟩ := zinj2 (Option.some.inj h)
        exact r_zret1 hX hR dX2_cutAll_33
    clear h
    refine zit_walk (P := fun s0 : Int32 × zM => zG X s0.2 8 [(0, .ref (zad X.1 15)), (1, .int a1), (2, .int a2), (3, .int (s0.1))] []) ?_ zF _ h5
    clear h5
    intro s0 y0 h0b hin0 hout0
    obtain ⟨x2, u3⟩ := s0
    have h0b : m_X2_cutAll_b0 a1 a2 x2 u3 = some y0 := h0b
    unfold m_X2_cutAll_b0 at h0b
    show zG X u3 8 [(0, .ref (zad X.1 15)), (1, .int a1), (2, .int a2), (3, .int x2)] []
    refine r_iload_n hX dX2_cutAll_8 3 rfl rfl ?_
    refine r_iconst (v := 3) hX dX2_cutAll_9 (by decide) ?_
    refine r_icmp_ge (tgt := 32) hX dX2_cutAll_10 (by decide) (fun c6 => ?_) (fun c6 => ?_)
    · have h0b := (if_pos c6).symm.trans h0b
      refine r_sub [] (L' := []) rfl ?_
      have h0b := hout0 _ (Option.some.inj h0b).symm
      obtain rfl := h0b
      exact Jh5
    · have h0b := (if_neg c6).symm.trans h0b
      refine r_aload_n hX dX2_cutAll_13 0 rfl rfl ?_
      refine r_getR hX dX2_cutAll_14 f_RX2_21 zr_15_3 ?_
      refine r_iload_n hX dX2_cutAll_17 3 rfl rfl ?_
      refine r_aload_n hX dX2_cutAll_18 0 rfl rfl ?_
      refine r_iload_n hX dX2_cutAll_19 3 rfl rfl ?_
      refine r_iload_n hX dX2_cutAll_20 1 rfl rfl ?_
      refine r_iload_n hX dX2_cutAll_21 2 rfl rfl ?_
      obtain ⟨x7, e8, h0b⟩ := zbind_elim h0b
      refine r_callV (As := [.int x2, .int a1, .int a2]) (rest := [.int x2, .ref (zad X.1 19)]) (st1 := [.int x7, .int x2, .ref (zad X.1 19)]) hX dX2_cutAll_22 lv_RX2_47 (c_X2_cutOne x2 a1 a2  u3 _ e8) (by decide) rfl rfl (zRecv.of (q := 15) (ci := 2) rfl rfl) rfl (Nat.le_of_ble_eq_true rfl) rfl ?_
      obtain ⟨u9, e10, h0b⟩ := zbind_elim h0b
      refine r_iast hX dX2_cutAll_25 rfl e10 ?_
      refine r_iinc (v := (x2 + 1)) (L' := [(3, .int (x2 + 1)), (0, .ref (zad X.1 15)), (1, .int a1), (2, .int a2)]) hX dX2_cutAll_26 (by decide) 3 rfl rfl rfl ?_
      refine r_goto (tgt := 8) hX dX2_cutAll_29 (by decide) ?_
      refine r_sub [1, 2, 3, 0] (L' := [(0, .ref (zad X.1 15)), (1, .int a1), (2, .int a2), (3, .int (x2 + 1))]) rfl ?_
      exact hin0 _ (Option.some.inj h0b).symm
  · have h := (if_pos c1).symm.trans h
    refine r_iconst (v := 0) hX dX2_cutAll_4 (by decide) ?_
    obtain ⟨rfl, rfl⟩ := zinj2 (Option.some.inj h)
    exact r_zret0 hX hR dX2_cutAll_5
theorem dX5_cutForAllHere_0 : decode cX5_cutForAllHere 0 = .ok (.aload_n 0, 1) := by decide +kernel
theorem dX5_cutForAllHere_1 : decode cX5_cutForAllHere 1 = .ok (.getfield 22, 3) := by decide +kernel
theorem dX5_cutForAllHere_4 : decode cX5_cutForAllHere 4 = .ok (.aload_n 0, 1) := by decide +kernel
theorem dX5_cutForAllHere_5 : decode cX5_cutForAllHere 5 = .ok (.getfield 10, 3) := by decide +kernel
theorem dX5_cutForAllHere_8 : decode cX5_cutForAllHere 8 = .ok (.invokevirtual 132, 3) := by decide +kernel
theorem dX5_cutForAllHere_11 : decode cX5_cutForAllHere 11 = .ok (.aload_n 0, 1) := by decide +kernel
theorem dX5_cutForAllHere_12 : decode cX5_cutForAllHere 12 = .ok (.getfield 22, 3) := by decide +kernel
theorem dX5_cutForAllHere_15 : decode cX5_cutForAllHere 15 = .ok (.aload_n 0, 1) := by decide +kernel
theorem dX5_cutForAllHere_16 : decode cX5_cutForAllHere 16 = .ok (.getfield 10, 3) := by decide +kernel
theorem dX5_cutForAllHere_19 : decode cX5_cutForAllHere 19 = .ok (.getfield 96, 3) := by decide +kernel
theorem dX5_cutForAllHere_22 : decode cX5_cutForAllHere 22 = .ok (.aload_n 0, 1) := by decide +kernel
theorem dX5_cutForAllHere_23 : decode cX5_cutForAllHere 23 = .ok (.getfield 10, 3) := by decide +kernel
theorem dX5_cutForAllHere_26 : decode cX5_cutForAllHere 26 = .ok (.getfield 99, 3) := by decide +kernel
theorem dX5_cutForAllHere_29 : decode cX5_cutForAllHere 29 = .ok (.invokevirtual 219, 3) := by decide +kernel
theorem dX5_cutForAllHere_32 : decode cX5_cutForAllHere 32 = .ok (.ireturn, 1) := by decide +kernel
def m_X5_cutForAllHere  (u : zM) : Option (Int32 × zM) :=
  zbind (m_X2_measureAll u) (fun u1 => zbind2 (m_X2_cutAll (u1 1 7) (u1 1 8) u1) (fun x3 u4 => some ((zb x3), u4)))
set_option maxHeartbeats 4000000 in
set_option maxRecDepth 100000 in
theorem c_X5_cutForAllHere    (u : zM) (r : Int32) (u' : zM) (h : m_X5_cutForAllHere u = some (r, u')) : zCt 6 yX5_cutForAllHere cX5_cutForAllHere 1 (some .boolean) (fun E => [.ref (zad E 0)]) u (fun _ => some (.int r)) u' := by
  refine zCt.of (by decide +kernel) (fun E => Nat.le_of_ble_eq_true rfl) (fun X hX hR => ?_)
  have hX : zGood X RX5 cX5_cutForAllHere 1 6 := hX
  show zG X u 0 [(0, .ref (zad X.1 0))] []
  unfold m_X5_cutForAllHere at h
  refine r_aload_n hX dX5_cutForAllHere_0 0 rfl rfl ?_
  refine r_getR hX dX5_cutForAllHere_1 f_RX5_22 zr_0_2 ?_
  refine r_aload_n hX dX5_cutForAllHere_4 0 rfl rfl ?_
  refine r_getR hX dX5_cutForAllHere_5 f_RX5_10 zr_0_0 ?_
  obtain ⟨u1, e2, h⟩ := zbind_elim h
  refine r_callV (As := [.ref (zad X.1 1)]) (rest := []) (st1 := []) hX dX5_cutForAllHere_8 lv_RX5_132 (c_X2_measureAll   u _ e2) (by decide) rfl rfl (zRecv.of (q := 15) (ci := 2) rfl rfl) rfl (Nat.le_of_ble_eq_true rfl) rfl ?_
  refine r_aload_n hX dX5_cutForAllHere_11 0 rfl rfl ?_
  refine r_getR hX dX5_cutForAllHere_12 f_RX5_22 zr_0_2 ?_
  refine r_aload_n hX dX5_cutForAllHere_15 0 rfl rfl ?_
  refine r_getR hX dX5_cutForAllHere_16 f_RX5_10 zr_0_0 ?_
  refine r_getI hX dX5_cutForAllHere_19 f_RX5_96 zi_1_7 ?_
  refine r_aload_n hX dX5_cutForAllHere_22 0 rfl rfl ?_
  refine r_getR hX dX5_cutForAllHere_23 f_RX5_10 zr_0_0 ?_
  refine r_getI hX dX5_cutForAllHere_26 f_RX5_99 zi_1_8 ?_
  obtain ⟨x3, u4, e5, h⟩ := zbind2_elim h
  refine r_callV (As := [.int (u1 1 7), .int (u1 1 8)]) (rest := []) (st1 := [.int x3]) hX dX5_cutForAllHere_29 lv_RX5_219 (c_X2_cutAll (u1 1 7) (u1 1 8)  u1 _ _ e5) (by decide) rfl rfl (zRecv.of (q := 15) (ci := 2) rfl rfl) rfl (Nat.le_of_ble_eq_true rfl) rfl ?_
  obtain ⟨rfl, rfl⟩ := zinj2 (Option.some.inj h)
  exact r_zret hX hR dX5_cutForAllHere_32
theorem dX5_coat_0 : decode cX5_coat 0 = .ok (.iload_n 1, 1) := by decide +kernel
theorem dX5_coat_1 : decode cX5_coat 1 = .ok (.invokestatic 122, 3) := by decide +kernel
theorem dX5_coat_4 : decode cX5_coat 4 = .ok (.ifCond .ne 9, 3) := by decide +kernel
theorem dX5_coat_7 : decode cX5_coat 7 = .ok (.aload_n 0, 1) := by decide +kernel
theorem dX5_coat_8 : decode cX5_coat 8 = .ok (.iconst 0, 1) := by decide +kernel
theorem dX5_coat_9 : decode cX5_coat 9 = .ok (.invokevirtual 65, 3) := by decide +kernel
theorem dX5_coat_12 : decode cX5_coat 12 = .ok (.ireturn, 1) := by decide +kernel
theorem dX5_coat_13 : decode cX5_coat 13 = .ok (.aload_n 0, 1) := by decide +kernel
theorem dX5_coat_14 : decode cX5_coat 14 = .ok (.invokevirtual 125, 3) := by decide +kernel
theorem dX5_coat_17 : decode cX5_coat 17 = .ok (.ifCond .ne 9, 3) := by decide +kernel
theorem dX5_coat_20 : decode cX5_coat 20 = .ok (.aload_n 0, 1) := by decide +kernel
theorem dX5_coat_21 : decode cX5_coat 21 = .ok (.iconst 3, 1) := by decide +kernel
theorem dX5_coat_22 : decode cX5_coat 22 = .ok (.invokevirtual 65, 3) := by decide +kernel
theorem dX5_coat_25 : decode cX5_coat 25 = .ok (.ireturn, 1) := by decide +kernel
theorem dX5_coat_26 : decode cX5_coat 26 = .ok (.aload_n 0, 1) := by decide +kernel
theorem dX5_coat_27 : decode cX5_coat 27 = .ok (.getfield 22, 3) := by decide +kernel
theorem dX5_coat_30 : decode cX5_coat 30 = .ok (.getfield 129, 3) := by decide +kernel
theorem dX5_coat_33 : decode cX5_coat 33 = .ok (.iload_n 1, 1) := by decide +kernel
theorem dX5_coat_34 : decode cX5_coat 34 = .ok (.iaload, 1) := by decide +kernel
theorem dX5_coat_35 : decode cX5_coat 35 = .ok (.ireturn, 1) := by decide +kernel
def m_X5_coat (a1 : Int32) (u : zM) : Option (Int32 × zM) :=
  (if (m_X5_isMeasure a1) = 0 then
zbind2 (m_X5_finding 0 u) (fun x11 u12 => some (x11, u12))
else
zbind2 (m_X5_cutForAllHere u) (fun x2 u3 => (if x2 = 0 then
zbind2 (m_X5_finding 3 u3) (fun x8 u9 => some (x8, u9))
else
zbind (zld u3 19 3 a1) (fun x6 => some (x6, u3)))))
set_option maxHeartbeats 4000000 in
set_option maxRecDepth 100000 in
theorem c_X5_coat (a1 : Int32)   (u : zM) (r : Int32) (u' : zM) (h : m_X5_coat a1 u = some (r, u')) : zCt 7 yX5_coat cX5_coat 2 (some .int) (fun E => [.ref (zad E 0), .int a1]) u (fun _ => some (.int r)) u' := by
  refine zCt.of (by decide +kernel) (fun E => Nat.le_of_ble_eq_true rfl) (fun X hX hR => ?_)
  have hX : zGood X RX5 cX5_coat 2 7 := hX
  show zG X u 0 [(0, .ref (zad X.1 0)), (1, .int a1)] []
  unfold m_X5_coat at h
  refine r_iload_n hX dX5_coat_0 1 rfl rfl ?_
  refine r_callS (As := [.int a1]) (rest := []) (st1 := [.int (m_X5_isMeasure a1)]) hX dX5_coat_1 ls_RX5_122 (c_X5_isMeasure a1  u _ rfl) (by decide) rfl rfl rfl (Nat.le_of_ble_eq_true rfl) rfl ?_
  refine r_if_ne (tgt := 13) hX dX5_coat_4 (by decide) (fun c1 => ?_) (fun c1 => ?_)
  · have h := (if_neg c1).symm.trans h
    refine r_aload_n hX dX5_coat_13 0 rfl rfl ?_
    obtain ⟨x2, u3, e4, h⟩ := zbind2_elim h
    refine r_callV (As := []) (rest := []) (st1 := [.int x2]) hX dX5_coat_14 lv_RX5_125 (c_X5_cutForAllHere   u _ _ e4) (by decide) rfl rfl (zRecv.of (q := 0) (ci := 5) rfl rfl) rfl (Nat.le_of_ble_eq_true rfl) rfl ?_
    refine r_if_ne (tgt := 26) hX dX5_coat_17 (by decide) (fun c5 => ?_) (fun c5 => ?_)
    · have h := (if_neg c5).symm.trans h
      refine r_aload_n hX dX5_coat_26 0 rfl rfl ?_
      refine r_getR hX dX5_coat_27 f_RX5_22 zr_0_2 ?_
      refine r_getR hX dX5_coat_30 f_RX5_129 zr_15_3 ?_
      refine r_iload_n hX dX5_coat_33 1 rfl rfl ?_
      obtain ⟨x6, e7, h⟩ := zbind_elim h
      refine r_iald hX dX5_coat_34 rfl e7 ?_
      obtain ⟨rfl, rfl⟩ := zinj2 (Option.some.inj h)
      exact r_iret hX hR dX5_coat_35
    · have h := (if_pos c5).symm.trans h
      refine r_aload_n hX dX5_coat_20 0 rfl rfl ?_
      refine r_iconst (v := 3) hX dX5_coat_21 (by decide) ?_
      obtain ⟨x8, u9, e10, h⟩ := zbind2_elim h
      refine r_callV (As := [.int 3]) (rest := []) (st1 := [.int x8]) hX dX5_coat_22 lv_RX5_65 (c_X5_finding 3  u3 _ _ e10) (by decide) rfl rfl (zRecv.of (q := 0) (ci := 5) rfl rfl) rfl (Nat.le_of_ble_eq_true rfl) rfl ?_
      obtain ⟨rfl, rfl⟩ := zinj2 (Option.some.inj h)
      exact r_iret hX hR dX5_coat_25
  · have h := (if_pos c1).symm.trans h
    refine r_aload_n hX dX5_coat_7 0 rfl rfl ?_
    refine r_iconst (v := 0) hX dX5_coat_8 (by decide) ?_
    obtain ⟨x11, u12, e13, h⟩ := zbind2_elim h
    refine r_callV (As := [.int 0]) (rest := []) (st1 := [.int x11]) hX dX5_coat_9 lv_RX5_65 (c_X5_finding 0  u _ _ e13) (by decide) rfl rfl (zRecv.of (q := 0) (ci := 5) rfl rfl) rfl (Nat.le_of_ble_eq_true rfl) rfl ?_
    obtain ⟨rfl, rfl⟩ := zinj2 (Option.some.inj h)
    exact r_iret hX hR dX5_coat_12
theorem dX5_greatestDivisor_0 : decode cX5_greatestDivisor 0 = .ok (.iload_n 0, 1) := by decide +kernel
theorem dX5_greatestDivisor_1 : decode cX5_greatestDivisor 1 = .ok (.istore_n 2, 1) := by decide +kernel
theorem dX5_greatestDivisor_2 : decode cX5_greatestDivisor 2 = .ok (.iload_n 1, 1) := by decide +kernel
theorem dX5_greatestDivisor_3 : decode cX5_greatestDivisor 3 = .ok (.istore_n 3, 1) := by decide +kernel
theorem dX5_greatestDivisor_4 : decode cX5_greatestDivisor 4 = .ok (.iconst 0, 1) := by decide +kernel
theorem dX5_greatestDivisor_5 : decode cX5_greatestDivisor 5 = .ok (.istore 4, 2) := by decide +kernel
theorem dX5_greatestDivisor_7 : decode cX5_greatestDivisor 7 = .ok (.iload 4, 2) := by decide +kernel
theorem dX5_greatestDivisor_9 : decode cX5_greatestDivisor 9 = .ok (.bipush 64, 2) := by decide +kernel
theorem dX5_greatestDivisor_11 : decode cX5_greatestDivisor 11 = .ok (.if_icmp .ge 23, 3) := by decide +kernel
theorem dX5_greatestDivisor_14 : decode cX5_greatestDivisor 14 = .ok (.iload_n 3, 1) := by decide +kernel
theorem dX5_greatestDivisor_15 : decode cX5_greatestDivisor 15 = .ok (.ifCond .le 19, 3) := by decide +kernel
theorem dX5_greatestDivisor_18 : decode cX5_greatestDivisor 18 = .ok (.iload_n 2, 1) := by decide +kernel
theorem dX5_greatestDivisor_19 : decode cX5_greatestDivisor 19 = .ok (.iload_n 3, 1) := by decide +kernel
theorem dX5_greatestDivisor_20 : decode cX5_greatestDivisor 20 = .ok (.irem, 1) := by decide +kernel
theorem dX5_greatestDivisor_21 : decode cX5_greatestDivisor 21 = .ok (.istore 5, 2) := by decide +kernel
theorem dX5_greatestDivisor_23 : decode cX5_greatestDivisor 23 = .ok (.iload_n 3, 1) := by decide +kernel
theorem dX5_greatestDivisor_24 : decode cX5_greatestDivisor 24 = .ok (.istore_n 2, 1) := by decide +kernel
theorem dX5_greatestDivisor_25 : decode cX5_greatestDivisor 25 = .ok (.iload 5, 2) := by decide +kernel
theorem dX5_greatestDivisor_27 : decode cX5_greatestDivisor 27 = .ok (.istore_n 3, 1) := by decide +kernel
theorem dX5_greatestDivisor_28 : decode cX5_greatestDivisor 28 = .ok (.iinc 4 1, 3) := by decide +kernel
theorem dX5_greatestDivisor_31 : decode cX5_greatestDivisor 31 = .ok (.goto (-24), 3) := by decide +kernel
theorem dX5_greatestDivisor_34 : decode cX5_greatestDivisor 34 = .ok (.iload_n 2, 1) := by decide +kernel
theorem dX5_greatestDivisor_35 : decode cX5_greatestDivisor 35 = .ok (.ireturn, 1) := by decide +kernel
def m_X5_greatestDivisor_b0  (x1 : Int32) (x2 : Int32) (x3 : Int32) : Option ((Int32 × Int32 × Int32) ⊕ (Int32)) :=
  (if 64 ≤ x3 then
some (.inr x1)
else
(if x2 ≤ 0 then
some (.inr x1)
else
if x2 = 0 then none else (some (.inl (x2, (zrem x1 x2), (x3 + 1))))))
def m_X5_greatestDivisor (a1 : Int32) (a2 : Int32) : Option (Int32) :=
  zbind (zit zF (fun s : Int32 × Int32 × Int32 => m_X5_greatestDivisor_b0 s.1 s.2.1 s.2.2) (a1, a2, 0)) (fun x4 =>
some x4)
set_option maxHeartbeats 4000000 in
set_option maxRecDepth 100000 in
theorem c_X5_greatestDivisor (a1 : Int32) (a2 : Int32)   (u : zM) (r : Int32) (h : m_X5_greatestDivisor a1 a2 = some r) : zCt 1 yX5_greatestDivisor cX5_greatestDivisor 6 (some .int) (fun E => [.int a1, .int a2]) u (fun _ => some (.int r)) u := by
  refine zCt.of (by decide +kernel) (fun E => Nat.le_of_ble_eq_true rfl) (fun X hX hR => ?_)
  have hX : zGood X RX5 cX5_greatestDivisor 6 1 := hX
  show zG X u 0 [(0, .int a1), (1, .int a2)] []
  unfold m_X5_greatestDivisor at h
  refine r_iload_n hX dX5_greatestDivisor_0 0 rfl rfl ?_
  refine r_istore_n (y := a1) (L' := [(2, .int a1), (0, .int a1), (1, .int a2)]) hX dX5_greatestDivisor_1 rfl (by decide) rfl rfl ?_
  refine r_iload_n hX dX5_greatestDivisor_2 2 rfl rfl ?_
  refine r_istore_n (y := a2) (L' := [(3, .int a2), (2, .int a1), (0, .int a1), (1, .int a2)]) hX dX5_greatestDivisor_3 rfl (by decide) rfl rfl ?_
  refine r_iconst (v := 0) hX dX5_greatestDivisor_4 (by decide) ?_
  refine r_istore (y := 0) (L' := [(4, .int 0), (3, .int a2), (2, .int a1), (0, .int a1), (1, .int a2)]) hX dX5_greatestDivisor_5 (by decide) rfl rfl ?_
  refine r_sub [2, 1, 0] (L' := [(2, .int a1), (3, .int a2), (4, .int 0)]) rfl ?_
  obtain ⟨x4, h5, h⟩ := zbind_elim h
  have Jh5 : zG X u 34 [(2, .int x4)] [] := by
      refine r_iload_n hX dX5_greatestDivisor_34 0 rfl rfl ?_
      obtain rfl := Option.some.inj h
      exact r_iret hX hR dX5_greatestDivisor_35
  clear h
  refine zit_walk (P := fun s0 : Int32 × Int32 × Int32 => zG X u 7 [(2, .int (s0.1)), (3, .int (s0.2.1)), (4, .int (s0.2.2))] []) ?_ zF _ h5
  clear h5
  intro s0 y0 h0b hin0 hout0
  obtain ⟨x1, x2, x3⟩ := s0
  have h0b : m_X5_greatestDivisor_b0 x1 x2 x3 = some y0 := h0b
  unfold m_X5_greatestDivisor_b0 at h0b
  show zG X u 7 [(2, .int x1), (3, .int x2), (4, .int x3)] []
  refine r_iload hX dX5_greatestDivisor_7 2 rfl ?_
  refine r_bipush (v := 64) hX dX5_greatestDivisor_9 (by decide) ?_
  refine r_icmp_ge (tgt := 34) hX dX5_greatestDivisor_11 (by decide) (fun c6 => ?_) (fun c6 => ?_)
  · have h0b := (if_pos c6).symm.trans h0b
    refine r_sub [0] (L' := [(2, .int x1)]) rfl ?_
    have h0b := hout0 _ (Option.some.inj h0b).symm
    obtain rfl := h0b
    exact Jh5
  · have h0b := (if_neg c6).symm.trans h0b
    refine r_iload_n hX dX5_greatestDivisor_14 1 rfl rfl ?_
    refine r_if_le (tgt := 34) hX dX5_greatestDivisor_15 (by decide) (fun c7 => ?_) (fun c7 => ?_)
    · have h0b := (if_pos c7).symm.trans h0b
      refine r_sub [0] (L' := [(2, .int x1)]) rfl ?_
      have h0b := hout0 _ (Option.some.inj h0b).symm
      obtain rfl := h0b
      exact Jh5
    · have h0b := (if_neg c7).symm.trans h0b
      refine r_iload_n hX dX5_greatestDivisor_18 0 rfl rfl ?_
      refine r_iload_n hX dX5_greatestDivisor_19 1 rfl rfl ?_
      by_cases c8 : x2 = 0
      · rw [if_pos c8] at h0b; cases h0b
      have h0b := (if_neg c8).symm.trans h0b
      refine r_irem hX dX5_greatestDivisor_20 c8 ?_
      refine r_istore (y := (zrem x1 x2)) (L' := [(5, .int (zrem x1 x2)), (2, .int x1), (3, .int x2), (4, .int x3)]) hX dX5_greatestDivisor_21 (by decide) rfl rfl ?_
      refine r_iload_n hX dX5_greatestDivisor_23 2 rfl rfl ?_
      refine r_istore_n (y := x2) (L' := [(2, .int x2), (5, .int (zrem x1 x2)), (3, .int x2), (4, .int x3)]) hX dX5_greatestDivisor_24 rfl (by decide) rfl rfl ?_
      refine r_iload hX dX5_greatestDivisor_25 1 rfl ?_
      refine r_istore_n (y := (zrem x1 x2)) (L' := [(3, .int (zrem x1 x2)), (2, .int x2), (5, .int (zrem x1 x2)), (4, .int x3)]) hX dX5_greatestDivisor_27 rfl (by decide) rfl rfl ?_
      refine r_iinc (v := (x3 + 1)) (L' := [(4, .int (x3 + 1)), (3, .int (zrem x1 x2)), (2, .int x2), (5, .int (zrem x1 x2))]) hX dX5_greatestDivisor_28 (by decide) 3 rfl rfl rfl ?_
      refine r_goto (tgt := 7) hX dX5_greatestDivisor_31 (by decide) ?_
      refine r_sub [2, 1, 0] (L' := [(2, .int x2), (3, .int (zrem x1 x2)), (4, .int (x3 + 1))]) rfl ?_
      exact hin0 _ (Option.some.inj h0b).symm
theorem dX5_mean_0 : decode cX5_mean 0 = .ok (.iload_n 1, 1) := by decide +kernel
theorem dX5_mean_1 : decode cX5_mean 1 = .ok (.invokestatic 122, 3) := by decide +kernel
theorem dX5_mean_4 : decode cX5_mean 4 = .ok (.ifCond .eq 12, 3) := by decide +kernel
theorem dX5_mean_7 : decode cX5_mean 7 = .ok (.iload_n 2, 1) := by decide +kernel
theorem dX5_mean_8 : decode cX5_mean 8 = .ok (.iconst 0, 1) := by decide +kernel
theorem dX5_mean_9 : decode cX5_mean 9 = .ok (.iconst 1, 1) := by decide +kernel
theorem dX5_mean_10 : decode cX5_mean 10 = .ok (.invokestatic 80, 3) := by decide +kernel
theorem dX5_mean_13 : decode cX5_mean 13 = .ok (.ifCond .ne 9, 3) := by decide +kernel
theorem dX5_mean_16 : decode cX5_mean 16 = .ok (.aload_n 0, 1) := by decide +kernel
theorem dX5_mean_17 : decode cX5_mean 17 = .ok (.iconst 0, 1) := by decide +kernel
theorem dX5_mean_18 : decode cX5_mean 18 = .ok (.invokevirtual 65, 3) := by decide +kernel
theorem dX5_mean_21 : decode cX5_mean 21 = .ok (.ireturn, 1) := by decide +kernel
theorem dX5_mean_22 : decode cX5_mean 22 = .ok (.aload_n 0, 1) := by decide +kernel
theorem dX5_mean_23 : decode cX5_mean 23 = .ok (.getfield 10, 3) := by decide +kernel
theorem dX5_mean_26 : decode cX5_mean 26 = .ok (.getfield 96, 3) := by decide +kernel
theorem dX5_mean_29 : decode cX5_mean 29 = .ok (.ifCond .ne 9, 3) := by decide +kernel
theorem dX5_mean_32 : decode cX5_mean 32 = .ok (.aload_n 0, 1) := by decide +kernel
theorem dX5_mean_33 : decode cX5_mean 33 = .ok (.iconst 3, 1) := by decide +kernel
theorem dX5_mean_34 : decode cX5_mean 34 = .ok (.invokevirtual 65, 3) := by decide +kernel
theorem dX5_mean_37 : decode cX5_mean 37 = .ok (.ireturn, 1) := by decide +kernel
theorem dX5_mean_38 : decode cX5_mean 38 = .ok (.aload_n 0, 1) := by decide +kernel
theorem dX5_mean_39 : decode cX5_mean 39 = .ok (.getfield 22, 3) := by decide +kernel
theorem dX5_mean_42 : decode cX5_mean 42 = .ok (.aload_n 0, 1) := by decide +kernel
theorem dX5_mean_43 : decode cX5_mean 43 = .ok (.getfield 10, 3) := by decide +kernel
theorem dX5_mean_46 : decode cX5_mean 46 = .ok (.invokevirtual 132, 3) := by decide +kernel
theorem dX5_mean_49 : decode cX5_mean 49 = .ok (.aload_n 0, 1) := by decide +kernel
theorem dX5_mean_50 : decode cX5_mean 50 = .ok (.getfield 22, 3) := by decide +kernel
theorem dX5_mean_53 : decode cX5_mean 53 = .ok (.iload_n 1, 1) := by decide +kernel
theorem dX5_mean_54 : decode cX5_mean 54 = .ok (.aload_n 0, 1) := by decide +kernel
theorem dX5_mean_55 : decode cX5_mean 55 = .ok (.getfield 10, 3) := by decide +kernel
theorem dX5_mean_58 : decode cX5_mean 58 = .ok (.getfield 96, 3) := by decide +kernel
theorem dX5_mean_61 : decode cX5_mean 61 = .ok (.invokevirtual 136, 3) := by decide +kernel
theorem dX5_mean_64 : decode cX5_mean 64 = .ok (.istore_n 3, 1) := by decide +kernel
theorem dX5_mean_65 : decode cX5_mean 65 = .ok (.aload_n 0, 1) := by decide +kernel
theorem dX5_mean_66 : decode cX5_mean 66 = .ok (.getfield 22, 3) := by decide +kernel
theorem dX5_mean_69 : decode cX5_mean 69 = .ok (.aload_n 0, 1) := by decide +kernel
theorem dX5_mean_70 : decode cX5_mean 70 = .ok (.getfield 10, 3) := by decide +kernel
theorem dX5_mean_73 : decode cX5_mean 73 = .ok (.getfield 96, 3) := by decide +kernel
theorem dX5_mean_76 : decode cX5_mean 76 = .ok (.invokevirtual 139, 3) := by decide +kernel
theorem dX5_mean_79 : decode cX5_mean 79 = .ok (.istore 4, 2) := by decide +kernel
theorem dX5_mean_81 : decode cX5_mean 81 = .ok (.iload_n 2, 1) := by decide +kernel
theorem dX5_mean_82 : decode cX5_mean 82 = .ok (.ifCond .ne 7, 3) := by decide +kernel
theorem dX5_mean_85 : decode cX5_mean 85 = .ok (.iload_n 3, 1) := by decide +kernel
theorem dX5_mean_86 : decode cX5_mean 86 = .ok (.goto 5, 3) := by decide +kernel
theorem dX5_mean_89 : decode cX5_mean 89 = .ok (.iload 4, 2) := by decide +kernel
theorem dX5_mean_91 : decode cX5_mean 91 = .ok (.istore 5, 2) := by decide +kernel
theorem dX5_mean_93 : decode cX5_mean 93 = .ok (.iload_n 3, 1) := by decide +kernel
theorem dX5_mean_94 : decode cX5_mean 94 = .ok (.iload 4, 2) := by decide +kernel
theorem dX5_mean_96 : decode cX5_mean 96 = .ok (.invokestatic 142, 3) := by decide +kernel
theorem dX5_mean_99 : decode cX5_mean 99 = .ok (.istore 6, 2) := by decide +kernel
theorem dX5_mean_101 : decode cX5_mean 101 = .ok (.iload 6, 2) := by decide +kernel
theorem dX5_mean_103 : decode cX5_mean 103 = .ok (.ifCond .ne 8, 3) := by decide +kernel
theorem dX5_mean_106 : decode cX5_mean 106 = .ok (.iload 5, 2) := by decide +kernel
theorem dX5_mean_108 : decode cX5_mean 108 = .ok (.goto 8, 3) := by decide +kernel
theorem dX5_mean_111 : decode cX5_mean 111 = .ok (.iload 5, 2) := by decide +kernel
theorem dX5_mean_113 : decode cX5_mean 113 = .ok (.iload 6, 2) := by decide +kernel
theorem dX5_mean_115 : decode cX5_mean 115 = .ok (.idiv, 1) := by decide +kernel
theorem dX5_mean_116 : decode cX5_mean 116 = .ok (.ireturn, 1) := by decide +kernel
def m_X5_mean (a1 : Int32) (a2 : Int32) (u : zM) : Option (Int32 × zM) :=
  (if (m_X5_isMeasure a1) = 0 then
zbind2 (m_X5_finding 0 u) (fun x2 u3 => some (x2, u3))
else
(if (m_X5_within a2 0 1) = 0 then
zbind2 (m_X5_finding 0 u) (fun x23 u24 => some (x23, u24))
else
(if (u 1 7) = 0 then
zbind2 (m_X5_finding 3 u) (fun x20 u21 => some (x20, u21))
else
zbind (m_X2_measureAll u) (fun u7 => zbind (m_X2_sumOf a1 (u7 1 7) u7) (fun x9 => zbind (m_X2_timesOf (u7 1 7) u7) (fun x11 => zlet ((if a2 = 0 then
x9
else
x11) : Int32) (fun x13 =>
zbind (m_X5_greatestDivisor x9 x11) (fun x16 => (if x16 = 0 then
some (x13, u7)
else
if x16 = 0 then none else (some ((x13 / x16), u7)))))))))))
set_option maxHeartbeats 4000000 in
set_option maxRecDepth 100000 in
theorem c_X5_mean (a1 : Int32) (a2 : Int32)   (u : zM) (r : Int32) (u' : zM) (h : m_X5_mean a1 a2 u = some (r, u')) : zCt 6 yX5_mean cX5_mean 7 (some .int) (fun E => [.ref (zad E 0), .int a1, .int a2]) u (fun _ => some (.int r)) u' := by
  refine zCt.of (by decide +kernel) (fun E => Nat.le_of_ble_eq_true rfl) (fun X hX hR => ?_)
  have hX : zGood X RX5 cX5_mean 7 6 := hX
  show zG X u 0 [(0, .ref (zad X.1 0)), (1, .int a1), (2, .int a2)] []
  unfold m_X5_mean at h
  refine r_iload_n hX dX5_mean_0 1 rfl rfl ?_
  refine r_callS (As := [.int a1]) (rest := []) (st1 := [.int (m_X5_isMeasure a1)]) hX dX5_mean_1 ls_RX5_122 (c_X5_isMeasure a1  u _ rfl) (by decide) rfl rfl rfl (Nat.le_of_ble_eq_true rfl) rfl ?_
  refine r_if_eq (tgt := 16) hX dX5_mean_4 (by decide) (fun c1 => ?_) (fun c1 => ?_)
  · have h := (if_pos c1).symm.trans h
    refine r_aload_n hX dX5_mean_16 0 rfl rfl ?_
    refine r_iconst (v := 0) hX dX5_mean_17 (by decide) ?_
    obtain ⟨x2, u3, e4, h⟩ := zbind2_elim h
    refine r_callV (As := [.int 0]) (rest := []) (st1 := [.int x2]) hX dX5_mean_18 lv_RX5_65 (c_X5_finding 0  u _ _ e4) (by decide) rfl rfl (zRecv.of (q := 0) (ci := 5) rfl rfl) rfl (Nat.le_of_ble_eq_true rfl) rfl ?_
    obtain ⟨rfl, rfl⟩ := zinj2 (Option.some.inj h)
    exact r_iret hX hR dX5_mean_21
  · have h := (if_neg c1).symm.trans h
    refine r_iload_n hX dX5_mean_7 2 rfl rfl ?_
    refine r_iconst (v := 0) hX dX5_mean_8 (by decide) ?_
    refine r_iconst (v := 1) hX dX5_mean_9 (by decide) ?_
    refine r_callS (As := [.int a2, .int 0, .int 1]) (rest := []) (st1 := [.int (m_X5_within a2 0 1)]) hX dX5_mean_10 ls_RX5_80 (c_X5_within a2 0 1  u _ rfl) (by decide) rfl rfl rfl (Nat.le_of_ble_eq_true rfl) rfl ?_
    refine r_if_ne (tgt := 22) hX dX5_mean_13 (by decide) (fun c5 => ?_) (fun c5 => ?_)
    · have h := (if_neg c5).symm.trans h
      refine r_aload_n hX dX5_mean_22 0 rfl rfl ?_
      refine r_getR hX dX5_mean_23 f_RX5_10 zr_0_0 ?_
      refine r_getI hX dX5_mean_26 f_RX5_96 zi_1_7 ?_
      refine r_if_ne (tgt := 38) hX dX5_mean_29 (by decide) (fun c6 => ?_) (fun c6 => ?_)
      · have h := (if_neg c6).symm.trans h
        refine r_aload_n hX dX5_mean_38 0 rfl rfl ?_
        refine r_getR hX dX5_mean_39 f_RX5_22 zr_0_2 ?_
        refine r_aload_n hX dX5_mean_42 0 rfl rfl ?_
        refine r_getR hX dX5_mean_43 f_RX5_10 zr_0_0 ?_
        obtain ⟨u7, e8, h⟩ := zbind_elim h
        refine r_callV (As := [.ref (zad X.1 1)]) (rest := []) (st1 := []) hX dX5_mean_46 lv_RX5_132 (c_X2_measureAll   u _ e8) (by decide) rfl rfl (zRecv.of (q := 15) (ci := 2) rfl rfl) rfl (Nat.le_of_ble_eq_true rfl) rfl ?_
        refine r_aload_n hX dX5_mean_49 0 rfl rfl ?_
        refine r_getR hX dX5_mean_50 f_RX5_22 zr_0_2 ?_
        refine r_iload_n hX dX5_mean_53 1 rfl rfl ?_
        refine r_aload_n hX dX5_mean_54 0 rfl rfl ?_
        refine r_getR hX dX5_mean_55 f_RX5_10 zr_0_0 ?_
        refine r_getI hX dX5_mean_58 f_RX5_96 zi_1_7 ?_
        obtain ⟨x9, e10, h⟩ := zbind_elim h
        refine r_callV (As := [.int a1, .int (u7 1 7)]) (rest := []) (st1 := [.int x9]) hX dX5_mean_61 lv_RX5_136 (c_X2_sumOf a1 (u7 1 7)  u7 _ e10) (by decide) rfl rfl (zRecv.of (q := 15) (ci := 2) rfl rfl) rfl (Nat.le_of_ble_eq_true rfl) rfl ?_
        refine r_istore_n (y := x9) (L' := [(3, .int x9), (0, .ref (zad X.1 0)), (1, .int a1), (2, .int a2)]) hX dX5_mean_64 rfl (by decide) rfl rfl ?_
        refine r_aload_n hX dX5_mean_65 1 rfl rfl ?_
        refine r_getR hX dX5_mean_66 f_RX5_22 zr_0_2 ?_
        refine r_aload_n hX dX5_mean_69 1 rfl rfl ?_
        refine r_getR hX dX5_mean_70 f_RX5_10 zr_0_0 ?_
        refine r_getI hX dX5_mean_73 f_RX5_96 zi_1_7 ?_
        obtain ⟨x11, e12, h⟩ := zbind_elim h
        refine r_callV (As := [.int (u7 1 7)]) (rest := []) (st1 := [.int x11]) hX dX5_mean_76 lv_RX5_139 (c_X2_timesOf (u7 1 7)  u7 _ e12) (by decide) rfl rfl (zRecv.of (q := 15) (ci := 2) rfl rfl) rfl (Nat.le_of_ble_eq_true rfl) rfl ?_
        refine r_istore (y := x11) (L' := [(4, .int x11), (3, .int x9), (0, .ref (zad X.1 0)), (1, .int a1), (2, .int a2)]) hX dX5_mean_79 (by decide) rfl rfl ?_
        refine r_iload_n hX dX5_mean_81 4 rfl rfl ?_
        obtain ⟨x13, h14, h⟩ := zlet_elim h
        have Jh14 : zG X u7 91 [(3, .int x9), (4, .int x11)] [.int x13] := by
            refine r_istore (y := x13) (L' := [(5, .int x13), (3, .int x9), (4, .int x11)]) hX dX5_mean_91 (by decide) rfl rfl ?_
            refine r_iload_n hX dX5_mean_93 1 rfl rfl ?_
            refine r_iload hX dX5_mean_94 2 rfl ?_
            obtain ⟨x16, e17, h⟩ := zbind_elim h
            refine r_callS (As := [.int x9, .int x11]) (rest := []) (st1 := [.int x16]) hX dX5_mean_96 ls_RX5_142 (c_X5_greatestDivisor x9 x11  u7 _ e17) (by decide) rfl rfl rfl (Nat.le_of_ble_eq_true rfl) rfl ?_
            refine r_istore (y := x16) (L' := [(6, .int x16), (5, .int x13), (3, .int x9), (4, .int x11)]) hX dX5_mean_99 (by decide) rfl rfl ?_
            refine r_iload hX dX5_mean_101 0 rfl ?_
            refine r_if_ne (tgt := 111) hX dX5_mean_103 (by decide) (fun c18 => ?_) (fun c18 => ?_)
            · have h := (if_neg c18).symm.trans h
              refine r_iload hX dX5_mean_111 1 rfl ?_
              refine r_iload hX dX5_mean_113 0 rfl ?_
              by_cases c19 : x16 = 0
              · rw [if_pos c19] at h; cases h
              have h := (if_neg c19).symm.trans h
              refine r_idiv hX dX5_mean_115 c19 ?_
              obtain ⟨rfl, rfl⟩ := zinj2 (Option.some.inj h)
              exact r_iret hX hR dX5_mean_116
            · have h := (if_pos c18).symm.trans h
              refine r_iload hX dX5_mean_106 1 rfl ?_
              refine r_goto (tgt := 116) hX dX5_mean_108 (by decide) ?_
              obtain ⟨rfl, rfl⟩ := zinj2 (Option.some.inj h)
              exact r_iret hX hR dX5_mean_116
        clear h
        refine r_if_ne (tgt := 89) hX dX5_mean_82 (by decide) (fun c15 => ?_) (fun c15 => ?_)
        · have h14 := (if_neg c15).symm.trans h14
          refine r_iload hX dX5_mean_89 0 rfl ?_
          refine r_sub [1, 0] (L' := [(3, .int x9), (4, .int x11)]) rfl ?_
          obtain rfl := h14
          exact Jh14
        · have h14 := (if_pos c15).symm.trans h14
          refine r_iload_n hX dX5_mean_85 1 rfl rfl ?_
          refine r_goto (tgt := 91) hX dX5_mean_86 (by decide) ?_
          refine r_sub [1, 0] (L' := [(3, .int x9), (4, .int x11)]) rfl ?_
          obtain rfl := h14
          exact Jh14
      · have h := (if_pos c6).symm.trans h
        refine r_aload_n hX dX5_mean_32 0 rfl rfl ?_
        refine r_iconst (v := 3) hX dX5_mean_33 (by decide) ?_
        obtain ⟨x20, u21, e22, h⟩ := zbind2_elim h
        refine r_callV (As := [.int 3]) (rest := []) (st1 := [.int x20]) hX dX5_mean_34 lv_RX5_65 (c_X5_finding 3  u _ _ e22) (by decide) rfl rfl (zRecv.of (q := 0) (ci := 5) rfl rfl) rfl (Nat.le_of_ble_eq_true rfl) rfl ?_
        obtain ⟨rfl, rfl⟩ := zinj2 (Option.some.inj h)
        exact r_iret hX hR dX5_mean_37
    · have h := (if_pos c5).symm.trans h
      refine r_aload_n hX dX5_mean_16 0 rfl rfl ?_
      refine r_iconst (v := 0) hX dX5_mean_17 (by decide) ?_
      obtain ⟨x23, u24, e25, h⟩ := zbind2_elim h
      refine r_callV (As := [.int 0]) (rest := []) (st1 := [.int x23]) hX dX5_mean_18 lv_RX5_65 (c_X5_finding 0  u _ _ e25) (by decide) rfl rfl (zRecv.of (q := 0) (ci := 5) rfl rfl) rfl (Nat.le_of_ble_eq_true rfl) rfl ?_
      obtain ⟨rfl, rfl⟩ := zinj2 (Option.some.inj h)
      exact r_iret hX hR dX5_mean_21
