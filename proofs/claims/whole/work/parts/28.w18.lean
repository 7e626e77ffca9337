/-! MODELS AND CONTRACTS, by program (wip/whole/gen_all.py): X6_famine, X6_isMeasure, X6_hereSet, X6_has, X6_findRow, X6_rowSum, X6_cutFor, X6_coat -/
theorem dX6_famine_0 : decode cX6_famine 0 = .ok (.iload_n 1, 1) := by decide +kernel
theorem dX6_famine_1 : decode cX6_famine 1 = .ok (.iconst 1, 1) := by decide +kernel
theorem dX6_famine_2 : decode cX6_famine 2 = .ok (.bipush 50, 2) := by decide +kernel
theorem dX6_famine_4 : decode cX6_famine 4 = .ok (.invokestatic 79, 3) := by decide +kernel
theorem dX6_famine_7 : decode cX6_famine 7 = .ok (.ifCond .ne 10, 3) := by decide +kernel
theorem dX6_famine_10 : decode cX6_famine 10 = .ok (.aload_n 0, 1) := by decide +kernel
theorem dX6_famine_11 : decode cX6_famine 11 = .ok (.ldc 78, 2) := by decide +kernel
theorem dX6_famine_13 : decode cX6_famine 13 = .ok (.invokevirtual 83, 3) := by decide +kernel
theorem dX6_famine_16 : decode cX6_famine 16 = .ok (.ireturn, 1) := by decide +kernel
theorem dX6_famine_17 : decode cX6_famine 17 = .ok (.iconst 0, 1) := by decide +kernel
theorem dX6_famine_18 : decode cX6_famine 18 = .ok (.istore_n 2, 1) := by decide +kernel
theorem dX6_famine_19 : decode cX6_famine 19 = .ok (.iconst 0, 1) := by decide +kernel
theorem dX6_famine_20 : decode cX6_famine 20 = .ok (.istore_n 3, 1) := by decide +kernel
theorem dX6_famine_21 : decode cX6_famine 21 = .ok (.iload_n 3, 1) := by decide +kernel
theorem dX6_famine_22 : decode cX6_famine 22 = .ok (.aload_n 0, 1) := by decide +kernel
theorem dX6_famine_23 : decode cX6_famine 23 = .ok (.getfield 9, 3) := by decide +kernel
theorem dX6_famine_26 : decode cX6_famine 26 = .ok (.iconst 0, 1) := by decide +kernel
theorem dX6_famine_27 : decode cX6_famine 27 = .ok (.iaload, 1) := by decide +kernel
theorem dX6_famine_28 : decode cX6_famine 28 = .ok (.if_icmp .ge 74, 3) := by decide +kernel
theorem dX6_famine_31 : decode cX6_famine 31 = .ok (.bipush 6, 2) := by decide +kernel
theorem dX6_famine_33 : decode cX6_famine 33 = .ok (.bipush 7, 2) := by decide +kernel
theorem dX6_famine_35 : decode cX6_famine 35 = .ok (.iload_n 3, 1) := by decide +kernel
theorem dX6_famine_36 : decode cX6_famine 36 = .ok (.imul, 1) := by decide +kernel
theorem dX6_famine_37 : decode cX6_famine 37 = .ok (.iadd, 1) := by decide +kernel
theorem dX6_famine_38 : decode cX6_famine 38 = .ok (.iconst 1, 1) := by decide +kernel
theorem dX6_famine_39 : decode cX6_famine 39 = .ok (.iadd, 1) := by decide +kernel
theorem dX6_famine_40 : decode cX6_famine 40 = .ok (.iconst 1, 1) := by decide +kernel
theorem dX6_famine_41 : decode cX6_famine 41 = .ok (.iadd, 1) := by decide +kernel
theorem dX6_famine_42 : decode cX6_famine 42 = .ok (.istore 4, 2) := by decide +kernel
theorem dX6_famine_44 : decode cX6_famine 44 = .ok (.aload_n 0, 1) := by decide +kernel
theorem dX6_famine_45 : decode cX6_famine 45 = .ok (.iload_n 3, 1) := by decide +kernel
theorem dX6_famine_46 : decode cX6_famine 46 = .ok (.bipush 6, 2) := by decide +kernel
theorem dX6_famine_48 : decode cX6_famine 48 = .ok (.invokevirtual 92, 3) := by decide +kernel
theorem dX6_famine_51 : decode cX6_famine 51 = .ok (.iconst 1, 1) := by decide +kernel
theorem dX6_famine_52 : decode cX6_famine 52 = .ok (.if_icmp .ne 44, 3) := by decide +kernel
theorem dX6_famine_55 : decode cX6_famine 55 = .ok (.aload_n 0, 1) := by decide +kernel
theorem dX6_famine_56 : decode cX6_famine 56 = .ok (.getfield 9, 3) := by decide +kernel
theorem dX6_famine_59 : decode cX6_famine 59 = .ok (.iload 4, 2) := by decide +kernel
theorem dX6_famine_61 : decode cX6_famine 61 = .ok (.bipush 50, 2) := by decide +kernel
theorem dX6_famine_63 : decode cX6_famine 63 = .ok (.aload_n 0, 1) := by decide +kernel
theorem dX6_famine_64 : decode cX6_famine 64 = .ok (.getfield 9, 3) := by decide +kernel
theorem dX6_famine_67 : decode cX6_famine 67 = .ok (.iload 4, 2) := by decide +kernel
theorem dX6_famine_69 : decode cX6_famine 69 = .ok (.iaload, 1) := by decide +kernel
theorem dX6_famine_70 : decode cX6_famine 70 = .ok (.iload_n 1, 1) := by decide +kernel
theorem dX6_famine_71 : decode cX6_famine 71 = .ok (.isub, 1) := by decide +kernel
theorem dX6_famine_72 : decode cX6_famine 72 = .ok (.invokestatic 113, 3) := by decide +kernel
theorem dX6_famine_75 : decode cX6_famine 75 = .ok (.iastore, 1) := by decide +kernel
theorem dX6_famine_76 : decode cX6_famine 76 = .ok (.iload_n 2, 1) := by decide +kernel
theorem dX6_famine_77 : decode cX6_famine 77 = .ok (.aload_n 0, 1) := by decide +kernel
theorem dX6_famine_78 : decode cX6_famine 78 = .ok (.getfield 9, 3) := by decide +kernel
theorem dX6_famine_81 : decode cX6_famine 81 = .ok (.iload 4, 2) := by decide +kernel
theorem dX6_famine_83 : decode cX6_famine 83 = .ok (.iaload, 1) := by decide +kernel
theorem dX6_famine_84 : decode cX6_famine 84 = .ok (.bipush 50, 2) := by decide +kernel
theorem dX6_famine_86 : decode cX6_famine 86 = .ok (.if_icmp .ne 7, 3) := by decide +kernel
theorem dX6_famine_89 : decode cX6_famine 89 = .ok (.iconst 1, 1) := by decide +kernel
theorem dX6_famine_90 : decode cX6_famine 90 = .ok (.goto 4, 3) := by decide +kernel
theorem dX6_famine_93 : decode cX6_famine 93 = .ok (.iconst 0, 1) := by decide +kernel
theorem dX6_famine_94 : decode cX6_famine 94 = .ok (.iadd, 1) := by decide +kernel
theorem dX6_famine_95 : decode cX6_famine 95 = .ok (.istore_n 2, 1) := by decide +kernel
theorem dX6_famine_96 : decode cX6_famine 96 = .ok (.iinc 3 1, 3) := by decide +kernel
theorem dX6_famine_99 : decode cX6_famine 99 = .ok (.goto (-78), 3) := by decide +kernel
theorem dX6_famine_102 : decode cX6_famine 102 = .ok (.iload_n 2, 1) := by decide +kernel
theorem dX6_famine_103 : decode cX6_famine 103 = .ok (.ireturn, 1) := by decide +kernel
def m_X6_famine_b0 (a1 : Int32) (x2 : Int32) (x3 : Int32) (u4 : zM) : Option ((Int32 × Int32 × zM) ⊕ (Int32 × zM)) :=
  (if (u4 40 0) ≤ x3 then
some (.inr (x2, u4))
else
zbind (m_X6_bodyIs x3 6 u4) (fun x9 => (if x9 = 1 then
zbind (zld u4 40 160 (((6 + (7 * x3)) + 1) + 1)) (fun x12 => zbind (zsv u4 40 160 (((6 + (7 * x3)) + 1) + 1) (zmax 50 (x12 - a1))) (fun u14 => zbind (zld u14 40 160 (((6 + (7 * x3)) + 1) + 1)) (fun x16 => (if x16 = 50 then
some (.inl ((x2 + 1), (x3 + 1), u14))
else
some (.inl ((x2 + 0), (x3 + 1), u14))))))
else
some (.inl (x2, (x3 + 1), u4)))))
def m_X6_famine (a1 : Int32) (u : zM) : Option (Int32 × zM) :=
  (if (m_X6_within a1 1 50) = 0 then
zbind2 (m_X6_finding (-1000001) u) (fun x19 u20 => some (x19, u20))
else
zbind2 (zit zF (fun s : Int32 × Int32 × zM => m_X6_famine_b0 a1 s.1 s.2.1 s.2.2) (0, 0, u)) (fun x5 u6 =>
some (x5, u6)))
set_option maxHeartbeats 4000000 in
set_option maxRecDepth 100000 in
theorem c_X6_famine (a1 : Int32)   (u : zM) (r : Int32) (u' : zM) (h : m_X6_famine a1 u = some (r, u')) : zCt 2 yX6_famine cX6_famine 5 (some .int) (fun E => [.ref (zad E 39), .int a1]) u (fun _ => some (.int r)) u' := by
  refine zCt.of (by decide +kernel) (fun E => Nat.le_of_ble_eq_true rfl) (fun X hX hR => ?_)
  have hX : zGood X RX6 cX6_famine 5 2 := hX
  show zG X u 0 [(0, .ref (zad X.1 39)), (1, .int a1)] []
  unfold m_X6_famine at h
  refine r_iload_n hX dX6_famine_0 1 rfl rfl ?_
  refine r_iconst (v := 1) hX dX6_famine_1 (by decide) ?_
  refine r_bipush (v := 50) hX dX6_famine_2 (by decide) ?_
  refine r_callS (As := [.int a1, .int 1, .int 50]) (rest := []) (st1 := [.int (m_X6_within a1 1 50)]) hX dX6_famine_4 ls_RX6_79 (c_X6_within a1 1 50  u _ rfl) (by decide) rfl rfl rfl (Nat.le_of_ble_eq_true rfl) rfl ?_
  refine r_if_ne (tgt := 17) hX dX6_famine_7 (by decide) (fun c1 => ?_) (fun c1 => ?_)
  · have h := (if_neg c1).symm.trans h
    refine r_iconst (v := 0) hX dX6_famine_17 (by decide) ?_
    refine r_istore_n (y := 0) (L' := [(2, .int 0), (0, .ref (zad X.1 39)), (1, .int a1)]) hX dX6_famine_18 rfl (by decide) rfl rfl ?_
    refine r_iconst (v := 0) hX dX6_famine_19 (by decide) ?_
    refine r_istore_n (y := 0) (L' := [(3, .int 0), (2, .int 0), (0, .ref (zad X.1 39)), (1, .int a1)]) hX dX6_famine_20 rfl (by decide) rfl rfl ?_
    refine r_sub [2, 3, 1, 0] (L' := [(0, .ref (zad X.1 39)), (1, .int a1), (2, .int 0), (3, .int 0)]) rfl ?_
    obtain ⟨x5, u6, h7, h⟩ := zbind2_elim h
    have Jh7 : zG X u6 102 [(2, .int x5)] [] := by
        refine r_iload_n hX dX6_famine_102 0 rfl rfl ?_
        obtain ⟨rfl, rfl⟩ := zinj2 (Option.some.inj h)
        exact r_iret hX hR dX6_famine_103
    clear h
    refine zit_walk (P := fun s0 : Int32 × Int32 × zM => zG X s0.2.2 21 [(0, .ref (zad X.1 39)), (1, .int a1), (2, .int (s0.1)), (3, .int (s0.2.1))] []) ?_ zF _ h7
    clear h7
    intro s0 y0 h0b hin0 hout0
    obtain ⟨x2, x3, u4⟩ := s0
    have h0b : m_X6_famine_b0 a1 x2 x3 u4 = some y0 := h0b
    unfold m_X6_famine_b0 at h0b
    show zG X u4 21 [(0, .ref (zad X.1 39)), (1, .int a1), (2, .int x2), (3, .int x3)] []
    refine r_iload_n hX dX6_famine_21 3 rfl rfl ?_
    refine r_aload_n hX dX6_famine_22 0 rfl rfl ?_
    refine r_getR hX dX6_famine_23 f_RX6_9 zr_39_0 ?_
    refine r_iconst (v := 0) hX dX6_famine_26 (by decide) ?_
    refine r_ialdC (j := 0) hX dX6_famine_27 rfl (by decide +kernel) ?_
    refine r_icmp_ge (tgt := 102) hX dX6_famine_28 (by decide) (fun c8 => ?_) (fun c8 => ?_)
    · have h0b := (if_pos c8).symm.trans h0b
      refine r_sub [2] (L' := [(2, .int x2)]) rfl ?_
      have h0b := hout0 _ (Option.some.inj h0b).symm
      obtain ⟨rfl, rfl⟩ := zinj2 h0b
      exact Jh7
    · have h0b := (if_neg c8).symm.trans h0b
      refine r_bipush (v := 6) hX dX6_famine_31 (by decide) ?_
      refine r_bipush (v := 7) hX dX6_famine_33 (by decide) ?_
      refine r_iload_n hX dX6_famine_35 3 rfl rfl ?_
      refine r_imul hX dX6_famine_36 ?_
      refine r_iadd hX dX6_famine_37 ?_
      refine r_iconst (v := 1) hX dX6_famine_38 (by decide) ?_
      refine r_iadd hX dX6_famine_39 ?_
      refine r_iconst (v := 1) hX dX6_famine_40 (by decide) ?_
      refine r_iadd hX dX6_famine_41 ?_
      refine r_istore (y := (((6 + (7 * x3)) + 1) + 1)) (L' := [(4, .int (((6 + (7 * x3)) + 1) + 1)), (0, .ref (zad X.1 39)), (1, .int a1), (2, .int x2), (3, .int x3)]) hX dX6_famine_42 (by decide) rfl rfl ?_
      refine r_aload_n hX dX6_famine_44 1 rfl rfl ?_
      refine r_iload_n hX dX6_famine_45 4 rfl rfl ?_
      refine r_bipush (v := 6) hX dX6_famine_46 (by decide) ?_
      obtain ⟨x9, e10, h0b⟩ := zbind_elim h0b
      refine r_callV (As := [.int x3, .int 6]) (rest := []) (st1 := [.int x9]) hX dX6_famine_48 lv_RX6_92 (c_X6_bodyIs x3 6  u4 _ e10) (by decide) rfl rfl (zRecv.of (q := 39) (ci := 6) rfl rfl) rfl (Nat.le_of_ble_eq_true rfl) rfl ?_
      refine r_iconst (v := 1) hX dX6_famine_51 (by decide) ?_
      refine r_icmp_ne (tgt := 96) hX dX6_famine_52 (by decide) (fun c11 => ?_) (fun c11 => ?_)
      · have h0b := (if_neg c11).symm.trans h0b
        refine r_iinc (v := (x3 + 1)) (L' := [(3, .int (x3 + 1)), (4, .int (((6 + (7 * x3)) + 1) + 1)), (0, .ref (zad X.1 39)), (1, .int a1), (2, .int x2)]) hX dX6_famine_96 (by decide) 4 rfl rfl rfl ?_
        refine r_goto (tgt := 21) hX dX6_famine_99 (by decide) ?_
        refine r_sub [2, 3, 4, 0] (L' := [(0, .ref (zad X.1 39)), (1, .int a1), (2, .int x2), (3, .int (x3 + 1))]) rfl ?_
        exact hin0 _ (Option.some.inj h0b).symm
      · have h0b := (if_pos c11).symm.trans h0b
        refine r_aload_n hX dX6_famine_55 1 rfl rfl ?_
        refine r_getR hX dX6_famine_56 f_RX6_9 zr_39_0 ?_
        refine r_iload hX dX6_famine_59 0 rfl ?_
        refine r_bipush (v := 50) hX dX6_famine_61 (by decide) ?_
        refine r_aload_n hX dX6_famine_63 1 rfl rfl ?_
        refine r_getR hX dX6_famine_64 f_RX6_9 zr_39_0 ?_
        refine r_iload hX dX6_famine_67 0 rfl ?_
        obtain ⟨x12, e13, h0b⟩ := zbind_elim h0b
        refine r_iald hX dX6_famine_69 rfl e13 ?_
        refine r_iload_n hX dX6_famine_70 2 rfl rfl ?_
        refine r_isub hX dX6_famine_71 ?_
        refine r_max hX dX6_famine_72 lm_RX6_113 (by decide) (Nat.le_of_ble_eq_true rfl) ?_
        obtain ⟨u14, e15, h0b⟩ := zbind_elim h0b
        refine r_iast hX dX6_famine_75 rfl e15 ?_
        refine r_iload_n hX dX6_famine_76 3 rfl rfl ?_
        refine r_aload_n hX dX6_famine_77 1 rfl rfl ?_
        refine r_getR hX dX6_famine_78 f_RX6_9 zr_39_0 ?_
        refine r_iload hX dX6_famine_81 0 rfl ?_
        obtain ⟨x16, e17, h0b⟩ := zbind_elim h0b
        refine r_iald hX dX6_famine_83 rfl e17 ?_
        refine r_bipush (v := 50) hX dX6_famine_84 (by decide) ?_
        refine r_icmp_ne (tgt := 93) hX dX6_famine_86 (by decide) (fun c18 => ?_) (fun c18 => ?_)
        · have h0b := (if_neg c18).symm.trans h0b
          refine r_iconst (v := 0) hX dX6_famine_93 (by decide) ?_
          refine r_iadd hX dX6_famine_94 ?_
          refine r_istore_n (y := (x2 + 0)) (L' := [(2, .int (x2 + 0)), (4, .int (((6 + (7 * x3)) + 1) + 1)), (0, .ref (zad X.1 39)), (1, .int a1), (3, .int x3)]) hX dX6_famine_95 rfl (by decide) rfl rfl ?_
          refine r_iinc (v := (x3 + 1)) (L' := [(3, .int (x3 + 1)), (2, .int (x2 + 0)), (4, .int (((6 + (7 * x3)) + 1) + 1)), (0, .ref (zad X.1 39)), (1, .int a1)]) hX dX6_famine_96 (by decide) 4 rfl rfl rfl ?_
          refine r_goto (tgt := 21) hX dX6_famine_99 (by decide) ?_
          refine r_sub [3, 4, 1, 0] (L' := [(0, .ref (zad X.1 39)), (1, .int a1), (2, .int (x2 + 0)), (3, .int (x3 + 1))]) rfl ?_
          exact hin0 _ (Option.some.inj h0b).symm
        · have h0b := (if_pos c18).symm.trans h0b
          refine r_iconst (v := 1) hX dX6_famine_89 (by decide) ?_
          refine r_goto (tgt := 94) hX dX6_famine_90 (by decide) ?_
          refine r_iadd hX dX6_famine_94 ?_
          refine r_istore_n (y := (x2 + 1)) (L' := [(2, .int (x2 + 1)), (4, .int (((6 + (7 * x3)) + 1) + 1)), (0, .ref (zad X.1 39)), (1, .int a1), (3, .int x3)]) hX dX6_famine_95 rfl (by decide) rfl rfl ?_
          refine r_iinc (v := (x3 + 1)) (L' := [(3, .int (x3 + 1)), (2, .int (x2 + 1)), (4, .int (((6 + (7 * x3)) + 1) + 1)), (0, .ref (zad X.1 39)), (1, .int a1)]) hX dX6_famine_96 (by decide) 4 rfl rfl rfl ?_
          refine r_goto (tgt := 21) hX dX6_famine_99 (by decide) ?_
          refine r_sub [3, 4, 1, 0] (L' := [(0, .ref (zad X.1 39)), (1, .int a1), (2, .int (x2 + 1)), (3, .int (x3 + 1))]) rfl ?_
          exact hin0 _ (Option.some.inj h0b).symm
  · have h := (if_pos c1).symm.trans h
    refine r_aload_n hX dX6_famine_10 0 rfl rfl ?_
    refine r_ldc (v := (-1000001)) hX dX6_famine_11 (zT_in 1041 (by decide +kernel) rfl) ?_
    obtain ⟨x19, u20, e21, h⟩ := zbind2_elim h
    refine r_callV (As := [.int (-1000001)]) (rest := []) (st1 := [.int x19]) hX dX6_famine_13 lv_RX6_83 (c_X6_finding (-1000001)  u _ _ e21) (by decide) rfl rfl (zRecv.of (q := 39) (ci := 6) rfl rfl) rfl (Nat.le_of_ble_eq_true rfl) rfl ?_
    obtain ⟨rfl, rfl⟩ := zinj2 (Option.some.inj h)
    exact r_iret hX hR dX6_famine_16
theorem dX6_isMeasure_0 : decode cX6_isMeasure 0 = .ok (.iload_n 0, 1) := by decide +kernel
theorem dX6_isMeasure_1 : decode cX6_isMeasure 1 = .ok (.iconst 0, 1) := by decide +kernel
theorem dX6_isMeasure_2 : decode cX6_isMeasure 2 = .ok (.iconst 2, 1) := by decide +kernel
theorem dX6_isMeasure_3 : decode cX6_isMeasure 3 = .ok (.invokestatic 79, 3) := by decide +kernel
theorem dX6_isMeasure_6 : decode cX6_isMeasure 6 = .ok (.ireturn, 1) := by decide +kernel
def m_X6_isMeasure (a1 : Int32) : Int32 :=
  (zb (m_X6_within a1 0 2))
set_option maxHeartbeats 4000000 in
set_option maxRecDepth 100000 in
theorem c_X6_isMeasure (a1 : Int32)   (u : zM) (r : Int32) (h : m_X6_isMeasure a1 = r) : zCt 2 yX6_isMeasure cX6_isMeasure 1 (some .boolean) (fun E => [.int a1]) u (fun _ => some (.int r)) u := by
  refine zCt.of (by decide +kernel) (fun E => Nat.le_of_ble_eq_true rfl) (fun X hX hR => ?_)
  have hX : zGood X RX6 cX6_isMeasure 1 2 := hX
  show zG X u 0 [(0, .int a1)] []
  unfold m_X6_isMeasure at h
  refine r_iload_n hX dX6_isMeasure_0 0 rfl rfl ?_
  refine r_iconst (v := 0) hX dX6_isMeasure_1 (by decide) ?_
  refine r_iconst (v := 2) hX dX6_isMeasure_2 (by decide) ?_
  refine r_callS (As := [.int a1, .int 0, .int 2]) (rest := []) (st1 := [.int (m_X6_within a1 0 2)]) hX dX6_isMeasure_3 ls_RX6_79 (c_X6_within a1 0 2  u _ rfl) (by decide) rfl rfl rfl (Nat.le_of_ble_eq_true rfl) rfl ?_
  obtain rfl := h
  exact r_zret hX hR dX6_isMeasure_6
theorem dX6_hereSet_0 : decode cX6_hereSet 0 = .ok (.iconst 0, 1) := by decide +kernel
theorem dX6_hereSet_1 : decode cX6_hereSet 1 = .ok (.istore_n 1, 1) := by decide +kernel
theorem dX6_hereSet_2 : decode cX6_hereSet 2 = .ok (.iconst 0, 1) := by decide +kernel
theorem dX6_hereSet_3 : decode cX6_hereSet 3 = .ok (.istore_n 2, 1) := by decide +kernel
theorem dX6_hereSet_4 : decode cX6_hereSet 4 = .ok (.iload_n 2, 1) := by decide +kernel
theorem dX6_hereSet_5 : decode cX6_hereSet 5 = .ok (.aload_n 0, 1) := by decide +kernel
theorem dX6_hereSet_6 : decode cX6_hereSet 6 = .ok (.getfield 9, 3) := by decide +kernel
theorem dX6_hereSet_9 : decode cX6_hereSet 9 = .ok (.iconst 0, 1) := by decide +kernel
theorem dX6_hereSet_10 : decode cX6_hereSet 10 = .ok (.iaload, 1) := by decide +kernel
theorem dX6_hereSet_11 : decode cX6_hereSet 11 = .ok (.if_icmp .ge 21, 3) := by decide +kernel
theorem dX6_hereSet_14 : decode cX6_hereSet 14 = .ok (.iload_n 1, 1) := by decide +kernel
theorem dX6_hereSet_15 : decode cX6_hereSet 15 = .ok (.aload_n 0, 1) := by decide +kernel
theorem dX6_hereSet_16 : decode cX6_hereSet 16 = .ok (.iload_n 2, 1) := by decide +kernel
theorem dX6_hereSet_17 : decode cX6_hereSet 17 = .ok (.bipush 6, 2) := by decide +kernel
theorem dX6_hereSet_19 : decode cX6_hereSet 19 = .ok (.invokevirtual 92, 3) := by decide +kernel
theorem dX6_hereSet_22 : decode cX6_hereSet 22 = .ok (.iload_n 2, 1) := by decide +kernel
theorem dX6_hereSet_23 : decode cX6_hereSet 23 = .ok (.ishl, 1) := by decide +kernel
theorem dX6_hereSet_24 : decode cX6_hereSet 24 = .ok (.ior, 1) := by decide +kernel
theorem dX6_hereSet_25 : decode cX6_hereSet 25 = .ok (.istore_n 1, 1) := by decide +kernel
theorem dX6_hereSet_26 : decode cX6_hereSet 26 = .ok (.iinc 2 1, 3) := by decide +kernel
theorem dX6_hereSet_29 : decode cX6_hereSet 29 = .ok (.goto (-25), 3) := by decide +kernel
theorem dX6_hereSet_32 : decode cX6_hereSet 32 = .ok (.iload_n 1, 1) := by decide +kernel
theorem dX6_hereSet_33 : decode cX6_hereSet 33 = .ok (.ireturn, 1) := by decide +kernel
def m_X6_hereSet_b0 (u : zM) (x1 : Int32) (x2 : Int32) : Option ((Int32 × Int32) ⊕ (Int32)) :=
  (if (u 40 0) ≤ x2 then
some (.inr x1)
else
zbind (m_X6_bodyIs x2 6 u) (fun x6 => some (.inl ((x1 ||| (zshl x6 x2)), (x2 + 1)))))
def m_X6_hereSet  (u : zM) : Option (Int32) :=
  zbind (zit zF (fun s : Int32 × Int32 => m_X6_hereSet_b0 u s.1 s.2) (0, 0)) (fun x3 =>
some x3)
set_option maxHeartbeats 4000000 in
set_option maxRecDepth 100000 in
theorem c_X6_hereSet    (u : zM) (r : Int32) (h : m_X6_hereSet u = some r) : zCt 2 yX6_hereSet cX6_hereSet 3 (some .int) (fun E => [.ref (zad E 39)]) u (fun _ => some (.int r)) u := by
  refine zCt.of (by decide +kernel) (fun E => Nat.le_of_ble_eq_true rfl) (fun X hX hR => ?_)
  have hX : zGood X RX6 cX6_hereSet 3 2 := hX
  show zG X u 0 [(0, .ref (zad X.1 39))] []
  unfold m_X6_hereSet at h
  refine r_iconst (v := 0) hX dX6_hereSet_0 (by decide) ?_
  refine r_istore_n (y := 0) (L' := [(1, .int 0), (0, .ref (zad X.1 39))]) hX dX6_hereSet_1 rfl (by decide) rfl rfl ?_
  refine r_iconst (v := 0) hX dX6_hereSet_2 (by decide) ?_
  refine r_istore_n (y := 0) (L' := [(2, .int 0), (1, .int 0), (0, .ref (zad X.1 39))]) hX dX6_hereSet_3 rfl (by decide) rfl rfl ?_
  refine r_sub [2, 1, 0] (L' := [(0, .ref (zad X.1 39)), (1, .int 0), (2, .int 0)]) rfl ?_
  obtain ⟨x3, h4, h⟩ := zbind_elim h
  have Jh4 : zG X u 32 [(1, .int x3)] [] := by
      refine r_iload_n hX dX6_hereSet_32 0 rfl rfl ?_
      obtain rfl := Option.some.inj h
      exact r_iret hX hR dX6_hereSet_33
  clear h
  refine zit_walk (P := fun s0 : Int32 × Int32 => zG X u 4 [(0, .ref (zad X.1 39)), (1, .int (s0.1)), (2, .int (s0.2))] []) ?_ zF _ h4
  clear h4
  intro s0 y0 h0b hin0 hout0
  obtain ⟨x1, x2⟩ := s0
  have h0b : m_X6_hereSet_b0 u x1 x2 = some y0 := h0b
  unfold m_X6_hereSet_b0 at h0b
  show zG X u 4 [(0, .ref (zad X.1 39)), (1, .int x1), (2, .int x2)] []
  refine r_iload_n hX dX6_hereSet_4 2 rfl rfl ?_
  refine r_aload_n hX dX6_hereSet_5 0 rfl rfl ?_
  refine r_getR hX dX6_hereSet_6 f_RX6_9 zr_39_0 ?_
  refine r_iconst (v := 0) hX dX6_hereSet_9 (by decide) ?_
  refine r_ialdC (j := 0) hX dX6_hereSet_10 rfl (by decide +kernel) ?_
  refine r_icmp_ge (tgt := 32) hX dX6_hereSet_11 (by decide) (fun c5 => ?_) (fun c5 => ?_)
  · have h0b := (if_pos c5).symm.trans h0b
    refine r_sub [1] (L' := [(1, .int x1)]) rfl ?_
    have h0b := hout0 _ (Option.some.inj h0b).symm
    obtain rfl := h0b
    exact Jh4
  · have h0b := (if_neg c5).symm.trans h0b
    refine r_iload_n hX dX6_hereSet_14 1 rfl rfl ?_
    refine r_aload_n hX dX6_hereSet_15 0 rfl rfl ?_
    refine r_iload_n hX dX6_hereSet_16 2 rfl rfl ?_
    refine r_bipush (v := 6) hX dX6_hereSet_17 (by decide) ?_
    obtain ⟨x6, e7, h0b⟩ := zbind_elim h0b
    refine r_callV (As := [.int x2, .int 6]) (rest := [.int x1]) (st1 := [.int x6, .int x1]) hX dX6_hereSet_19 lv_RX6_92 (c_X6_bodyIs x2 6  u _ e7) (by decide) rfl rfl (zRecv.of (q := 39) (ci := 6) rfl rfl) rfl (Nat.le_of_ble_eq_true rfl) rfl ?_
    refine r_iload_n hX dX6_hereSet_22 2 rfl rfl ?_
    refine r_ishl hX dX6_hereSet_23 ?_
    refine r_ior hX dX6_hereSet_24 ?_
    refine r_istore_n (y := (x1 ||| (zshl x6 x2))) (L' := [(1, .int (x1 ||| (zshl x6 x2))), (0, .ref (zad X.1 39)), (2, .int x2)]) hX dX6_hereSet_25 rfl (by decide) rfl rfl ?_
    refine r_iinc (v := (x2 + 1)) (L' := [(2, .int (x2 + 1)), (1, .int (x1 ||| (zshl x6 x2))), (0, .ref (zad X.1 39))]) hX dX6_hereSet_26 (by decide) 2 rfl rfl rfl ?_
    refine r_goto (tgt := 4) hX dX6_hereSet_29 (by decide) ?_
    refine r_sub [2, 1, 0] (L' := [(0, .ref (zad X.1 39)), (1, .int (x1 ||| (zshl x6 x2))), (2, .int (x2 + 1))]) rfl ?_
    exact hin0 _ (Option.some.inj h0b).symm
theorem dX6_has_0 : decode cX6_has 0 = .ok (.iload_n 0, 1) := by decide +kernel
theorem dX6_has_1 : decode cX6_has 1 = .ok (.iload_n 1, 1) := by decide +kernel
theorem dX6_has_2 : decode cX6_has 2 = .ok (.ishr, 1) := by decide +kernel
theorem dX6_has_3 : decode cX6_has 3 = .ok (.iconst 1, 1) := by decide +kernel
theorem dX6_has_4 : decode cX6_has 4 = .ok (.iand, 1) := by decide +kernel
theorem dX6_has_5 : decode cX6_has 5 = .ok (.iconst 1, 1) := by decide +kernel
theorem dX6_has_6 : decode cX6_has 6 = .ok (.if_icmp .ne 7, 3) := by decide +kernel
theorem dX6_has_9 : decode cX6_has 9 = .ok (.iconst 1, 1) := by decide +kernel
theorem dX6_has_10 : decode cX6_has 10 = .ok (.goto 4, 3) := by decide +kernel
theorem dX6_has_13 : decode cX6_has 13 = .ok (.iconst 0, 1) := by decide +kernel
theorem dX6_has_14 : decode cX6_has 14 = .ok (.ireturn, 1) := by decide +kernel
def m_X6_has (a1 : Int32) (a2 : Int32) : Int32 :=
  (if ((zshr a1 a2) &&& 1) = 1 then
1
else
0)
set_option maxHeartbeats 4000000 in
set_option maxRecDepth 100000 in
theorem c_X6_has (a1 : Int32) (a2 : Int32)   (u : zM) (r : Int32) (h : m_X6_has a1 a2 = r) : zCt 1 yX6_has cX6_has 2 (some .boolean) (fun E => [.int a1, .int a2]) u (fun _ => some (.int r)) u := by
  refine zCt.of (by decide +kernel) (fun E => Nat.le_of_ble_eq_true rfl) (fun X hX hR => ?_)
  have hX : zGood X RX6 cX6_has 2 1 := hX
  show zG X u 0 [(0, .int a1), (1, .int a2)] []
  unfold m_X6_has at h
  refine r_iload_n hX dX6_has_0 0 rfl rfl ?_
  refine r_iload_n hX dX6_has_1 1 rfl rfl ?_
  refine r_ishr hX dX6_has_2 ?_
  refine r_iconst (v := 1) hX dX6_has_3 (by decide) ?_
  refine r_iand hX dX6_has_4 ?_
  refine r_iconst (v := 1) hX dX6_has_5 (by decide) ?_
  refine r_icmp_ne (tgt := 13) hX dX6_has_6 (by decide) (fun c1 => ?_) (fun c1 => ?_)
  · have h := (if_neg c1).symm.trans h
    refine r_iconst (v := 0) hX dX6_has_13 (by decide) ?_
    obtain rfl := h
    exact r_zret0 hX hR dX6_has_14
  · have h := (if_pos c1).symm.trans h
    refine r_iconst (v := 1) hX dX6_has_9 (by decide) ?_
    refine r_goto (tgt := 14) hX dX6_has_10 (by decide) ?_
    obtain rfl := h
    exact r_zret1 hX hR dX6_has_14
theorem dX6_findRow_0 : decode cX6_findRow 0 = .ok (.aload_n 0, 1) := by decide +kernel
theorem dX6_findRow_1 : decode cX6_findRow 1 = .ok (.iconst 0, 1) := by decide +kernel
theorem dX6_findRow_2 : decode cX6_findRow 2 = .ok (.putfield 118, 3) := by decide +kernel
theorem dX6_findRow_5 : decode cX6_findRow 5 = .ok (.iconst 0, 1) := by decide +kernel
theorem dX6_findRow_6 : decode cX6_findRow 6 = .ok (.istore_n 3, 1) := by decide +kernel
theorem dX6_findRow_7 : decode cX6_findRow 7 = .ok (.iload_n 3, 1) := by decide +kernel
theorem dX6_findRow_8 : decode cX6_findRow 8 = .ok (.aload_n 0, 1) := by decide +kernel
theorem dX6_findRow_9 : decode cX6_findRow 9 = .ok (.getfield 9, 3) := by decide +kernel
theorem dX6_findRow_12 : decode cX6_findRow 12 = .ok (.iconst 0, 1) := by decide +kernel
theorem dX6_findRow_13 : decode cX6_findRow 13 = .ok (.iaload, 1) := by decide +kernel
theorem dX6_findRow_14 : decode cX6_findRow 14 = .ok (.if_icmp .ge 121, 3) := by decide +kernel
theorem dX6_findRow_17 : decode cX6_findRow 17 = .ok (.iconst 0, 1) := by decide +kernel
theorem dX6_findRow_18 : decode cX6_findRow 18 = .ok (.istore 4, 2) := by decide +kernel
theorem dX6_findRow_20 : decode cX6_findRow 20 = .ok (.iload 4, 2) := by decide +kernel
theorem dX6_findRow_22 : decode cX6_findRow 22 = .ok (.aload_n 0, 1) := by decide +kernel
theorem dX6_findRow_23 : decode cX6_findRow 23 = .ok (.iload_n 3, 1) := by decide +kernel
theorem dX6_findRow_24 : decode cX6_findRow 24 = .ok (.invokevirtual 100, 3) := by decide +kernel
theorem dX6_findRow_27 : decode cX6_findRow 27 = .ok (.if_icmp .ge 102, 3) := by decide +kernel
theorem dX6_findRow_30 : decode cX6_findRow 30 = .ok (.iload_n 1, 1) := by decide +kernel
theorem dX6_findRow_31 : decode cX6_findRow 31 = .ok (.iload_n 3, 1) := by decide +kernel
theorem dX6_findRow_32 : decode cX6_findRow 32 = .ok (.invokestatic 122, 3) := by decide +kernel
theorem dX6_findRow_35 : decode cX6_findRow 35 = .ok (.ifCond .eq 94, 3) := by decide +kernel
theorem dX6_findRow_38 : decode cX6_findRow 38 = .ok (.aload_n 0, 1) := by decide +kernel
theorem dX6_findRow_39 : decode cX6_findRow 39 = .ok (.iload_n 3, 1) := by decide +kernel
theorem dX6_findRow_40 : decode cX6_findRow 40 = .ok (.iload_n 2, 1) := by decide +kernel
theorem dX6_findRow_41 : decode cX6_findRow 41 = .ok (.invokevirtual 103, 3) := by decide +kernel
theorem dX6_findRow_44 : decode cX6_findRow 44 = .ok (.aload_n 0, 1) := by decide +kernel
theorem dX6_findRow_45 : decode cX6_findRow 45 = .ok (.getfield 22, 3) := by decide +kernel
theorem dX6_findRow_48 : decode cX6_findRow 48 = .ok (.iconst 3, 1) := by decide +kernel
theorem dX6_findRow_49 : decode cX6_findRow 49 = .ok (.iload_n 3, 1) := by decide +kernel
theorem dX6_findRow_50 : decode cX6_findRow 50 = .ok (.imul, 1) := by decide +kernel
theorem dX6_findRow_51 : decode cX6_findRow 51 = .ok (.iload_n 2, 1) := by decide +kernel
theorem dX6_findRow_52 : decode cX6_findRow 52 = .ok (.iadd, 1) := by decide +kernel
theorem dX6_findRow_53 : decode cX6_findRow 53 = .ok (.iaload, 1) := by decide +kernel
theorem dX6_findRow_54 : decode cX6_findRow 54 = .ok (.iadd, 1) := by decide +kernel
theorem dX6_findRow_55 : decode cX6_findRow 55 = .ok (.istore 5, 2) := by decide +kernel
theorem dX6_findRow_57 : decode cX6_findRow 57 = .ok (.aload_n 0, 1) := by decide +kernel
theorem dX6_findRow_58 : decode cX6_findRow 58 = .ok (.getfield 118, 3) := by decide +kernel
theorem dX6_findRow_61 : decode cX6_findRow 61 = .ok (.istore 6, 2) := by decide +kernel
theorem dX6_findRow_63 : decode cX6_findRow 63 = .ok (.iload 6, 2) := by decide +kernel
theorem dX6_findRow_65 : decode cX6_findRow 65 = .ok (.ifCond .le 39, 3) := by decide +kernel
theorem dX6_findRow_68 : decode cX6_findRow 68 = .ok (.aload_n 0, 1) := by decide +kernel
theorem dX6_findRow_69 : decode cX6_findRow 69 = .ok (.getfield 25, 3) := by decide +kernel
theorem dX6_findRow_72 : decode cX6_findRow 72 = .ok (.iload 6, 2) := by decide +kernel
theorem dX6_findRow_74 : decode cX6_findRow 74 = .ok (.iconst 1, 1) := by decide +kernel
theorem dX6_findRow_75 : decode cX6_findRow 75 = .ok (.isub, 1) := by decide +kernel
theorem dX6_findRow_76 : decode cX6_findRow 76 = .ok (.iaload, 1) := by decide +kernel
theorem dX6_findRow_77 : decode cX6_findRow 77 = .ok (.iload 5, 2) := by decide +kernel
theorem dX6_findRow_79 : decode cX6_findRow 79 = .ok (.if_icmp .le 25, 3) := by decide +kernel
theorem dX6_findRow_82 : decode cX6_findRow 82 = .ok (.aload_n 0, 1) := by decide +kernel
theorem dX6_findRow_83 : decode cX6_findRow 83 = .ok (.getfield 25, 3) := by decide +kernel
theorem dX6_findRow_86 : decode cX6_findRow 86 = .ok (.iload 6, 2) := by decide +kernel
theorem dX6_findRow_88 : decode cX6_findRow 88 = .ok (.aload_n 0, 1) := by decide +kernel
theorem dX6_findRow_89 : decode cX6_findRow 89 = .ok (.getfield 25, 3) := by decide +kernel
theorem dX6_findRow_92 : decode cX6_findRow 92 = .ok (.iload 6, 2) := by decide +kernel
theorem dX6_findRow_94 : decode cX6_findRow 94 = .ok (.iconst 1, 1) := by decide +kernel
theorem dX6_findRow_95 : decode cX6_findRow 95 = .ok (.isub, 1) := by decide +kernel
theorem dX6_findRow_96 : decode cX6_findRow 96 = .ok (.iaload, 1) := by decide +kernel
theorem dX6_findRow_97 : decode cX6_findRow 97 = .ok (.iastore, 1) := by decide +kernel
theorem dX6_findRow_98 : decode cX6_findRow 98 = .ok (.iinc 6 (-1), 3) := by decide +kernel
theorem dX6_findRow_101 : decode cX6_findRow 101 = .ok (.goto (-38), 3) := by decide +kernel
theorem dX6_findRow_104 : decode cX6_findRow 104 = .ok (.aload_n 0, 1) := by decide +kernel
theorem dX6_findRow_105 : decode cX6_findRow 105 = .ok (.getfield 25, 3) := by decide +kernel
theorem dX6_findRow_108 : decode cX6_findRow 108 = .ok (.iload 6, 2) := by decide +kernel
theorem dX6_findRow_110 : decode cX6_findRow 110 = .ok (.iload 5, 2) := by decide +kernel
theorem dX6_findRow_112 : decode cX6_findRow 112 = .ok (.iastore, 1) := by decide +kernel
theorem dX6_findRow_113 : decode cX6_findRow 113 = .ok (.aload_n 0, 1) := by decide +kernel
theorem dX6_findRow_114 : decode cX6_findRow 114 = .ok (.dup, 1) := by decide +kernel
theorem dX6_findRow_115 : decode cX6_findRow 115 = .ok (.getfield 118, 3) := by decide +kernel
theorem dX6_findRow_118 : decode cX6_findRow 118 = .ok (.iconst 1, 1) := by decide +kernel
theorem dX6_findRow_119 : decode cX6_findRow 119 = .ok (.iadd, 1) := by decide +kernel
theorem dX6_findRow_120 : decode cX6_findRow 120 = .ok (.putfield 118, 3) := by decide +kernel
theorem dX6_findRow_123 : decode cX6_findRow 123 = .ok (.iinc 4 1, 3) := by decide +kernel
theorem dX6_findRow_126 : decode cX6_findRow 126 = .ok (.goto (-106), 3) := by decide +kernel
theorem dX6_findRow_129 : decode cX6_findRow 129 = .ok (.iinc 3 1, 3) := by decide +kernel
theorem dX6_findRow_132 : decode cX6_findRow 132 = .ok (.goto (-125), 3) := by decide +kernel
theorem dX6_findRow_135 : decode cX6_findRow 135 = .ok (.return_, 1) := by decide +kernel
def m_X6_findRow_b2 (x16 : Int32) (x18 : Int32) (x20 : Int32) (u21 : zM) : Option ((Int32 × zM) ⊕ (Int32 × zM)) :=
  (if x20 ≤ 0 then
some (.inr (x20, u21))
else
zbind (zld u21 45 36 (x20 - 1)) (fun x26 => (if x26 ≤ (x16 + x18) then
some (.inr (x20, u21))
else
zbind (zld u21 45 36 (x20 - 1)) (fun x29 => zbind (zsv u21 45 36 x20 x29) (fun u31 => some (.inl ((x20 + (-1)), u31)))))))
def m_X6_findRow_b1 (x3 : Int32) (a1 : Int32) (a2 : Int32) (x8 : Int32) (u9 : zM) : Option ((Int32 × zM) ⊕ (zM)) :=
  zbind (m_X6_countsOf x3 u9) (fun x12 => (if x12 ≤ x8 then
some (.inr u9)
else
(if (m_X6_has a1 x3) = 0 then
some (.inr u9)
else
zbind (m_X6_measured x3 a2 u9) (fun x16 => zbind (zld u9 44 36 ((3 * x3) + a2)) (fun x18 => zbind2 (zit zF (fun s : Int32 × zM => m_X6_findRow_b2 x16 x18 s.1 s.2) ((u9 39 7), u9)) (fun x22 u23 =>
zbind (zsv u23 45 36 x22 (x16 + x18)) (fun u33 => zlet (zst u33 39 7 ((u33 39 7) + 1)) (fun u35 => some (.inl ((x8 + 1), u35))))))))))
def m_X6_findRow_b0 (a1 : Int32) (a2 : Int32) (x3 : Int32) (u4 : zM) : Option ((Int32 × zM) ⊕ (zM)) :=
  (if (u4 40 0) ≤ x3 then
some (.inr u4)
else
zbind (zit zF (fun s : Int32 × zM => m_X6_findRow_b1 x3 a1 a2 s.1 s.2) (0, u4)) (fun u10 =>
some (.inl ((x3 + 1), u10))))
def m_X6_findRow (a1 : Int32) (a2 : Int32) (u : zM) : Option (zM) :=
  zlet (zst u 39 7 0) (fun u1 => zbind (zit zF (fun s : Int32 × zM => m_X6_findRow_b0 a1 a2 s.1 s.2) (0, u1)) (fun u5 =>
some u5))
set_option maxHeartbeats 4000000 in
set_option maxRecDepth 100000 in
theorem c_X6_findRow (a1 : Int32) (a2 : Int32)   (u : zM) (u' : zM) (h : m_X6_findRow a1 a2 u = some (u')) : zCt 3 yX6_findRow cX6_findRow 7 none (fun E => [.ref (zad E 39), .int a1, .int a2]) u (fun _ => none) u' := by
  refine zCt.of (by decide +kernel) (fun E => Nat.le_of_ble_eq_true rfl) (fun X hX hR => ?_)
  have hX : zGood X RX6 cX6_findRow 7 3 := hX
  show zG X u 0 [(0, .ref (zad X.1 39)), (1, .int a1), (2, .int a2)] []
  unfold m_X6_findRow at h
  refine r_aload_n hX dX6_findRow_0 0 rfl rfl ?_
  refine r_iconst (v := 0) hX dX6_findRow_1 (by decide) ?_
  obtain ⟨u1, e2, h⟩ := zlet_elim h
  refine r_putI hX dX6_findRow_2 f_RX6_118 p_6_7 zi_39_7 ?_
  rw [e2]
  refine r_iconst (v := 0) hX dX6_findRow_5 (by decide) ?_
  refine r_istore_n (y := 0) (L' := [(3, .int 0), (0, .ref (zad X.1 39)), (1, .int a1), (2, .int a2)]) hX dX6_findRow_6 rfl (by decide) rfl rfl ?_
  refine r_sub [1, 2, 3, 0] (L' := [(0, .ref (zad X.1 39)), (1, .int a1), (2, .int a2), (3, .int 0)]) rfl ?_
  obtain ⟨u5, h6, h⟩ := zbind_elim h
  have Jh6 : zG X u5 135 [] [] := by
      obtain rfl := Option.some.inj h
      exact r_vret hX hR dX6_findRow_135
  clear h
  refine zit_walk (P := fun s0 : Int32 × zM => zG X s0.2 7 [(0, .ref (zad X.1 39)), (1, .int a1), (2, .int a2), (3, .int (s0.1))] []) ?_ zF _ h6
  clear h6
  intro s0 y0 h0b hin0 hout0
  obtain ⟨x3, u4⟩ := s0
  have h0b : m_X6_findRow_b0 a1 a2 x3 u4 = some y0 := h0b
  unfold m_X6_findRow_b0 at h0b
  show zG X u4 7 [(0, .ref (zad X.1 39)), (1, .int a1), (2, .int a2), (3, .int x3)] []
  refine r_iload_n hX dX6_findRow_7 3 rfl rfl ?_
  refine r_aload_n hX dX6_findRow_8 0 rfl rfl ?_
  refine r_getR hX dX6_findRow_9 f_RX6_9 zr_39_0 ?_
  refine r_iconst (v := 0) hX dX6_findRow_12 (by decide) ?_
  refine r_ialdC (j := 0) hX dX6_findRow_13 rfl (by decide +kernel) ?_
  refine r_icmp_ge (tgt := 135) hX dX6_findRow_14 (by decide) (fun c7 => ?_) (fun c7 => ?_)
  · have h0b := (if_pos c7).symm.trans h0b
    refine r_sub [] (L' := []) rfl ?_
    have h0b := hout0 _ (Option.some.inj h0b).symm
    obtain rfl := h0b
    exact Jh6
  · have h0b := (if_neg c7).symm.trans h0b
    refine r_iconst (v := 0) hX dX6_findRow_17 (by decide) ?_
    refine r_istore (y := 0) (L' := [(4, .int 0), (0, .ref (zad X.1 39)), (1, .int a1), (2, .int a2), (3, .int x3)]) hX dX6_findRow_18 (by decide) rfl rfl ?_
    refine r_sub [1, 2, 3, 4, 0] (L' := [(0, .ref (zad X.1 39)), (1, .int a1), (2, .int a2), (3, .int x3), (4, .int 0)]) rfl ?_
    obtain ⟨u10, h11, h0b⟩ := zbind_elim h0b
    have Jh11 : zG X u10 129 [(0, .ref (zad X.1 39)), (1, .int a1), (2, .int a2), (3, .int x3)] [] := by
        refine r_iinc (v := (x3 + 1)) (L' := [(3, .int (x3 + 1)), (0, .ref (zad X.1 39)), (1, .int a1), (2, .int a2)]) hX dX6_findRow_129 (by decide) 3 rfl rfl rfl ?_
        refine r_goto (tgt := 7) hX dX6_findRow_132 (by decide) ?_
        refine r_sub [1, 2, 3, 0] (L' := [(0, .ref (zad X.1 39)), (1, .int a1), (2, .int a2), (3, .int (x3 + 1))]) rfl ?_
        exact hin0 _ (Option.some.inj h0b).symm
    clear h0b
    refine zit_walk (P := fun s1 : Int32 × zM => zG X s1.2 20 [(0, .ref (zad X.1 39)), (1, .int a1), (2, .int a2), (3, .int x3), (4, .int (s1.1))] []) ?_ zF _ h11
    clear h11
    intro s1 y1 h1b hin1 hout1
    obtain ⟨x8, u9⟩ := s1
    have h1b : m_X6_findRow_b1 x3 a1 a2 x8 u9 = some y1 := h1b
    unfold m_X6_findRow_b1 at h1b
    show zG X u9 20 [(0, .ref (zad X.1 39)), (1, .int a1), (2, .int a2), (3, .int x3), (4, .int x8)] []
    refine r_iload hX dX6_findRow_20 4 rfl ?_
    refine r_aload_n hX dX6_findRow_22 0 rfl rfl ?_
    refine r_iload_n hX dX6_findRow_23 3 rfl rfl ?_
    obtain ⟨x12, e13, h1b⟩ := zbind_elim h1b
    refine r_callV (As := [.int x3]) (rest := [.int x8]) (st1 := [.int x12, .int x8]) hX dX6_findRow_24 lv_RX6_100 (c_X6_countsOf x3  u9 _ e13) (by decide) rfl rfl (zRecv.of (q := 39) (ci := 6) rfl rfl) rfl (Nat.le_of_ble_eq_true rfl) rfl ?_
    refine r_icmp_ge (tgt := 129) hX dX6_findRow_27 (by decide) (fun c14 => ?_) (fun c14 => ?_)
    · have h1b := (if_pos c14).symm.trans h1b
      refine r_sub [0, 1, 2, 3] (L' := [(0, .ref (zad X.1 39)), (1, .int a1), (2, .int a2), (3, .int x3)]) rfl ?_
      have h1b := hout1 _ (Option.some.inj h1b).symm
      obtain rfl := h1b
      exact Jh11
    · have h1b := (if_neg c14).symm.trans h1b
      refine r_iload_n hX dX6_findRow_30 1 rfl rfl ?_
      refine r_iload_n hX dX6_findRow_31 3 rfl rfl ?_
      refine r_callS (As := [.int a1, .int x3]) (rest := []) (st1 := [.int (m_X6_has a1 x3)]) hX dX6_findRow_32 ls_RX6_122 (c_X6_has a1 x3  u9 _ rfl) (by decide) rfl rfl rfl (Nat.le_of_ble_eq_true rfl) rfl ?_
      refine r_if_eq (tgt := 129) hX dX6_findRow_35 (by decide) (fun c15 => ?_) (fun c15 => ?_)
      · have h1b := (if_pos c15).symm.trans h1b
        refine r_sub [0, 1, 2, 3] (L' := [(0, .ref (zad X.1 39)), (1, .int a1), (2, .int a2), (3, .int x3)]) rfl ?_
        have h1b := hout1 _ (Option.some.inj h1b).symm
        obtain rfl := h1b
        exact Jh11
      · have h1b := (if_neg c15).symm.trans h1b
        refine r_aload_n hX dX6_findRow_38 0 rfl rfl ?_
        refine r_iload_n hX dX6_findRow_39 3 rfl rfl ?_
        refine r_iload_n hX dX6_findRow_40 2 rfl rfl ?_
        obtain ⟨x16, e17, h1b⟩ := zbind_elim h1b
        refine r_callV (As := [.int x3, .int a2]) (rest := []) (st1 := [.int x16]) hX dX6_findRow_41 lv_RX6_103 (c_X6_measured x3 a2  u9 _ e17) (by decide) rfl rfl (zRecv.of (q := 39) (ci := 6) rfl rfl) rfl (Nat.le_of_ble_eq_true rfl) rfl ?_
        refine r_aload_n hX dX6_findRow_44 0 rfl rfl ?_
        refine r_getR hX dX6_findRow_45 f_RX6_22 zr_39_5 ?_
        refine r_iconst (v := 3) hX dX6_findRow_48 (by decide) ?_
        refine r_iload_n hX dX6_findRow_49 3 rfl rfl ?_
        refine r_imul hX dX6_findRow_50 ?_
        refine r_iload_n hX dX6_findRow_51 2 rfl rfl ?_
        refine r_iadd hX dX6_findRow_52 ?_
        obtain ⟨x18, e19, h1b⟩ := zbind_elim h1b
        refine r_iald hX dX6_findRow_53 rfl e19 ?_
        refine r_iadd hX dX6_findRow_54 ?_
        refine r_istore (y := (x16 + x18)) (L' := [(5, .int (x16 + x18)), (0, .ref (zad X.1 39)), (1, .int a1), (2, .int a2), (3, .int x3), (4, .int x8)]) hX dX6_findRow_55 (by decide) rfl rfl ?_
        refine r_aload_n hX dX6_findRow_57 1 rfl rfl ?_
        refine r_getI hX dX6_findRow_58 f_RX6_118 zi_39_7 ?_
        refine r_istore (y := (u9 39 7)) (L' := [(6, .int (u9 39 7)), (5, .int (x16 + x18)), (0, .ref (zad X.1 39)), (1, .int a1), (2, .int a2), (3, .int x3), (4, .int x8)]) hX dX6_findRow_61 (by decide) rfl rfl ?_
        refine r_sub [2, 3, 4, 5, 6, 1, 0] (L' := [(0, .ref (zad X.1 39)), (1, .int a1), (2, .int a2), (3, .int x3), (4, .int x8), (5, .int (x16 + x18)), (6, .int (u9 39 7))]) rfl ?_
        obtain ⟨x22, u23, h24, h1b⟩ := zbind2_elim h1b
        have Jh24 : zG X u23 104 [(0, .ref (zad X.1 39)), (1, .int a1), (2, .int a2), (3, .int x3), (4, .int x8), (5, .int (x16 + x18)), (6, .int x22)] [] := by
            refine r_aload_n hX dX6_findRow_104 0 rfl rfl ?_
            refine r_getR hX dX6_findRow_105 f_RX6_25 zr_39_6 ?_
            refine r_iload hX dX6_findRow_108 6 rfl ?_
            refine r_iload hX dX6_findRow_110 5 rfl ?_
            obtain ⟨u33, e34, h1b⟩ := zbind_elim h1b
            refine r_iast hX dX6_findRow_112 rfl e34 ?_
            refine r_aload_n hX dX6_findRow_113 0 rfl rfl ?_
            refine r_dup hX dX6_findRow_114 rfl ?_
            refine r_getI hX dX6_findRow_115 f_RX6_118 zi_39_7 ?_
            refine r_iconst (v := 1) hX dX6_findRow_118 (by decide) ?_
            refine r_iadd hX dX6_findRow_119 ?_
            obtain ⟨u35, e36, h1b⟩ := zlet_elim h1b
            refine r_putI hX dX6_findRow_120 f_RX6_118 p_6_7 zi_39_7 ?_
            rw [e36]
            refine r_iinc (v := (x8 + 1)) (L' := [(4, .int (x8 + 1)), (0, .ref (zad X.1 39)), (1, .int a1), (2, .int a2), (3, .int x3), (5, .int (x16 + x18)), (6, .int x22)]) hX dX6_findRow_123 (by decide) 4 rfl rfl rfl ?_
            refine r_goto (tgt := 20) hX dX6_findRow_126 (by decide) ?_
            refine r_sub [1, 2, 3, 4, 0] (L' := [(0, .ref (zad X.1 39)), (1, .int a1), (2, .int a2), (3, .int x3), (4, .int (x8 + 1))]) rfl ?_
            exact hin1 _ (Option.some.inj h1b).symm
        clear h1b
        refine zit_walk (P := fun s2 : Int32 × zM => zG X s2.2 63 [(0, .ref (zad X.1 39)), (1, .int a1), (2, .int a2), (3, .int x3), (4, .int x8), (5, .int (x16 + x18)), (6, .int (s2.1))] []) ?_ zF _ h24
        clear h24
        intro s2 y2 h2b hin2 hout2
        obtain ⟨x20, u21⟩ := s2
        have h2b : m_X6_findRow_b2 x16 x18 x20 u21 = some y2 := h2b
        unfold m_X6_findRow_b2 at h2b
        show zG X u21 63 [(0, .ref (zad X.1 39)), (1, .int a1), (2, .int a2), (3, .int x3), (4, .int x8), (5, .int (x16 + x18)), (6, .int x20)] []
        refine r_iload hX dX6_findRow_63 6 rfl ?_
        refine r_if_le (tgt := 104) hX dX6_findRow_65 (by decide) (fun c25 => ?_) (fun c25 => ?_)
        · have h2b := (if_pos c25).symm.trans h2b
          have h2b := hout2 _ (Option.some.inj h2b).symm
          obtain ⟨rfl, rfl⟩ := zinj2 h2b
          exact Jh24
        · have h2b := (if_neg c25).symm.trans h2b
          refine r_aload_n hX dX6_findRow_68 0 rfl rfl ?_
          refine r_getR hX dX6_findRow_69 f_RX6_25 zr_39_6 ?_
          refine r_iload hX dX6_findRow_72 6 rfl ?_
          refine r_iconst (v := 1) hX dX6_findRow_74 (by decide) ?_
          refine r_isub hX dX6_findRow_75 ?_
          obtain ⟨x26, e27, h2b⟩ := zbind_elim h2b
          refine r_iald hX dX6_findRow_76 rfl e27 ?_
          refine r_iload hX dX6_findRow_77 5 rfl ?_
          refine r_icmp_le (tgt := 104) hX dX6_findRow_79 (by decide) (fun c28 => ?_) (fun c28 => ?_)
          · have h2b := (if_pos c28).symm.trans h2b
            have h2b := hout2 _ (Option.some.inj h2b).symm
            obtain ⟨rfl, rfl⟩ := zinj2 h2b
            exact Jh24
          · have h2b := (if_neg c28).symm.trans h2b
            refine r_aload_n hX dX6_findRow_82 0 rfl rfl ?_
            refine r_getR hX dX6_findRow_83 f_RX6_25 zr_39_6 ?_
            refine r_iload hX dX6_findRow_86 6 rfl ?_
            refine r_aload_n hX dX6_findRow_88 0 rfl rfl ?_
            refine r_getR hX dX6_findRow_89 f_RX6_25 zr_39_6 ?_
            refine r_iload hX dX6_findRow_92 6 rfl ?_
            refine r_iconst (v := 1) hX dX6_findRow_94 (by decide) ?_
            refine r_isub hX dX6_findRow_95 ?_
            obtain ⟨x29, e30, h2b⟩ := zbind_elim h2b
            refine r_iald hX dX6_findRow_96 rfl e30 ?_
            obtain ⟨u31, e32, h2b⟩ := zbind_elim h2b
            refine r_iast hX dX6_findRow_97 rfl e32 ?_
            refine r_iinc (v := (x20 + (-1))) (L' := [(6, .int (x20 + (-1))), (0, .ref (zad X.1 39)), (1, .int a1), (2, .int a2), (3, .int x3), (4, .int x8), (5, .int (x16 + x18))]) hX dX6_findRow_98 (by decide) 6 rfl rfl rfl ?_
            refine r_goto (tgt := 63) hX dX6_findRow_101 (by decide) ?_
            refine r_sub [1, 2, 3, 4, 5, 6, 0] (L' := [(0, .ref (zad X.1 39)), (1, .int a1), (2, .int a2), (3, .int x3), (4, .int x8), (5, .int (x16 + x18)), (6, .int (x20 + (-1)))]) rfl ?_
            exact hin2 _ (Option.some.inj h2b).symm
theorem dX6_rowSum_0 : decode cX6_rowSum 0 = .ok (.iconst 0, 1) := by decide +kernel
theorem dX6_rowSum_1 : decode cX6_rowSum 1 = .ok (.istore_n 1, 1) := by decide +kernel
theorem dX6_rowSum_2 : decode cX6_rowSum 2 = .ok (.iconst 0, 1) := by decide +kernel
theorem dX6_rowSum_3 : decode cX6_rowSum 3 = .ok (.istore_n 2, 1) := by decide +kernel
theorem dX6_rowSum_4 : decode cX6_rowSum 4 = .ok (.iload_n 2, 1) := by decide +kernel
theorem dX6_rowSum_5 : decode cX6_rowSum 5 = .ok (.aload_n 0, 1) := by decide +kernel
theorem dX6_rowSum_6 : decode cX6_rowSum 6 = .ok (.getfield 118, 3) := by decide +kernel
theorem dX6_rowSum_9 : decode cX6_rowSum 9 = .ok (.if_icmp .ge 18, 3) := by decide +kernel
theorem dX6_rowSum_12 : decode cX6_rowSum 12 = .ok (.iload_n 1, 1) := by decide +kernel
theorem dX6_rowSum_13 : decode cX6_rowSum 13 = .ok (.aload_n 0, 1) := by decide +kernel
theorem dX6_rowSum_14 : decode cX6_rowSum 14 = .ok (.getfield 25, 3) := by decide +kernel
theorem dX6_rowSum_17 : decode cX6_rowSum 17 = .ok (.iload_n 2, 1) := by decide +kernel
theorem dX6_rowSum_18 : decode cX6_rowSum 18 = .ok (.iaload, 1) := by decide +kernel
theorem dX6_rowSum_19 : decode cX6_rowSum 19 = .ok (.iadd, 1) := by decide +kernel
theorem dX6_rowSum_20 : decode cX6_rowSum 20 = .ok (.istore_n 1, 1) := by decide +kernel
theorem dX6_rowSum_21 : decode cX6_rowSum 21 = .ok (.iinc 2 1, 3) := by decide +kernel
theorem dX6_rowSum_24 : decode cX6_rowSum 24 = .ok (.goto (-20), 3) := by decide +kernel
theorem dX6_rowSum_27 : decode cX6_rowSum 27 = .ok (.iload_n 1, 1) := by decide +kernel
theorem dX6_rowSum_28 : decode cX6_rowSum 28 = .ok (.ireturn, 1) := by decide +kernel
def m_X6_rowSum_b0 (u : zM) (x1 : Int32) (x2 : Int32) : Option ((Int32 × Int32) ⊕ (Int32)) :=
  (if (u 39 7) ≤ x2 then
some (.inr x1)
else
zbind (zld u 45 36 x2) (fun x6 => some (.inl ((x1 + x6), (x2 + 1)))))
def m_X6_rowSum  (u : zM) : Option (Int32) :=
  zbind (zit zF (fun s : Int32 × Int32 => m_X6_rowSum_b0 u s.1 s.2) (0, 0)) (fun x3 =>
some x3)
set_option maxHeartbeats 4000000 in
set_option maxRecDepth 100000 in
theorem c_X6_rowSum    (u : zM) (r : Int32) (h : m_X6_rowSum u = some r) : zCt 1 yX6_rowSum cX6_rowSum 3 (some .int) (fun E => [.ref (zad E 39)]) u (fun _ => some (.int r)) u := by
  refine zCt.of (by decide +kernel) (fun E => Nat.le_of_ble_eq_true rfl) (fun X hX hR => ?_)
  have hX : zGood X RX6 cX6_rowSum 3 1 := hX
  show zG X u 0 [(0, .ref (zad X.1 39))] []
  unfold m_X6_rowSum at h
  refine r_iconst (v := 0) hX dX6_rowSum_0 (by decide) ?_
  refine r_istore_n (y := 0) (L' := [(1, .int 0), (0, .ref (zad X.1 39))]) hX dX6_rowSum_1 rfl (by decide) rfl rfl ?_
  refine r_iconst (v := 0) hX dX6_rowSum_2 (by decide) ?_
  refine r_istore_n (y := 0) (L' := [(2, .int 0), (1, .int 0), (0, .ref (zad X.1 39))]) hX dX6_rowSum_3 rfl (by decide) rfl rfl ?_
  refine r_sub [2, 1, 0] (L' := [(0, .ref (zad X.1 39)), (1, .int 0), (2, .int 0)]) rfl ?_
  obtain ⟨x3, h4, h⟩ := zbind_elim h
  have Jh4 : zG X u 27 [(1, .int x3)] [] := by
      refine r_iload_n hX dX6_rowSum_27 0 rfl rfl ?_
      obtain rfl := Option.some.inj h
      exact r_iret hX hR dX6_rowSum_28
  clear h
  refine zit_walk (P := fun s0 : Int32 × Int32 => zG X u 4 [(0, .ref (zad X.1 39)), (1, .int (s0.1)), (2, .int (s0.2))] []) ?_ zF _ h4
  clear h4
  intro s0 y0 h0b hin0 hout0
  obtain ⟨x1, x2⟩ := s0
  have h0b : m_X6_rowSum_b0 u x1 x2 = some y0 := h0b
  unfold m_X6_rowSum_b0 at h0b
  show zG X u 4 [(0, .ref (zad X.1 39)), (1, .int x1), (2, .int x2)] []
  refine r_iload_n hX dX6_rowSum_4 2 rfl rfl ?_
  refine r_aload_n hX dX6_rowSum_5 0 rfl rfl ?_
  refine r_getI hX dX6_rowSum_6 f_RX6_118 zi_39_7 ?_
  refine r_icmp_ge (tgt := 27) hX dX6_rowSum_9 (by decide) (fun c5 => ?_) (fun c5 => ?_)
  · have h0b := (if_pos c5).symm.trans h0b
    refine r_sub [1] (L' := [(1, .int x1)]) rfl ?_
    have h0b := hout0 _ (Option.some.inj h0b).symm
    obtain rfl := h0b
    exact Jh4
  · have h0b := (if_neg c5).symm.trans h0b
    refine r_iload_n hX dX6_rowSum_12 1 rfl rfl ?_
    refine r_aload_n hX dX6_rowSum_13 0 rfl rfl ?_
    refine r_getR hX dX6_rowSum_14 f_RX6_25 zr_39_6 ?_
    refine r_iload_n hX dX6_rowSum_17 2 rfl rfl ?_
    obtain ⟨x6, e7, h0b⟩ := zbind_elim h0b
    refine r_iald hX dX6_rowSum_18 rfl e7 ?_
    refine r_iadd hX dX6_rowSum_19 ?_
    refine r_istore_n (y := (x1 + x6)) (L' := [(1, .int (x1 + x6)), (0, .ref (zad X.1 39)), (2, .int x2)]) hX dX6_rowSum_20 rfl (by decide) rfl rfl ?_
    refine r_iinc (v := (x2 + 1)) (L' := [(2, .int (x2 + 1)), (1, .int (x1 + x6)), (0, .ref (zad X.1 39))]) hX dX6_rowSum_21 (by decide) 2 rfl rfl rfl ?_
    refine r_goto (tgt := 4) hX dX6_rowSum_24 (by decide) ?_
    refine r_sub [2, 1, 0] (L' := [(0, .ref (zad X.1 39)), (1, .int (x1 + x6)), (2, .int (x2 + 1))]) rfl ?_
    exact hin0 _ (Option.some.inj h0b).symm
theorem dX6_cutFor_0 : decode cX6_cutFor 0 = .ok (.aload_n 0, 1) := by decide +kernel
theorem dX6_cutFor_1 : decode cX6_cutFor 1 = .ok (.iload_n 1, 1) := by decide +kernel
theorem dX6_cutFor_2 : decode cX6_cutFor 2 = .ok (.iload_n 2, 1) := by decide +kernel
theorem dX6_cutFor_3 : decode cX6_cutFor 3 = .ok (.invokevirtual 125, 3) := by decide +kernel
theorem dX6_cutFor_6 : decode cX6_cutFor 6 = .ok (.aload_n 0, 1) := by decide +kernel
theorem dX6_cutFor_7 : decode cX6_cutFor 7 = .ok (.getfield 9, 3) := by decide +kernel
theorem dX6_cutFor_10 : decode cX6_cutFor 10 = .ok (.iconst 1, 1) := by decide +kernel
theorem dX6_cutFor_11 : decode cX6_cutFor 11 = .ok (.iaload, 1) := by decide +kernel
theorem dX6_cutFor_12 : decode cX6_cutFor 12 = .ok (.ifCond .ne 15, 3) := by decide +kernel
theorem dX6_cutFor_15 : decode cX6_cutFor 15 = .ok (.aload_n 0, 1) := by decide +kernel
theorem dX6_cutFor_16 : decode cX6_cutFor 16 = .ok (.invokevirtual 129, 3) := by decide +kernel
theorem dX6_cutFor_19 : decode cX6_cutFor 19 = .ok (.aload_n 0, 1) := by decide +kernel
theorem dX6_cutFor_20 : decode cX6_cutFor 20 = .ok (.getfield 118, 3) := by decide +kernel
theorem dX6_cutFor_23 : decode cX6_cutFor 23 = .ok (.idiv, 1) := by decide +kernel
theorem dX6_cutFor_24 : decode cX6_cutFor 24 = .ok (.goto 40, 3) := by decide +kernel
theorem dX6_cutFor_27 : decode cX6_cutFor 27 = .ok (.aload_n 0, 1) := by decide +kernel
theorem dX6_cutFor_28 : decode cX6_cutFor 28 = .ok (.getfield 9, 3) := by decide +kernel
theorem dX6_cutFor_31 : decode cX6_cutFor 31 = .ok (.iconst 1, 1) := by decide +kernel
theorem dX6_cutFor_32 : decode cX6_cutFor 32 = .ok (.iaload, 1) := by decide +kernel
theorem dX6_cutFor_33 : decode cX6_cutFor 33 = .ok (.iconst 1, 1) := by decide +kernel
theorem dX6_cutFor_34 : decode cX6_cutFor 34 = .ok (.if_icmp .ne 19, 3) := by decide +kernel
theorem dX6_cutFor_37 : decode cX6_cutFor 37 = .ok (.aload_n 0, 1) := by decide +kernel
theorem dX6_cutFor_38 : decode cX6_cutFor 38 = .ok (.getfield 25, 3) := by decide +kernel
theorem dX6_cutFor_41 : decode cX6_cutFor 41 = .ok (.aload_n 0, 1) := by decide +kernel
theorem dX6_cutFor_42 : decode cX6_cutFor 42 = .ok (.getfield 118, 3) := by decide +kernel
theorem dX6_cutFor_45 : decode cX6_cutFor 45 = .ok (.iconst 1, 1) := by decide +kernel
theorem dX6_cutFor_46 : decode cX6_cutFor 46 = .ok (.isub, 1) := by decide +kernel
theorem dX6_cutFor_47 : decode cX6_cutFor 47 = .ok (.iconst 2, 1) := by decide +kernel
theorem dX6_cutFor_48 : decode cX6_cutFor 48 = .ok (.idiv, 1) := by decide +kernel
theorem dX6_cutFor_49 : decode cX6_cutFor 49 = .ok (.iaload, 1) := by decide +kernel
theorem dX6_cutFor_50 : decode cX6_cutFor 50 = .ok (.goto 14, 3) := by decide +kernel
theorem dX6_cutFor_53 : decode cX6_cutFor 53 = .ok (.aload_n 0, 1) := by decide +kernel
theorem dX6_cutFor_54 : decode cX6_cutFor 54 = .ok (.getfield 25, 3) := by decide +kernel
theorem dX6_cutFor_57 : decode cX6_cutFor 57 = .ok (.aload_n 0, 1) := by decide +kernel
theorem dX6_cutFor_58 : decode cX6_cutFor 58 = .ok (.getfield 118, 3) := by decide +kernel
theorem dX6_cutFor_61 : decode cX6_cutFor 61 = .ok (.iconst 1, 1) := by decide +kernel
theorem dX6_cutFor_62 : decode cX6_cutFor 62 = .ok (.isub, 1) := by decide +kernel
theorem dX6_cutFor_63 : decode cX6_cutFor 63 = .ok (.iaload, 1) := by decide +kernel
theorem dX6_cutFor_64 : decode cX6_cutFor 64 = .ok (.ireturn, 1) := by decide +kernel
def m_X6_cutFor (a1 : Int32) (a2 : Int32) (u : zM) : Option (Int32 × zM) :=
  zbind (m_X6_findRow a1 a2 u) (fun u1 => (if (u1 40 1) = 0 then
zbind (m_X6_rowSum u1) (fun x9 => if (u1 39 7) = 0 then none else (some ((x9 / (u1 39 7)), u1)))
else
(if (u1 40 1) = 1 then
zbind (zld u1 45 36 (((u1 39 7) - 1) / 2)) (fun x7 => some (x7, u1))
else
zbind (zld u1 45 36 ((u1 39 7) - 1)) (fun x5 => some (x5, u1)))))
set_option maxHeartbeats 4000000 in
set_option maxRecDepth 100000 in
theorem c_X6_cutFor (a1 : Int32) (a2 : Int32)   (u : zM) (r : Int32) (u' : zM) (h : m_X6_cutFor a1 a2 u = some (r, u')) : zCt 4 yX6_cutFor cX6_cutFor 3 (some .int) (fun E => [.ref (zad E 39), .int a1, .int a2]) u (fun _ => some (.int r)) u' := by
  refine zCt.of (by decide +kernel) (fun E => Nat.le_of_ble_eq_true rfl) (fun X hX hR => ?_)
  have hX : zGood X RX6 cX6_cutFor 3 4 := hX
  show zG X u 0 [(0, .ref (zad X.1 39)), (1, .int a1), (2, .int a2)] []
  unfold m_X6_cutFor at h
  refine r_aload_n hX dX6_cutFor_0 0 rfl rfl ?_
  refine r_iload_n hX dX6_cutFor_1 1 rfl rfl ?_
  refine r_iload_n hX dX6_cutFor_2 2 rfl rfl ?_
  obtain ⟨u1, e2, h⟩ := zbind_elim h
  refine r_callV (As := [.int a1, .int a2]) (rest := []) (st1 := []) hX dX6_cutFor_3 lv_RX6_125 (c_X6_findRow a1 a2  u _ e2) (by decide) rfl rfl (zRecv.of (q := 39) (ci := 6) rfl rfl) rfl (Nat.le_of_ble_eq_true rfl) rfl ?_
  refine r_aload_n hX dX6_cutFor_6 0 rfl rfl ?_
  refine r_getR hX dX6_cutFor_7 f_RX6_9 zr_39_0 ?_
  refine r_iconst (v := 1) hX dX6_cutFor_10 (by decide) ?_
  refine r_ialdC (j := 1) hX dX6_cutFor_11 rfl (by decide +kernel) ?_
  refine r_if_ne (tgt := 27) hX dX6_cutFor_12 (by decide) (fun c3 => ?_) (fun c3 => ?_)
  · have h := (if_neg c3).symm.trans h
    refine r_aload_n hX dX6_cutFor_27 0 rfl rfl ?_
    refine r_getR hX dX6_cutFor_28 f_RX6_9 zr_39_0 ?_
    refine r_iconst (v := 1) hX dX6_cutFor_31 (by decide) ?_
    refine r_ialdC (j := 1) hX dX6_cutFor_32 rfl (by decide +kernel) ?_
    refine r_iconst (v := 1) hX dX6_cutFor_33 (by decide) ?_
    refine r_icmp_ne (tgt := 53) hX dX6_cutFor_34 (by decide) (fun c4 => ?_) (fun c4 => ?_)
    · have h := (if_neg c4).symm.trans h
      refine r_aload_n hX dX6_cutFor_53 0 rfl rfl ?_
      refine r_getR hX dX6_cutFor_54 f_RX6_25 zr_39_6 ?_
      refine r_aload_n hX dX6_cutFor_57 0 rfl rfl ?_
      refine r_getI hX dX6_cutFor_58 f_RX6_118 zi_39_7 ?_
      refine r_iconst (v := 1) hX dX6_cutFor_61 (by decide) ?_
      refine r_isub hX dX6_cutFor_62 ?_
      obtain ⟨x5, e6, h⟩ := zbind_elim h
      refine r_iald hX dX6_cutFor_63 rfl e6 ?_
      obtain ⟨rfl, rfl⟩ := zinj2 (Option.some.inj h)
      exact r_iret hX hR dX6_cutFor_64
    · have h := (if_pos c4).symm.trans h
      refine r_aload_n hX dX6_cutFor_37 0 rfl rfl ?_
      refine r_getR hX dX6_cutFor_38 f_RX6_25 zr_39_6 ?_
      refine r_aload_n hX dX6_cutFor_41 0 rfl rfl ?_
      refine r_getI hX dX6_cutFor_42 f_RX6_118 zi_39_7 ?_
      refine r_iconst (v := 1) hX dX6_cutFor_45 (by decide) ?_
      refine r_isub hX dX6_cutFor_46 ?_
      refine r_iconst (v := 2) hX dX6_cutFor_47 (by decide) ?_
      refine r_idiv hX dX6_cutFor_48 (by decide) ?_
      obtain ⟨x7, e8, h⟩ := zbind_elim h
      refine r_iald hX dX6_cutFor_49 rfl e8 ?_
      refine r_goto (tgt := 64) hX dX6_cutFor_50 (by decide) ?_
      obtain ⟨rfl, rfl⟩ := zinj2 (Option.some.inj h)
      exact r_iret hX hR dX6_cutFor_64
  · have h := (if_pos c3).symm.trans h
    refine r_aload_n hX dX6_cutFor_15 0 rfl rfl ?_
    obtain ⟨x9, e10, h⟩ := zbind_elim h
    refine r_callV (As := []) (rest := []) (st1 := [.int x9]) hX dX6_cutFor_16 lv_RX6_129 (c_X6_rowSum   u1 _ e10) (by decide) rfl rfl (zRecv.of (q := 39) (ci := 6) rfl rfl) rfl (Nat.le_of_ble_eq_true rfl) rfl ?_
    refine r_aload_n hX dX6_cutFor_19 0 rfl rfl ?_
    refine r_getI hX dX6_cutFor_20 f_RX6_118 zi_39_7 ?_
    by_cases c11 : (u1 39 7) = 0
    · rw [if_pos c11] at h; cases h
    have h := (if_neg c11).symm.trans h
    refine r_idiv hX dX6_cutFor_23 c11 ?_
    refine r_goto (tgt := 64) hX dX6_cutFor_24 (by decide) ?_
    obtain ⟨rfl, rfl⟩ := zinj2 (Option.some.inj h)
    exact r_iret hX hR dX6_cutFor_64
theorem dX6_coat_0 : decode cX6_coat 0 = .ok (.iload_n 1, 1) := by decide +kernel
theorem dX6_coat_1 : decode cX6_coat 1 = .ok (.invokestatic 136, 3) := by decide +kernel
theorem dX6_coat_4 : decode cX6_coat 4 = .ok (.ifCond .ne 10, 3) := by decide +kernel
theorem dX6_coat_7 : decode cX6_coat 7 = .ok (.aload_n 0, 1) := by decide +kernel
theorem dX6_coat_8 : decode cX6_coat 8 = .ok (.ldc 78, 2) := by decide +kernel
theorem dX6_coat_10 : decode cX6_coat 10 = .ok (.invokevirtual 83, 3) := by decide +kernel
theorem dX6_coat_13 : decode cX6_coat 13 = .ok (.ireturn, 1) := by decide +kernel
theorem dX6_coat_14 : decode cX6_coat 14 = .ok (.aload_n 0, 1) := by decide +kernel
theorem dX6_coat_15 : decode cX6_coat 15 = .ok (.invokevirtual 139, 3) := by decide +kernel
theorem dX6_coat_18 : decode cX6_coat 18 = .ok (.istore_n 2, 1) := by decide +kernel
theorem dX6_coat_19 : decode cX6_coat 19 = .ok (.iload_n 2, 1) := by decide +kernel
theorem dX6_coat_20 : decode cX6_coat 20 = .ok (.ifCond .ne 12, 3) := by decide +kernel
theorem dX6_coat_23 : decode cX6_coat 23 = .ok (.aload_n 0, 1) := by decide +kernel
theorem dX6_coat_24 : decode cX6_coat 24 = .ok (.ldc 142, 2) := by decide +kernel
theorem dX6_coat_26 : decode cX6_coat 26 = .ok (.invokevirtual 83, 3) := by decide +kernel
theorem dX6_coat_29 : decode cX6_coat 29 = .ok (.goto 9, 3) := by decide +kernel
theorem dX6_coat_32 : decode cX6_coat 32 = .ok (.aload_n 0, 1) := by decide +kernel
theorem dX6_coat_33 : decode cX6_coat 33 = .ok (.iload_n 2, 1) := by decide +kernel
theorem dX6_coat_34 : decode cX6_coat 34 = .ok (.iload_n 1, 1) := by decide +kernel
theorem dX6_coat_35 : decode cX6_coat 35 = .ok (.invokevirtual 133, 3) := by decide +kernel
theorem dX6_coat_38 : decode cX6_coat 38 = .ok (.ireturn, 1) := by decide +kernel
def m_X6_coat (a1 : Int32) (u : zM) : Option (Int32 × zM) :=
  (if (m_X6_isMeasure a1) = 0 then
zbind2 (m_X6_finding (-1000001) u) (fun x11 u12 => some (x11, u12))
else
zbind (m_X6_hereSet u) (fun x2 => (if x2 = 0 then
zbind2 (m_X6_finding (-1000004) u) (fun x8 u9 => some (x8, u9))
else
zbind2 (m_X6_cutFor x2 a1 u) (fun x5 u6 => some (x5, u6)))))
set_option maxHeartbeats 4000000 in
set_option maxRecDepth 100000 in
theorem c_X6_coat (a1 : Int32)   (u : zM) (r : Int32) (u' : zM) (h : m_X6_coat a1 u = some (r, u')) : zCt 5 yX6_coat cX6_coat 3 (some .int) (fun E => [.ref (zad E 39), .int a1]) u (fun _ => some (.int r)) u' := by
  refine zCt.of (by decide +kernel) (fun E => Nat.le_of_ble_eq_true rfl) (fun X hX hR => ?_)
  have hX : zGood X RX6 cX6_coat 3 5 := hX
  show zG X u 0 [(0, .ref (zad X.1 39)), (1, .int a1)] []
  unfold m_X6_coat at h
  refine r_iload_n hX dX6_coat_0 1 rfl rfl ?_
  refine r_callS (As := [.int a1]) (rest := []) (st1 := [.int (m_X6_isMeasure a1)]) hX dX6_coat_1 ls_RX6_136 (c_X6_isMeasure a1  u _ rfl) (by decide) rfl rfl rfl (Nat.le_of_ble_eq_true rfl) rfl ?_
  refine r_if_ne (tgt := 14) hX dX6_coat_4 (by decide) (fun c1 => ?_) (fun c1 => ?_)
  · have h := (if_neg c1).symm.trans h
    refine r_aload_n hX dX6_coat_14 0 rfl rfl ?_
    obtain ⟨x2, e3, h⟩ := zbind_elim h
    refine r_callV (As := []) (rest := []) (st1 := [.int x2]) hX dX6_coat_15 lv_RX6_139 (c_X6_hereSet   u _ e3) (by decide) rfl rfl (zRecv.of (q := 39) (ci := 6) rfl rfl) rfl (Nat.le_of_ble_eq_true rfl) rfl ?_
    refine r_istore_n (y := x2) (L' := [(2, .int x2), (0, .ref (zad X.1 39)), (1, .int a1)]) hX dX6_coat_18 rfl (by decide) rfl rfl ?_
    refine r_iload_n hX dX6_coat_19 0 rfl rfl ?_
    refine r_if_ne (tgt := 32) hX dX6_coat_20 (by decide) (fun c4 => ?_) (fun c4 => ?_)
    · have h := (if_neg c4).symm.trans h
      refine r_aload_n hX dX6_coat_32 1 rfl rfl ?_
      refine r_iload_n hX dX6_coat_33 0 rfl rfl ?_
      refine r_iload_n hX dX6_coat_34 2 rfl rfl ?_
      obtain ⟨x5, u6, e7, h⟩ := zbind2_elim h
      refine r_callV (As := [.int x2, .int a1]) (rest := []) (st1 := [.int x5]) hX dX6_coat_35 lv_RX6_133 (c_X6_cutFor x2 a1  u _ _ e7) (by decide) rfl rfl (zRecv.of (q := 39) (ci := 6) rfl rfl) rfl (Nat.le_of_ble_eq_true rfl) rfl ?_
      obtain ⟨rfl, rfl⟩ := zinj2 (Option.some.inj h)
      exact r_iret hX hR dX6_coat_38
    · have h := (if_pos c4).symm.trans h
      refine r_aload_n hX dX6_coat_23 1 rfl rfl ?_
      refine r_ldc (v := (-1000004)) hX dX6_coat_24 (zT_in 1114 (by decide +kernel) rfl) ?_
      obtain ⟨x8, u9, e10, h⟩ := zbind2_elim h
      refine r_callV (As := [.int (-1000004)]) (rest := []) (st1 := [.int x8]) hX dX6_coat_26 lv_RX6_83 (c_X6_finding (-1000004)  u _ _ e10) (by decide) rfl rfl (zRecv.of (q := 39) (ci := 6) rfl rfl) rfl (Nat.le_of_ble_eq_true rfl) rfl ?_
      refine r_goto (tgt := 38) hX dX6_coat_29 (by decide) ?_
      obtain ⟨rfl, rfl⟩ := zinj2 (Option.some.inj h)
      exact r_iret hX hR dX6_coat_38
  · have h := (if_pos c1).symm.trans h
    refine r_aload_n hX dX6_coat_7 0 rfl rfl ?_
    refine r_ldc (v := (-1000001)) hX dX6_coat_8 (zT_in 1041 (by decide +kernel) rfl) ?_
    obtain ⟨x11, u12, e13, h⟩ := zbind2_elim h
    refine r_callV (As := [.int (-1000001)]) (rest := []) (st1 := [.int x11]) hX dX6_coat_10 lv_RX6_83 (c_X6_finding (-1000001)  u _ _ e13) (by decide) rfl rfl (zRecv.of (q := 39) (ci := 6) rfl rfl) rfl (Nat.le_of_ble_eq_true rfl) rfl ?_
    obtain ⟨rfl, rfl⟩ := zinj2 (Option.some.inj h)
    exact r_iret hX hR dX6_coat_13
