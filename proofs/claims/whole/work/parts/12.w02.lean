/-! MODELS AND CONTRACTS, by program (wip/whole/gen_all.py): X5_famine, X5_isMeasure, X2_arrange, X2_measureAll, X2_timesOf, X2_sumOf, X2_cutMeanOf -/
theorem dX5_famine_0 : decode cX5_famine 0 = .ok (.iload_n 1, 1) := by decide +kernel
theorem dX5_famine_1 : decode cX5_famine 1 = .ok (.iconst 1, 1) := by decide +kernel
theorem dX5_famine_2 : decode cX5_famine 2 = .ok (.bipush 50, 2) := by decide +kernel
theorem dX5_famine_4 : decode cX5_famine 4 = .ok (.invokestatic 80, 3) := by decide +kernel
theorem dX5_famine_7 : decode cX5_famine 7 = .ok (.ifCond .ne 9, 3) := by decide +kernel
theorem dX5_famine_10 : decode cX5_famine 10 = .ok (.aload_n 0, 1) := by decide +kernel
theorem dX5_famine_11 : decode cX5_famine 11 = .ok (.iconst 0, 1) := by decide +kernel
theorem dX5_famine_12 : decode cX5_famine 12 = .ok (.invokevirtual 65, 3) := by decide +kernel
theorem dX5_famine_15 : decode cX5_famine 15 = .ok (.ireturn, 1) := by decide +kernel
theorem dX5_famine_16 : decode cX5_famine 16 = .ok (.iconst 0, 1) := by decide +kernel
theorem dX5_famine_17 : decode cX5_famine 17 = .ok (.istore_n 2, 1) := by decide +kernel
theorem dX5_famine_18 : decode cX5_famine 18 = .ok (.iconst 0, 1) := by decide +kernel
theorem dX5_famine_19 : decode cX5_famine 19 = .ok (.istore_n 3, 1) := by decide +kernel
theorem dX5_famine_20 : decode cX5_famine 20 = .ok (.iload_n 3, 1) := by decide +kernel
theorem dX5_famine_21 : decode cX5_famine 21 = .ok (.aload_n 0, 1) := by decide +kernel
theorem dX5_famine_22 : decode cX5_famine 22 = .ok (.getfield 10, 3) := by decide +kernel
theorem dX5_famine_25 : decode cX5_famine 25 = .ok (.getfield 69, 3) := by decide +kernel
theorem dX5_famine_28 : decode cX5_famine 28 = .ok (.if_icmp .ge 64, 3) := by decide +kernel
theorem dX5_famine_31 : decode cX5_famine 31 = .ok (.aload_n 0, 1) := by decide +kernel
theorem dX5_famine_32 : decode cX5_famine 32 = .ok (.getfield 10, 3) := by decide +kernel
theorem dX5_famine_35 : decode cX5_famine 35 = .ok (.iload_n 3, 1) := by decide +kernel
theorem dX5_famine_36 : decode cX5_famine 36 = .ok (.invokevirtual 108, 3) := by decide +kernel
theorem dX5_famine_39 : decode cX5_famine 39 = .ok (.ifCond .eq 47, 3) := by decide +kernel
theorem dX5_famine_42 : decode cX5_famine 42 = .ok (.bipush 50, 2) := by decide +kernel
theorem dX5_famine_44 : decode cX5_famine 44 = .ok (.aload_n 0, 1) := by decide +kernel
theorem dX5_famine_45 : decode cX5_famine 45 = .ok (.getfield 10, 3) := by decide +kernel
theorem dX5_famine_48 : decode cX5_famine 48 = .ok (.iload_n 3, 1) := by decide +kernel
theorem dX5_famine_49 : decode cX5_famine 49 = .ok (.iconst 1, 1) := by decide +kernel
theorem dX5_famine_50 : decode cX5_famine 50 = .ok (.invokevirtual 111, 3) := by decide +kernel
theorem dX5_famine_53 : decode cX5_famine 53 = .ok (.iload_n 1, 1) := by decide +kernel
theorem dX5_famine_54 : decode cX5_famine 54 = .ok (.isub, 1) := by decide +kernel
theorem dX5_famine_55 : decode cX5_famine 55 = .ok (.invokestatic 114, 3) := by decide +kernel
theorem dX5_famine_58 : decode cX5_famine 58 = .ok (.istore 4, 2) := by decide +kernel
theorem dX5_famine_60 : decode cX5_famine 60 = .ok (.aload_n 0, 1) := by decide +kernel
theorem dX5_famine_61 : decode cX5_famine 61 = .ok (.getfield 10, 3) := by decide +kernel
theorem dX5_famine_64 : decode cX5_famine 64 = .ok (.iload_n 3, 1) := by decide +kernel
theorem dX5_famine_65 : decode cX5_famine 65 = .ok (.iconst 1, 1) := by decide +kernel
theorem dX5_famine_66 : decode cX5_famine 66 = .ok (.iload 4, 2) := by decide +kernel
theorem dX5_famine_68 : decode cX5_famine 68 = .ok (.invokevirtual 119, 3) := by decide +kernel
theorem dX5_famine_71 : decode cX5_famine 71 = .ok (.iload_n 2, 1) := by decide +kernel
theorem dX5_famine_72 : decode cX5_famine 72 = .ok (.iload 4, 2) := by decide +kernel
theorem dX5_famine_74 : decode cX5_famine 74 = .ok (.bipush 50, 2) := by decide +kernel
theorem dX5_famine_76 : decode cX5_famine 76 = .ok (.if_icmp .ne 7, 3) := by decide +kernel
theorem dX5_famine_79 : decode cX5_famine 79 = .ok (.iconst 1, 1) := by decide +kernel
theorem dX5_famine_80 : decode cX5_famine 80 = .ok (.goto 4, 3) := by decide +kernel
theorem dX5_famine_83 : decode cX5_famine 83 = .ok (.iconst 0, 1) := by decide +kernel
theorem dX5_famine_84 : decode cX5_famine 84 = .ok (.iadd, 1) := by decide +kernel
theorem dX5_famine_85 : decode cX5_famine 85 = .ok (.istore_n 2, 1) := by decide +kernel
theorem dX5_famine_86 : decode cX5_famine 86 = .ok (.iinc 3 1, 3) := by decide +kernel
theorem dX5_famine_89 : decode cX5_famine 89 = .ok (.goto (-69), 3) := by decide +kernel
theorem dX5_famine_92 : decode cX5_famine 92 = .ok (.iload_n 2, 1) := by decide +kernel
theorem dX5_famine_93 : decode cX5_famine 93 = .ok (.ireturn, 1) := by decide +kernel
def m_X5_famine_b0 (a1 : Int32) (x2 : Int32) (x3 : Int32) (u4 : zM) : Option ((Int32 × Int32 × zM) ⊕ (Int32 × zM)) :=
  (if (u4 1 6) ≤ x3 then
some (.inr (x2, u4))
else
(if (m_X4_isHere x3 u4) = 0 then
some (.inl (x2, (x3 + 1), u4))
else
zbind (m_X4_inchesOf x3 1 u4) (fun x10 => zbind (m_X4_setInches x3 1 (zmax 50 (x10 - a1)) u4) (fun u12 => (if (zmax 50 (x10 - a1)) = 50 then
some (.inl ((x2 + 1), (x3 + 1), u12))
else
some (.inl ((x2 + 0), (x3 + 1), u12)))))))
def m_X5_famine (a1 : Int32) (u : zM) : Option (Int32 × zM) :=
  (if (m_X5_within a1 1 50) = 0 then
zbind2 (m_X5_finding 0 u) (fun x15 u16 => some (x15, u16))
else
zbind2 (zit zF (fun s : Int32 × Int32 × zM => m_X5_famine_b0 a1 s.1 s.2.1 s.2.2) (0, 0, u)) (fun x5 u6 =>
some (x5, u6)))
set_option maxHeartbeats 4000000 in
set_option maxRecDepth 100000 in
theorem c_X5_famine (a1 : Int32)   (u : zM) (r : Int32) (u' : zM) (h : m_X5_famine a1 u = some (r, u')) : zCt 3 yX5_famine cX5_famine 5 (some .int) (fun E => [.ref (zad E 0), .int a1]) u (fun _ => some (.int r)) u' := by
  refine zCt.of (by decide +kernel) (fun E => Nat.le_of_ble_eq_true rfl) (fun X hX hR => ?_)
  have hX : zGood X RX5 cX5_famine 5 3 := hX
  show zG X u 0 [(0, .ref (zad X.1 0)), (1, .int a1)] []
  unfold m_X5_famine at h
  refine r_iload_n hX dX5_famine_0 1 rfl rfl ?_
  refine r_iconst (v := 1) hX dX5_famine_1 (by decide) ?_
  refine r_bipush (v := 50) hX dX5_famine_2 (by decide) ?_
  refine r_callS (As := [.int a1, .int 1, .int 50]) (rest := []) (st1 := [.int (m_X5_within a1 1 50)]) hX dX5_famine_4 ls_RX5_80 (c_X5_within a1 1 50  u _ rfl) (by decide) rfl rfl rfl (Nat.le_of_ble_eq_true rfl) rfl ?_
  refine r_if_ne (tgt := 16) hX dX5_famine_7 (by decide) (fun c1 => ?_) (fun c1 => ?_)
  · have h := (if_neg c1).symm.trans h
    refine r_iconst (v := 0) hX dX5_famine_16 (by decide) ?_
    refine r_istore_n (y := 0) (L' := [(2, .int 0), (0, .ref (zad X.1 0)), (1, .int a1)]) hX dX5_famine_17 rfl (by decide) rfl rfl ?_
    refine r_iconst (v := 0) hX dX5_famine_18 (by decide) ?_
    refine r_istore_n (y := 0) (L' := [(3, .int 0), (2, .int 0), (0, .ref (zad X.1 0)), (1, .int a1)]) hX dX5_famine_19 rfl (by decide) rfl rfl ?_
    refine r_sub [2, 3, 1, 0] (L' := [(0, .ref (zad X.1 0)), (1, .int a1), (2, .int 0), (3, .int 0)]) rfl ?_
    obtain ⟨x5, u6, h7, h⟩ := zbind2_elim h
    have Jh7 : zG X u6 92 [(2, .int x5)] [] := by
        refine r_iload_n hX dX5_famine_92 0 rfl rfl ?_
        obtain ⟨rfl, rfl⟩ := zinj2 (Option.some.inj h)
        exact r_iret hX hR dX5_famine_93
    clear h
    refine zit_walk (P := fun s0 : Int32 × Int32 × zM => zG X s0.2.2 20 [(0, .ref (zad X.1 0)), (1, .int a1), (2, .int (s0.1)), (3, .int (s0.2.1))] []) ?_ zF _ h7
    clear h7
    intro s0 y0 h0b hin0 hout0
    obtain ⟨x2, x3, u4⟩ := s0
    have h0b : m_X5_famine_b0 a1 x2 x3 u4 = some y0 := h0b
    unfold m_X5_famine_b0 at h0b
    show zG X u4 20 [(0, .ref (zad X.1 0)), (1, .int a1), (2, .int x2), (3, .int x3)] []
    refine r_iload_n hX dX5_famine_20 3 rfl rfl ?_
    refine r_aload_n hX dX5_famine_21 0 rfl rfl ?_
    refine r_getR hX dX5_famine_22 f_RX5_10 zr_0_0 ?_
    refine r_getI hX dX5_famine_25 f_RX5_69 zi_1_6 ?_
    refine r_icmp_ge (tgt := 92) hX dX5_famine_28 (by decide) (fun c8 => ?_) (fun c8 => ?_)
    · have h0b := (if_pos c8).symm.trans h0b
      refine r_sub [2] (L' := [(2, .int x2)]) rfl ?_
      have h0b := hout0 _ (Option.some.inj h0b).symm
      obtain ⟨rfl, rfl⟩ := zinj2 h0b
      exact Jh7
    · have h0b := (if_neg c8).symm.trans h0b
      refine r_aload_n hX dX5_famine_31 0 rfl rfl ?_
      refine r_getR hX dX5_famine_32 f_RX5_10 zr_0_0 ?_
      refine r_iload_n hX dX5_famine_35 3 rfl rfl ?_
      refine r_callV (As := [.int x3]) (rest := []) (st1 := [.int (m_X4_isHere x3 u4)]) hX dX5_famine_36 lv_RX5_108 (c_X4_isHere x3  u4 _ rfl) (by decide) rfl rfl (zRecv.of (q := 1) (ci := 4) rfl rfl) rfl (Nat.le_of_ble_eq_true rfl) rfl ?_
      refine r_if_eq (tgt := 86) hX dX5_famine_39 (by decide) (fun c9 => ?_) (fun c9 => ?_)
      · have h0b := (if_pos c9).symm.trans h0b
        refine r_iinc (v := (x3 + 1)) (L' := [(3, .int (x3 + 1)), (0, .ref (zad X.1 0)), (1, .int a1), (2, .int x2)]) hX dX5_famine_86 (by decide) 3 rfl rfl rfl ?_
        refine r_goto (tgt := 20) hX dX5_famine_89 (by decide) ?_
        refine r_sub [1, 2, 3, 0] (L' := [(0, .ref (zad X.1 0)), (1, .int a1), (2, .int x2), (3, .int (x3 + 1))]) rfl ?_
        exact hin0 _ (Option.some.inj h0b).symm
      · have h0b := (if_neg c9).symm.trans h0b
        refine r_bipush (v := 50) hX dX5_famine_42 (by decide) ?_
        refine r_aload_n hX dX5_famine_44 0 rfl rfl ?_
        refine r_getR hX dX5_famine_45 f_RX5_10 zr_0_0 ?_
        refine r_iload_n hX dX5_famine_48 3 rfl rfl ?_
        refine r_iconst (v := 1) hX dX5_famine_49 (by decide) ?_
        obtain ⟨x10, e11, h0b⟩ := zbind_elim h0b
        refine r_callV (As := [.int x3, .int 1]) (rest := [.int 50]) (st1 := [.int x10, .int 50]) hX dX5_famine_50 lv_RX5_111 (c_X4_inchesOf x3 1  u4 _ e11) (by decide) rfl rfl (zRecv.of (q := 1) (ci := 4) rfl rfl) rfl (Nat.le_of_ble_eq_true rfl) rfl ?_
        refine r_iload_n hX dX5_famine_53 1 rfl rfl ?_
        refine r_isub hX dX5_famine_54 ?_
        refine r_max hX dX5_famine_55 lm_RX5_114 (by decide) (Nat.le_of_ble_eq_true rfl) ?_
        refine r_istore (y := (zmax 50 (x10 - a1))) (L' := [(4, .int (zmax 50 (x10 - a1))), (0, .ref (zad X.1 0)), (1, .int a1), (2, .int x2), (3, .int x3)]) hX dX5_famine_58 (by decide) rfl rfl ?_
        refine r_aload_n hX dX5_famine_60 1 rfl rfl ?_
        refine r_getR hX dX5_famine_61 f_RX5_10 zr_0_0 ?_
        refine r_iload_n hX dX5_famine_64 4 rfl rfl ?_
        refine r_iconst (v := 1) hX dX5_famine_65 (by decide) ?_
        refine r_iload hX dX5_famine_66 0 rfl ?_
        obtain ⟨u12, e13, h0b⟩ := zbind_elim h0b
        refine r_callV (As := [.int x3, .int 1, .int (zmax 50 (x10 - a1))]) (rest := []) (st1 := []) hX dX5_famine_68 lv_RX5_119 (c_X4_setInches x3 1 (zmax 50 (x10 - a1))  u4 _ e13) (by decide) rfl rfl (zRecv.of (q := 1) (ci := 4) rfl rfl) rfl (Nat.le_of_ble_eq_true rfl) rfl ?_
        refine r_iload_n hX dX5_famine_71 3 rfl rfl ?_
        refine r_iload hX dX5_famine_72 0 rfl ?_
        refine r_bipush (v := 50) hX dX5_famine_74 (by decide) ?_
        refine r_icmp_ne (tgt := 83) hX dX5_famine_76 (by decide) (fun c14 => ?_) (fun c14 => ?_)
        · have h0b := (if_neg c14).symm.trans h0b
          refine r_iconst (v := 0) hX dX5_famine_83 (by decide) ?_
          refine r_iadd hX dX5_famine_84 ?_
          refine r_istore_n (y := (x2 + 0)) (L' := [(2, .int (x2 + 0)), (4, .int (zmax 50 (x10 - a1))), (0, .ref (zad X.1 0)), (1, .int a1), (3, .int x3)]) hX dX5_famine_85 rfl (by decide) rfl rfl ?_
          refine r_iinc (v := (x3 + 1)) (L' := [(3, .int (x3 + 1)), (2, .int (x2 + 0)), (4, .int (zmax 50 (x10 - a1))), (0, .ref (zad X.1 0)), (1, .int a1)]) hX dX5_famine_86 (by decide) 4 rfl rfl rfl ?_
          refine r_goto (tgt := 20) hX dX5_famine_89 (by decide) ?_
          refine r_sub [3, 4, 1, 0] (L' := [(0, .ref (zad X.1 0)), (1, .int a1), (2, .int (x2 + 0)), (3, .int (x3 + 1))]) rfl ?_
          exact hin0 _ (Option.some.inj h0b).symm
        · have h0b := (if_pos c14).symm.trans h0b
          refine r_iconst (v := 1) hX dX5_famine_79 (by decide) ?_
          refine r_goto (tgt := 84) hX dX5_famine_80 (by decide) ?_
          refine r_iadd hX dX5_famine_84 ?_
          refine r_istore_n (y := (x2 + 1)) (L' := [(2, .int (x2 + 1)), (4, .int (zmax 50 (x10 - a1))), (0, .ref (zad X.1 0)), (1, .int a1), (3, .int x3)]) hX dX5_famine_85 rfl (by decide) rfl rfl ?_
          refine r_iinc (v := (x3 + 1)) (L' := [(3, .int (x3 + 1)), (2, .int (x2 + 1)), (4, .int (zmax 50 (x10 - a1))), (0, .ref (zad X.1 0)), (1, .int a1)]) hX dX5_famine_86 (by decide) 4 rfl rfl rfl ?_
          refine r_goto (tgt := 20) hX dX5_famine_89 (by decide) ?_
          refine r_sub [3, 4, 1, 0] (L' := [(0, .ref (zad X.1 0)), (1, .int a1), (2, .int (x2 + 1)), (3, .int (x3 + 1))]) rfl ?_
          exact hin0 _ (Option.some.inj h0b).symm
  · have h := (if_pos c1).symm.trans h
    refine r_aload_n hX dX5_famine_10 0 rfl rfl ?_
    refine r_iconst (v := 0) hX dX5_famine_11 (by decide) ?_
    obtain ⟨x15, u16, e17, h⟩ := zbind2_elim h
    refine r_callV (As := [.int 0]) (rest := []) (st1 := [.int x15]) hX dX5_famine_12 lv_RX5_65 (c_X5_finding 0  u _ _ e17) (by decide) rfl rfl (zRecv.of (q := 0) (ci := 5) rfl rfl) rfl (Nat.le_of_ble_eq_true rfl) rfl ?_
    obtain ⟨rfl, rfl⟩ := zinj2 (Option.some.inj h)
    exact r_iret hX hR dX5_famine_15
theorem dX5_isMeasure_0 : decode cX5_isMeasure 0 = .ok (.iload_n 0, 1) := by decide +kernel
theorem dX5_isMeasure_1 : decode cX5_isMeasure 1 = .ok (.iconst 0, 1) := by decide +kernel
theorem dX5_isMeasure_2 : decode cX5_isMeasure 2 = .ok (.iconst 2, 1) := by decide +kernel
theorem dX5_isMeasure_3 : decode cX5_isMeasure 3 = .ok (.invokestatic 80, 3) := by decide +kernel
theorem dX5_isMeasure_6 : decode cX5_isMeasure 6 = .ok (.ireturn, 1) := by decide +kernel
def m_X5_isMeasure (a1 : Int32) : Int32 :=
  (zb (m_X5_within a1 0 2))
set_option maxHeartbeats 4000000 in
set_option maxRecDepth 100000 in
theorem c_X5_isMeasure (a1 : Int32)   (u : zM) (r : Int32) (h : m_X5_isMeasure a1 = r) : zCt 2 yX5_isMeasure cX5_isMeasure 1 (some .boolean) (fun E => [.int a1]) u (fun _ => some (.int r)) u := by
  refine zCt.of (by decide +kernel) (fun E => Nat.le_of_ble_eq_true rfl) (fun X hX hR => ?_)
  have hX : zGood X RX5 cX5_isMeasure 1 2 := hX
  show zG X u 0 [(0, .int a1)] []
  unfold m_X5_isMeasure at h
  refine r_iload_n hX dX5_isMeasure_0 0 rfl rfl ?_
  refine r_iconst (v := 0) hX dX5_isMeasure_1 (by decide) ?_
  refine r_iconst (v := 2) hX dX5_isMeasure_2 (by decide) ?_
  refine r_callS (As := [.int a1, .int 0, .int 2]) (rest := []) (st1 := [.int (m_X5_within a1 0 2)]) hX dX5_isMeasure_3 ls_RX5_80 (c_X5_within a1 0 2  u _ rfl) (by decide) rfl rfl rfl (Nat.le_of_ble_eq_true rfl) rfl ?_
  obtain rfl := h
  exact r_zret hX hR dX5_isMeasure_6
theorem dX2_arrange_0 : decode cX2_arrange 0 = .ok (.iload_n 1, 1) := by decide +kernel
theorem dX2_arrange_1 : decode cX2_arrange 1 = .ok (.bipush 12, 2) := by decide +kernel
theorem dX2_arrange_3 : decode cX2_arrange 3 = .ok (.imul, 1) := by decide +kernel
theorem dX2_arrange_4 : decode cX2_arrange 4 = .ok (.istore_n 2, 1) := by decide +kernel
theorem dX2_arrange_5 : decode cX2_arrange 5 = .ok (.iconst 1, 1) := by decide +kernel
theorem dX2_arrange_6 : decode cX2_arrange 6 = .ok (.istore_n 3, 1) := by decide +kernel
theorem dX2_arrange_7 : decode cX2_arrange 7 = .ok (.iload_n 3, 1) := by decide +kernel
theorem dX2_arrange_8 : decode cX2_arrange 8 = .ok (.aload_n 0, 1) := by decide +kernel
theorem dX2_arrange_9 : decode cX2_arrange 9 = .ok (.getfield 24, 3) := by decide +kernel
theorem dX2_arrange_12 : decode cX2_arrange 12 = .ok (.if_icmp .ge 94, 3) := by decide +kernel
theorem dX2_arrange_15 : decode cX2_arrange 15 = .ok (.aload_n 0, 1) := by decide +kernel
theorem dX2_arrange_16 : decode cX2_arrange 16 = .ok (.getfield 15, 3) := by decide +kernel
theorem dX2_arrange_19 : decode cX2_arrange 19 = .ok (.iload_n 2, 1) := by decide +kernel
theorem dX2_arrange_20 : decode cX2_arrange 20 = .ok (.iload_n 3, 1) := by decide +kernel
theorem dX2_arrange_21 : decode cX2_arrange 21 = .ok (.iadd, 1) := by decide +kernel
theorem dX2_arrange_22 : decode cX2_arrange 22 = .ok (.iaload, 1) := by decide +kernel
theorem dX2_arrange_23 : decode cX2_arrange 23 = .ok (.istore 4, 2) := by decide +kernel
theorem dX2_arrange_25 : decode cX2_arrange 25 = .ok (.iload_n 3, 1) := by decide +kernel
theorem dX2_arrange_26 : decode cX2_arrange 26 = .ok (.istore 5, 2) := by decide +kernel
theorem dX2_arrange_28 : decode cX2_arrange 28 = .ok (.iload 5, 2) := by decide +kernel
theorem dX2_arrange_30 : decode cX2_arrange 30 = .ok (.ifCond .le 59, 3) := by decide +kernel
theorem dX2_arrange_33 : decode cX2_arrange 33 = .ok (.aload_n 0, 1) := by decide +kernel
theorem dX2_arrange_34 : decode cX2_arrange 34 = .ok (.getfield 9, 3) := by decide +kernel
theorem dX2_arrange_37 : decode cX2_arrange 37 = .ok (.iload_n 2, 1) := by decide +kernel
theorem dX2_arrange_38 : decode cX2_arrange 38 = .ok (.aload_n 0, 1) := by decide +kernel
theorem dX2_arrange_39 : decode cX2_arrange 39 = .ok (.getfield 15, 3) := by decide +kernel
theorem dX2_arrange_42 : decode cX2_arrange 42 = .ok (.iload_n 2, 1) := by decide +kernel
theorem dX2_arrange_43 : decode cX2_arrange 43 = .ok (.iload 5, 2) := by decide +kernel
theorem dX2_arrange_45 : decode cX2_arrange 45 = .ok (.iadd, 1) := by decide +kernel
theorem dX2_arrange_46 : decode cX2_arrange 46 = .ok (.iconst 1, 1) := by decide +kernel
theorem dX2_arrange_47 : decode cX2_arrange 47 = .ok (.isub, 1) := by decide +kernel
theorem dX2_arrange_48 : decode cX2_arrange 48 = .ok (.iaload, 1) := by decide +kernel
theorem dX2_arrange_49 : decode cX2_arrange 49 = .ok (.iadd, 1) := by decide +kernel
theorem dX2_arrange_50 : decode cX2_arrange 50 = .ok (.iaload, 1) := by decide +kernel
theorem dX2_arrange_51 : decode cX2_arrange 51 = .ok (.aload_n 0, 1) := by decide +kernel
theorem dX2_arrange_52 : decode cX2_arrange 52 = .ok (.getfield 9, 3) := by decide +kernel
theorem dX2_arrange_55 : decode cX2_arrange 55 = .ok (.iload_n 2, 1) := by decide +kernel
theorem dX2_arrange_56 : decode cX2_arrange 56 = .ok (.iload 4, 2) := by decide +kernel
theorem dX2_arrange_58 : decode cX2_arrange 58 = .ok (.iadd, 1) := by decide +kernel
theorem dX2_arrange_59 : decode cX2_arrange 59 = .ok (.iaload, 1) := by decide +kernel
theorem dX2_arrange_60 : decode cX2_arrange 60 = .ok (.if_icmp .le 29, 3) := by decide +kernel
theorem dX2_arrange_63 : decode cX2_arrange 63 = .ok (.aload_n 0, 1) := by decide +kernel
theorem dX2_arrange_64 : decode cX2_arrange 64 = .ok (.getfield 15, 3) := by decide +kernel
theorem dX2_arrange_67 : decode cX2_arrange 67 = .ok (.iload_n 2, 1) := by decide +kernel
theorem dX2_arrange_68 : decode cX2_arrange 68 = .ok (.iload 5, 2) := by decide +kernel
theorem dX2_arrange_70 : decode cX2_arrange 70 = .ok (.iadd, 1) := by decide +kernel
theorem dX2_arrange_71 : decode cX2_arrange 71 = .ok (.aload_n 0, 1) := by decide +kernel
theorem dX2_arrange_72 : decode cX2_arrange 72 = .ok (.getfield 15, 3) := by decide +kernel
theorem dX2_arrange_75 : decode cX2_arrange 75 = .ok (.iload_n 2, 1) := by decide +kernel
theorem dX2_arrange_76 : decode cX2_arrange 76 = .ok (.iload 5, 2) := by decide +kernel
theorem dX2_arrange_78 : decode cX2_arrange 78 = .ok (.iadd, 1) := by decide +kernel
theorem dX2_arrange_79 : decode cX2_arrange 79 = .ok (.iconst 1, 1) := by decide +kernel
theorem dX2_arrange_80 : decode cX2_arrange 80 = .ok (.isub, 1) := by decide +kernel
theorem dX2_arrange_81 : decode cX2_arrange 81 = .ok (.iaload, 1) := by decide +kernel
theorem dX2_arrange_82 : decode cX2_arrange 82 = .ok (.iastore, 1) := by decide +kernel
theorem dX2_arrange_83 : decode cX2_arrange 83 = .ok (.iinc 5 (-1), 3) := by decide +kernel
theorem dX2_arrange_86 : decode cX2_arrange 86 = .ok (.goto (-58), 3) := by decide +kernel
theorem dX2_arrange_89 : decode cX2_arrange 89 = .ok (.aload_n 0, 1) := by decide +kernel
theorem dX2_arrange_90 : decode cX2_arrange 90 = .ok (.getfield 15, 3) := by decide +kernel
theorem dX2_arrange_93 : decode cX2_arrange 93 = .ok (.iload_n 2, 1) := by decide +kernel
theorem dX2_arrange_94 : decode cX2_arrange 94 = .ok (.iload 5, 2) := by decide +kernel
theorem dX2_arrange_96 : decode cX2_arrange 96 = .ok (.iadd, 1) := by decide +kernel
theorem dX2_arrange_97 : decode cX2_arrange 97 = .ok (.iload 4, 2) := by decide +kernel
theorem dX2_arrange_99 : decode cX2_arrange 99 = .ok (.iastore, 1) := by decide +kernel
theorem dX2_arrange_100 : decode cX2_arrange 100 = .ok (.iinc 3 1, 3) := by decide +kernel
theorem dX2_arrange_103 : decode cX2_arrange 103 = .ok (.goto (-96), 3) := by decide +kernel
theorem dX2_arrange_106 : decode cX2_arrange 106 = .ok (.return_, 1) := by decide +kernel
def m_X2_arrange_b1 (a1 : Int32) (x6 : Int32) (x8 : Int32) (u9 : zM) : Option ((Int32 × zM) ⊕ (Int32 × zM)) :=
  (if x8 ≤ 0 then
some (.inr (x8, u9))
else
zbind (zld u9 17 36 (((a1 * 12) + x8) - 1)) (fun x14 => zbind (zld u9 16 36 ((a1 * 12) + x14)) (fun x16 => zbind (zld u9 16 36 ((a1 * 12) + x6)) (fun x18 => (if x16 ≤ x18 then
some (.inr (x8, u9))
else
zbind (zld u9 17 36 (((a1 * 12) + x8) - 1)) (fun x21 => zbind (zsv u9 17 36 ((a1 * 12) + x8) x21) (fun u23 => some (.inl ((x8 + (-1)), u23)))))))))
def m_X2_arrange_b0 (a1 : Int32) (x1 : Int32) (u2 : zM) : Option ((Int32 × zM) ⊕ (zM)) :=
  (if (u2 15 4) ≤ x1 then
some (.inr u2)
else
zbind (zld u2 17 36 ((a1 * 12) + x1)) (fun x6 => zbind2 (zit zF (fun s : Int32 × zM => m_X2_arrange_b1 a1 x6 s.1 s.2) (x1, u2)) (fun x10 u11 =>
zbind (zsv u11 17 36 ((a1 * 12) + x10) x6) (fun u25 => some (.inl ((x1 + 1), u25))))))
def m_X2_arrange (a1 : Int32) (u : zM) : Option (zM) :=
  zbind (zit zF (fun s : Int32 × zM => m_X2_arrange_b0 a1 s.1 s.2) (1, u)) (fun u3 =>
some u3)
set_option maxHeartbeats 4000000 in
set_option maxRecDepth 100000 in
theorem c_X2_arrange (a1 : Int32)   (u : zM) (u' : zM) (h : m_X2_arrange a1 u = some (u')) : zCt 1 yX2_arrange cX2_arrange 6 none (fun E => [.ref (zad E 15), .int a1]) u (fun _ => none) u' := by
  refine zCt.of (by decide +kernel) (fun E => Nat.le_of_ble_eq_true rfl) (fun X hX hR => ?_)
  have hX : zGood X RX2 cX2_arrange 6 1 := hX
  show zG X u 0 [(0, .ref (zad X.1 15)), (1, .int a1)] []
  unfold m_X2_arrange at h
  refine r_iload_n hX dX2_arrange_0 1 rfl rfl ?_
  refine r_bipush (v := 12) hX dX2_arrange_1 (by decide) ?_
  refine r_imul hX dX2_arrange_3 ?_
  refine r_istore_n (y := (a1 * 12)) (L' := [(2, .int (a1 * 12)), (0, .ref (zad X.1 15)), (1, .int a1)]) hX dX2_arrange_4 rfl (by decide) rfl rfl ?_
  refine r_iconst (v := 1) hX dX2_arrange_5 (by decide) ?_
  refine r_istore_n (y := 1) (L' := [(3, .int 1), (2, .int (a1 * 12)), (0, .ref (zad X.1 15)), (1, .int a1)]) hX dX2_arrange_6 rfl (by decide) rfl rfl ?_
  refine r_sub [2, 1, 0] (L' := [(0, .ref (zad X.1 15)), (2, .int (a1 * 12)), (3, .int 1)]) rfl ?_
  obtain ⟨u3, h4, h⟩ := zbind_elim h
  have Jh4 : zG X u3 106 [] [] := by
      obtain rfl := Option.some.inj h
      exact r_vret hX hR dX2_arrange_106
  clear h
  refine zit_walk (P := fun s0 : Int32 × zM => zG X s0.2 7 [(0, .ref (zad X.1 15)), (2, .int (a1 * 12)), (3, .int (s0.1))] []) ?_ zF _ h4
  clear h4
  intro s0 y0 h0b hin0 hout0
  obtain ⟨x1, u2⟩ := s0
  have h0b : m_X2_arrange_b0 a1 x1 u2 = some y0 := h0b
  unfold m_X2_arrange_b0 at h0b
  show zG X u2 7 [(0, .ref (zad X.1 15)), (2, .int (a1 * 12)), (3, .int x1)] []
  refine r_iload_n hX dX2_arrange_7 2 rfl rfl ?_
  refine r_aload_n hX dX2_arrange_8 0 rfl rfl ?_
  refine r_getI hX dX2_arrange_9 f_RX2_24 zi_15_4 ?_
  refine r_icmp_ge (tgt := 106) hX dX2_arrange_12 (by decide) (fun c5 => ?_) (fun c5 => ?_)
  · have h0b := (if_pos c5).symm.trans h0b
    refine r_sub [] (L' := []) rfl ?_
    have h0b := hout0 _ (Option.some.inj h0b).symm
    obtain rfl := h0b
    exact Jh4
  · have h0b := (if_neg c5).symm.trans h0b
    refine r_aload_n hX dX2_arrange_15 0 rfl rfl ?_
    refine r_getR hX dX2_arrange_16 f_RX2_15 zr_15_1 ?_
    refine r_iload_n hX dX2_arrange_19 1 rfl rfl ?_
    refine r_iload_n hX dX2_arrange_20 2 rfl rfl ?_
    refine r_iadd hX dX2_arrange_21 ?_
    obtain ⟨x6, e7, h0b⟩ := zbind_elim h0b
    refine r_iald hX dX2_arrange_22 rfl e7 ?_
    refine r_istore (y := x6) (L' := [(4, .int x6), (0, .ref (zad X.1 15)), (2, .int (a1 * 12)), (3, .int x1)]) hX dX2_arrange_23 (by decide) rfl rfl ?_
    refine r_iload_n hX dX2_arrange_25 3 rfl rfl ?_
    refine r_istore (y := x1) (L' := [(5, .int x1), (4, .int x6), (0, .ref (zad X.1 15)), (2, .int (a1 * 12)), (3, .int x1)]) hX dX2_arrange_26 (by decide) rfl rfl ?_
    refine r_sub [2, 3, 4, 1, 0] (L' := [(0, .ref (zad X.1 15)), (2, .int (a1 * 12)), (3, .int x1), (4, .int x6), (5, .int x1)]) rfl ?_
    obtain ⟨x10, u11, h12, h0b⟩ := zbind2_elim h0b
    have Jh12 : zG X u11 89 [(0, .ref (zad X.1 15)), (2, .int (a1 * 12)), (3, .int x1), (4, .int x6), (5, .int x10)] [] := by
        refine r_aload_n hX dX2_arrange_89 0 rfl rfl ?_
        refine r_getR hX dX2_arrange_90 f_RX2_15 zr_15_1 ?_
        refine r_iload_n hX dX2_arrange_93 1 rfl rfl ?_
        refine r_iload hX dX2_arrange_94 4 rfl ?_
        refine r_iadd hX dX2_arrange_96 ?_
        refine r_iload hX dX2_arrange_97 3 rfl ?_
        obtain ⟨u25, e26, h0b⟩ := zbind_elim h0b
        refine r_iast hX dX2_arrange_99 rfl e26 ?_
        refine r_iinc (v := (x1 + 1)) (L' := [(3, .int (x1 + 1)), (0, .ref (zad X.1 15)), (2, .int (a1 * 12)), (4, .int x6), (5, .int x10)]) hX dX2_arrange_100 (by decide) 2 rfl rfl rfl ?_
        refine r_goto (tgt := 7) hX dX2_arrange_103 (by decide) ?_
        refine r_sub [1, 2, 0] (L' := [(0, .ref (zad X.1 15)), (2, .int (a1 * 12)), (3, .int (x1 + 1))]) rfl ?_
        exact hin0 _ (Option.some.inj h0b).symm
    clear h0b
    refine zit_walk (P := fun s1 : Int32 × zM => zG X s1.2 28 [(0, .ref (zad X.1 15)), (2, .int (a1 * 12)), (3, .int x1), (4, .int x6), (5, .int (s1.1))] []) ?_ zF _ h12
    clear h12
    intro s1 y1 h1b hin1 hout1
    obtain ⟨x8, u9⟩ := s1
    have h1b : m_X2_arrange_b1 a1 x6 x8 u9 = some y1 := h1b
    unfold m_X2_arrange_b1 at h1b
    show zG X u9 28 [(0, .ref (zad X.1 15)), (2, .int (a1 * 12)), (3, .int x1), (4, .int x6), (5, .int x8)] []
    refine r_iload hX dX2_arrange_28 4 rfl ?_
    refine r_if_le (tgt := 89) hX dX2_arrange_30 (by decide) (fun c13 => ?_) (fun c13 => ?_)
    · have h1b := (if_pos c13).symm.trans h1b
      have h1b := hout1 _ (Option.some.inj h1b).symm
      obtain ⟨rfl, rfl⟩ := zinj2 h1b
      exact Jh12
    · have h1b := (if_neg c13).symm.trans h1b
      refine r_aload_n hX dX2_arrange_33 0 rfl rfl ?_
      refine r_getR hX dX2_arrange_34 f_RX2_9 zr_15_0 ?_
      refine r_iload_n hX dX2_arrange_37 1 rfl rfl ?_
      refine r_aload_n hX dX2_arrange_38 0 rfl rfl ?_
      refine r_getR hX dX2_arrange_39 f_RX2_15 zr_15_1 ?_
      refine r_iload_n hX dX2_arrange_42 1 rfl rfl ?_
      refine r_iload hX dX2_arrange_43 4 rfl ?_
      refine r_iadd hX dX2_arrange_45 ?_
      refine r_iconst (v := 1) hX dX2_arrange_46 (by decide) ?_
      refine r_isub hX dX2_arrange_47 ?_
      obtain ⟨x14, e15, h1b⟩ := zbind_elim h1b
      refine r_iald hX dX2_arrange_48 rfl e15 ?_
      refine r_iadd hX dX2_arrange_49 ?_
      obtain ⟨x16, e17, h1b⟩ := zbind_elim h1b
      refine r_iald hX dX2_arrange_50 rfl e17 ?_
      refine r_aload_n hX dX2_arrange_51 0 rfl rfl ?_
      refine r_getR hX dX2_arrange_52 f_RX2_9 zr_15_0 ?_
      refine r_iload_n hX dX2_arrange_55 1 rfl rfl ?_
      refine r_iload hX dX2_arrange_56 3 rfl ?_
      refine r_iadd hX dX2_arrange_58 ?_
      obtain ⟨x18, e19, h1b⟩ := zbind_elim h1b
      refine r_iald hX dX2_arrange_59 rfl e19 ?_
      refine r_icmp_le (tgt := 89) hX dX2_arrange_60 (by decide) (fun c20 => ?_) (fun c20 => ?_)
      · have h1b := (if_pos c20).symm.trans h1b
        have h1b := hout1 _ (Option.some.inj h1b).symm
        obtain ⟨rfl, rfl⟩ := zinj2 h1b
        exact Jh12
      · have h1b := (if_neg c20).symm.trans h1b
        refine r_aload_n hX dX2_arrange_63 0 rfl rfl ?_
        refine r_getR hX dX2_arrange_64 f_RX2_15 zr_15_1 ?_
        refine r_iload_n hX dX2_arrange_67 1 rfl rfl ?_
        refine r_iload hX dX2_arrange_68 4 rfl ?_
        refine r_iadd hX dX2_arrange_70 ?_
        refine r_aload_n hX dX2_arrange_71 0 rfl rfl ?_
        refine r_getR hX dX2_arrange_72 f_RX2_15 zr_15_1 ?_
        refine r_iload_n hX dX2_arrange_75 1 rfl rfl ?_
        refine r_iload hX dX2_arrange_76 4 rfl ?_
        refine r_iadd hX dX2_arrange_78 ?_
        refine r_iconst (v := 1) hX dX2_arrange_79 (by decide) ?_
        refine r_isub hX dX2_arrange_80 ?_
        obtain ⟨x21, e22, h1b⟩ := zbind_elim h1b
        refine r_iald hX dX2_arrange_81 rfl e22 ?_
        obtain ⟨u23, e24, h1b⟩ := zbind_elim h1b
        refine r_iast hX dX2_arrange_82 rfl e24 ?_
        refine r_iinc (v := (x8 + (-1))) (L' := [(5, .int (x8 + (-1))), (0, .ref (zad X.1 15)), (2, .int (a1 * 12)), (3, .int x1), (4, .int x6)]) hX dX2_arrange_83 (by decide) 4 rfl rfl rfl ?_
        refine r_goto (tgt := 28) hX dX2_arrange_86 (by decide) ?_
        refine r_sub [1, 2, 3, 4, 0] (L' := [(0, .ref (zad X.1 15)), (2, .int (a1 * 12)), (3, .int x1), (4, .int x6), (5, .int (x8 + (-1)))]) rfl ?_
        exact hin1 _ (Option.some.inj h1b).symm
theorem dX2_measureAll_0 : decode cX2_measureAll 0 = .ok (.aload_n 0, 1) := by decide +kernel
theorem dX2_measureAll_1 : decode cX2_measureAll 1 = .ok (.aload_n 1, 1) := by decide +kernel
theorem dX2_measureAll_2 : decode cX2_measureAll 2 = .ok (.getfield 28, 3) := by decide +kernel
theorem dX2_measureAll_5 : decode cX2_measureAll 5 = .ok (.putfield 24, 3) := by decide +kernel
theorem dX2_measureAll_8 : decode cX2_measureAll 8 = .ok (.iconst 0, 1) := by decide +kernel
theorem dX2_measureAll_9 : decode cX2_measureAll 9 = .ok (.istore_n 2, 1) := by decide +kernel
theorem dX2_measureAll_10 : decode cX2_measureAll 10 = .ok (.iload_n 2, 1) := by decide +kernel
theorem dX2_measureAll_11 : decode cX2_measureAll 11 = .ok (.aload_n 0, 1) := by decide +kernel
theorem dX2_measureAll_12 : decode cX2_measureAll 12 = .ok (.getfield 24, 3) := by decide +kernel
theorem dX2_measureAll_15 : decode cX2_measureAll 15 = .ok (.if_icmp .ge 20, 3) := by decide +kernel
theorem dX2_measureAll_18 : decode cX2_measureAll 18 = .ok (.aload_n 0, 1) := by decide +kernel
theorem dX2_measureAll_19 : decode cX2_measureAll 19 = .ok (.getfield 18, 3) := by decide +kernel
theorem dX2_measureAll_22 : decode cX2_measureAll 22 = .ok (.iload_n 2, 1) := by decide +kernel
theorem dX2_measureAll_23 : decode cX2_measureAll 23 = .ok (.aload_n 1, 1) := by decide +kernel
theorem dX2_measureAll_24 : decode cX2_measureAll 24 = .ok (.iload_n 2, 1) := by decide +kernel
theorem dX2_measureAll_25 : decode cX2_measureAll 25 = .ok (.invokevirtual 31, 3) := by decide +kernel
theorem dX2_measureAll_28 : decode cX2_measureAll 28 = .ok (.iastore, 1) := by decide +kernel
theorem dX2_measureAll_29 : decode cX2_measureAll 29 = .ok (.iinc 2 1, 3) := by decide +kernel
theorem dX2_measureAll_32 : decode cX2_measureAll 32 = .ok (.goto (-22), 3) := by decide +kernel
theorem dX2_measureAll_35 : decode cX2_measureAll 35 = .ok (.iconst 0, 1) := by decide +kernel
theorem dX2_measureAll_36 : decode cX2_measureAll 36 = .ok (.istore_n 2, 1) := by decide +kernel
theorem dX2_measureAll_37 : decode cX2_measureAll 37 = .ok (.iload_n 2, 1) := by decide +kernel
theorem dX2_measureAll_38 : decode cX2_measureAll 38 = .ok (.iconst 3, 1) := by decide +kernel
theorem dX2_measureAll_39 : decode cX2_measureAll 39 = .ok (.if_icmp .ge 59, 3) := by decide +kernel
theorem dX2_measureAll_42 : decode cX2_measureAll 42 = .ok (.iconst 0, 1) := by decide +kernel
theorem dX2_measureAll_43 : decode cX2_measureAll 43 = .ok (.istore_n 3, 1) := by decide +kernel
theorem dX2_measureAll_44 : decode cX2_measureAll 44 = .ok (.iload_n 3, 1) := by decide +kernel
theorem dX2_measureAll_45 : decode cX2_measureAll 45 = .ok (.aload_n 0, 1) := by decide +kernel
theorem dX2_measureAll_46 : decode cX2_measureAll 46 = .ok (.getfield 24, 3) := by decide +kernel
theorem dX2_measureAll_49 : decode cX2_measureAll 49 = .ok (.if_icmp .ge 38, 3) := by decide +kernel
theorem dX2_measureAll_52 : decode cX2_measureAll 52 = .ok (.aload_n 0, 1) := by decide +kernel
theorem dX2_measureAll_53 : decode cX2_measureAll 53 = .ok (.getfield 9, 3) := by decide +kernel
theorem dX2_measureAll_56 : decode cX2_measureAll 56 = .ok (.iload_n 2, 1) := by decide +kernel
theorem dX2_measureAll_57 : decode cX2_measureAll 57 = .ok (.bipush 12, 2) := by decide +kernel
theorem dX2_measureAll_59 : decode cX2_measureAll 59 = .ok (.imul, 1) := by decide +kernel
theorem dX2_measureAll_60 : decode cX2_measureAll 60 = .ok (.iload_n 3, 1) := by decide +kernel
theorem dX2_measureAll_61 : decode cX2_measureAll 61 = .ok (.iadd, 1) := by decide +kernel
theorem dX2_measureAll_62 : decode cX2_measureAll 62 = .ok (.aload_n 1, 1) := by decide +kernel
theorem dX2_measureAll_63 : decode cX2_measureAll 63 = .ok (.iload_n 3, 1) := by decide +kernel
theorem dX2_measureAll_64 : decode cX2_measureAll 64 = .ok (.iload_n 2, 1) := by decide +kernel
theorem dX2_measureAll_65 : decode cX2_measureAll 65 = .ok (.invokevirtual 35, 3) := by decide +kernel
theorem dX2_measureAll_68 : decode cX2_measureAll 68 = .ok (.iastore, 1) := by decide +kernel
theorem dX2_measureAll_69 : decode cX2_measureAll 69 = .ok (.aload_n 0, 1) := by decide +kernel
theorem dX2_measureAll_70 : decode cX2_measureAll 70 = .ok (.getfield 15, 3) := by decide +kernel
theorem dX2_measureAll_73 : decode cX2_measureAll 73 = .ok (.iload_n 2, 1) := by decide +kernel
theorem dX2_measureAll_74 : decode cX2_measureAll 74 = .ok (.bipush 12, 2) := by decide +kernel
theorem dX2_measureAll_76 : decode cX2_measureAll 76 = .ok (.imul, 1) := by decide +kernel
theorem dX2_measureAll_77 : decode cX2_measureAll 77 = .ok (.iload_n 3, 1) := by decide +kernel
theorem dX2_measureAll_78 : decode cX2_measureAll 78 = .ok (.iadd, 1) := by decide +kernel
theorem dX2_measureAll_79 : decode cX2_measureAll 79 = .ok (.iload_n 3, 1) := by decide +kernel
theorem dX2_measureAll_80 : decode cX2_measureAll 80 = .ok (.iastore, 1) := by decide +kernel
theorem dX2_measureAll_81 : decode cX2_measureAll 81 = .ok (.iinc 3 1, 3) := by decide +kernel
theorem dX2_measureAll_84 : decode cX2_measureAll 84 = .ok (.goto (-40), 3) := by decide +kernel
theorem dX2_measureAll_87 : decode cX2_measureAll 87 = .ok (.aload_n 0, 1) := by decide +kernel
theorem dX2_measureAll_88 : decode cX2_measureAll 88 = .ok (.iload_n 2, 1) := by decide +kernel
theorem dX2_measureAll_89 : decode cX2_measureAll 89 = .ok (.invokevirtual 39, 3) := by decide +kernel
theorem dX2_measureAll_92 : decode cX2_measureAll 92 = .ok (.iinc 2 1, 3) := by decide +kernel
theorem dX2_measureAll_95 : decode cX2_measureAll 95 = .ok (.goto (-58), 3) := by decide +kernel
theorem dX2_measureAll_98 : decode cX2_measureAll 98 = .ok (.return_, 1) := by decide +kernel
def m_X2_measureAll_b0  (x3 : Int32) (u4 : zM) : Option ((Int32 × zM) ⊕ (zM)) :=
  (if (u4 15 4) ≤ x3 then
some (.inr u4)
else
zbind (m_X4_timesOf x3 u4) (fun x8 => zbind (zsv u4 18 12 x3 x8) (fun u10 => some (.inl ((x3 + 1), u10)))))
def m_X2_measureAll_b2 (x12 : Int32) (x17 : Int32) (u18 : zM) : Option ((Int32 × zM) ⊕ (zM)) :=
  (if (u18 15 4) ≤ x17 then
some (.inr u18)
else
zbind (m_X4_measuredOf x17 x12 u18) (fun x22 => zbind (zsv u18 16 36 ((x12 * 12) + x17) x22) (fun u24 => zbind (zsv u24 17 36 ((x12 * 12) + x17) x17) (fun u26 => some (.inl ((x17 + 1), u26))))))
def m_X2_measureAll_b1  (x12 : Int32) (u13 : zM) : Option ((Int32 × zM) ⊕ (zM)) :=
  (if 3 ≤ x12 then
some (.inr u13)
else
zbind (zit zF (fun s : Int32 × zM => m_X2_measureAll_b2 x12 s.1 s.2) (0, u13)) (fun u19 =>
zbind (m_X2_arrange x12 u19) (fun u28 => some (.inl ((x12 + 1), u28)))))
def m_X2_measureAll  (u : zM) : Option (zM) :=
  zlet (zst u 15 4 (u 1 6)) (fun u1 => zbind (zit zF (fun s : Int32 × zM => m_X2_measureAll_b0 s.1 s.2) (0, u1)) (fun u5 =>
zbind (zit zF (fun s : Int32 × zM => m_X2_measureAll_b1 s.1 s.2) (0, u5)) (fun u14 =>
some u14)))
set_option maxHeartbeats 4000000 in
set_option maxRecDepth 100000 in
theorem c_X2_measureAll    (u : zM) (u' : zM) (h : m_X2_measureAll u = some (u')) : zCt 5 yX2_measureAll cX2_measureAll 4 none (fun E => [.ref (zad E 15), .ref (zad E 1)]) u (fun _ => none) u' := by
  refine zCt.of (by decide +kernel) (fun E => Nat.le_of_ble_eq_true rfl) (fun X hX hR => ?_)
  have hX : zGood X RX2 cX2_measureAll 4 5 := hX
  show zG X u 0 [(0, .ref (zad X.1 15)), (1, .ref (zad X.1 1))] []
  unfold m_X2_measureAll at h
  refine r_aload_n hX dX2_measureAll_0 0 rfl rfl ?_
  refine r_aload_n hX dX2_measureAll_1 1 rfl rfl ?_
  refine r_getI hX dX2_measureAll_2 f_RX2_28 zi_1_6 ?_
  obtain ⟨u1, e2, h⟩ := zlet_elim h
  refine r_putI hX dX2_measureAll_5 f_RX2_24 p_2_4 zi_15_4 ?_
  rw [e2]
  refine r_iconst (v := 0) hX dX2_measureAll_8 (by decide) ?_
  refine r_istore_n (y := 0) (L' := [(2, .int 0), (0, .ref (zad X.1 15)), (1, .ref (zad X.1 1))]) hX dX2_measureAll_9 rfl (by decide) rfl rfl ?_
  refine r_sub [1, 2, 0] (L' := [(0, .ref (zad X.1 15)), (1, .ref (zad X.1 1)), (2, .int 0)]) rfl ?_
  obtain ⟨u5, h6, h⟩ := zbind_elim h
  have Jh6 : zG X u5 35 [(0, .ref (zad X.1 15)), (1, .ref (zad X.1 1))] [] := by
      refine r_iconst (v := 0) hX dX2_measureAll_35 (by decide) ?_
      refine r_istore_n (y := 0) (L' := [(2, .int 0), (0, .ref (zad X.1 15)), (1, .ref (zad X.1 1))]) hX dX2_measureAll_36 rfl (by decide) rfl rfl ?_
      refine r_sub [1, 2, 0] (L' := [(0, .ref (zad X.1 15)), (1, .ref (zad X.1 1)), (2, .int 0)]) rfl ?_
      obtain ⟨u14, h15, h⟩ := zbind_elim h
      have Jh15 : zG X u14 98 [] [] := by
          obtain rfl := Option.some.inj h
          exact r_vret hX hR dX2_measureAll_98
      clear h
      refine zit_walk (P := fun s1 : Int32 × zM => zG X s1.2 37 [(0, .ref (zad X.1 15)), (1, .ref (zad X.1 1)), (2, .int (s1.1))] []) ?_ zF _ h15
      clear h15
      intro s1 y1 h1b hin1 hout1
      obtain ⟨x12, u13⟩ := s1
      have h1b : m_X2_measureAll_b1 x12 u13 = some y1 := h1b
      unfold m_X2_measureAll_b1 at h1b
      show zG X u13 37 [(0, .ref (zad X.1 15)), (1, .ref (zad X.1 1)), (2, .int x12)] []
      refine r_iload_n hX dX2_measureAll_37 2 rfl rfl ?_
      refine r_iconst (v := 3) hX dX2_measureAll_38 (by decide) ?_
      refine r_icmp_ge (tgt := 98) hX dX2_measureAll_39 (by decide) (fun c16 => ?_) (fun c16 => ?_)
      · have h1b := (if_pos c16).symm.trans h1b
        refine r_sub [] (L' := []) rfl ?_
        have h1b := hout1 _ (Option.some.inj h1b).symm
        obtain rfl := h1b
        exact Jh15
      · have h1b := (if_neg c16).symm.trans h1b
        refine r_iconst (v := 0) hX dX2_measureAll_42 (by decide) ?_
        refine r_istore_n (y := 0) (L' := [(3, .int 0), (0, .ref (zad X.1 15)), (1, .ref (zad X.1 1)), (2, .int x12)]) hX dX2_measureAll_43 rfl (by decide) rfl rfl ?_
        refine r_sub [1, 2, 3, 0] (L' := [(0, .ref (zad X.1 15)), (1, .ref (zad X.1 1)), (2, .int x12), (3, .int 0)]) rfl ?_
        obtain ⟨u19, h20, h1b⟩ := zbind_elim h1b
        have Jh20 : zG X u19 87 [(0, .ref (zad X.1 15)), (1, .ref (zad X.1 1)), (2, .int x12)] [] := by
            refine r_aload_n hX dX2_measureAll_87 0 rfl rfl ?_
            refine r_iload_n hX dX2_measureAll_88 2 rfl rfl ?_
            obtain ⟨u28, e29, h1b⟩ := zbind_elim h1b
            refine r_callV (As := [.int x12]) (rest := []) (st1 := []) hX dX2_measureAll_89 lv_RX2_39 (c_X2_arrange x12  u19 _ e29) (by decide) rfl rfl (zRecv.of (q := 15) (ci := 2) rfl rfl) rfl (Nat.le_of_ble_eq_true rfl) rfl ?_
            refine r_iinc (v := (x12 + 1)) (L' := [(2, .int (x12 + 1)), (0, .ref (zad X.1 15)), (1, .ref (zad X.1 1))]) hX dX2_measureAll_92 (by decide) 2 rfl rfl rfl ?_
            refine r_goto (tgt := 37) hX dX2_measureAll_95 (by decide) ?_
            refine r_sub [1, 2, 0] (L' := [(0, .ref (zad X.1 15)), (1, .ref (zad X.1 1)), (2, .int (x12 + 1))]) rfl ?_
            exact hin1 _ (Option.some.inj h1b).symm
        clear h1b
        refine zit_walk (P := fun s2 : Int32 × zM => zG X s2.2 44 [(0, .ref (zad X.1 15)), (1, .ref (zad X.1 1)), (2, .int x12), (3, .int (s2.1))] []) ?_ zF _ h20
        clear h20
        intro s2 y2 h2b hin2 hout2
        obtain ⟨x17, u18⟩ := s2
        have h2b : m_X2_measureAll_b2 x12 x17 u18 = some y2 := h2b
        unfold m_X2_measureAll_b2 at h2b
        show zG X u18 44 [(0, .ref (zad X.1 15)), (1, .ref (zad X.1 1)), (2, .int x12), (3, .int x17)] []
        refine r_iload_n hX dX2_measureAll_44 3 rfl rfl ?_
        refine r_aload_n hX dX2_measureAll_45 0 rfl rfl ?_
        refine r_getI hX dX2_measureAll_46 f_RX2_24 zi_15_4 ?_
        refine r_icmp_ge (tgt := 87) hX dX2_measureAll_49 (by decide) (fun c21 => ?_) (fun c21 => ?_)
        · have h2b := (if_pos c21).symm.trans h2b
          refine r_sub [0, 1, 2] (L' := [(0, .ref (zad X.1 15)), (1, .ref (zad X.1 1)), (2, .int x12)]) rfl ?_
          have h2b := hout2 _ (Option.some.inj h2b).symm
          obtain rfl := h2b
          exact Jh20
        · have h2b := (if_neg c21).symm.trans h2b
          refine r_aload_n hX dX2_measureAll_52 0 rfl rfl ?_
          refine r_getR hX dX2_measureAll_53 f_RX2_9 zr_15_0 ?_
          refine r_iload_n hX dX2_measureAll_56 2 rfl rfl ?_
          refine r_bipush (v := 12) hX dX2_measureAll_57 (by decide) ?_
          refine r_imul hX dX2_measureAll_59 ?_
          refine r_iload_n hX dX2_measureAll_60 3 rfl rfl ?_
          refine r_iadd hX dX2_measureAll_61 ?_
          refine r_aload_n hX dX2_measureAll_62 1 rfl rfl ?_
          refine r_iload_n hX dX2_measureAll_63 3 rfl rfl ?_
          refine r_iload_n hX dX2_measureAll_64 2 rfl rfl ?_
          obtain ⟨x22, e23, h2b⟩ := zbind_elim h2b
          refine r_callV (As := [.int x17, .int x12]) (rest := [.int ((x12 * 12) + x17), .ref (zad X.1 16)]) (st1 := [.int x22, .int ((x12 * 12) + x17), .ref (zad X.1 16)]) hX dX2_measureAll_65 lv_RX2_35 (c_X4_measuredOf x17 x12  u18 _ e23) (by decide) rfl rfl (zRecv.of (q := 1) (ci := 4) rfl rfl) rfl (Nat.le_of_ble_eq_true rfl) rfl ?_
          obtain ⟨u24, e25, h2b⟩ := zbind_elim h2b
          refine r_iast hX dX2_measureAll_68 rfl e25 ?_
          refine r_aload_n hX dX2_measureAll_69 0 rfl rfl ?_
          refine r_getR hX dX2_measureAll_70 f_RX2_15 zr_15_1 ?_
          refine r_iload_n hX dX2_measureAll_73 2 rfl rfl ?_
          refine r_bipush (v := 12) hX dX2_measureAll_74 (by decide) ?_
          refine r_imul hX dX2_measureAll_76 ?_
          refine r_iload_n hX dX2_measureAll_77 3 rfl rfl ?_
          refine r_iadd hX dX2_measureAll_78 ?_
          refine r_iload_n hX dX2_measureAll_79 3 rfl rfl ?_
          obtain ⟨u26, e27, h2b⟩ := zbind_elim h2b
          refine r_iast hX dX2_measureAll_80 rfl e27 ?_
          refine r_iinc (v := (x17 + 1)) (L' := [(3, .int (x17 + 1)), (0, .ref (zad X.1 15)), (1, .ref (zad X.1 1)), (2, .int x12)]) hX dX2_measureAll_81 (by decide) 3 rfl rfl rfl ?_
          refine r_goto (tgt := 44) hX dX2_measureAll_84 (by decide) ?_
          refine r_sub [1, 2, 3, 0] (L' := [(0, .ref (zad X.1 15)), (1, .ref (zad X.1 1)), (2, .int x12), (3, .int (x17 + 1))]) rfl ?_
          exact hin2 _ (Option.some.inj h2b).symm
  clear h
  refine zit_walk (P := fun s0 : Int32 × zM => zG X s0.2 10 [(0, .ref (zad X.1 15)), (1, .ref (zad X.1 1)), (2, .int (s0.1))] []) ?_ zF _ h6
  clear h6
  intro s0 y0 h0b hin0 hout0
  obtain ⟨x3, u4⟩ := s0
  have h0b : m_X2_measureAll_b0 x3 u4 = some y0 := h0b
  unfold m_X2_measureAll_b0 at h0b
  show zG X u4 10 [(0, .ref (zad X.1 15)), (1, .ref (zad X.1 1)), (2, .int x3)] []
  refine r_iload_n hX dX2_measureAll_10 2 rfl rfl ?_
  refine r_aload_n hX dX2_measureAll_11 0 rfl rfl ?_
  refine r_getI hX dX2_measureAll_12 f_RX2_24 zi_15_4 ?_
  refine r_icmp_ge (tgt := 35) hX dX2_measureAll_15 (by decide) (fun c7 => ?_) (fun c7 => ?_)
  · have h0b := (if_pos c7).symm.trans h0b
    refine r_sub [0, 1] (L' := [(0, .ref (zad X.1 15)), (1, .ref (zad X.1 1))]) rfl ?_
    have h0b := hout0 _ (Option.some.inj h0b).symm
    obtain rfl := h0b
    exact Jh6
  · have h0b := (if_neg c7).symm.trans h0b
    refine r_aload_n hX dX2_measureAll_18 0 rfl rfl ?_
    refine r_getR hX dX2_measureAll_19 f_RX2_18 zr_15_2 ?_
    refine r_iload_n hX dX2_measureAll_22 2 rfl rfl ?_
    refine r_aload_n hX dX2_measureAll_23 1 rfl rfl ?_
    refine r_iload_n hX dX2_measureAll_24 2 rfl rfl ?_
    obtain ⟨x8, e9, h0b⟩ := zbind_elim h0b
    refine r_callV (As := [.int x3]) (rest := [.int x3, .ref (zad X.1 18)]) (st1 := [.int x8, .int x3, .ref (zad X.1 18)]) hX dX2_measureAll_25 lv_RX2_31 (c_X4_timesOf x3  u4 _ e9) (by decide) rfl rfl (zRecv.of (q := 1) (ci := 4) rfl rfl) rfl (Nat.le_of_ble_eq_true rfl) rfl ?_
    obtain ⟨u10, e11, h0b⟩ := zbind_elim h0b
    refine r_iast hX dX2_measureAll_28 rfl e11 ?_
    refine r_iinc (v := (x3 + 1)) (L' := [(2, .int (x3 + 1)), (0, .ref (zad X.1 15)), (1, .ref (zad X.1 1))]) hX dX2_measureAll_29 (by decide) 2 rfl rfl rfl ?_
    refine r_goto (tgt := 10) hX dX2_measureAll_32 (by decide) ?_
    refine r_sub [1, 2, 0] (L' := [(0, .ref (zad X.1 15)), (1, .ref (zad X.1 1)), (2, .int (x3 + 1))]) rfl ?_
    exact hin0 _ (Option.some.inj h0b).symm
theorem dX2_timesOf_0 : decode cX2_timesOf 0 = .ok (.iconst 0, 1) := by decide +kernel
theorem dX2_timesOf_1 : decode cX2_timesOf 1 = .ok (.istore_n 2, 1) := by decide +kernel
theorem dX2_timesOf_2 : decode cX2_timesOf 2 = .ok (.iconst 0, 1) := by decide +kernel
theorem dX2_timesOf_3 : decode cX2_timesOf 3 = .ok (.istore_n 3, 1) := by decide +kernel
theorem dX2_timesOf_4 : decode cX2_timesOf 4 = .ok (.iload_n 3, 1) := by decide +kernel
theorem dX2_timesOf_5 : decode cX2_timesOf 5 = .ok (.aload_n 0, 1) := by decide +kernel
theorem dX2_timesOf_6 : decode cX2_timesOf 6 = .ok (.getfield 24, 3) := by decide +kernel
theorem dX2_timesOf_9 : decode cX2_timesOf 9 = .ok (.if_icmp .ge 26, 3) := by decide +kernel
theorem dX2_timesOf_12 : decode cX2_timesOf 12 = .ok (.iload_n 1, 1) := by decide +kernel
theorem dX2_timesOf_13 : decode cX2_timesOf 13 = .ok (.iload_n 3, 1) := by decide +kernel
theorem dX2_timesOf_14 : decode cX2_timesOf 14 = .ok (.invokestatic 64, 3) := by decide +kernel
theorem dX2_timesOf_17 : decode cX2_timesOf 17 = .ok (.ifCond .eq 12, 3) := by decide +kernel
theorem dX2_timesOf_20 : decode cX2_timesOf 20 = .ok (.iload_n 2, 1) := by decide +kernel
theorem dX2_timesOf_21 : decode cX2_timesOf 21 = .ok (.aload_n 0, 1) := by decide +kernel
theorem dX2_timesOf_22 : decode cX2_timesOf 22 = .ok (.getfield 18, 3) := by decide +kernel
theorem dX2_timesOf_25 : decode cX2_timesOf 25 = .ok (.iload_n 3, 1) := by decide +kernel
theorem dX2_timesOf_26 : decode cX2_timesOf 26 = .ok (.iaload, 1) := by decide +kernel
theorem dX2_timesOf_27 : decode cX2_timesOf 27 = .ok (.iadd, 1) := by decide +kernel
theorem dX2_timesOf_28 : decode cX2_timesOf 28 = .ok (.istore_n 2, 1) := by decide +kernel
theorem dX2_timesOf_29 : decode cX2_timesOf 29 = .ok (.iinc 3 1, 3) := by decide +kernel
theorem dX2_timesOf_32 : decode cX2_timesOf 32 = .ok (.goto (-28), 3) := by decide +kernel
theorem dX2_timesOf_35 : decode cX2_timesOf 35 = .ok (.iload_n 2, 1) := by decide +kernel
theorem dX2_timesOf_36 : decode cX2_timesOf 36 = .ok (.ireturn, 1) := by decide +kernel
def m_X2_timesOf_b0 (u : zM) (a1 : Int32) (x1 : Int32) (x2 : Int32) : Option ((Int32 × Int32) ⊕ (Int32)) :=
  (if (u 15 4) ≤ x2 then
some (.inr x1)
else
(if (m_X5_holds a1 x2) = 0 then
some (.inl (x1, (x2 + 1)))
else
zbind (zld u 18 12 x2) (fun x7 => some (.inl ((x1 + x7), (x2 + 1))))))
def m_X2_timesOf (a1 : Int32) (u : zM) : Option (Int32) :=
  zbind (zit zF (fun s : Int32 × Int32 => m_X2_timesOf_b0 u a1 s.1 s.2) (0, 0)) (fun x3 =>
some x3)
set_option maxHeartbeats 4000000 in
set_option maxRecDepth 100000 in
theorem c_X2_timesOf (a1 : Int32)   (u : zM) (r : Int32) (h : m_X2_timesOf a1 u = some r) : zCt 2 yX2_timesOf cX2_timesOf 4 (some .int) (fun E => [.ref (zad E 15), .int a1]) u (fun _ => some (.int r)) u := by
  refine zCt.of (by decide +kernel) (fun E => Nat.le_of_ble_eq_true rfl) (fun X hX hR => ?_)
  have hX : zGood X RX2 cX2_timesOf 4 2 := hX
  show zG X u 0 [(0, .ref (zad X.1 15)), (1, .int a1)] []
  unfold m_X2_timesOf at h
  refine r_iconst (v := 0) hX dX2_timesOf_0 (by decide) ?_
  refine r_istore_n (y := 0) (L' := [(2, .int 0), (0, .ref (zad X.1 15)), (1, .int a1)]) hX dX2_timesOf_1 rfl (by decide) rfl rfl ?_
  refine r_iconst (v := 0) hX dX2_timesOf_2 (by decide) ?_
  refine r_istore_n (y := 0) (L' := [(3, .int 0), (2, .int 0), (0, .ref (zad X.1 15)), (1, .int a1)]) hX dX2_timesOf_3 rfl (by decide) rfl rfl ?_
  refine r_sub [2, 3, 1, 0] (L' := [(0, .ref (zad X.1 15)), (1, .int a1), (2, .int 0), (3, .int 0)]) rfl ?_
  obtain ⟨x3, h4, h⟩ := zbind_elim h
  have Jh4 : zG X u 35 [(2, .int x3)] [] := by
      refine r_iload_n hX dX2_timesOf_35 0 rfl rfl ?_
      obtain rfl := Option.some.inj h
      exact r_iret hX hR dX2_timesOf_36
  clear h
  refine zit_walk (P := fun s0 : Int32 × Int32 => zG X u 4 [(0, .ref (zad X.1 15)), (1, .int a1), (2, .int (s0.1)), (3, .int (s0.2))] []) ?_ zF _ h4
  clear h4
  intro s0 y0 h0b hin0 hout0
  obtain ⟨x1, x2⟩ := s0
  have h0b : m_X2_timesOf_b0 u a1 x1 x2 = some y0 := h0b
  unfold m_X2_timesOf_b0 at h0b
  show zG X u 4 [(0, .ref (zad X.1 15)), (1, .int a1), (2, .int x1), (3, .int x2)] []
  refine r_iload_n hX dX2_timesOf_4 3 rfl rfl ?_
  refine r_aload_n hX dX2_timesOf_5 0 rfl rfl ?_
  refine r_getI hX dX2_timesOf_6 f_RX2_24 zi_15_4 ?_
  refine r_icmp_ge (tgt := 35) hX dX2_timesOf_9 (by decide) (fun c5 => ?_) (fun c5 => ?_)
  · have h0b := (if_pos c5).symm.trans h0b
    refine r_sub [2] (L' := [(2, .int x1)]) rfl ?_
    have h0b := hout0 _ (Option.some.inj h0b).symm
    obtain rfl := h0b
    exact Jh4
  · have h0b := (if_neg c5).symm.trans h0b
    refine r_iload_n hX dX2_timesOf_12 1 rfl rfl ?_
    refine r_iload_n hX dX2_timesOf_13 3 rfl rfl ?_
    refine r_callS (As := [.int a1, .int x2]) (rest := []) (st1 := [.int (m_X5_holds a1 x2)]) hX dX2_timesOf_14 ls_RX2_64 (c_X5_holds a1 x2  u _ rfl) (by decide) rfl rfl rfl (Nat.le_of_ble_eq_true rfl) rfl ?_
    refine r_if_eq (tgt := 29) hX dX2_timesOf_17 (by decide) (fun c6 => ?_) (fun c6 => ?_)
    · have h0b := (if_pos c6).symm.trans h0b
      refine r_iinc (v := (x2 + 1)) (L' := [(3, .int (x2 + 1)), (0, .ref (zad X.1 15)), (1, .int a1), (2, .int x1)]) hX dX2_timesOf_29 (by decide) 3 rfl rfl rfl ?_
      refine r_goto (tgt := 4) hX dX2_timesOf_32 (by decide) ?_
      refine r_sub [1, 2, 3, 0] (L' := [(0, .ref (zad X.1 15)), (1, .int a1), (2, .int x1), (3, .int (x2 + 1))]) rfl ?_
      exact hin0 _ (Option.some.inj h0b).symm
    · have h0b := (if_neg c6).symm.trans h0b
      refine r_iload_n hX dX2_timesOf_20 2 rfl rfl ?_
      refine r_aload_n hX dX2_timesOf_21 0 rfl rfl ?_
      refine r_getR hX dX2_timesOf_22 f_RX2_18 zr_15_2 ?_
      refine r_iload_n hX dX2_timesOf_25 3 rfl rfl ?_
      obtain ⟨x7, e8, h0b⟩ := zbind_elim h0b
      refine r_iald hX dX2_timesOf_26 rfl e8 ?_
      refine r_iadd hX dX2_timesOf_27 ?_
      refine r_istore_n (y := (x1 + x7)) (L' := [(2, .int (x1 + x7)), (0, .ref (zad X.1 15)), (1, .int a1), (3, .int x2)]) hX dX2_timesOf_28 rfl (by decide) rfl rfl ?_
      refine r_iinc (v := (x2 + 1)) (L' := [(3, .int (x2 + 1)), (2, .int (x1 + x7)), (0, .ref (zad X.1 15)), (1, .int a1)]) hX dX2_timesOf_29 (by decide) 3 rfl rfl rfl ?_
      refine r_goto (tgt := 4) hX dX2_timesOf_32 (by decide) ?_
      refine r_sub [2, 3, 1, 0] (L' := [(0, .ref (zad X.1 15)), (1, .int a1), (2, .int (x1 + x7)), (3, .int (x2 + 1))]) rfl ?_
      exact hin0 _ (Option.some.inj h0b).symm
theorem dX2_sumOf_0 : decode cX2_sumOf 0 = .ok (.iconst 0, 1) := by decide +kernel
theorem dX2_sumOf_1 : decode cX2_sumOf 1 = .ok (.istore_n 3, 1) := by decide +kernel
theorem dX2_sumOf_2 : decode cX2_sumOf 2 = .ok (.iconst 0, 1) := by decide +kernel
theorem dX2_sumOf_3 : decode cX2_sumOf 3 = .ok (.istore 4, 2) := by decide +kernel
theorem dX2_sumOf_5 : decode cX2_sumOf 5 = .ok (.iload 4, 2) := by decide +kernel
theorem dX2_sumOf_7 : decode cX2_sumOf 7 = .ok (.aload_n 0, 1) := by decide +kernel
theorem dX2_sumOf_8 : decode cX2_sumOf 8 = .ok (.getfield 24, 3) := by decide +kernel
theorem dX2_sumOf_11 : decode cX2_sumOf 11 = .ok (.if_icmp .ge 41, 3) := by decide +kernel
theorem dX2_sumOf_14 : decode cX2_sumOf 14 = .ok (.iload_n 2, 1) := by decide +kernel
theorem dX2_sumOf_15 : decode cX2_sumOf 15 = .ok (.iload 4, 2) := by decide +kernel
theorem dX2_sumOf_17 : decode cX2_sumOf 17 = .ok (.invokestatic 64, 3) := by decide +kernel
theorem dX2_sumOf_20 : decode cX2_sumOf 20 = .ok (.ifCond .eq 26, 3) := by decide +kernel
theorem dX2_sumOf_23 : decode cX2_sumOf 23 = .ok (.iload_n 3, 1) := by decide +kernel
theorem dX2_sumOf_24 : decode cX2_sumOf 24 = .ok (.aload_n 0, 1) := by decide +kernel
theorem dX2_sumOf_25 : decode cX2_sumOf 25 = .ok (.getfield 9, 3) := by decide +kernel
theorem dX2_sumOf_28 : decode cX2_sumOf 28 = .ok (.iload_n 1, 1) := by decide +kernel
theorem dX2_sumOf_29 : decode cX2_sumOf 29 = .ok (.bipush 12, 2) := by decide +kernel
theorem dX2_sumOf_31 : decode cX2_sumOf 31 = .ok (.imul, 1) := by decide +kernel
theorem dX2_sumOf_32 : decode cX2_sumOf 32 = .ok (.iload 4, 2) := by decide +kernel
theorem dX2_sumOf_34 : decode cX2_sumOf 34 = .ok (.iadd, 1) := by decide +kernel
theorem dX2_sumOf_35 : decode cX2_sumOf 35 = .ok (.iaload, 1) := by decide +kernel
theorem dX2_sumOf_36 : decode cX2_sumOf 36 = .ok (.aload_n 0, 1) := by decide +kernel
theorem dX2_sumOf_37 : decode cX2_sumOf 37 = .ok (.getfield 18, 3) := by decide +kernel
theorem dX2_sumOf_40 : decode cX2_sumOf 40 = .ok (.iload 4, 2) := by decide +kernel
theorem dX2_sumOf_42 : decode cX2_sumOf 42 = .ok (.iaload, 1) := by decide +kernel
theorem dX2_sumOf_43 : decode cX2_sumOf 43 = .ok (.imul, 1) := by decide +kernel
theorem dX2_sumOf_44 : decode cX2_sumOf 44 = .ok (.iadd, 1) := by decide +kernel
theorem dX2_sumOf_45 : decode cX2_sumOf 45 = .ok (.istore_n 3, 1) := by decide +kernel
theorem dX2_sumOf_46 : decode cX2_sumOf 46 = .ok (.iinc 4 1, 3) := by decide +kernel
theorem dX2_sumOf_49 : decode cX2_sumOf 49 = .ok (.goto (-44), 3) := by decide +kernel
theorem dX2_sumOf_52 : decode cX2_sumOf 52 = .ok (.iload_n 3, 1) := by decide +kernel
theorem dX2_sumOf_53 : decode cX2_sumOf 53 = .ok (.ireturn, 1) := by decide +kernel
def m_X2_sumOf_b0 (u : zM) (a2 : Int32) (a1 : Int32) (x1 : Int32) (x2 : Int32) : Option ((Int32 × Int32) ⊕ (Int32)) :=
  (if (u 15 4) ≤ x2 then
some (.inr x1)
else
(if (m_X5_holds a2 x2) = 0 then
some (.inl (x1, (x2 + 1)))
else
zbind (zld u 16 36 ((a1 * 12) + x2)) (fun x7 => zbind (zld u 18 12 x2) (fun x9 => some (.inl ((x1 + (x7 * x9)), (x2 + 1)))))))
def m_X2_sumOf (a1 : Int32) (a2 : Int32) (u : zM) : Option (Int32) :=
  zbind (zit zF (fun s : Int32 × Int32 => m_X2_sumOf_b0 u a2 a1 s.1 s.2) (0, 0)) (fun x3 =>
some x3)
set_option maxHeartbeats 4000000 in
set_option maxRecDepth 100000 in
theorem c_X2_sumOf (a1 : Int32) (a2 : Int32)   (u : zM) (r : Int32) (h : m_X2_sumOf a1 a2 u = some r) : zCt 2 yX2_sumOf cX2_sumOf 5 (some .int) (fun E => [.ref (zad E 15), .int a1, .int a2]) u (fun _ => some (.int r)) u := by
  refine zCt.of (by decide +kernel) (fun E => Nat.le_of_ble_eq_true rfl) (fun X hX hR => ?_)
  have hX : zGood X RX2 cX2_sumOf 5 2 := hX
  show zG X u 0 [(0, .ref (zad X.1 15)), (1, .int a1), (2, .int a2)] []
  unfold m_X2_sumOf at h
  refine r_iconst (v := 0) hX dX2_sumOf_0 (by decide) ?_
  refine r_istore_n (y := 0) (L' := [(3, .int 0), (0, .ref (zad X.1 15)), (1, .int a1), (2, .int a2)]) hX dX2_sumOf_1 rfl (by decide) rfl rfl ?_
  refine r_iconst (v := 0) hX dX2_sumOf_2 (by decide) ?_
  refine r_istore (y := 0) (L' := [(4, .int 0), (3, .int 0), (0, .ref (zad X.1 15)), (1, .int a1), (2, .int a2)]) hX dX2_sumOf_3 (by decide) rfl rfl ?_
  refine r_sub [2, 3, 4, 1, 0] (L' := [(0, .ref (zad X.1 15)), (1, .int a1), (2, .int a2), (3, .int 0), (4, .int 0)]) rfl ?_
  obtain ⟨x3, h4, h⟩ := zbind_elim h
  have Jh4 : zG X u 52 [(3, .int x3)] [] := by
      refine r_iload_n hX dX2_sumOf_52 0 rfl rfl ?_
      obtain rfl := Option.some.inj h
      exact r_iret hX hR dX2_sumOf_53
  clear h
  refine zit_walk (P := fun s0 : Int32 × Int32 => zG X u 5 [(0, .ref (zad X.1 15)), (1, .int a1), (2, .int a2), (3, .int (s0.1)), (4, .int (s0.2))] []) ?_ zF _ h4
  clear h4
  intro s0 y0 h0b hin0 hout0
  obtain ⟨x1, x2⟩ := s0
  have h0b : m_X2_sumOf_b0 u a2 a1 x1 x2 = some y0 := h0b
  unfold m_X2_sumOf_b0 at h0b
  show zG X u 5 [(0, .ref (zad X.1 15)), (1, .int a1), (2, .int a2), (3, .int x1), (4, .int x2)] []
  refine r_iload hX dX2_sumOf_5 4 rfl ?_
  refine r_aload_n hX dX2_sumOf_7 0 rfl rfl ?_
  refine r_getI hX dX2_sumOf_8 f_RX2_24 zi_15_4 ?_
  refine r_icmp_ge (tgt := 52) hX dX2_sumOf_11 (by decide) (fun c5 => ?_) (fun c5 => ?_)
  · have h0b := (if_pos c5).symm.trans h0b
    refine r_sub [3] (L' := [(3, .int x1)]) rfl ?_
    have h0b := hout0 _ (Option.some.inj h0b).symm
    obtain rfl := h0b
    exact Jh4
  · have h0b := (if_neg c5).symm.trans h0b
    refine r_iload_n hX dX2_sumOf_14 2 rfl rfl ?_
    refine r_iload hX dX2_sumOf_15 4 rfl ?_
    refine r_callS (As := [.int a2, .int x2]) (rest := []) (st1 := [.int (m_X5_holds a2 x2)]) hX dX2_sumOf_17 ls_RX2_64 (c_X5_holds a2 x2  u _ rfl) (by decide) rfl rfl rfl (Nat.le_of_ble_eq_true rfl) rfl ?_
    refine r_if_eq (tgt := 46) hX dX2_sumOf_20 (by decide) (fun c6 => ?_) (fun c6 => ?_)
    · have h0b := (if_pos c6).symm.trans h0b
      refine r_iinc (v := (x2 + 1)) (L' := [(4, .int (x2 + 1)), (0, .ref (zad X.1 15)), (1, .int a1), (2, .int a2), (3, .int x1)]) hX dX2_sumOf_46 (by decide) 4 rfl rfl rfl ?_
      refine r_goto (tgt := 5) hX dX2_sumOf_49 (by decide) ?_
      refine r_sub [1, 2, 3, 4, 0] (L' := [(0, .ref (zad X.1 15)), (1, .int a1), (2, .int a2), (3, .int x1), (4, .int (x2 + 1))]) rfl ?_
      exact hin0 _ (Option.some.inj h0b).symm
    · have h0b := (if_neg c6).symm.trans h0b
      refine r_iload_n hX dX2_sumOf_23 3 rfl rfl ?_
      refine r_aload_n hX dX2_sumOf_24 0 rfl rfl ?_
      refine r_getR hX dX2_sumOf_25 f_RX2_9 zr_15_0 ?_
      refine r_iload_n hX dX2_sumOf_28 1 rfl rfl ?_
      refine r_bipush (v := 12) hX dX2_sumOf_29 (by decide) ?_
      refine r_imul hX dX2_sumOf_31 ?_
      refine r_iload hX dX2_sumOf_32 4 rfl ?_
      refine r_iadd hX dX2_sumOf_34 ?_
      obtain ⟨x7, e8, h0b⟩ := zbind_elim h0b
      refine r_iald hX dX2_sumOf_35 rfl e8 ?_
      refine r_aload_n hX dX2_sumOf_36 0 rfl rfl ?_
      refine r_getR hX dX2_sumOf_37 f_RX2_18 zr_15_2 ?_
      refine r_iload hX dX2_sumOf_40 4 rfl ?_
      obtain ⟨x9, e10, h0b⟩ := zbind_elim h0b
      refine r_iald hX dX2_sumOf_42 rfl e10 ?_
      refine r_imul hX dX2_sumOf_43 ?_
      refine r_iadd hX dX2_sumOf_44 ?_
      refine r_istore_n (y := (x1 + (x7 * x9))) (L' := [(3, .int (x1 + (x7 * x9))), (0, .ref (zad X.1 15)), (1, .int a1), (2, .int a2), (4, .int x2)]) hX dX2_sumOf_45 rfl (by decide) rfl rfl ?_
      refine r_iinc (v := (x2 + 1)) (L' := [(4, .int (x2 + 1)), (3, .int (x1 + (x7 * x9))), (0, .ref (zad X.1 15)), (1, .int a1), (2, .int a2)]) hX dX2_sumOf_46 (by decide) 4 rfl rfl rfl ?_
      refine r_goto (tgt := 5) hX dX2_sumOf_49 (by decide) ?_
      refine r_sub [2, 3, 4, 1, 0] (L' := [(0, .ref (zad X.1 15)), (1, .int a1), (2, .int a2), (3, .int (x1 + (x7 * x9))), (4, .int (x2 + 1))]) rfl ?_
      exact hin0 _ (Option.some.inj h0b).symm
theorem dX2_cutMeanOf_0 : decode cX2_cutMeanOf 0 = .ok (.aload_n 0, 1) := by decide +kernel
theorem dX2_cutMeanOf_1 : decode cX2_cutMeanOf 1 = .ok (.iload_n 2, 1) := by decide +kernel
theorem dX2_cutMeanOf_2 : decode cX2_cutMeanOf 2 = .ok (.invokevirtual 60, 3) := by decide +kernel
theorem dX2_cutMeanOf_5 : decode cX2_cutMeanOf 5 = .ok (.istore_n 3, 1) := by decide +kernel
theorem dX2_cutMeanOf_6 : decode cX2_cutMeanOf 6 = .ok (.iload_n 3, 1) := by decide +kernel
theorem dX2_cutMeanOf_7 : decode cX2_cutMeanOf 7 = .ok (.ifCond .ne 7, 3) := by decide +kernel
theorem dX2_cutMeanOf_10 : decode cX2_cutMeanOf 10 = .ok (.iconst 0, 1) := by decide +kernel
theorem dX2_cutMeanOf_11 : decode cX2_cutMeanOf 11 = .ok (.goto 11, 3) := by decide +kernel
theorem dX2_cutMeanOf_14 : decode cX2_cutMeanOf 14 = .ok (.aload_n 0, 1) := by decide +kernel
theorem dX2_cutMeanOf_15 : decode cX2_cutMeanOf 15 = .ok (.iload_n 1, 1) := by decide +kernel
theorem dX2_cutMeanOf_16 : decode cX2_cutMeanOf 16 = .ok (.iload_n 2, 1) := by decide +kernel
theorem dX2_cutMeanOf_17 : decode cX2_cutMeanOf 17 = .ok (.invokevirtual 61, 3) := by decide +kernel
theorem dX2_cutMeanOf_20 : decode cX2_cutMeanOf 20 = .ok (.iload_n 3, 1) := by decide +kernel
theorem dX2_cutMeanOf_21 : decode cX2_cutMeanOf 21 = .ok (.idiv, 1) := by decide +kernel
theorem dX2_cutMeanOf_22 : decode cX2_cutMeanOf 22 = .ok (.ireturn, 1) := by decide +kernel
def m_X2_cutMeanOf (a1 : Int32) (a2 : Int32) (u : zM) : Option (Int32) :=
  zbind (m_X2_timesOf a2 u) (fun x1 => (if x1 = 0 then
some 0
else
zbind (m_X2_sumOf a1 a2 u) (fun x4 => if x1 = 0 then none else (some (x4 / x1)))))
set_option maxHeartbeats 4000000 in
set_option maxRecDepth 100000 in
theorem c_X2_cutMeanOf (a1 : Int32) (a2 : Int32)   (u : zM) (r : Int32) (h : m_X2_cutMeanOf a1 a2 u = some r) : zCt 3 yX2_cutMeanOf cX2_cutMeanOf 4 (some .int) (fun E => [.ref (zad E 15), .int a1, .int a2]) u (fun _ => some (.int r)) u := by
  refine zCt.of (by decide +kernel) (fun E => Nat.le_of_ble_eq_true rfl) (fun X hX hR => ?_)
  have hX : zGood X RX2 cX2_cutMeanOf 4 3 := hX
  show zG X u 0 [(0, .ref (zad X.1 15)), (1, .int a1), (2, .int a2)] []
  unfold m_X2_cutMeanOf at h
  refine r_aload_n hX dX2_cutMeanOf_0 0 rfl rfl ?_
  refine r_iload_n hX dX2_cutMeanOf_1 2 rfl rfl ?_
  obtain ⟨x1, e2, h⟩ := zbind_elim h
  refine r_callV (As := [.int a2]) (rest := []) (st1 := [.int x1]) hX dX2_cutMeanOf_2 lv_RX2_60 (c_X2_timesOf a2  u _ e2) (by decide) rfl rfl (zRecv.of (q := 15) (ci := 2) rfl rfl) rfl (Nat.le_of_ble_eq_true rfl) rfl ?_
  refine r_istore_n (y := x1) (L' := [(3, .int x1), (0, .ref (zad X.1 15)), (1, .int a1), (2, .int a2)]) hX dX2_cutMeanOf_5 rfl (by decide) rfl rfl ?_
  refine r_iload_n hX dX2_cutMeanOf_6 0 rfl rfl ?_
  refine r_if_ne (tgt := 14) hX dX2_cutMeanOf_7 (by decide) (fun c3 => ?_) (fun c3 => ?_)
  · have h := (if_neg c3).symm.trans h
    refine r_aload_n hX dX2_cutMeanOf_14 1 rfl rfl ?_
    refine r_iload_n hX dX2_cutMeanOf_15 2 rfl rfl ?_
    refine r_iload_n hX dX2_cutMeanOf_16 3 rfl rfl ?_
    obtain ⟨x4, e5, h⟩ := zbind_elim h
    refine r_callV (As := [.int a1, .int a2]) (rest := []) (st1 := [.int x4]) hX dX2_cutMeanOf_17 lv_RX2_61 (c_X2_sumOf a1 a2  u _ e5) (by decide) rfl rfl (zRecv.of (q := 15) (ci := 2) rfl rfl) rfl (Nat.le_of_ble_eq_true rfl) rfl ?_
    refine r_iload_n hX dX2_cutMeanOf_20 0 rfl rfl ?_
    by_cases c6 : x1 = 0
    · rw [if_pos c6] at h; cases h
    have h := (if_neg c6).symm.trans h
    refine r_idiv hX dX2_cutMeanOf_21 c6 ?_
    obtain rfl := Option.some.inj h
    exact r_iret hX hR dX2_cutMeanOf_22
  · have h := (if_pos c3).symm.trans h
    refine r_iconst (v := 0) hX dX2_cutMeanOf_10 (by decide) ?_
    refine r_goto (tgt := 22) hX dX2_cutMeanOf_11 (by decide) ?_
    obtain rfl := Option.some.inj h
    exact r_iret hX hR dX2_cutMeanOf_22
