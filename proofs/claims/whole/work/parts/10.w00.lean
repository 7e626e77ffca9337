/-! MODELS AND CONTRACTS, by program (wip/whole/gen_all.py): X5_within, X5_isKind, X5_finding, X4_add, X5_body, X5_isBody, X4_inchesOf, X4_widthAtBribe, X5_isUnder, X4_measuredOf, X4_timesOf, X5_holds, X4_isHere -/
theorem dX5_within_0 : decode cX5_within 0 = .ok (.iload_n 0, 1) := by decide +kernel
theorem dX5_within_1 : decode cX5_within 1 = .ok (.iload_n 1, 1) := by decide +kernel
theorem dX5_within_2 : decode cX5_within 2 = .ok (.if_icmp .lt 12, 3) := by decide +kernel
theorem dX5_within_5 : decode cX5_within 5 = .ok (.iload_n 0, 1) := by decide +kernel
theorem dX5_within_6 : decode cX5_within 6 = .ok (.iload_n 2, 1) := by decide +kernel
theorem dX5_within_7 : decode cX5_within 7 = .ok (.if_icmp .gt 7, 3) := by decide +kernel
theorem dX5_within_10 : decode cX5_within 10 = .ok (.iconst 1, 1) := by decide +kernel
theorem dX5_within_11 : decode cX5_within 11 = .ok (.goto 4, 3) := by decide +kernel
theorem dX5_within_14 : decode cX5_within 14 = .ok (.iconst 0, 1) := by decide +kernel
theorem dX5_within_15 : decode cX5_within 15 = .ok (.ireturn, 1) := by decide +kernel
def m_X5_within (a1 : Int32) (a2 : Int32) (a3 : Int32) : Int32 :=
  (if a1 < a2 then
0
else
(if a3 < a1 then
0
else
1))
set_option maxHeartbeats 4000000 in
set_option maxRecDepth 100000 in
theorem c_X5_within (a1 : Int32) (a2 : Int32) (a3 : Int32)   (u : zM) (r : Int32) (h : m_X5_within a1 a2 a3 = r) : zCt 1 yX5_within cX5_within 3 (some .boolean) (fun E => [.int a1, .int a2, .int a3]) u (fun _ => some (.int r)) u := by
  refine zCt.of (by decide +kernel) (fun E => Nat.le_of_ble_eq_true rfl) (fun X hX hR => ?_)
  have hX : zGood X RX5 cX5_within 3 1 := hX
  show zG X u 0 [(0, .int a1), (1, .int a2), (2, .int a3)] []
  unfold m_X5_within at h
  refine r_iload_n hX dX5_within_0 0 rfl rfl ?_
  refine r_iload_n hX dX5_within_1 1 rfl rfl ?_
  refine r_icmp_lt (tgt := 14) hX dX5_within_2 (by decide) (fun c1 => ?_) (fun c1 => ?_)
  · have h := (if_pos c1).symm.trans h
    refine r_iconst (v := 0) hX dX5_within_14 (by decide) ?_
    obtain rfl := h
    exact r_zret0 hX hR dX5_within_15
  · have h := (if_neg c1).symm.trans h
    refine r_iload_n hX dX5_within_5 0 rfl rfl ?_
    refine r_iload_n hX dX5_within_6 2 rfl rfl ?_
    refine r_icmp_gt (tgt := 14) hX dX5_within_7 (by decide) (fun c2 => ?_) (fun c2 => ?_)
    · have h := (if_pos c2).symm.trans h
      refine r_iconst (v := 0) hX dX5_within_14 (by decide) ?_
      obtain rfl := h
      exact r_zret0 hX hR dX5_within_15
    · have h := (if_neg c2).symm.trans h
      refine r_iconst (v := 1) hX dX5_within_10 (by decide) ?_
      refine r_goto (tgt := 15) hX dX5_within_11 (by decide) ?_
      obtain rfl := h
      exact r_zret1 hX hR dX5_within_15
theorem dX5_isKind_0 : decode cX5_isKind 0 = .ok (.iload_n 0, 1) := by decide +kernel
theorem dX5_isKind_1 : decode cX5_isKind 1 = .ok (.iconst 0, 1) := by decide +kernel
theorem dX5_isKind_2 : decode cX5_isKind 2 = .ok (.bipush 6, 2) := by decide +kernel
theorem dX5_isKind_4 : decode cX5_isKind 4 = .ok (.invokestatic 80, 3) := by decide +kernel
theorem dX5_isKind_7 : decode cX5_isKind 7 = .ok (.ireturn, 1) := by decide +kernel
def m_X5_isKind (a1 : Int32) : Int32 :=
  (zb (m_X5_within a1 0 6))
set_option maxHeartbeats 4000000 in
set_option maxRecDepth 100000 in
theorem c_X5_isKind (a1 : Int32)   (u : zM) (r : Int32) (h : m_X5_isKind a1 = r) : zCt 2 yX5_isKind cX5_isKind 1 (some .boolean) (fun E => [.int a1]) u (fun _ => some (.int r)) u := by
  refine zCt.of (by decide +kernel) (fun E => Nat.le_of_ble_eq_true rfl) (fun X hX hR => ?_)
  have hX : zGood X RX5 cX5_isKind 1 2 := hX
  show zG X u 0 [(0, .int a1)] []
  unfold m_X5_isKind at h
  refine r_iload_n hX dX5_isKind_0 0 rfl rfl ?_
  refine r_iconst (v := 0) hX dX5_isKind_1 (by decide) ?_
  refine r_bipush (v := 6) hX dX5_isKind_2 (by decide) ?_
  refine r_callS (As := [.int a1, .int 0, .int 6]) (rest := []) (st1 := [.int (m_X5_within a1 0 6)]) hX dX5_isKind_4 ls_RX5_80 (c_X5_within a1 0 6  u _ rfl) (by decide) rfl rfl rfl (Nat.le_of_ble_eq_true rfl) rfl ?_
  obtain rfl := h
  exact r_zret hX hR dX5_isKind_7
theorem dX5_finding_0 : decode cX5_finding 0 = .ok (.aload_n 0, 1) := by decide +kernel
theorem dX5_finding_1 : decode cX5_finding 1 = .ok (.getfield 46, 3) := by decide +kernel
theorem dX5_finding_4 : decode cX5_finding 4 = .ok (.iload_n 1, 1) := by decide +kernel
theorem dX5_finding_5 : decode cX5_finding 5 = .ok (.dup2, 1) := by decide +kernel
theorem dX5_finding_6 : decode cX5_finding 6 = .ok (.iaload, 1) := by decide +kernel
theorem dX5_finding_7 : decode cX5_finding 7 = .ok (.iconst 1, 1) := by decide +kernel
theorem dX5_finding_8 : decode cX5_finding 8 = .ok (.iadd, 1) := by decide +kernel
theorem dX5_finding_9 : decode cX5_finding 9 = .ok (.iastore, 1) := by decide +kernel
theorem dX5_finding_10 : decode cX5_finding 10 = .ok (.ldc_w 279, 3) := by decide +kernel
theorem dX5_finding_13 : decode cX5_finding 13 = .ok (.iload_n 1, 1) := by decide +kernel
theorem dX5_finding_14 : decode cX5_finding 14 = .ok (.isub, 1) := by decide +kernel
theorem dX5_finding_15 : decode cX5_finding 15 = .ok (.ireturn, 1) := by decide +kernel
def m_X5_finding (a1 : Int32) (u : zM) : Option (Int32 × zM) :=
  zbind (zld u 28 7 a1) (fun x1 => zbind (zsv u 28 7 a1 (x1 + 1)) (fun u3 => some (((-1000001) - a1), u3)))
set_option maxHeartbeats 4000000 in
set_option maxRecDepth 100000 in
theorem c_X5_finding (a1 : Int32)   (u : zM) (r : Int32) (u' : zM) (h : m_X5_finding a1 u = some (r, u')) : zCt 1 yX5_finding cX5_finding 2 (some .int) (fun E => [.ref (zad E 0), .int a1]) u (fun _ => some (.int r)) u' := by
  refine zCt.of (by decide +kernel) (fun E => Nat.le_of_ble_eq_true rfl) (fun X hX hR => ?_)
  have hX : zGood X RX5 cX5_finding 2 1 := hX
  show zG X u 0 [(0, .ref (zad X.1 0)), (1, .int a1)] []
  unfold m_X5_finding at h
  refine r_aload_n hX dX5_finding_0 0 rfl rfl ?_
  refine r_getR hX dX5_finding_1 f_RX5_46 zr_0_6 ?_
  refine r_iload_n hX dX5_finding_4 1 rfl rfl ?_
  refine r_dup2 hX dX5_finding_5 rfl rfl ?_
  obtain ⟨x1, e2, h⟩ := zbind_elim h
  refine r_iald hX dX5_finding_6 rfl e2 ?_
  refine r_iconst (v := 1) hX dX5_finding_7 (by decide) ?_
  refine r_iadd hX dX5_finding_8 ?_
  obtain ⟨u3, e4, h⟩ := zbind_elim h
  refine r_iast hX dX5_finding_9 rfl e4 ?_
  refine r_ldcw (v := (-1000001)) hX dX5_finding_10 (zT_in 327 (by decide +kernel) rfl) ?_
  refine r_iload_n hX dX5_finding_13 1 rfl rfl ?_
  refine r_isub hX dX5_finding_14 ?_
  obtain ⟨rfl, rfl⟩ := zinj2 (Option.some.inj h)
  exact r_iret hX hR dX5_finding_15
theorem dX4_add_0 : decode cX4_add 0 = .ok (.aload_n 0, 1) := by decide +kernel
theorem dX4_add_1 : decode cX4_add 1 = .ok (.getfield 30, 3) := by decide +kernel
theorem dX4_add_4 : decode cX4_add 4 = .ok (.istore 5, 2) := by decide +kernel
theorem dX4_add_6 : decode cX4_add 6 = .ok (.aload_n 0, 1) := by decide +kernel
theorem dX4_add_7 : decode cX4_add 7 = .ok (.getfield 9, 3) := by decide +kernel
theorem dX4_add_10 : decode cX4_add 10 = .ok (.iload 5, 2) := by decide +kernel
theorem dX4_add_12 : decode cX4_add 12 = .ok (.iload_n 1, 1) := by decide +kernel
theorem dX4_add_13 : decode cX4_add 13 = .ok (.iastore, 1) := by decide +kernel
theorem dX4_add_14 : decode cX4_add 14 = .ok (.aload_n 0, 1) := by decide +kernel
theorem dX4_add_15 : decode cX4_add 15 = .ok (.getfield 15, 3) := by decide +kernel
theorem dX4_add_18 : decode cX4_add 18 = .ok (.iload 5, 2) := by decide +kernel
theorem dX4_add_20 : decode cX4_add 20 = .ok (.iconst 3, 1) := by decide +kernel
theorem dX4_add_21 : decode cX4_add 21 = .ok (.imul, 1) := by decide +kernel
theorem dX4_add_22 : decode cX4_add 22 = .ok (.iload_n 2, 1) := by decide +kernel
theorem dX4_add_23 : decode cX4_add 23 = .ok (.iastore, 1) := by decide +kernel
theorem dX4_add_24 : decode cX4_add 24 = .ok (.aload_n 0, 1) := by decide +kernel
theorem dX4_add_25 : decode cX4_add 25 = .ok (.getfield 15, 3) := by decide +kernel
theorem dX4_add_28 : decode cX4_add 28 = .ok (.iload 5, 2) := by decide +kernel
theorem dX4_add_30 : decode cX4_add 30 = .ok (.iconst 3, 1) := by decide +kernel
theorem dX4_add_31 : decode cX4_add 31 = .ok (.imul, 1) := by decide +kernel
theorem dX4_add_32 : decode cX4_add 32 = .ok (.iconst 1, 1) := by decide +kernel
theorem dX4_add_33 : decode cX4_add 33 = .ok (.iadd, 1) := by decide +kernel
theorem dX4_add_34 : decode cX4_add 34 = .ok (.iload_n 3, 1) := by decide +kernel
theorem dX4_add_35 : decode cX4_add 35 = .ok (.iastore, 1) := by decide +kernel
theorem dX4_add_36 : decode cX4_add 36 = .ok (.aload_n 0, 1) := by decide +kernel
theorem dX4_add_37 : decode cX4_add 37 = .ok (.getfield 15, 3) := by decide +kernel
theorem dX4_add_40 : decode cX4_add 40 = .ok (.iload 5, 2) := by decide +kernel
theorem dX4_add_42 : decode cX4_add 42 = .ok (.iconst 3, 1) := by decide +kernel
theorem dX4_add_43 : decode cX4_add 43 = .ok (.imul, 1) := by decide +kernel
theorem dX4_add_44 : decode cX4_add 44 = .ok (.iconst 2, 1) := by decide +kernel
theorem dX4_add_45 : decode cX4_add 45 = .ok (.iadd, 1) := by decide +kernel
theorem dX4_add_46 : decode cX4_add 46 = .ok (.iload 4, 2) := by decide +kernel
theorem dX4_add_48 : decode cX4_add 48 = .ok (.iastore, 1) := by decide +kernel
theorem dX4_add_49 : decode cX4_add 49 = .ok (.aload_n 0, 1) := by decide +kernel
theorem dX4_add_50 : decode cX4_add 50 = .ok (.getfield 18, 3) := by decide +kernel
theorem dX4_add_53 : decode cX4_add 53 = .ok (.iload 5, 2) := by decide +kernel
theorem dX4_add_55 : decode cX4_add 55 = .ok (.iconst 0, 1) := by decide +kernel
theorem dX4_add_56 : decode cX4_add 56 = .ok (.iastore, 1) := by decide +kernel
theorem dX4_add_57 : decode cX4_add 57 = .ok (.aload_n 0, 1) := by decide +kernel
theorem dX4_add_58 : decode cX4_add 58 = .ok (.getfield 21, 3) := by decide +kernel
theorem dX4_add_61 : decode cX4_add 61 = .ok (.iload 5, 2) := by decide +kernel
theorem dX4_add_63 : decode cX4_add 63 = .ok (.iconst 0, 1) := by decide +kernel
theorem dX4_add_64 : decode cX4_add 64 = .ok (.iastore, 1) := by decide +kernel
theorem dX4_add_65 : decode cX4_add 65 = .ok (.aload_n 0, 1) := by decide +kernel
theorem dX4_add_66 : decode cX4_add 66 = .ok (.dup, 1) := by decide +kernel
theorem dX4_add_67 : decode cX4_add 67 = .ok (.getfield 34, 3) := by decide +kernel
theorem dX4_add_70 : decode cX4_add 70 = .ok (.iconst 1, 1) := by decide +kernel
theorem dX4_add_71 : decode cX4_add 71 = .ok (.iload 5, 2) := by decide +kernel
theorem dX4_add_73 : decode cX4_add 73 = .ok (.ishl, 1) := by decide +kernel
theorem dX4_add_74 : decode cX4_add 74 = .ok (.ior, 1) := by decide +kernel
theorem dX4_add_75 : decode cX4_add 75 = .ok (.putfield 34, 3) := by decide +kernel
theorem dX4_add_78 : decode cX4_add 78 = .ok (.aload_n 0, 1) := by decide +kernel
theorem dX4_add_79 : decode cX4_add 79 = .ok (.dup, 1) := by decide +kernel
theorem dX4_add_80 : decode cX4_add 80 = .ok (.getfield 30, 3) := by decide +kernel
theorem dX4_add_83 : decode cX4_add 83 = .ok (.iconst 1, 1) := by decide +kernel
theorem dX4_add_84 : decode cX4_add 84 = .ok (.iadd, 1) := by decide +kernel
theorem dX4_add_85 : decode cX4_add 85 = .ok (.putfield 30, 3) := by decide +kernel
theorem dX4_add_88 : decode cX4_add 88 = .ok (.iload 5, 2) := by decide +kernel
theorem dX4_add_90 : decode cX4_add 90 = .ok (.ireturn, 1) := by decide +kernel
def m_X4_add (a1 : Int32) (a2 : Int32) (a3 : Int32) (a4 : Int32) (u : zM) : Option (Int32 × zM) :=
  zbind (zsv u 2 12 (u 1 6) a1) (fun u1 => zbind (zsv u1 3 36 ((u 1 6) * 3) a2) (fun u3 => zbind (zsv u3 3 36 (((u 1 6) * 3) + 1) a3) (fun u5 => zbind (zsv u5 3 36 (((u 1 6) * 3) + 2) a4) (fun u7 => zbind (zsv u7 4 12 (u 1 6) 0) (fun u9 => zbind (zsv u9 5 12 (u 1 6) 0) (fun u11 => zlet (zst u11 1 7 ((u11 1 7) ||| (zshl 1 (u 1 6)))) (fun u13 => zlet (zst u13 1 6 ((u13 1 6) + 1)) (fun u15 => some ((u 1 6), u15)))))))))
set_option maxHeartbeats 4000000 in
set_option maxRecDepth 100000 in
theorem c_X4_add (a1 : Int32) (a2 : Int32) (a3 : Int32) (a4 : Int32)   (u : zM) (r : Int32) (u' : zM) (h : m_X4_add a1 a2 a3 a4 u = some (r, u')) : zCt 1 yX4_add cX4_add 6 (some .int) (fun E => [.ref (zad E 1), .int a1, .int a2, .int a3, .int a4]) u (fun _ => some (.int r)) u' := by
  refine zCt.of (by decide +kernel) (fun E => Nat.le_of_ble_eq_true rfl) (fun X hX hR => ?_)
  have hX : zGood X RX4 cX4_add 6 1 := hX
  show zG X u 0 [(0, .ref (zad X.1 1)), (1, .int a1), (2, .int a2), (3, .int a3), (4, .int a4)] []
  unfold m_X4_add at h
  refine r_aload_n hX dX4_add_0 0 rfl rfl ?_
  refine r_getI hX dX4_add_1 f_RX4_30 zi_1_6 ?_
  refine r_istore (y := (u 1 6)) (L' := [(5, .int (u 1 6)), (0, .ref (zad X.1 1)), (1, .int a1), (2, .int a2), (3, .int a3), (4, .int a4)]) hX dX4_add_4 (by decide) rfl rfl ?_
  refine r_aload_n hX dX4_add_6 1 rfl rfl ?_
  refine r_getR hX dX4_add_7 f_RX4_9 zr_1_0 ?_
  refine r_iload hX dX4_add_10 0 rfl ?_
  refine r_iload_n hX dX4_add_12 2 rfl rfl ?_
  obtain ⟨u1, e2, h⟩ := zbind_elim h
  refine r_iast hX dX4_add_13 rfl e2 ?_
  refine r_aload_n hX dX4_add_14 1 rfl rfl ?_
  refine r_getR hX dX4_add_15 f_RX4_15 zr_1_1 ?_
  refine r_iload hX dX4_add_18 0 rfl ?_
  refine r_iconst (v := 3) hX dX4_add_20 (by decide) ?_
  refine r_imul hX dX4_add_21 ?_
  refine r_iload_n hX dX4_add_22 3 rfl rfl ?_
  obtain ⟨u3, e4, h⟩ := zbind_elim h
  refine r_iast hX dX4_add_23 rfl e4 ?_
  refine r_aload_n hX dX4_add_24 1 rfl rfl ?_
  refine r_getR hX dX4_add_25 f_RX4_15 zr_1_1 ?_
  refine r_iload hX dX4_add_28 0 rfl ?_
  refine r_iconst (v := 3) hX dX4_add_30 (by decide) ?_
  refine r_imul hX dX4_add_31 ?_
  refine r_iconst (v := 1) hX dX4_add_32 (by decide) ?_
  refine r_iadd hX dX4_add_33 ?_
  refine r_iload_n hX dX4_add_34 4 rfl rfl ?_
  obtain ⟨u5, e6, h⟩ := zbind_elim h
  refine r_iast hX dX4_add_35 rfl e6 ?_
  refine r_aload_n hX dX4_add_36 1 rfl rfl ?_
  refine r_getR hX dX4_add_37 f_RX4_15 zr_1_1 ?_
  refine r_iload hX dX4_add_40 0 rfl ?_
  refine r_iconst (v := 3) hX dX4_add_42 (by decide) ?_
  refine r_imul hX dX4_add_43 ?_
  refine r_iconst (v := 2) hX dX4_add_44 (by decide) ?_
  refine r_iadd hX dX4_add_45 ?_
  refine r_iload hX dX4_add_46 5 rfl ?_
  obtain ⟨u7, e8, h⟩ := zbind_elim h
  refine r_iast hX dX4_add_48 rfl e8 ?_
  refine r_aload_n hX dX4_add_49 1 rfl rfl ?_
  refine r_getR hX dX4_add_50 f_RX4_18 zr_1_2 ?_
  refine r_iload hX dX4_add_53 0 rfl ?_
  refine r_iconst (v := 0) hX dX4_add_55 (by decide) ?_
  obtain ⟨u9, e10, h⟩ := zbind_elim h
  refine r_iast hX dX4_add_56 rfl e10 ?_
  refine r_aload_n hX dX4_add_57 1 rfl rfl ?_
  refine r_getR hX dX4_add_58 f_RX4_21 zr_1_3 ?_
  refine r_iload hX dX4_add_61 0 rfl ?_
  refine r_iconst (v := 0) hX dX4_add_63 (by decide) ?_
  obtain ⟨u11, e12, h⟩ := zbind_elim h
  refine r_iast hX dX4_add_64 rfl e12 ?_
  refine r_aload_n hX dX4_add_65 1 rfl rfl ?_
  refine r_dup hX dX4_add_66 rfl ?_
  refine r_getI hX dX4_add_67 f_RX4_34 zi_1_7 ?_
  refine r_iconst (v := 1) hX dX4_add_70 (by decide) ?_
  refine r_iload hX dX4_add_71 0 rfl ?_
  refine r_ishl hX dX4_add_73 ?_
  refine r_ior hX dX4_add_74 ?_
  obtain ⟨u13, e14, h⟩ := zlet_elim h
  refine r_putI hX dX4_add_75 f_RX4_34 p_4_7 zi_1_7 ?_
  rw [e14]
  refine r_aload_n hX dX4_add_78 1 rfl rfl ?_
  refine r_dup hX dX4_add_79 rfl ?_
  refine r_getI hX dX4_add_80 f_RX4_30 zi_1_6 ?_
  refine r_iconst (v := 1) hX dX4_add_83 (by decide) ?_
  refine r_iadd hX dX4_add_84 ?_
  obtain ⟨u15, e16, h⟩ := zlet_elim h
  refine r_putI hX dX4_add_85 f_RX4_30 p_4_6 zi_1_6 ?_
  rw [e16]
  refine r_iload hX dX4_add_88 0 rfl ?_
  obtain ⟨rfl, rfl⟩ := zinj2 (Option.some.inj h)
  exact r_iret hX hR dX4_add_90
theorem dX5_body_0 : decode cX5_body 0 = .ok (.iload_n 1, 1) := by decide +kernel
theorem dX5_body_1 : decode cX5_body 1 = .ok (.invokestatic 61, 3) := by decide +kernel
theorem dX5_body_4 : decode cX5_body 4 = .ok (.ifCond .ne 9, 3) := by decide +kernel
theorem dX5_body_7 : decode cX5_body 7 = .ok (.aload_n 0, 1) := by decide +kernel
theorem dX5_body_8 : decode cX5_body 8 = .ok (.iconst 0, 1) := by decide +kernel
theorem dX5_body_9 : decode cX5_body 9 = .ok (.invokevirtual 65, 3) := by decide +kernel
theorem dX5_body_12 : decode cX5_body 12 = .ok (.ireturn, 1) := by decide +kernel
theorem dX5_body_13 : decode cX5_body 13 = .ok (.aload_n 0, 1) := by decide +kernel
theorem dX5_body_14 : decode cX5_body 14 = .ok (.getfield 10, 3) := by decide +kernel
theorem dX5_body_17 : decode cX5_body 17 = .ok (.getfield 69, 3) := by decide +kernel
theorem dX5_body_20 : decode cX5_body 20 = .ok (.bipush 12, 2) := by decide +kernel
theorem dX5_body_22 : decode cX5_body 22 = .ok (.if_icmp .lt 9, 3) := by decide +kernel
theorem dX5_body_25 : decode cX5_body 25 = .ok (.aload_n 0, 1) := by decide +kernel
theorem dX5_body_26 : decode cX5_body 26 = .ok (.iconst 1, 1) := by decide +kernel
theorem dX5_body_27 : decode cX5_body 27 = .ok (.invokevirtual 65, 3) := by decide +kernel
theorem dX5_body_30 : decode cX5_body 30 = .ok (.ireturn, 1) := by decide +kernel
theorem dX5_body_31 : decode cX5_body 31 = .ok (.aload_n 0, 1) := by decide +kernel
theorem dX5_body_32 : decode cX5_body 32 = .ok (.getfield 10, 3) := by decide +kernel
theorem dX5_body_35 : decode cX5_body 35 = .ok (.iload_n 1, 1) := by decide +kernel
theorem dX5_body_36 : decode cX5_body 36 = .ok (.bipush 100, 2) := by decide +kernel
theorem dX5_body_38 : decode cX5_body 38 = .ok (.bipush 100, 2) := by decide +kernel
theorem dX5_body_40 : decode cX5_body 40 = .ok (.bipush 100, 2) := by decide +kernel
theorem dX5_body_42 : decode cX5_body 42 = .ok (.invokevirtual 73, 3) := by decide +kernel
theorem dX5_body_45 : decode cX5_body 45 = .ok (.ireturn, 1) := by decide +kernel
def m_X5_body (a1 : Int32) (u : zM) : Option (Int32 × zM) :=
  (if (m_X5_isKind a1) = 0 then
zbind2 (m_X5_finding 0 u) (fun x9 u10 => some (x9, u10))
else
(if (u 1 6) < 12 then
zbind2 (m_X4_add a1 100 100 100 u) (fun x3 u4 => some (x3, u4))
else
zbind2 (m_X5_finding 1 u) (fun x6 u7 => some (x6, u7))))
set_option maxHeartbeats 4000000 in
set_option maxRecDepth 100000 in
theorem c_X5_body (a1 : Int32)   (u : zM) (r : Int32) (u' : zM) (h : m_X5_body a1 u = some (r, u')) : zCt 3 yX5_body cX5_body 2 (some .int) (fun E => [.ref (zad E 0), .int a1]) u (fun _ => some (.int r)) u' := by
  refine zCt.of (by decide +kernel) (fun E => Nat.le_of_ble_eq_true rfl) (fun X hX hR => ?_)
  have hX : zGood X RX5 cX5_body 2 3 := hX
  show zG X u 0 [(0, .ref (zad X.1 0)), (1, .int a1)] []
  unfold m_X5_body at h
  refine r_iload_n hX dX5_body_0 1 rfl rfl ?_
  refine r_callS (As := [.int a1]) (rest := []) (st1 := [.int (m_X5_isKind a1)]) hX dX5_body_1 ls_RX5_61 (c_X5_isKind a1  u _ rfl) (by decide) rfl rfl rfl (Nat.le_of_ble_eq_true rfl) rfl ?_
  refine r_if_ne (tgt := 13) hX dX5_body_4 (by decide) (fun c1 => ?_) (fun c1 => ?_)
  · have h := (if_neg c1).symm.trans h
    refine r_aload_n hX dX5_body_13 0 rfl rfl ?_
    refine r_getR hX dX5_body_14 f_RX5_10 zr_0_0 ?_
    refine r_getI hX dX5_body_17 f_RX5_69 zi_1_6 ?_
    refine r_bipush (v := 12) hX dX5_body_20 (by decide) ?_
    refine r_icmp_lt (tgt := 31) hX dX5_body_22 (by decide) (fun c2 => ?_) (fun c2 => ?_)
    · have h := (if_pos c2).symm.trans h
      refine r_aload_n hX dX5_body_31 0 rfl rfl ?_
      refine r_getR hX dX5_body_32 f_RX5_10 zr_0_0 ?_
      refine r_iload_n hX dX5_body_35 1 rfl rfl ?_
      refine r_bipush (v := 100) hX dX5_body_36 (by decide) ?_
      refine r_bipush (v := 100) hX dX5_body_38 (by decide) ?_
      refine r_bipush (v := 100) hX dX5_body_40 (by decide) ?_
      obtain ⟨x3, u4, e5, h⟩ := zbind2_elim h
      refine r_callV (As := [.int a1, .int 100, .int 100, .int 100]) (rest := []) (st1 := [.int x3]) hX dX5_body_42 lv_RX5_73 (c_X4_add a1 100 100 100  u _ _ e5) (by decide) rfl rfl (zRecv.of (q := 1) (ci := 4) rfl rfl) rfl (Nat.le_of_ble_eq_true rfl) rfl ?_
      obtain ⟨rfl, rfl⟩ := zinj2 (Option.some.inj h)
      exact r_iret hX hR dX5_body_45
    · have h := (if_neg c2).symm.trans h
      refine r_aload_n hX dX5_body_25 0 rfl rfl ?_
      refine r_iconst (v := 1) hX dX5_body_26 (by decide) ?_
      obtain ⟨x6, u7, e8, h⟩ := zbind2_elim h
      refine r_callV (As := [.int 1]) (rest := []) (st1 := [.int x6]) hX dX5_body_27 lv_RX5_65 (c_X5_finding 1  u _ _ e8) (by decide) rfl rfl (zRecv.of (q := 0) (ci := 5) rfl rfl) rfl (Nat.le_of_ble_eq_true rfl) rfl ?_
      obtain ⟨rfl, rfl⟩ := zinj2 (Option.some.inj h)
      exact r_iret hX hR dX5_body_30
  · have h := (if_pos c1).symm.trans h
    refine r_aload_n hX dX5_body_7 0 rfl rfl ?_
    refine r_iconst (v := 0) hX dX5_body_8 (by decide) ?_
    obtain ⟨x9, u10, e11, h⟩ := zbind2_elim h
    refine r_callV (As := [.int 0]) (rest := []) (st1 := [.int x9]) hX dX5_body_9 lv_RX5_65 (c_X5_finding 0  u _ _ e11) (by decide) rfl rfl (zRecv.of (q := 0) (ci := 5) rfl rfl) rfl (Nat.le_of_ble_eq_true rfl) rfl ?_
    obtain ⟨rfl, rfl⟩ := zinj2 (Option.some.inj h)
    exact r_iret hX hR dX5_body_12
theorem dX5_isBody_0 : decode cX5_isBody 0 = .ok (.iload_n 1, 1) := by decide +kernel
theorem dX5_isBody_1 : decode cX5_isBody 1 = .ok (.iconst 0, 1) := by decide +kernel
theorem dX5_isBody_2 : decode cX5_isBody 2 = .ok (.aload_n 0, 1) := by decide +kernel
theorem dX5_isBody_3 : decode cX5_isBody 3 = .ok (.getfield 10, 3) := by decide +kernel
theorem dX5_isBody_6 : decode cX5_isBody 6 = .ok (.getfield 69, 3) := by decide +kernel
theorem dX5_isBody_9 : decode cX5_isBody 9 = .ok (.iconst 1, 1) := by decide +kernel
theorem dX5_isBody_10 : decode cX5_isBody 10 = .ok (.isub, 1) := by decide +kernel
theorem dX5_isBody_11 : decode cX5_isBody 11 = .ok (.invokestatic 80, 3) := by decide +kernel
theorem dX5_isBody_14 : decode cX5_isBody 14 = .ok (.ireturn, 1) := by decide +kernel
def m_X5_isBody (a1 : Int32) (u : zM) : Int32 :=
  (zb (m_X5_within a1 0 ((u 1 6) - 1)))
set_option maxHeartbeats 4000000 in
set_option maxRecDepth 100000 in
theorem c_X5_isBody (a1 : Int32)   (u : zM) (r : Int32) (h : m_X5_isBody a1 u = r) : zCt 2 yX5_isBody cX5_isBody 2 (some .boolean) (fun E => [.ref (zad E 0), .int a1]) u (fun _ => some (.int r)) u := by
  refine zCt.of (by decide +kernel) (fun E => Nat.le_of_ble_eq_true rfl) (fun X hX hR => ?_)
  have hX : zGood X RX5 cX5_isBody 2 2 := hX
  show zG X u 0 [(0, .ref (zad X.1 0)), (1, .int a1)] []
  unfold m_X5_isBody at h
  refine r_iload_n hX dX5_isBody_0 1 rfl rfl ?_
  refine r_iconst (v := 0) hX dX5_isBody_1 (by decide) ?_
  refine r_aload_n hX dX5_isBody_2 0 rfl rfl ?_
  refine r_getR hX dX5_isBody_3 f_RX5_10 zr_0_0 ?_
  refine r_getI hX dX5_isBody_6 f_RX5_69 zi_1_6 ?_
  refine r_iconst (v := 1) hX dX5_isBody_9 (by decide) ?_
  refine r_isub hX dX5_isBody_10 ?_
  refine r_callS (As := [.int a1, .int 0, .int ((u 1 6) - 1)]) (rest := []) (st1 := [.int (m_X5_within a1 0 ((u 1 6) - 1))]) hX dX5_isBody_11 ls_RX5_80 (c_X5_within a1 0 ((u 1 6) - 1)  u _ rfl) (by decide) rfl rfl rfl (Nat.le_of_ble_eq_true rfl) rfl ?_
  obtain rfl := h
  exact r_zret hX hR dX5_isBody_14
theorem dX4_inchesOf_0 : decode cX4_inchesOf 0 = .ok (.aload_n 0, 1) := by decide +kernel
theorem dX4_inchesOf_1 : decode cX4_inchesOf 1 = .ok (.getfield 15, 3) := by decide +kernel
theorem dX4_inchesOf_4 : decode cX4_inchesOf 4 = .ok (.iload_n 1, 1) := by decide +kernel
theorem dX4_inchesOf_5 : decode cX4_inchesOf 5 = .ok (.iconst 3, 1) := by decide +kernel
theorem dX4_inchesOf_6 : decode cX4_inchesOf 6 = .ok (.imul, 1) := by decide +kernel
theorem dX4_inchesOf_7 : decode cX4_inchesOf 7 = .ok (.iload_n 2, 1) := by decide +kernel
theorem dX4_inchesOf_8 : decode cX4_inchesOf 8 = .ok (.iadd, 1) := by decide +kernel
theorem dX4_inchesOf_9 : decode cX4_inchesOf 9 = .ok (.iaload, 1) := by decide +kernel
theorem dX4_inchesOf_10 : decode cX4_inchesOf 10 = .ok (.ireturn, 1) := by decide +kernel
def m_X4_inchesOf (a1 : Int32) (a2 : Int32) (u : zM) : Option (Int32) :=
  zbind (zld u 3 36 ((a1 * 3) + a2)) (fun x1 => some x1)
set_option maxHeartbeats 4000000 in
set_option maxRecDepth 100000 in
theorem c_X4_inchesOf (a1 : Int32) (a2 : Int32)   (u : zM) (r : Int32) (h : m_X4_inchesOf a1 a2 u = some r) : zCt 1 yX4_inchesOf cX4_inchesOf 3 (some .int) (fun E => [.ref (zad E 1), .int a1, .int a2]) u (fun _ => some (.int r)) u := by
  refine zCt.of (by decide +kernel) (fun E => Nat.le_of_ble_eq_true rfl) (fun X hX hR => ?_)
  have hX : zGood X RX4 cX4_inchesOf 3 1 := hX
  show zG X u 0 [(0, .ref (zad X.1 1)), (1, .int a1), (2, .int a2)] []
  unfold m_X4_inchesOf at h
  refine r_aload_n hX dX4_inchesOf_0 0 rfl rfl ?_
  refine r_getR hX dX4_inchesOf_1 f_RX4_15 zr_1_1 ?_
  refine r_iload_n hX dX4_inchesOf_4 1 rfl rfl ?_
  refine r_iconst (v := 3) hX dX4_inchesOf_5 (by decide) ?_
  refine r_imul hX dX4_inchesOf_6 ?_
  refine r_iload_n hX dX4_inchesOf_7 2 rfl rfl ?_
  refine r_iadd hX dX4_inchesOf_8 ?_
  obtain ⟨x1, e2, h⟩ := zbind_elim h
  refine r_iald hX dX4_inchesOf_9 rfl e2 ?_
  obtain rfl := Option.some.inj h
  exact r_iret hX hR dX4_inchesOf_10
theorem dX4_widthAtBribe_0 : decode cX4_widthAtBribe 0 = .ok (.aload_n 0, 1) := by decide +kernel
theorem dX4_widthAtBribe_1 : decode cX4_widthAtBribe 1 = .ok (.iload_n 1, 1) := by decide +kernel
theorem dX4_widthAtBribe_2 : decode cX4_widthAtBribe 2 = .ok (.iconst 1, 1) := by decide +kernel
theorem dX4_widthAtBribe_3 : decode cX4_widthAtBribe 3 = .ok (.invokevirtual 70, 3) := by decide +kernel
theorem dX4_widthAtBribe_6 : decode cX4_widthAtBribe 6 = .ok (.istore_n 3, 1) := by decide +kernel
theorem dX4_widthAtBribe_7 : decode cX4_widthAtBribe 7 = .ok (.aload_n 0, 1) := by decide +kernel
theorem dX4_widthAtBribe_8 : decode cX4_widthAtBribe 8 = .ok (.getfield 9, 3) := by decide +kernel
theorem dX4_widthAtBribe_11 : decode cX4_widthAtBribe 11 = .ok (.iload_n 1, 1) := by decide +kernel
theorem dX4_widthAtBribe_12 : decode cX4_widthAtBribe 12 = .ok (.iaload, 1) := by decide +kernel
theorem dX4_widthAtBribe_13 : decode cX4_widthAtBribe 13 = .ok (.tableswitch 50 2 6 #[35, 50, 50, 45, 39], 35) := by decide +kernel
theorem dX4_widthAtBribe_48 : decode cX4_widthAtBribe 48 = .ok (.iload_n 3, 1) := by decide +kernel
theorem dX4_widthAtBribe_49 : decode cX4_widthAtBribe 49 = .ok (.iload_n 2, 1) := by decide +kernel
theorem dX4_widthAtBribe_50 : decode cX4_widthAtBribe 50 = .ok (.iadd, 1) := by decide +kernel
theorem dX4_widthAtBribe_51 : decode cX4_widthAtBribe 51 = .ok (.ireturn, 1) := by decide +kernel
theorem dX4_widthAtBribe_52 : decode cX4_widthAtBribe 52 = .ok (.iload_n 3, 1) := by decide +kernel
theorem dX4_widthAtBribe_53 : decode cX4_widthAtBribe 53 = .ok (.iconst 2, 1) := by decide +kernel
theorem dX4_widthAtBribe_54 : decode cX4_widthAtBribe 54 = .ok (.iload_n 2, 1) := by decide +kernel
theorem dX4_widthAtBribe_55 : decode cX4_widthAtBribe 55 = .ok (.imul, 1) := by decide +kernel
theorem dX4_widthAtBribe_56 : decode cX4_widthAtBribe 56 = .ok (.iadd, 1) := by decide +kernel
theorem dX4_widthAtBribe_57 : decode cX4_widthAtBribe 57 = .ok (.ireturn, 1) := by decide +kernel
theorem dX4_widthAtBribe_58 : decode cX4_widthAtBribe 58 = .ok (.iload_n 3, 1) := by decide +kernel
theorem dX4_widthAtBribe_59 : decode cX4_widthAtBribe 59 = .ok (.bipush 10, 2) := by decide +kernel
theorem dX4_widthAtBribe_61 : decode cX4_widthAtBribe 61 = .ok (.isub, 1) := by decide +kernel
theorem dX4_widthAtBribe_62 : decode cX4_widthAtBribe 62 = .ok (.ireturn, 1) := by decide +kernel
theorem dX4_widthAtBribe_63 : decode cX4_widthAtBribe 63 = .ok (.iload_n 3, 1) := by decide +kernel
theorem dX4_widthAtBribe_64 : decode cX4_widthAtBribe 64 = .ok (.ireturn, 1) := by decide +kernel
def m_X4_widthAtBribe (a1 : Int32) (a2 : Int32) (u : zM) : Option (Int32) :=
  zbind (m_X4_inchesOf a1 1 u) (fun x1 => zbind (zld u 2 12 a1) (fun x3 => (if x3 = 2 then
some (x1 + a2)
else
if x3 = 3 then
some x1
else
if x3 = 4 then
some x1
else
if x3 = 5 then
some (x1 - 10)
else
if x3 = 6 then
some (x1 + (2 * a2))
else
some x1)))
set_option maxHeartbeats 4000000 in
set_option maxRecDepth 100000 in
theorem c_X4_widthAtBribe (a1 : Int32) (a2 : Int32)   (u : zM) (r : Int32) (h : m_X4_widthAtBribe a1 a2 u = some r) : zCt 2 yX4_widthAtBribe cX4_widthAtBribe 4 (some .int) (fun E => [.ref (zad E 1), .int a1, .int a2]) u (fun _ => some (.int r)) u := by
  refine zCt.of (by decide +kernel) (fun E => Nat.le_of_ble_eq_true rfl) (fun X hX hR => ?_)
  have hX : zGood X RX4 cX4_widthAtBribe 4 2 := hX
  show zG X u 0 [(0, .ref (zad X.1 1)), (1, .int a1), (2, .int a2)] []
  unfold m_X4_widthAtBribe at h
  refine r_aload_n hX dX4_widthAtBribe_0 0 rfl rfl ?_
  refine r_iload_n hX dX4_widthAtBribe_1 1 rfl rfl ?_
  refine r_iconst (v := 1) hX dX4_widthAtBribe_2 (by decide) ?_
  obtain ⟨x1, e2, h⟩ := zbind_elim h
  refine r_callV (As := [.int a1, .int 1]) (rest := []) (st1 := [.int x1]) hX dX4_widthAtBribe_3 lv_RX4_70 (c_X4_inchesOf a1 1  u _ e2) (by decide) rfl rfl (zRecv.of (q := 1) (ci := 4) rfl rfl) rfl (Nat.le_of_ble_eq_true rfl) rfl ?_
  refine r_istore_n (y := x1) (L' := [(3, .int x1), (0, .ref (zad X.1 1)), (1, .int a1), (2, .int a2)]) hX dX4_widthAtBribe_6 rfl (by decide) rfl rfl ?_
  refine r_aload_n hX dX4_widthAtBribe_7 1 rfl rfl ?_
  refine r_getR hX dX4_widthAtBribe_8 f_RX4_9 zr_1_0 ?_
  refine r_iload_n hX dX4_widthAtBribe_11 2 rfl rfl ?_
  obtain ⟨x3, e4, h⟩ := zbind_elim h
  refine r_iald hX dX4_widthAtBribe_12 rfl e4 ?_
  by_cases c5 : x3 = 2
  · have h := (if_pos c5).symm.trans h
    refine r_tsIn (v := 2) (off := 35) (tgt := 48) hX dX4_widthAtBribe_13 c5 (by decide) (by decide) (by decide +kernel) (by decide) ?_
    refine r_iload_n hX dX4_widthAtBribe_48 0 rfl rfl ?_
    refine r_iload_n hX dX4_widthAtBribe_49 3 rfl rfl ?_
    refine r_iadd hX dX4_widthAtBribe_50 ?_
    obtain rfl := Option.some.inj h
    exact r_iret hX hR dX4_widthAtBribe_51
  have h := (if_neg c5).symm.trans h
  by_cases c6 : x3 = 3
  · have h := (if_pos c6).symm.trans h
    refine r_tsIn (v := 3) (off := 50) (tgt := 63) hX dX4_widthAtBribe_13 c6 (by decide) (by decide) (by decide +kernel) (by decide) ?_
    refine r_iload_n hX dX4_widthAtBribe_63 0 rfl rfl ?_
    obtain rfl := Option.some.inj h
    exact r_iret hX hR dX4_widthAtBribe_64
  have h := (if_neg c6).symm.trans h
  by_cases c7 : x3 = 4
  · have h := (if_pos c7).symm.trans h
    refine r_tsIn (v := 4) (off := 50) (tgt := 63) hX dX4_widthAtBribe_13 c7 (by decide) (by decide) (by decide +kernel) (by decide) ?_
    refine r_iload_n hX dX4_widthAtBribe_63 0 rfl rfl ?_
    obtain rfl := Option.some.inj h
    exact r_iret hX hR dX4_widthAtBribe_64
  have h := (if_neg c7).symm.trans h
  by_cases c8 : x3 = 5
  · have h := (if_pos c8).symm.trans h
    refine r_tsIn (v := 5) (off := 45) (tgt := 58) hX dX4_widthAtBribe_13 c8 (by decide) (by decide) (by decide +kernel) (by decide) ?_
    refine r_iload_n hX dX4_widthAtBribe_58 0 rfl rfl ?_
    refine r_bipush (v := 10) hX dX4_widthAtBribe_59 (by decide) ?_
    refine r_isub hX dX4_widthAtBribe_61 ?_
    obtain rfl := Option.some.inj h
    exact r_iret hX hR dX4_widthAtBribe_62
  have h := (if_neg c8).symm.trans h
  by_cases c9 : x3 = 6
  · have h := (if_pos c9).symm.trans h
    refine r_tsIn (v := 6) (off := 39) (tgt := 52) hX dX4_widthAtBribe_13 c9 (by decide) (by decide) (by decide +kernel) (by decide) ?_
    refine r_iload_n hX dX4_widthAtBribe_52 0 rfl rfl ?_
    refine r_iconst (v := 2) hX dX4_widthAtBribe_53 (by decide) ?_
    refine r_iload_n hX dX4_widthAtBribe_54 3 rfl rfl ?_
    refine r_imul hX dX4_widthAtBribe_55 ?_
    refine r_iadd hX dX4_widthAtBribe_56 ?_
    obtain rfl := Option.some.inj h
    exact r_iret hX hR dX4_widthAtBribe_57
  have h := (if_neg c9).symm.trans h
  refine r_tsOut (tgt := 63) hX dX4_widthAtBribe_13 (by first | exact zts_out x3 2 (by decide) 5 (by decide) (fun k hk => match k, hk with | 0, _ => c5 | 1, _ => c6 | 2, _ => c7 | 3, _ => c8 | 4, _ => c9 | k + 5, hk => absurd hk (by omega))) (by decide) ?_
  refine r_iload_n hX dX4_widthAtBribe_63 0 rfl rfl ?_
  obtain rfl := Option.some.inj h
  exact r_iret hX hR dX4_widthAtBribe_64
theorem dX5_isUnder_0 : decode cX5_isUnder 0 = .ok (.iload_n 0, 1) := by decide +kernel
theorem dX5_isUnder_1 : decode cX5_isUnder 1 = .ok (.istore_n 2, 1) := by decide +kernel
theorem dX5_isUnder_2 : decode cX5_isUnder 2 = .ok (.iconst 0, 1) := by decide +kernel
theorem dX5_isUnder_3 : decode cX5_isUnder 3 = .ok (.istore_n 3, 1) := by decide +kernel
theorem dX5_isUnder_4 : decode cX5_isUnder 4 = .ok (.iload_n 3, 1) := by decide +kernel
theorem dX5_isUnder_5 : decode cX5_isUnder 5 = .ok (.bipush 6, 2) := by decide +kernel
theorem dX5_isUnder_7 : decode cX5_isUnder 7 = .ok (.if_icmp .gt 29, 3) := by decide +kernel
theorem dX5_isUnder_10 : decode cX5_isUnder 10 = .ok (.iload_n 2, 1) := by decide +kernel
theorem dX5_isUnder_11 : decode cX5_isUnder 11 = .ok (.invokestatic 61, 3) := by decide +kernel
theorem dX5_isUnder_14 : decode cX5_isUnder 14 = .ok (.ifCond .eq 22, 3) := by decide +kernel
theorem dX5_isUnder_17 : decode cX5_isUnder 17 = .ok (.iload_n 2, 1) := by decide +kernel
theorem dX5_isUnder_18 : decode cX5_isUnder 18 = .ok (.iload_n 1, 1) := by decide +kernel
theorem dX5_isUnder_19 : decode cX5_isUnder 19 = .ok (.if_icmp .ne 5, 3) := by decide +kernel
theorem dX5_isUnder_22 : decode cX5_isUnder 22 = .ok (.iconst 1, 1) := by decide +kernel
theorem dX5_isUnder_23 : decode cX5_isUnder 23 = .ok (.ireturn, 1) := by decide +kernel
theorem dX5_isUnder_24 : decode cX5_isUnder 24 = .ok (.getstatic 280, 3) := by decide +kernel
theorem dX5_isUnder_27 : decode cX5_isUnder 27 = .ok (.iload_n 2, 1) := by decide +kernel
theorem dX5_isUnder_28 : decode cX5_isUnder 28 = .ok (.iaload, 1) := by decide +kernel
theorem dX5_isUnder_29 : decode cX5_isUnder 29 = .ok (.istore_n 2, 1) := by decide +kernel
theorem dX5_isUnder_30 : decode cX5_isUnder 30 = .ok (.iinc 3 1, 3) := by decide +kernel
theorem dX5_isUnder_33 : decode cX5_isUnder 33 = .ok (.goto (-29), 3) := by decide +kernel
theorem dX5_isUnder_36 : decode cX5_isUnder 36 = .ok (.iconst 0, 1) := by decide +kernel
theorem dX5_isUnder_37 : decode cX5_isUnder 37 = .ok (.ireturn, 1) := by decide +kernel
def m_X5_isUnder_b0 (a2 : Int32) (x1 : Int32) (x2 : Int32) : Option ((Int32 × Int32) ⊕ (Int32)) :=
  (if 6 < x2 then
some (.inr 0)
else
(if (m_X5_isKind x1) = 0 then
some (.inr 0)
else
(if x1 = a2 then
some (.inr 1)
else
zbind (zka x1) (fun x6 => some (.inl (x6, (x2 + 1)))))))
def m_X5_isUnder (a1 : Int32) (a2 : Int32) : Option (Int32) :=
  zit zF (fun s : Int32 × Int32 => m_X5_isUnder_b0 a2 s.1 s.2) (a1, 0)
set_option maxHeartbeats 4000000 in
set_option maxRecDepth 100000 in
theorem c_X5_isUnder (a1 : Int32) (a2 : Int32)   (u : zM) (r : Int32) (h : m_X5_isUnder a1 a2 = some r) : zCt 3 yX5_isUnder cX5_isUnder 4 (some .boolean) (fun E => [.int a1, .int a2]) u (fun _ => some (.int r)) u := by
  refine zCt.of (by decide +kernel) (fun E => Nat.le_of_ble_eq_true rfl) (fun X hX hR => ?_)
  have hX : zGood X RX5 cX5_isUnder 4 3 := hX
  show zG X u 0 [(0, .int a1), (1, .int a2)] []
  unfold m_X5_isUnder at h
  refine r_iload_n hX dX5_isUnder_0 0 rfl rfl ?_
  refine r_istore_n (y := a1) (L' := [(2, .int a1), (0, .int a1), (1, .int a2)]) hX dX5_isUnder_1 rfl (by decide) rfl rfl ?_
  refine r_iconst (v := 0) hX dX5_isUnder_2 (by decide) ?_
  refine r_istore_n (y := 0) (L' := [(3, .int 0), (2, .int a1), (0, .int a1), (1, .int a2)]) hX dX5_isUnder_3 rfl (by decide) rfl rfl ?_
  refine r_sub [3, 1, 0] (L' := [(1, .int a2), (2, .int a1), (3, .int 0)]) rfl ?_
  refine zit_walk (P := fun s0 : Int32 × Int32 => zG X u 4 [(1, .int a2), (2, .int (s0.1)), (3, .int (s0.2))] []) ?_ zF _ h
  clear h
  intro s0 y0 h0b hin0 hout0
  obtain ⟨x1, x2⟩ := s0
  have h0b : m_X5_isUnder_b0 a2 x1 x2 = some y0 := h0b
  unfold m_X5_isUnder_b0 at h0b
  show zG X u 4 [(1, .int a2), (2, .int x1), (3, .int x2)] []
  refine r_iload_n hX dX5_isUnder_4 2 rfl rfl ?_
  refine r_bipush (v := 6) hX dX5_isUnder_5 (by decide) ?_
  refine r_icmp_gt (tgt := 36) hX dX5_isUnder_7 (by decide) (fun c3 => ?_) (fun c3 => ?_)
  · have h0b := (if_pos c3).symm.trans h0b
    refine r_iconst (v := 0) hX dX5_isUnder_36 (by decide) ?_
    have h0b := hout0 _ (Option.some.inj h0b).symm
    obtain rfl := h0b
    exact r_zret0 hX hR dX5_isUnder_37
  · have h0b := (if_neg c3).symm.trans h0b
    refine r_iload_n hX dX5_isUnder_10 1 rfl rfl ?_
    refine r_callS (As := [.int x1]) (rest := []) (st1 := [.int (m_X5_isKind x1)]) hX dX5_isUnder_11 ls_RX5_61 (c_X5_isKind x1  u _ rfl) (by decide) rfl rfl rfl (Nat.le_of_ble_eq_true rfl) rfl ?_
    refine r_if_eq (tgt := 36) hX dX5_isUnder_14 (by decide) (fun c4 => ?_) (fun c4 => ?_)
    · have h0b := (if_pos c4).symm.trans h0b
      refine r_iconst (v := 0) hX dX5_isUnder_36 (by decide) ?_
      have h0b := hout0 _ (Option.some.inj h0b).symm
      obtain rfl := h0b
      exact r_zret0 hX hR dX5_isUnder_37
    · have h0b := (if_neg c4).symm.trans h0b
      refine r_iload_n hX dX5_isUnder_17 1 rfl rfl ?_
      refine r_iload_n hX dX5_isUnder_18 0 rfl rfl ?_
      refine r_icmp_ne (tgt := 24) hX dX5_isUnder_19 (by decide) (fun c5 => ?_) (fun c5 => ?_)
      · have h0b := (if_neg c5).symm.trans h0b
        refine r_gsK hX dX5_isUnder_24 (zT_in 359 (by decide +kernel) rfl) ?_
        refine r_iload_n hX dX5_isUnder_27 1 rfl rfl ?_
        obtain ⟨x6, e7, h0b⟩ := zbind_elim h0b
        refine r_aldA hX dX5_isUnder_28 e7 ?_
        refine r_istore_n (y := x6) (L' := [(2, .int x6), (1, .int a2), (3, .int x2)]) hX dX5_isUnder_29 rfl (by decide) rfl rfl ?_
        refine r_iinc (v := (x2 + 1)) (L' := [(3, .int (x2 + 1)), (2, .int x6), (1, .int a2)]) hX dX5_isUnder_30 (by decide) 2 rfl rfl rfl ?_
        refine r_goto (tgt := 4) hX dX5_isUnder_33 (by decide) ?_
        refine r_sub [2, 1, 0] (L' := [(1, .int a2), (2, .int x6), (3, .int (x2 + 1))]) rfl ?_
        exact hin0 _ (Option.some.inj h0b).symm
      · have h0b := (if_pos c5).symm.trans h0b
        refine r_iconst (v := 1) hX dX5_isUnder_22 (by decide) ?_
        have h0b := hout0 _ (Option.some.inj h0b).symm
        obtain rfl := h0b
        exact r_zret1 hX hR dX5_isUnder_23
theorem dX4_measuredOf_0 : decode cX4_measuredOf 0 = .ok (.iload_n 2, 1) := by decide +kernel
theorem dX4_measuredOf_1 : decode cX4_measuredOf 1 = .ok (.iconst 1, 1) := by decide +kernel
theorem dX4_measuredOf_2 : decode cX4_measuredOf 2 = .ok (.if_icmp .ne 15, 3) := by decide +kernel
theorem dX4_measuredOf_5 : decode cX4_measuredOf 5 = .ok (.aload_n 0, 1) := by decide +kernel
theorem dX4_measuredOf_6 : decode cX4_measuredOf 6 = .ok (.iload_n 1, 1) := by decide +kernel
theorem dX4_measuredOf_7 : decode cX4_measuredOf 7 = .ok (.aload_n 0, 1) := by decide +kernel
theorem dX4_measuredOf_8 : decode cX4_measuredOf 8 = .ok (.getfield 18, 3) := by decide +kernel
theorem dX4_measuredOf_11 : decode cX4_measuredOf 11 = .ok (.iload_n 1, 1) := by decide +kernel
theorem dX4_measuredOf_12 : decode cX4_measuredOf 12 = .ok (.iaload, 1) := by decide +kernel
theorem dX4_measuredOf_13 : decode cX4_measuredOf 13 = .ok (.invokevirtual 91, 3) := by decide +kernel
theorem dX4_measuredOf_16 : decode cX4_measuredOf 16 = .ok (.ireturn, 1) := by decide +kernel
theorem dX4_measuredOf_17 : decode cX4_measuredOf 17 = .ok (.iload_n 2, 1) := by decide +kernel
theorem dX4_measuredOf_18 : decode cX4_measuredOf 18 = .ok (.ifCond .ne 20, 3) := by decide +kernel
theorem dX4_measuredOf_21 : decode cX4_measuredOf 21 = .ok (.aload_n 0, 1) := by decide +kernel
theorem dX4_measuredOf_22 : decode cX4_measuredOf 22 = .ok (.getfield 9, 3) := by decide +kernel
theorem dX4_measuredOf_25 : decode cX4_measuredOf 25 = .ok (.iload_n 1, 1) := by decide +kernel
theorem dX4_measuredOf_26 : decode cX4_measuredOf 26 = .ok (.iaload, 1) := by decide +kernel
theorem dX4_measuredOf_27 : decode cX4_measuredOf 27 = .ok (.iconst 1, 1) := by decide +kernel
theorem dX4_measuredOf_28 : decode cX4_measuredOf 28 = .ok (.invokestatic 88, 3) := by decide +kernel
theorem dX4_measuredOf_31 : decode cX4_measuredOf 31 = .ok (.ifCond .eq 7, 3) := by decide +kernel
theorem dX4_measuredOf_34 : decode cX4_measuredOf 34 = .ok (.iconst 2, 1) := by decide +kernel
theorem dX4_measuredOf_35 : decode cX4_measuredOf 35 = .ok (.goto 4, 3) := by decide +kernel
theorem dX4_measuredOf_38 : decode cX4_measuredOf 38 = .ok (.iconst 0, 1) := by decide +kernel
theorem dX4_measuredOf_39 : decode cX4_measuredOf 39 = .ok (.istore_n 3, 1) := by decide +kernel
theorem dX4_measuredOf_40 : decode cX4_measuredOf 40 = .ok (.aload_n 0, 1) := by decide +kernel
theorem dX4_measuredOf_41 : decode cX4_measuredOf 41 = .ok (.iload_n 1, 1) := by decide +kernel
theorem dX4_measuredOf_42 : decode cX4_measuredOf 42 = .ok (.iload_n 2, 1) := by decide +kernel
theorem dX4_measuredOf_43 : decode cX4_measuredOf 43 = .ok (.invokevirtual 70, 3) := by decide +kernel
theorem dX4_measuredOf_46 : decode cX4_measuredOf 46 = .ok (.iload_n 3, 1) := by decide +kernel
theorem dX4_measuredOf_47 : decode cX4_measuredOf 47 = .ok (.iadd, 1) := by decide +kernel
theorem dX4_measuredOf_48 : decode cX4_measuredOf 48 = .ok (.ireturn, 1) := by decide +kernel
def m_X4_measuredOf (a1 : Int32) (a2 : Int32) (u : zM) : Option (Int32) :=
  (if a2 = 1 then
zbind (zld u 4 12 a1) (fun x14 => zbind (m_X4_widthAtBribe a1 x14 u) (fun x16 => some x16))
else
(if a2 = 0 then
zbind (zld u 2 12 a1) (fun x5 => zbind (m_X5_isUnder x5 1) (fun x7 => (if x7 = 0 then
zbind (m_X4_inchesOf a1 a2 u) (fun x10 => some (x10 + 0))
else
zbind (m_X4_inchesOf a1 a2 u) (fun x12 => some (x12 + 2)))))
else
zbind (m_X4_inchesOf a1 a2 u) (fun x3 => some (x3 + 0))))
set_option maxHeartbeats 4000000 in
set_option maxRecDepth 100000 in
theorem c_X4_measuredOf (a1 : Int32) (a2 : Int32)   (u : zM) (r : Int32) (h : m_X4_measuredOf a1 a2 u = some r) : zCt 4 yX4_measuredOf cX4_measuredOf 4 (some .int) (fun E => [.ref (zad E 1), .int a1, .int a2]) u (fun _ => some (.int r)) u := by
  refine zCt.of (by decide +kernel) (fun E => Nat.le_of_ble_eq_true rfl) (fun X hX hR => ?_)
  have hX : zGood X RX4 cX4_measuredOf 4 4 := hX
  show zG X u 0 [(0, .ref (zad X.1 1)), (1, .int a1), (2, .int a2)] []
  unfold m_X4_measuredOf at h
  refine r_iload_n hX dX4_measuredOf_0 2 rfl rfl ?_
  refine r_iconst (v := 1) hX dX4_measuredOf_1 (by decide) ?_
  refine r_icmp_ne (tgt := 17) hX dX4_measuredOf_2 (by decide) (fun c1 => ?_) (fun c1 => ?_)
  · have h := (if_neg c1).symm.trans h
    refine r_iload_n hX dX4_measuredOf_17 2 rfl rfl ?_
    refine r_if_ne (tgt := 38) hX dX4_measuredOf_18 (by decide) (fun c2 => ?_) (fun c2 => ?_)
    · have h := (if_neg c2).symm.trans h
      refine r_iconst (v := 0) hX dX4_measuredOf_38 (by decide) ?_
      refine r_istore_n (y := 0) (L' := [(3, .int 0), (0, .ref (zad X.1 1)), (1, .int a1), (2, .int a2)]) hX dX4_measuredOf_39 rfl (by decide) rfl rfl ?_
      refine r_aload_n hX dX4_measuredOf_40 1 rfl rfl ?_
      refine r_iload_n hX dX4_measuredOf_41 2 rfl rfl ?_
      refine r_iload_n hX dX4_measuredOf_42 3 rfl rfl ?_
      obtain ⟨x3, e4, h⟩ := zbind_elim h
      refine r_callV (As := [.int a1, .int a2]) (rest := []) (st1 := [.int x3]) hX dX4_measuredOf_43 lv_RX4_70 (c_X4_inchesOf a1 a2  u _ e4) (by decide) rfl rfl (zRecv.of (q := 1) (ci := 4) rfl rfl) rfl (Nat.le_of_ble_eq_true rfl) rfl ?_
      refine r_iload_n hX dX4_measuredOf_46 0 rfl rfl ?_
      refine r_iadd hX dX4_measuredOf_47 ?_
      obtain rfl := Option.some.inj h
      exact r_iret hX hR dX4_measuredOf_48
    · have h := (if_pos c2).symm.trans h
      refine r_aload_n hX dX4_measuredOf_21 0 rfl rfl ?_
      refine r_getR hX dX4_measuredOf_22 f_RX4_9 zr_1_0 ?_
      refine r_iload_n hX dX4_measuredOf_25 1 rfl rfl ?_
      obtain ⟨x5, e6, h⟩ := zbind_elim h
      refine r_iald hX dX4_measuredOf_26 rfl e6 ?_
      refine r_iconst (v := 1) hX dX4_measuredOf_27 (by decide) ?_
      obtain ⟨x7, e8, h⟩ := zbind_elim h
      refine r_callS (As := [.int x5, .int 1]) (rest := []) (st1 := [.int x7]) hX dX4_measuredOf_28 ls_RX4_88 (c_X5_isUnder x5 1  u _ e8) (by decide) rfl rfl rfl (Nat.le_of_ble_eq_true rfl) rfl ?_
      refine r_if_eq (tgt := 38) hX dX4_measuredOf_31 (by decide) (fun c9 => ?_) (fun c9 => ?_)
      · have h := (if_pos c9).symm.trans h
        refine r_iconst (v := 0) hX dX4_measuredOf_38 (by decide) ?_
        refine r_istore_n (y := 0) (L' := [(3, .int 0), (0, .ref (zad X.1 1)), (1, .int a1), (2, .int a2)]) hX dX4_measuredOf_39 rfl (by decide) rfl rfl ?_
        refine r_aload_n hX dX4_measuredOf_40 1 rfl rfl ?_
        refine r_iload_n hX dX4_measuredOf_41 2 rfl rfl ?_
        refine r_iload_n hX dX4_measuredOf_42 3 rfl rfl ?_
        obtain ⟨x10, e11, h⟩ := zbind_elim h
        refine r_callV (As := [.int a1, .int a2]) (rest := []) (st1 := [.int x10]) hX dX4_measuredOf_43 lv_RX4_70 (c_X4_inchesOf a1 a2  u _ e11) (by decide) rfl rfl (zRecv.of (q := 1) (ci := 4) rfl rfl) rfl (Nat.le_of_ble_eq_true rfl) rfl ?_
        refine r_iload_n hX dX4_measuredOf_46 0 rfl rfl ?_
        refine r_iadd hX dX4_measuredOf_47 ?_
        obtain rfl := Option.some.inj h
        exact r_iret hX hR dX4_measuredOf_48
      · have h := (if_neg c9).symm.trans h
        refine r_iconst (v := 2) hX dX4_measuredOf_34 (by decide) ?_
        refine r_goto (tgt := 39) hX dX4_measuredOf_35 (by decide) ?_
        refine r_istore_n (y := 2) (L' := [(3, .int 2), (0, .ref (zad X.1 1)), (1, .int a1), (2, .int a2)]) hX dX4_measuredOf_39 rfl (by decide) rfl rfl ?_
        refine r_aload_n hX dX4_measuredOf_40 1 rfl rfl ?_
        refine r_iload_n hX dX4_measuredOf_41 2 rfl rfl ?_
        refine r_iload_n hX dX4_measuredOf_42 3 rfl rfl ?_
        obtain ⟨x12, e13, h⟩ := zbind_elim h
        refine r_callV (As := [.int a1, .int a2]) (rest := []) (st1 := [.int x12]) hX dX4_measuredOf_43 lv_RX4_70 (c_X4_inchesOf a1 a2  u _ e13) (by decide) rfl rfl (zRecv.of (q := 1) (ci := 4) rfl rfl) rfl (Nat.le_of_ble_eq_true rfl) rfl ?_
        refine r_iload_n hX dX4_measuredOf_46 0 rfl rfl ?_
        refine r_iadd hX dX4_measuredOf_47 ?_
        obtain rfl := Option.some.inj h
        exact r_iret hX hR dX4_measuredOf_48
  · have h := (if_pos c1).symm.trans h
    refine r_aload_n hX dX4_measuredOf_5 0 rfl rfl ?_
    refine r_iload_n hX dX4_measuredOf_6 1 rfl rfl ?_
    refine r_aload_n hX dX4_measuredOf_7 0 rfl rfl ?_
    refine r_getR hX dX4_measuredOf_8 f_RX4_18 zr_1_2 ?_
    refine r_iload_n hX dX4_measuredOf_11 1 rfl rfl ?_
    obtain ⟨x14, e15, h⟩ := zbind_elim h
    refine r_iald hX dX4_measuredOf_12 rfl e15 ?_
    obtain ⟨x16, e17, h⟩ := zbind_elim h
    refine r_callV (As := [.int a1, .int x14]) (rest := []) (st1 := [.int x16]) hX dX4_measuredOf_13 lv_RX4_91 (c_X4_widthAtBribe a1 x14  u _ e17) (by decide) rfl rfl (zRecv.of (q := 1) (ci := 4) rfl rfl) rfl (Nat.le_of_ble_eq_true rfl) rfl ?_
    obtain rfl := Option.some.inj h
    exact r_iret hX hR dX4_measuredOf_16
theorem dX4_timesOf_0 : decode cX4_timesOf 0 = .ok (.aload_n 0, 1) := by decide +kernel
theorem dX4_timesOf_1 : decode cX4_timesOf 1 = .ok (.getfield 9, 3) := by decide +kernel
theorem dX4_timesOf_4 : decode cX4_timesOf 4 = .ok (.iload_n 1, 1) := by decide +kernel
theorem dX4_timesOf_5 : decode cX4_timesOf 5 = .ok (.iaload, 1) := by decide +kernel
theorem dX4_timesOf_6 : decode cX4_timesOf 6 = .ok (.lookupswitch 30 #[(3, 26), (4, 28)], 26) := by decide +kernel
theorem dX4_timesOf_32 : decode cX4_timesOf 32 = .ok (.iconst 2, 1) := by decide +kernel
theorem dX4_timesOf_33 : decode cX4_timesOf 33 = .ok (.ireturn, 1) := by decide +kernel
theorem dX4_timesOf_34 : decode cX4_timesOf 34 = .ok (.iconst 3, 1) := by decide +kernel
theorem dX4_timesOf_35 : decode cX4_timesOf 35 = .ok (.ireturn, 1) := by decide +kernel
theorem dX4_timesOf_36 : decode cX4_timesOf 36 = .ok (.iconst 1, 1) := by decide +kernel
theorem dX4_timesOf_37 : decode cX4_timesOf 37 = .ok (.ireturn, 1) := by decide +kernel
def m_X4_timesOf (a1 : Int32) (u : zM) : Option (Int32) :=
  zbind (zld u 2 12 a1) (fun x1 => (if x1 = 3 then
some 2
else
if x1 = 4 then
some 3
else
some 1))
set_option maxHeartbeats 4000000 in
set_option maxRecDepth 100000 in
theorem c_X4_timesOf (a1 : Int32)   (u : zM) (r : Int32) (h : m_X4_timesOf a1 u = some r) : zCt 1 yX4_timesOf cX4_timesOf 2 (some .int) (fun E => [.ref (zad E 1), .int a1]) u (fun _ => some (.int r)) u := by
  refine zCt.of (by decide +kernel) (fun E => Nat.le_of_ble_eq_true rfl) (fun X hX hR => ?_)
  have hX : zGood X RX4 cX4_timesOf 2 1 := hX
  show zG X u 0 [(0, .ref (zad X.1 1)), (1, .int a1)] []
  unfold m_X4_timesOf at h
  refine r_aload_n hX dX4_timesOf_0 0 rfl rfl ?_
  refine r_getR hX dX4_timesOf_1 f_RX4_9 zr_1_0 ?_
  refine r_iload_n hX dX4_timesOf_4 1 rfl rfl ?_
  obtain ⟨x1, e2, h⟩ := zbind_elim h
  refine r_iald hX dX4_timesOf_5 rfl e2 ?_
  by_cases c3 : x1 = 3
  · have h := (if_pos c3).symm.trans h
    refine r_ls (off := 26) (tgt := 32) hX dX4_timesOf_6 (by decide) (by rw [c3]; decide +kernel) (by decide) ?_
    refine r_iconst (v := 2) hX dX4_timesOf_32 (by decide) ?_
    obtain rfl := Option.some.inj h
    exact r_iret hX hR dX4_timesOf_33
  have h := (if_neg c3).symm.trans h
  by_cases c4 : x1 = 4
  · have h := (if_pos c4).symm.trans h
    refine r_ls (off := 28) (tgt := 34) hX dX4_timesOf_6 (by decide) (by rw [c4]; decide +kernel) (by decide) ?_
    refine r_iconst (v := 3) hX dX4_timesOf_34 (by decide) ?_
    obtain rfl := Option.some.inj h
    exact r_iret hX hR dX4_timesOf_35
  have h := (if_neg c4).symm.trans h
  refine r_ls (off := 30) (tgt := 36) hX dX4_timesOf_6 (by decide) (zls_out x1 _ _ (fun q hq => by simp only [List.mem_cons, List.not_mem_nil, or_false] at hq; rcases hq with rfl | rfl <;> first | exact zi_ne c3 rfl | exact zi_ne c4 rfl)) (by decide) ?_
  refine r_iconst (v := 1) hX dX4_timesOf_36 (by decide) ?_
  obtain rfl := Option.some.inj h
  exact r_iret hX hR dX4_timesOf_37
theorem dX5_holds_0 : decode cX5_holds 0 = .ok (.iload_n 0, 1) := by decide +kernel
theorem dX5_holds_1 : decode cX5_holds 1 = .ok (.iload_n 1, 1) := by decide +kernel
theorem dX5_holds_2 : decode cX5_holds 2 = .ok (.ishr, 1) := by decide +kernel
theorem dX5_holds_3 : decode cX5_holds 3 = .ok (.iconst 1, 1) := by decide +kernel
theorem dX5_holds_4 : decode cX5_holds 4 = .ok (.iand, 1) := by decide +kernel
theorem dX5_holds_5 : decode cX5_holds 5 = .ok (.ifCond .eq 7, 3) := by decide +kernel
theorem dX5_holds_8 : decode cX5_holds 8 = .ok (.iconst 1, 1) := by decide +kernel
theorem dX5_holds_9 : decode cX5_holds 9 = .ok (.goto 4, 3) := by decide +kernel
theorem dX5_holds_12 : decode cX5_holds 12 = .ok (.iconst 0, 1) := by decide +kernel
theorem dX5_holds_13 : decode cX5_holds 13 = .ok (.ireturn, 1) := by decide +kernel
def m_X5_holds (a1 : Int32) (a2 : Int32) : Int32 :=
  (if ((zshr a1 a2) &&& 1) = 0 then
0
else
1)
set_option maxHeartbeats 4000000 in
set_option maxRecDepth 100000 in
theorem c_X5_holds (a1 : Int32) (a2 : Int32)   (u : zM) (r : Int32) (h : m_X5_holds a1 a2 = r) : zCt 1 yX5_holds cX5_holds 2 (some .boolean) (fun E => [.int a1, .int a2]) u (fun _ => some (.int r)) u := by
  refine zCt.of (by decide +kernel) (fun E => Nat.le_of_ble_eq_true rfl) (fun X hX hR => ?_)
  have hX : zGood X RX5 cX5_holds 2 1 := hX
  show zG X u 0 [(0, .int a1), (1, .int a2)] []
  unfold m_X5_holds at h
  refine r_iload_n hX dX5_holds_0 0 rfl rfl ?_
  refine r_iload_n hX dX5_holds_1 1 rfl rfl ?_
  refine r_ishr hX dX5_holds_2 ?_
  refine r_iconst (v := 1) hX dX5_holds_3 (by decide) ?_
  refine r_iand hX dX5_holds_4 ?_
  refine r_if_eq (tgt := 12) hX dX5_holds_5 (by decide) (fun c1 => ?_) (fun c1 => ?_)
  · have h := (if_pos c1).symm.trans h
    refine r_iconst (v := 0) hX dX5_holds_12 (by decide) ?_
    obtain rfl := h
    exact r_zret0 hX hR dX5_holds_13
  · have h := (if_neg c1).symm.trans h
    refine r_iconst (v := 1) hX dX5_holds_8 (by decide) ?_
    refine r_goto (tgt := 13) hX dX5_holds_9 (by decide) ?_
    obtain rfl := h
    exact r_zret1 hX hR dX5_holds_13
theorem dX4_isHere_0 : decode cX4_isHere 0 = .ok (.aload_n 0, 1) := by decide +kernel
theorem dX4_isHere_1 : decode cX4_isHere 1 = .ok (.getfield 34, 3) := by decide +kernel
theorem dX4_isHere_4 : decode cX4_isHere 4 = .ok (.iload_n 1, 1) := by decide +kernel
theorem dX4_isHere_5 : decode cX4_isHere 5 = .ok (.invokestatic 84, 3) := by decide +kernel
theorem dX4_isHere_8 : decode cX4_isHere 8 = .ok (.ireturn, 1) := by decide +kernel
def m_X4_isHere (a1 : Int32) (u : zM) : Int32 :=
  (zb (m_X5_holds (u 1 7) a1))
set_option maxHeartbeats 4000000 in
set_option maxRecDepth 100000 in
theorem c_X4_isHere (a1 : Int32)   (u : zM) (r : Int32) (h : m_X4_isHere a1 u = r) : zCt 2 yX4_isHere cX4_isHere 2 (some .boolean) (fun E => [.ref (zad E 1), .int a1]) u (fun _ => some (.int r)) u := by
  refine zCt.of (by decide +kernel) (fun E => Nat.le_of_ble_eq_true rfl) (fun X hX hR => ?_)
  have hX : zGood X RX4 cX4_isHere 2 2 := hX
  show zG X u 0 [(0, .ref (zad X.1 1)), (1, .int a1)] []
  unfold m_X4_isHere at h
  refine r_aload_n hX dX4_isHere_0 0 rfl rfl ?_
  refine r_getI hX dX4_isHere_1 f_RX4_34 zi_1_7 ?_
  refine r_iload_n hX dX4_isHere_4 1 rfl rfl ?_
  refine r_callS (As := [.int (u 1 7), .int a1]) (rest := []) (st1 := [.int (m_X5_holds (u 1 7) a1)]) hX dX4_isHere_5 ls_RX4_84 (c_X5_holds (u 1 7) a1  u _ rfl) (by decide) rfl rfl rfl (Nat.le_of_ble_eq_true rfl) rfl ?_
  obtain rfl := h
  exact r_zret hX hR dX4_isHere_8
