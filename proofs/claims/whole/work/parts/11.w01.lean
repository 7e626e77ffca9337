/-! MODELS AND CONTRACTS, by program (wip/whole/gen_all.py): X4_tell, X5_bodyOf, X4_mayBecome, X4_setInches, X4_put, X5_change, X5_here, X5_rule, X5_ease, X5_price -/
theorem dX4_tell_0 : decode cX4_tell 0 = .ok (.iload_n 2, 1) := by decide +kernel
theorem dX4_tell_1 : decode cX4_tell 1 = .ok (.bipush 8, 2) := by decide +kernel
theorem dX4_tell_3 : decode cX4_tell 3 = .ok (.if_icmp .lt 13, 3) := by decide +kernel
theorem dX4_tell_6 : decode cX4_tell 6 = .ok (.aload_n 0, 1) := by decide +kernel
theorem dX4_tell_7 : decode cX4_tell 7 = .ok (.iload_n 1, 1) := by decide +kernel
theorem dX4_tell_8 : decode cX4_tell 8 = .ok (.iload_n 2, 1) := by decide +kernel
theorem dX4_tell_9 : decode cX4_tell 9 = .ok (.bipush 8, 2) := by decide +kernel
theorem dX4_tell_11 : decode cX4_tell 11 = .ok (.isub, 1) := by decide +kernel
theorem dX4_tell_12 : decode cX4_tell 12 = .ok (.invokevirtual 58, 3) := by decide +kernel
theorem dX4_tell_15 : decode cX4_tell 15 = .ok (.ireturn, 1) := by decide +kernel
theorem dX4_tell_16 : decode cX4_tell 16 = .ok (.iload_n 2, 1) := by decide +kernel
theorem dX4_tell_17 : decode cX4_tell 17 = .ok (.tableswitch 88 0 7 #[47, 88, 88, 88, 54, 61, 68, 82], 47) := by decide +kernel
theorem dX4_tell_64 : decode cX4_tell 64 = .ok (.aload_n 0, 1) := by decide +kernel
theorem dX4_tell_65 : decode cX4_tell 65 = .ok (.getfield 9, 3) := by decide +kernel
theorem dX4_tell_68 : decode cX4_tell 68 = .ok (.iload_n 1, 1) := by decide +kernel
theorem dX4_tell_69 : decode cX4_tell 69 = .ok (.iaload, 1) := by decide +kernel
theorem dX4_tell_70 : decode cX4_tell 70 = .ok (.ireturn, 1) := by decide +kernel
theorem dX4_tell_71 : decode cX4_tell 71 = .ok (.aload_n 0, 1) := by decide +kernel
theorem dX4_tell_72 : decode cX4_tell 72 = .ok (.getfield 18, 3) := by decide +kernel
theorem dX4_tell_75 : decode cX4_tell 75 = .ok (.iload_n 1, 1) := by decide +kernel
theorem dX4_tell_76 : decode cX4_tell 76 = .ok (.iaload, 1) := by decide +kernel
theorem dX4_tell_77 : decode cX4_tell 77 = .ok (.ireturn, 1) := by decide +kernel
theorem dX4_tell_78 : decode cX4_tell 78 = .ok (.aload_n 0, 1) := by decide +kernel
theorem dX4_tell_79 : decode cX4_tell 79 = .ok (.getfield 21, 3) := by decide +kernel
theorem dX4_tell_82 : decode cX4_tell 82 = .ok (.iload_n 1, 1) := by decide +kernel
theorem dX4_tell_83 : decode cX4_tell 83 = .ok (.iaload, 1) := by decide +kernel
theorem dX4_tell_84 : decode cX4_tell 84 = .ok (.ireturn, 1) := by decide +kernel
theorem dX4_tell_85 : decode cX4_tell 85 = .ok (.aload_n 0, 1) := by decide +kernel
theorem dX4_tell_86 : decode cX4_tell 86 = .ok (.iload_n 1, 1) := by decide +kernel
theorem dX4_tell_87 : decode cX4_tell 87 = .ok (.invokevirtual 62, 3) := by decide +kernel
theorem dX4_tell_90 : decode cX4_tell 90 = .ok (.ifCond .eq 7, 3) := by decide +kernel
theorem dX4_tell_93 : decode cX4_tell 93 = .ok (.iconst 1, 1) := by decide +kernel
theorem dX4_tell_94 : decode cX4_tell 94 = .ok (.goto 4, 3) := by decide +kernel
theorem dX4_tell_97 : decode cX4_tell 97 = .ok (.iconst 0, 1) := by decide +kernel
theorem dX4_tell_98 : decode cX4_tell 98 = .ok (.ireturn, 1) := by decide +kernel
theorem dX4_tell_99 : decode cX4_tell 99 = .ok (.aload_n 0, 1) := by decide +kernel
theorem dX4_tell_100 : decode cX4_tell 100 = .ok (.iload_n 1, 1) := by decide +kernel
theorem dX4_tell_101 : decode cX4_tell 101 = .ok (.invokevirtual 66, 3) := by decide +kernel
theorem dX4_tell_104 : decode cX4_tell 104 = .ok (.ireturn, 1) := by decide +kernel
theorem dX4_tell_105 : decode cX4_tell 105 = .ok (.aload_n 0, 1) := by decide +kernel
theorem dX4_tell_106 : decode cX4_tell 106 = .ok (.iload_n 1, 1) := by decide +kernel
theorem dX4_tell_107 : decode cX4_tell 107 = .ok (.iload_n 2, 1) := by decide +kernel
theorem dX4_tell_108 : decode cX4_tell 108 = .ok (.iconst 1, 1) := by decide +kernel
theorem dX4_tell_109 : decode cX4_tell 109 = .ok (.isub, 1) := by decide +kernel
theorem dX4_tell_110 : decode cX4_tell 110 = .ok (.invokevirtual 70, 3) := by decide +kernel
theorem dX4_tell_113 : decode cX4_tell 113 = .ok (.ireturn, 1) := by decide +kernel
def m_X4_tell (a1 : Int32) (a2 : Int32) (u : zM) : Option (Int32) :=
  (if a2 < 8 then
(if a2 = 0 then
zbind (zld u 2 12 a1) (fun x3 => some x3)
else
if a2 = 1 then
zbind (m_X4_inchesOf a1 (a2 - 1) u) (fun x6 => some x6)
else
if a2 = 2 then
zbind (m_X4_inchesOf a1 (a2 - 1) u) (fun x9 => some x9)
else
if a2 = 3 then
zbind (m_X4_inchesOf a1 (a2 - 1) u) (fun x12 => some x12)
else
if a2 = 4 then
zbind (zld u 4 12 a1) (fun x15 => some x15)
else
if a2 = 5 then
zbind (zld u 5 12 a1) (fun x18 => some x18)
else
if a2 = 6 then
(if (m_X4_isHere a1 u) = 0 then
some 0
else
some 1)
else
if a2 = 7 then
zbind (m_X4_timesOf a1 u) (fun x23 => some x23)
else
zbind (m_X4_inchesOf a1 (a2 - 1) u) (fun x25 => some x25))
else
zbind (m_X4_measuredOf a1 (a2 - 8) u) (fun x27 => some x27))
set_option maxHeartbeats 4000000 in
set_option maxRecDepth 100000 in
theorem c_X4_tell (a1 : Int32) (a2 : Int32)   (u : zM) (r : Int32) (h : m_X4_tell a1 a2 u = some r) : zCt 5 yX4_tell cX4_tell 3 (some .int) (fun E => [.ref (zad E 1), .int a1, .int a2]) u (fun _ => some (.int r)) u := by
  refine zCt.of (by decide +kernel) (fun E => Nat.le_of_ble_eq_true rfl) (fun X hX hR => ?_)
  have hX : zGood X RX4 cX4_tell 3 5 := hX
  show zG X u 0 [(0, .ref (zad X.1 1)), (1, .int a1), (2, .int a2)] []
  unfold m_X4_tell at h
  refine r_iload_n hX dX4_tell_0 2 rfl rfl ?_
  refine r_bipush (v := 8) hX dX4_tell_1 (by decide) ?_
  refine r_icmp_lt (tgt := 16) hX dX4_tell_3 (by decide) (fun c1 => ?_) (fun c1 => ?_)
  · have h := (if_pos c1).symm.trans h
    refine r_iload_n hX dX4_tell_16 2 rfl rfl ?_
    by_cases c2 : a2 = 0
    · have h := (if_pos c2).symm.trans h
      refine r_tsIn (v := 0) (off := 47) (tgt := 64) hX dX4_tell_17 c2 (by decide) (by decide) (by decide +kernel) (by decide) ?_
      refine r_aload_n hX dX4_tell_64 0 rfl rfl ?_
      refine r_getR hX dX4_tell_65 f_RX4_9 zr_1_0 ?_
      refine r_iload_n hX dX4_tell_68 1 rfl rfl ?_
      obtain ⟨x3, e4, h⟩ := zbind_elim h
      refine r_iald hX dX4_tell_69 rfl e4 ?_
      obtain rfl := Option.some.inj h
      exact r_iret hX hR dX4_tell_70
    have h := (if_neg c2).symm.trans h
    by_cases c5 : a2 = 1
    · have h := (if_pos c5).symm.trans h
      refine r_tsIn (v := 1) (off := 88) (tgt := 105) hX dX4_tell_17 c5 (by decide) (by decide) (by decide +kernel) (by decide) ?_
      refine r_aload_n hX dX4_tell_105 0 rfl rfl ?_
      refine r_iload_n hX dX4_tell_106 1 rfl rfl ?_
      refine r_iload_n hX dX4_tell_107 2 rfl rfl ?_
      refine r_iconst (v := 1) hX dX4_tell_108 (by decide) ?_
      refine r_isub hX dX4_tell_109 ?_
      obtain ⟨x6, e7, h⟩ := zbind_elim h
      refine r_callV (As := [.int a1, .int (a2 - 1)]) (rest := []) (st1 := [.int x6]) hX dX4_tell_110 lv_RX4_70 (c_X4_inchesOf a1 (a2 - 1)  u _ e7) (by decide) rfl rfl (zRecv.of (q := 1) (ci := 4) rfl rfl) rfl (Nat.le_of_ble_eq_true rfl) rfl ?_
      obtain rfl := Option.some.inj h
      exact r_iret hX hR dX4_tell_113
    have h := (if_neg c5).symm.trans h
    by_cases c8 : a2 = 2
    · have h := (if_pos c8).symm.trans h
      refine r_tsIn (v := 2) (off := 88) (tgt := 105) hX dX4_tell_17 c8 (by decide) (by decide) (by decide +kernel) (by decide) ?_
      refine r_aload_n hX dX4_tell_105 0 rfl rfl ?_
      refine r_iload_n hX dX4_tell_106 1 rfl rfl ?_
      refine r_iload_n hX dX4_tell_107 2 rfl rfl ?_
      refine r_iconst (v := 1) hX dX4_tell_108 (by decide) ?_
      refine r_isub hX dX4_tell_109 ?_
      obtain ⟨x9, e10, h⟩ := zbind_elim h
      refine r_callV (As := [.int a1, .int (a2 - 1)]) (rest := []) (st1 := [.int x9]) hX dX4_tell_110 lv_RX4_70 (c_X4_inchesOf a1 (a2 - 1)  u _ e10) (by decide) rfl rfl (zRecv.of (q := 1) (ci := 4) rfl rfl) rfl (Nat.le_of_ble_eq_true rfl) rfl ?_
      obtain rfl := Option.some.inj h
      exact r_iret hX hR dX4_tell_113
    have h := (if_neg c8).symm.trans h
    by_cases c11 : a2 = 3
    · have h := (if_pos c11).symm.trans h
      refine r_tsIn (v := 3) (off := 88) (tgt := 105) hX dX4_tell_17 c11 (by decide) (by decide) (by decide +kernel) (by decide) ?_
      refine r_aload_n hX dX4_tell_105 0 rfl rfl ?_
      refine r_iload_n hX dX4_tell_106 1 rfl rfl ?_
      refine r_iload_n hX dX4_tell_107 2 rfl rfl ?_
      refine r_iconst (v := 1) hX dX4_tell_108 (by decide) ?_
      refine r_isub hX dX4_tell_109 ?_
      obtain ⟨x12, e13, h⟩ := zbind_elim h
      refine r_callV (As := [.int a1, .int (a2 - 1)]) (rest := []) (st1 := [.int x12]) hX dX4_tell_110 lv_RX4_70 (c_X4_inchesOf a1 (a2 - 1)  u _ e13) (by decide) rfl rfl (zRecv.of (q := 1) (ci := 4) rfl rfl) rfl (Nat.le_of_ble_eq_true rfl) rfl ?_
      obtain rfl := Option.some.inj h
      exact r_iret hX hR dX4_tell_113
    have h := (if_neg c11).symm.trans h
    by_cases c14 : a2 = 4
    · have h := (if_pos c14).symm.trans h
      refine r_tsIn (v := 4) (off := 54) (tgt := 71) hX dX4_tell_17 c14 (by decide) (by decide) (by decide +kernel) (by decide) ?_
      refine r_aload_n hX dX4_tell_71 0 rfl rfl ?_
      refine r_getR hX dX4_tell_72 f_RX4_18 zr_1_2 ?_
      refine r_iload_n hX dX4_tell_75 1 rfl rfl ?_
      obtain ⟨x15, e16, h⟩ := zbind_elim h
      refine r_iald hX dX4_tell_76 rfl e16 ?_
      obtain rfl := Option.some.inj h
      exact r_iret hX hR dX4_tell_77
    have h := (if_neg c14).symm.trans h
    by_cases c17 : a2 = 5
    · have h := (if_pos c17).symm.trans h
      refine r_tsIn (v := 5) (off := 61) (tgt := 78) hX dX4_tell_17 c17 (by decide) (by decide) (by decide +kernel) (by decide) ?_
      refine r_aload_n hX dX4_tell_78 0 rfl rfl ?_
      refine r_getR hX dX4_tell_79 f_RX4_21 zr_1_3 ?_
      refine r_iload_n hX dX4_tell_82 1 rfl rfl ?_
      obtain ⟨x18, e19, h⟩ := zbind_elim h
      refine r_iald hX dX4_tell_83 rfl e19 ?_
      obtain rfl := Option.some.inj h
      exact r_iret hX hR dX4_tell_84
    have h := (if_neg c17).symm.trans h
    by_cases c20 : a2 = 6
    · have h := (if_pos c20).symm.trans h
      refine r_tsIn (v := 6) (off := 68) (tgt := 85) hX dX4_tell_17 c20 (by decide) (by decide) (by decide +kernel) (by decide) ?_
      refine r_aload_n hX dX4_tell_85 0 rfl rfl ?_
      refine r_iload_n hX dX4_tell_86 1 rfl rfl ?_
      refine r_callV (As := [.int a1]) (rest := []) (st1 := [.int (m_X4_isHere a1 u)]) hX dX4_tell_87 lv_RX4_62 (c_X4_isHere a1  u _ rfl) (by decide) rfl rfl (zRecv.of (q := 1) (ci := 4) rfl rfl) rfl (Nat.le_of_ble_eq_true rfl) rfl ?_
      refine r_if_eq (tgt := 97) hX dX4_tell_90 (by decide) (fun c21 => ?_) (fun c21 => ?_)
      · have h := (if_pos c21).symm.trans h
        refine r_iconst (v := 0) hX dX4_tell_97 (by decide) ?_
        obtain rfl := Option.some.inj h
        exact r_iret hX hR dX4_tell_98
      · have h := (if_neg c21).symm.trans h
        refine r_iconst (v := 1) hX dX4_tell_93 (by decide) ?_
        refine r_goto (tgt := 98) hX dX4_tell_94 (by decide) ?_
        obtain rfl := Option.some.inj h
        exact r_iret hX hR dX4_tell_98
    have h := (if_neg c20).symm.trans h
    by_cases c22 : a2 = 7
    · have h := (if_pos c22).symm.trans h
      refine r_tsIn (v := 7) (off := 82) (tgt := 99) hX dX4_tell_17 c22 (by decide) (by decide) (by decide +kernel) (by decide) ?_
      refine r_aload_n hX dX4_tell_99 0 rfl rfl ?_
      refine r_iload_n hX dX4_tell_100 1 rfl rfl ?_
      obtain ⟨x23, e24, h⟩ := zbind_elim h
      refine r_callV (As := [.int a1]) (rest := []) (st1 := [.int x23]) hX dX4_tell_101 lv_RX4_66 (c_X4_timesOf a1  u _ e24) (by decide) rfl rfl (zRecv.of (q := 1) (ci := 4) rfl rfl) rfl (Nat.le_of_ble_eq_true rfl) rfl ?_
      obtain rfl := Option.some.inj h
      exact r_iret hX hR dX4_tell_104
    have h := (if_neg c22).symm.trans h
    refine r_tsOut (tgt := 105) hX dX4_tell_17 (by first | exact zts_out a2 0 (by decide) 8 (by decide) (fun k hk => match k, hk with | 0, _ => c2 | 1, _ => c5 | 2, _ => c8 | 3, _ => c11 | 4, _ => c14 | 5, _ => c17 | 6, _ => c20 | 7, _ => c22 | k + 8, hk => absurd hk (by omega))) (by decide) ?_
    refine r_aload_n hX dX4_tell_105 0 rfl rfl ?_
    refine r_iload_n hX dX4_tell_106 1 rfl rfl ?_
    refine r_iload_n hX dX4_tell_107 2 rfl rfl ?_
    refine r_iconst (v := 1) hX dX4_tell_108 (by decide) ?_
    refine r_isub hX dX4_tell_109 ?_
    obtain ⟨x25, e26, h⟩ := zbind_elim h
    refine r_callV (As := [.int a1, .int (a2 - 1)]) (rest := []) (st1 := [.int x25]) hX dX4_tell_110 lv_RX4_70 (c_X4_inchesOf a1 (a2 - 1)  u _ e26) (by decide) rfl rfl (zRecv.of (q := 1) (ci := 4) rfl rfl) rfl (Nat.le_of_ble_eq_true rfl) rfl ?_
    obtain rfl := Option.some.inj h
    exact r_iret hX hR dX4_tell_113
  · have h := (if_neg c1).symm.trans h
    refine r_aload_n hX dX4_tell_6 0 rfl rfl ?_
    refine r_iload_n hX dX4_tell_7 1 rfl rfl ?_
    refine r_iload_n hX dX4_tell_8 2 rfl rfl ?_
    refine r_bipush (v := 8) hX dX4_tell_9 (by decide) ?_
    refine r_isub hX dX4_tell_11 ?_
    obtain ⟨x27, e28, h⟩ := zbind_elim h
    refine r_callV (As := [.int a1, .int (a2 - 8)]) (rest := []) (st1 := [.int x27]) hX dX4_tell_12 lv_RX4_58 (c_X4_measuredOf a1 (a2 - 8)  u _ e28) (by decide) rfl rfl (zRecv.of (q := 1) (ci := 4) rfl rfl) rfl (Nat.le_of_ble_eq_true rfl) rfl ?_
    obtain rfl := Option.some.inj h
    exact r_iret hX hR dX4_tell_15
theorem dX5_bodyOf_0 : decode cX5_bodyOf 0 = .ok (.aload_n 0, 1) := by decide +kernel
theorem dX5_bodyOf_1 : decode cX5_bodyOf 1 = .ok (.iload_n 1, 1) := by decide +kernel
theorem dX5_bodyOf_2 : decode cX5_bodyOf 2 = .ok (.invokevirtual 77, 3) := by decide +kernel
theorem dX5_bodyOf_5 : decode cX5_bodyOf 5 = .ok (.ifCond .eq 13, 3) := by decide +kernel
theorem dX5_bodyOf_8 : decode cX5_bodyOf 8 = .ok (.iload_n 2, 1) := by decide +kernel
theorem dX5_bodyOf_9 : decode cX5_bodyOf 9 = .ok (.iconst 0, 1) := by decide +kernel
theorem dX5_bodyOf_10 : decode cX5_bodyOf 10 = .ok (.bipush 10, 2) := by decide +kernel
theorem dX5_bodyOf_12 : decode cX5_bodyOf 12 = .ok (.invokestatic 80, 3) := by decide +kernel
theorem dX5_bodyOf_15 : decode cX5_bodyOf 15 = .ok (.ifCond .ne 9, 3) := by decide +kernel
theorem dX5_bodyOf_18 : decode cX5_bodyOf 18 = .ok (.aload_n 0, 1) := by decide +kernel
theorem dX5_bodyOf_19 : decode cX5_bodyOf 19 = .ok (.iconst 0, 1) := by decide +kernel
theorem dX5_bodyOf_20 : decode cX5_bodyOf 20 = .ok (.invokevirtual 65, 3) := by decide +kernel
theorem dX5_bodyOf_23 : decode cX5_bodyOf 23 = .ok (.ireturn, 1) := by decide +kernel
theorem dX5_bodyOf_24 : decode cX5_bodyOf 24 = .ok (.aload_n 0, 1) := by decide +kernel
theorem dX5_bodyOf_25 : decode cX5_bodyOf 25 = .ok (.getfield 10, 3) := by decide +kernel
theorem dX5_bodyOf_28 : decode cX5_bodyOf 28 = .ok (.iload_n 1, 1) := by decide +kernel
theorem dX5_bodyOf_29 : decode cX5_bodyOf 29 = .ok (.iload_n 2, 1) := by decide +kernel
theorem dX5_bodyOf_30 : decode cX5_bodyOf 30 = .ok (.invokevirtual 84, 3) := by decide +kernel
theorem dX5_bodyOf_33 : decode cX5_bodyOf 33 = .ok (.ireturn, 1) := by decide +kernel
def m_X5_bodyOf (a1 : Int32) (a2 : Int32) (u : zM) : Option (Int32 × zM) :=
  (if (m_X5_isBody a1 u) = 0 then
zbind2 (m_X5_finding 0 u) (fun x2 u3 => some (x2, u3))
else
(if (m_X5_within a2 0 10) = 0 then
zbind2 (m_X5_finding 0 u) (fun x8 u9 => some (x8, u9))
else
zbind (m_X4_tell a1 a2 u) (fun x6 => some (x6, u))))
set_option maxHeartbeats 4000000 in
set_option maxRecDepth 100000 in
theorem c_X5_bodyOf (a1 : Int32) (a2 : Int32)   (u : zM) (r : Int32) (u' : zM) (h : m_X5_bodyOf a1 a2 u = some (r, u')) : zCt 6 yX5_bodyOf cX5_bodyOf 3 (some .int) (fun E => [.ref (zad E 0), .int a1, .int a2]) u (fun _ => some (.int r)) u' := by
  refine zCt.of (by decide +kernel) (fun E => Nat.le_of_ble_eq_true rfl) (fun X hX hR => ?_)
  have hX : zGood X RX5 cX5_bodyOf 3 6 := hX
  show zG X u 0 [(0, .ref (zad X.1 0)), (1, .int a1), (2, .int a2)] []
  unfold m_X5_bodyOf at h
  refine r_aload_n hX dX5_bodyOf_0 0 rfl rfl ?_
  refine r_iload_n hX dX5_bodyOf_1 1 rfl rfl ?_
  refine r_callV (As := [.int a1]) (rest := []) (st1 := [.int (m_X5_isBody a1 u)]) hX dX5_bodyOf_2 lv_RX5_77 (c_X5_isBody a1  u _ rfl) (by decide) rfl rfl (zRecv.of (q := 0) (ci := 5) rfl rfl) rfl (Nat.le_of_ble_eq_true rfl) rfl ?_
  refine r_if_eq (tgt := 18) hX dX5_bodyOf_5 (by decide) (fun c1 => ?_) (fun c1 => ?_)
  · have h := (if_pos c1).symm.trans h
    refine r_aload_n hX dX5_bodyOf_18 0 rfl rfl ?_
    refine r_iconst (v := 0) hX dX5_bodyOf_19 (by decide) ?_
    obtain ⟨x2, u3, e4, h⟩ := zbind2_elim h
    refine r_callV (As := [.int 0]) (rest := []) (st1 := [.int x2]) hX dX5_bodyOf_20 lv_RX5_65 (c_X5_finding 0  u _ _ e4) (by decide) rfl rfl (zRecv.of (q := 0) (ci := 5) rfl rfl) rfl (Nat.le_of_ble_eq_true rfl) rfl ?_
    obtain ⟨rfl, rfl⟩ := zinj2 (Option.some.inj h)
    exact r_iret hX hR dX5_bodyOf_23
  · have h := (if_neg c1).symm.trans h
    refine r_iload_n hX dX5_bodyOf_8 2 rfl rfl ?_
    refine r_iconst (v := 0) hX dX5_bodyOf_9 (by decide) ?_
    refine r_bipush (v := 10) hX dX5_bodyOf_10 (by decide) ?_
    refine r_callS (As := [.int a2, .int 0, .int 10]) (rest := []) (st1 := [.int (m_X5_within a2 0 10)]) hX dX5_bodyOf_12 ls_RX5_80 (c_X5_within a2 0 10  u _ rfl) (by decide) rfl rfl rfl (Nat.le_of_ble_eq_true rfl) rfl ?_
    refine r_if_ne (tgt := 24) hX dX5_bodyOf_15 (by decide) (fun c5 => ?_) (fun c5 => ?_)
    · have h := (if_neg c5).symm.trans h
      refine r_aload_n hX dX5_bodyOf_24 0 rfl rfl ?_
      refine r_getR hX dX5_bodyOf_25 f_RX5_10 zr_0_0 ?_
      refine r_iload_n hX dX5_bodyOf_28 1 rfl rfl ?_
      refine r_iload_n hX dX5_bodyOf_29 2 rfl rfl ?_
      obtain ⟨x6, e7, h⟩ := zbind_elim h
      refine r_callV (As := [.int a1, .int a2]) (rest := []) (st1 := [.int x6]) hX dX5_bodyOf_30 lv_RX5_84 (c_X4_tell a1 a2  u _ e7) (by decide) rfl rfl (zRecv.of (q := 1) (ci := 4) rfl rfl) rfl (Nat.le_of_ble_eq_true rfl) rfl ?_
      obtain ⟨rfl, rfl⟩ := zinj2 (Option.some.inj h)
      exact r_iret hX hR dX5_bodyOf_33
    · have h := (if_pos c5).symm.trans h
      refine r_aload_n hX dX5_bodyOf_18 0 rfl rfl ?_
      refine r_iconst (v := 0) hX dX5_bodyOf_19 (by decide) ?_
      obtain ⟨x8, u9, e10, h⟩ := zbind2_elim h
      refine r_callV (As := [.int 0]) (rest := []) (st1 := [.int x8]) hX dX5_bodyOf_20 lv_RX5_65 (c_X5_finding 0  u _ _ e10) (by decide) rfl rfl (zRecv.of (q := 0) (ci := 5) rfl rfl) rfl (Nat.le_of_ble_eq_true rfl) rfl ?_
      obtain ⟨rfl, rfl⟩ := zinj2 (Option.some.inj h)
      exact r_iret hX hR dX5_bodyOf_23
theorem dX4_mayBecome_0 : decode cX4_mayBecome 0 = .ok (.iload_n 0, 1) := by decide +kernel
theorem dX4_mayBecome_1 : decode cX4_mayBecome 1 = .ok (.tableswitch 71 0 5 #[39, 44, 44, 44, 54, 63], 39) := by decide +kernel
theorem dX4_mayBecome_40 : decode cX4_mayBecome 40 = .ok (.iload_n 1, 1) := by decide +kernel
theorem dX4_mayBecome_41 : decode cX4_mayBecome 41 = .ok (.invokestatic 73, 3) := by decide +kernel
theorem dX4_mayBecome_44 : decode cX4_mayBecome 44 = .ok (.ireturn, 1) := by decide +kernel
theorem dX4_mayBecome_45 : decode cX4_mayBecome 45 = .ok (.iload_n 1, 1) := by decide +kernel
theorem dX4_mayBecome_46 : decode cX4_mayBecome 46 = .ok (.bipush 50, 2) := by decide +kernel
theorem dX4_mayBecome_48 : decode cX4_mayBecome 48 = .ok (.sipush 250, 3) := by decide +kernel
theorem dX4_mayBecome_51 : decode cX4_mayBecome 51 = .ok (.invokestatic 76, 3) := by decide +kernel
theorem dX4_mayBecome_54 : decode cX4_mayBecome 54 = .ok (.ireturn, 1) := by decide +kernel
theorem dX4_mayBecome_55 : decode cX4_mayBecome 55 = .ok (.iload_n 1, 1) := by decide +kernel
theorem dX4_mayBecome_56 : decode cX4_mayBecome 56 = .ok (.bipush (-20), 2) := by decide +kernel
theorem dX4_mayBecome_58 : decode cX4_mayBecome 58 = .ok (.bipush 20, 2) := by decide +kernel
theorem dX4_mayBecome_60 : decode cX4_mayBecome 60 = .ok (.invokestatic 76, 3) := by decide +kernel
theorem dX4_mayBecome_63 : decode cX4_mayBecome 63 = .ok (.ireturn, 1) := by decide +kernel
theorem dX4_mayBecome_64 : decode cX4_mayBecome 64 = .ok (.iload_n 1, 1) := by decide +kernel
theorem dX4_mayBecome_65 : decode cX4_mayBecome 65 = .ok (.iconst 0, 1) := by decide +kernel
theorem dX4_mayBecome_66 : decode cX4_mayBecome 66 = .ok (.bipush 99, 2) := by decide +kernel
theorem dX4_mayBecome_68 : decode cX4_mayBecome 68 = .ok (.invokestatic 76, 3) := by decide +kernel
theorem dX4_mayBecome_71 : decode cX4_mayBecome 71 = .ok (.ireturn, 1) := by decide +kernel
theorem dX4_mayBecome_72 : decode cX4_mayBecome 72 = .ok (.iconst 0, 1) := by decide +kernel
theorem dX4_mayBecome_73 : decode cX4_mayBecome 73 = .ok (.ireturn, 1) := by decide +kernel
def m_X4_mayBecome (a1 : Int32) (a2 : Int32) : Int32 :=
  (if a1 = 0 then
(zb (m_X5_isKind a2))
else
if a1 = 1 then
(zb (m_X5_within a2 50 250))
else
if a1 = 2 then
(zb (m_X5_within a2 50 250))
else
if a1 = 3 then
(zb (m_X5_within a2 50 250))
else
if a1 = 4 then
(zb (m_X5_within a2 (-20) 20))
else
if a1 = 5 then
(zb (m_X5_within a2 0 99))
else
0)
set_option maxHeartbeats 4000000 in
set_option maxRecDepth 100000 in
theorem c_X4_mayBecome (a1 : Int32) (a2 : Int32)   (u : zM) (r : Int32) (h : m_X4_mayBecome a1 a2 = r) : zCt 3 yX4_mayBecome cX4_mayBecome 2 (some .boolean) (fun E => [.int a1, .int a2]) u (fun _ => some (.int r)) u := by
  refine zCt.of (by decide +kernel) (fun E => Nat.le_of_ble_eq_true rfl) (fun X hX hR => ?_)
  have hX : zGood X RX4 cX4_mayBecome 2 3 := hX
  show zG X u 0 [(0, .int a1), (1, .int a2)] []
  unfold m_X4_mayBecome at h
  refine r_iload_n hX dX4_mayBecome_0 0 rfl rfl ?_
  by_cases c1 : a1 = 0
  · have h := (if_pos c1).symm.trans h
    refine r_tsIn (v := 0) (off := 39) (tgt := 40) hX dX4_mayBecome_1 c1 (by decide) (by decide) (by decide +kernel) (by decide) ?_
    refine r_iload_n hX dX4_mayBecome_40 1 rfl rfl ?_
    refine r_callS (As := [.int a2]) (rest := []) (st1 := [.int (m_X5_isKind a2)]) hX dX4_mayBecome_41 ls_RX4_73 (c_X5_isKind a2  u _ rfl) (by decide) rfl rfl rfl (Nat.le_of_ble_eq_true rfl) rfl ?_
    obtain rfl := h
    exact r_zret hX hR dX4_mayBecome_44
  have h := (if_neg c1).symm.trans h
  by_cases c2 : a1 = 1
  · have h := (if_pos c2).symm.trans h
    refine r_tsIn (v := 1) (off := 44) (tgt := 45) hX dX4_mayBecome_1 c2 (by decide) (by decide) (by decide +kernel) (by decide) ?_
    refine r_iload_n hX dX4_mayBecome_45 1 rfl rfl ?_
    refine r_bipush (v := 50) hX dX4_mayBecome_46 (by decide) ?_
    refine r_sipush (v := 250) hX dX4_mayBecome_48 (by decide) ?_
    refine r_callS (As := [.int a2, .int 50, .int 250]) (rest := []) (st1 := [.int (m_X5_within a2 50 250)]) hX dX4_mayBecome_51 ls_RX4_76 (c_X5_within a2 50 250  u _ rfl) (by decide) rfl rfl rfl (Nat.le_of_ble_eq_true rfl) rfl ?_
    obtain rfl := h
    exact r_zret hX hR dX4_mayBecome_54
  have h := (if_neg c2).symm.trans h
  by_cases c3 : a1 = 2
  · have h := (if_pos c3).symm.trans h
    refine r_tsIn (v := 2) (off := 44) (tgt := 45) hX dX4_mayBecome_1 c3 (by decide) (by decide) (by decide +kernel) (by decide) ?_
    refine r_iload_n hX dX4_mayBecome_45 1 rfl rfl ?_
    refine r_bipush (v := 50) hX dX4_mayBecome_46 (by decide) ?_
    refine r_sipush (v := 250) hX dX4_mayBecome_48 (by decide) ?_
    refine r_callS (As := [.int a2, .int 50, .int 250]) (rest := []) (st1 := [.int (m_X5_within a2 50 250)]) hX dX4_mayBecome_51 ls_RX4_76 (c_X5_within a2 50 250  u _ rfl) (by decide) rfl rfl rfl (Nat.le_of_ble_eq_true rfl) rfl ?_
    obtain rfl := h
    exact r_zret hX hR dX4_mayBecome_54
  have h := (if_neg c3).symm.trans h
  by_cases c4 : a1 = 3
  · have h := (if_pos c4).symm.trans h
    refine r_tsIn (v := 3) (off := 44) (tgt := 45) hX dX4_mayBecome_1 c4 (by decide) (by decide) (by decide +kernel) (by decide) ?_
    refine r_iload_n hX dX4_mayBecome_45 1 rfl rfl ?_
    refine r_bipush (v := 50) hX dX4_mayBecome_46 (by decide) ?_
    refine r_sipush (v := 250) hX dX4_mayBecome_48 (by decide) ?_
    refine r_callS (As := [.int a2, .int 50, .int 250]) (rest := []) (st1 := [.int (m_X5_within a2 50 250)]) hX dX4_mayBecome_51 ls_RX4_76 (c_X5_within a2 50 250  u _ rfl) (by decide) rfl rfl rfl (Nat.le_of_ble_eq_true rfl) rfl ?_
    obtain rfl := h
    exact r_zret hX hR dX4_mayBecome_54
  have h := (if_neg c4).symm.trans h
  by_cases c5 : a1 = 4
  · have h := (if_pos c5).symm.trans h
    refine r_tsIn (v := 4) (off := 54) (tgt := 55) hX dX4_mayBecome_1 c5 (by decide) (by decide) (by decide +kernel) (by decide) ?_
    refine r_iload_n hX dX4_mayBecome_55 1 rfl rfl ?_
    refine r_bipush (v := (-20)) hX dX4_mayBecome_56 (by decide) ?_
    refine r_bipush (v := 20) hX dX4_mayBecome_58 (by decide) ?_
    refine r_callS (As := [.int a2, .int (-20), .int 20]) (rest := []) (st1 := [.int (m_X5_within a2 (-20) 20)]) hX dX4_mayBecome_60 ls_RX4_76 (c_X5_within a2 (-20) 20  u _ rfl) (by decide) rfl rfl rfl (Nat.le_of_ble_eq_true rfl) rfl ?_
    obtain rfl := h
    exact r_zret hX hR dX4_mayBecome_63
  have h := (if_neg c5).symm.trans h
  by_cases c6 : a1 = 5
  · have h := (if_pos c6).symm.trans h
    refine r_tsIn (v := 5) (off := 63) (tgt := 64) hX dX4_mayBecome_1 c6 (by decide) (by decide) (by decide +kernel) (by decide) ?_
    refine r_iload_n hX dX4_mayBecome_64 1 rfl rfl ?_
    refine r_iconst (v := 0) hX dX4_mayBecome_65 (by decide) ?_
    refine r_bipush (v := 99) hX dX4_mayBecome_66 (by decide) ?_
    refine r_callS (As := [.int a2, .int 0, .int 99]) (rest := []) (st1 := [.int (m_X5_within a2 0 99)]) hX dX4_mayBecome_68 ls_RX4_76 (c_X5_within a2 0 99  u _ rfl) (by decide) rfl rfl rfl (Nat.le_of_ble_eq_true rfl) rfl ?_
    obtain rfl := h
    exact r_zret hX hR dX4_mayBecome_71
  have h := (if_neg c6).symm.trans h
  refine r_tsOut (tgt := 72) hX dX4_mayBecome_1 (by first | exact zts_out a1 0 (by decide) 6 (by decide) (fun k hk => match k, hk with | 0, _ => c1 | 1, _ => c2 | 2, _ => c3 | 3, _ => c4 | 4, _ => c5 | 5, _ => c6 | k + 6, hk => absurd hk (by omega))) (by decide) ?_
  refine r_iconst (v := 0) hX dX4_mayBecome_72 (by decide) ?_
  obtain rfl := h
  exact r_zret0 hX hR dX4_mayBecome_73
theorem dX4_setInches_0 : decode cX4_setInches 0 = .ok (.aload_n 0, 1) := by decide +kernel
theorem dX4_setInches_1 : decode cX4_setInches 1 = .ok (.getfield 15, 3) := by decide +kernel
theorem dX4_setInches_4 : decode cX4_setInches 4 = .ok (.iload_n 1, 1) := by decide +kernel
theorem dX4_setInches_5 : decode cX4_setInches 5 = .ok (.iconst 3, 1) := by decide +kernel
theorem dX4_setInches_6 : decode cX4_setInches 6 = .ok (.imul, 1) := by decide +kernel
theorem dX4_setInches_7 : decode cX4_setInches 7 = .ok (.iload_n 2, 1) := by decide +kernel
theorem dX4_setInches_8 : decode cX4_setInches 8 = .ok (.iadd, 1) := by decide +kernel
theorem dX4_setInches_9 : decode cX4_setInches 9 = .ok (.iload_n 3, 1) := by decide +kernel
theorem dX4_setInches_10 : decode cX4_setInches 10 = .ok (.iastore, 1) := by decide +kernel
theorem dX4_setInches_11 : decode cX4_setInches 11 = .ok (.return_, 1) := by decide +kernel
def m_X4_setInches (a1 : Int32) (a2 : Int32) (a3 : Int32) (u : zM) : Option (zM) :=
  zbind (zsv u 3 36 ((a1 * 3) + a2) a3) (fun u1 => some u1)
set_option maxHeartbeats 4000000 in
set_option maxRecDepth 100000 in
theorem c_X4_setInches (a1 : Int32) (a2 : Int32) (a3 : Int32)   (u : zM) (u' : zM) (h : m_X4_setInches a1 a2 a3 u = some (u')) : zCt 1 yX4_setInches cX4_setInches 4 none (fun E => [.ref (zad E 1), .int a1, .int a2, .int a3]) u (fun _ => none) u' := by
  refine zCt.of (by decide +kernel) (fun E => Nat.le_of_ble_eq_true rfl) (fun X hX hR => ?_)
  have hX : zGood X RX4 cX4_setInches 4 1 := hX
  show zG X u 0 [(0, .ref (zad X.1 1)), (1, .int a1), (2, .int a2), (3, .int a3)] []
  unfold m_X4_setInches at h
  refine r_aload_n hX dX4_setInches_0 0 rfl rfl ?_
  refine r_getR hX dX4_setInches_1 f_RX4_15 zr_1_1 ?_
  refine r_iload_n hX dX4_setInches_4 1 rfl rfl ?_
  refine r_iconst (v := 3) hX dX4_setInches_5 (by decide) ?_
  refine r_imul hX dX4_setInches_6 ?_
  refine r_iload_n hX dX4_setInches_7 2 rfl rfl ?_
  refine r_iadd hX dX4_setInches_8 ?_
  refine r_iload_n hX dX4_setInches_9 3 rfl rfl ?_
  obtain ⟨u1, e2, h⟩ := zbind_elim h
  refine r_iast hX dX4_setInches_10 rfl e2 ?_
  obtain rfl := Option.some.inj h
  exact r_vret hX hR dX4_setInches_11
theorem dX4_put_0 : decode cX4_put 0 = .ok (.iload_n 2, 1) := by decide +kernel
theorem dX4_put_1 : decode cX4_put 1 = .ok (.lookupswitch 65 #[(0, 35), (4, 45), (5, 55)], 35) := by decide +kernel
theorem dX4_put_36 : decode cX4_put 36 = .ok (.aload_n 0, 1) := by decide +kernel
theorem dX4_put_37 : decode cX4_put 37 = .ok (.getfield 9, 3) := by decide +kernel
theorem dX4_put_40 : decode cX4_put 40 = .ok (.iload_n 1, 1) := by decide +kernel
theorem dX4_put_41 : decode cX4_put 41 = .ok (.iload_n 3, 1) := by decide +kernel
theorem dX4_put_42 : decode cX4_put 42 = .ok (.iastore, 1) := by decide +kernel
theorem dX4_put_43 : decode cX4_put 43 = .ok (.goto 32, 3) := by decide +kernel
theorem dX4_put_46 : decode cX4_put 46 = .ok (.aload_n 0, 1) := by decide +kernel
theorem dX4_put_47 : decode cX4_put 47 = .ok (.getfield 18, 3) := by decide +kernel
theorem dX4_put_50 : decode cX4_put 50 = .ok (.iload_n 1, 1) := by decide +kernel
theorem dX4_put_51 : decode cX4_put 51 = .ok (.iload_n 3, 1) := by decide +kernel
theorem dX4_put_52 : decode cX4_put 52 = .ok (.iastore, 1) := by decide +kernel
theorem dX4_put_53 : decode cX4_put 53 = .ok (.goto 22, 3) := by decide +kernel
theorem dX4_put_56 : decode cX4_put 56 = .ok (.aload_n 0, 1) := by decide +kernel
theorem dX4_put_57 : decode cX4_put 57 = .ok (.getfield 21, 3) := by decide +kernel
theorem dX4_put_60 : decode cX4_put 60 = .ok (.iload_n 1, 1) := by decide +kernel
theorem dX4_put_61 : decode cX4_put 61 = .ok (.iload_n 3, 1) := by decide +kernel
theorem dX4_put_62 : decode cX4_put 62 = .ok (.iastore, 1) := by decide +kernel
theorem dX4_put_63 : decode cX4_put 63 = .ok (.goto 12, 3) := by decide +kernel
theorem dX4_put_66 : decode cX4_put 66 = .ok (.aload_n 0, 1) := by decide +kernel
theorem dX4_put_67 : decode cX4_put 67 = .ok (.iload_n 1, 1) := by decide +kernel
theorem dX4_put_68 : decode cX4_put 68 = .ok (.iload_n 2, 1) := by decide +kernel
theorem dX4_put_69 : decode cX4_put 69 = .ok (.iconst 1, 1) := by decide +kernel
theorem dX4_put_70 : decode cX4_put 70 = .ok (.isub, 1) := by decide +kernel
theorem dX4_put_71 : decode cX4_put 71 = .ok (.iload_n 3, 1) := by decide +kernel
theorem dX4_put_72 : decode cX4_put 72 = .ok (.invokevirtual 80, 3) := by decide +kernel
theorem dX4_put_75 : decode cX4_put 75 = .ok (.return_, 1) := by decide +kernel
def m_X4_put (a1 : Int32) (a2 : Int32) (a3 : Int32) (u : zM) : Option (zM) :=
  (if a2 = 0 then
zbind (zsv u 2 12 a1 a3) (fun u2 => some u2)
else
if a2 = 4 then
zbind (zsv u 4 12 a1 a3) (fun u5 => some u5)
else
if a2 = 5 then
zbind (zsv u 5 12 a1 a3) (fun u8 => some u8)
else
zbind (m_X4_setInches a1 (a2 - 1) a3 u) (fun u10 => some u10))
set_option maxHeartbeats 4000000 in
set_option maxRecDepth 100000 in
theorem c_X4_put (a1 : Int32) (a2 : Int32) (a3 : Int32)   (u : zM) (u' : zM) (h : m_X4_put a1 a2 a3 u = some (u')) : zCt 2 yX4_put cX4_put 4 none (fun E => [.ref (zad E 1), .int a1, .int a2, .int a3]) u (fun _ => none) u' := by
  refine zCt.of (by decide +kernel) (fun E => Nat.le_of_ble_eq_true rfl) (fun X hX hR => ?_)
  have hX : zGood X RX4 cX4_put 4 2 := hX
  show zG X u 0 [(0, .ref (zad X.1 1)), (1, .int a1), (2, .int a2), (3, .int a3)] []
  unfold m_X4_put at h
  refine r_iload_n hX dX4_put_0 2 rfl rfl ?_
  by_cases c1 : a2 = 0
  · have h := (if_pos c1).symm.trans h
    refine r_ls (off := 35) (tgt := 36) hX dX4_put_1 (by decide) (by rw [c1]; decide +kernel) (by decide) ?_
    refine r_aload_n hX dX4_put_36 0 rfl rfl ?_
    refine r_getR hX dX4_put_37 f_RX4_9 zr_1_0 ?_
    refine r_iload_n hX dX4_put_40 1 rfl rfl ?_
    refine r_iload_n hX dX4_put_41 3 rfl rfl ?_
    obtain ⟨u2, e3, h⟩ := zbind_elim h
    refine r_iast hX dX4_put_42 rfl e3 ?_
    refine r_goto (tgt := 75) hX dX4_put_43 (by decide) ?_
    obtain rfl := Option.some.inj h
    exact r_vret hX hR dX4_put_75
  have h := (if_neg c1).symm.trans h
  by_cases c4 : a2 = 4
  · have h := (if_pos c4).symm.trans h
    refine r_ls (off := 45) (tgt := 46) hX dX4_put_1 (by decide) (by rw [c4]; decide +kernel) (by decide) ?_
    refine r_aload_n hX dX4_put_46 0 rfl rfl ?_
    refine r_getR hX dX4_put_47 f_RX4_18 zr_1_2 ?_
    refine r_iload_n hX dX4_put_50 1 rfl rfl ?_
    refine r_iload_n hX dX4_put_51 3 rfl rfl ?_
    obtain ⟨u5, e6, h⟩ := zbind_elim h
    refine r_iast hX dX4_put_52 rfl e6 ?_
    refine r_goto (tgt := 75) hX dX4_put_53 (by decide) ?_
    obtain rfl := Option.some.inj h
    exact r_vret hX hR dX4_put_75
  have h := (if_neg c4).symm.trans h
  by_cases c7 : a2 = 5
  · have h := (if_pos c7).symm.trans h
    refine r_ls (off := 55) (tgt := 56) hX dX4_put_1 (by decide) (by rw [c7]; decide +kernel) (by decide) ?_
    refine r_aload_n hX dX4_put_56 0 rfl rfl ?_
    refine r_getR hX dX4_put_57 f_RX4_21 zr_1_3 ?_
    refine r_iload_n hX dX4_put_60 1 rfl rfl ?_
    refine r_iload_n hX dX4_put_61 3 rfl rfl ?_
    obtain ⟨u8, e9, h⟩ := zbind_elim h
    refine r_iast hX dX4_put_62 rfl e9 ?_
    refine r_goto (tgt := 75) hX dX4_put_63 (by decide) ?_
    obtain rfl := Option.some.inj h
    exact r_vret hX hR dX4_put_75
  have h := (if_neg c7).symm.trans h
  refine r_ls (off := 65) (tgt := 66) hX dX4_put_1 (by decide) (zls_out a2 _ _ (fun q hq => by simp only [List.mem_cons, List.not_mem_nil, or_false] at hq; rcases hq with rfl | rfl | rfl <;> first | exact zi_ne c1 rfl | exact zi_ne c4 rfl | exact zi_ne c7 rfl)) (by decide) ?_
  refine r_aload_n hX dX4_put_66 0 rfl rfl ?_
  refine r_iload_n hX dX4_put_67 1 rfl rfl ?_
  refine r_iload_n hX dX4_put_68 2 rfl rfl ?_
  refine r_iconst (v := 1) hX dX4_put_69 (by decide) ?_
  refine r_isub hX dX4_put_70 ?_
  refine r_iload_n hX dX4_put_71 3 rfl rfl ?_
  obtain ⟨u10, e11, h⟩ := zbind_elim h
  refine r_callV (As := [.int a1, .int (a2 - 1), .int a3]) (rest := []) (st1 := []) hX dX4_put_72 lv_RX4_80 (c_X4_setInches a1 (a2 - 1) a3  u _ e11) (by decide) rfl rfl (zRecv.of (q := 1) (ci := 4) rfl rfl) rfl (Nat.le_of_ble_eq_true rfl) rfl ?_
  obtain rfl := Option.some.inj h
  exact r_vret hX hR dX4_put_75
theorem dX5_change_0 : decode cX5_change 0 = .ok (.aload_n 0, 1) := by decide +kernel
theorem dX5_change_1 : decode cX5_change 1 = .ok (.iload_n 1, 1) := by decide +kernel
theorem dX5_change_2 : decode cX5_change 2 = .ok (.invokevirtual 77, 3) := by decide +kernel
theorem dX5_change_5 : decode cX5_change 5 = .ok (.ifCond .eq 11, 3) := by decide +kernel
theorem dX5_change_8 : decode cX5_change 8 = .ok (.iload_n 2, 1) := by decide +kernel
theorem dX5_change_9 : decode cX5_change 9 = .ok (.iload_n 3, 1) := by decide +kernel
theorem dX5_change_10 : decode cX5_change 10 = .ok (.invokestatic 88, 3) := by decide +kernel
theorem dX5_change_13 : decode cX5_change 13 = .ok (.ifCond .ne 9, 3) := by decide +kernel
theorem dX5_change_16 : decode cX5_change 16 = .ok (.aload_n 0, 1) := by decide +kernel
theorem dX5_change_17 : decode cX5_change 17 = .ok (.iconst 0, 1) := by decide +kernel
theorem dX5_change_18 : decode cX5_change 18 = .ok (.invokevirtual 65, 3) := by decide +kernel
theorem dX5_change_21 : decode cX5_change 21 = .ok (.ireturn, 1) := by decide +kernel
theorem dX5_change_22 : decode cX5_change 22 = .ok (.aload_n 0, 1) := by decide +kernel
theorem dX5_change_23 : decode cX5_change 23 = .ok (.getfield 10, 3) := by decide +kernel
theorem dX5_change_26 : decode cX5_change 26 = .ok (.iload_n 1, 1) := by decide +kernel
theorem dX5_change_27 : decode cX5_change 27 = .ok (.iload_n 2, 1) := by decide +kernel
theorem dX5_change_28 : decode cX5_change 28 = .ok (.invokevirtual 84, 3) := by decide +kernel
theorem dX5_change_31 : decode cX5_change 31 = .ok (.istore 4, 2) := by decide +kernel
theorem dX5_change_33 : decode cX5_change 33 = .ok (.aload_n 0, 1) := by decide +kernel
theorem dX5_change_34 : decode cX5_change 34 = .ok (.getfield 10, 3) := by decide +kernel
theorem dX5_change_37 : decode cX5_change 37 = .ok (.iload_n 1, 1) := by decide +kernel
theorem dX5_change_38 : decode cX5_change 38 = .ok (.iload_n 2, 1) := by decide +kernel
theorem dX5_change_39 : decode cX5_change 39 = .ok (.iload_n 3, 1) := by decide +kernel
theorem dX5_change_40 : decode cX5_change 40 = .ok (.invokevirtual 92, 3) := by decide +kernel
theorem dX5_change_43 : decode cX5_change 43 = .ok (.iload 4, 2) := by decide +kernel
theorem dX5_change_45 : decode cX5_change 45 = .ok (.ireturn, 1) := by decide +kernel
def m_X5_change (a1 : Int32) (a2 : Int32) (a3 : Int32) (u : zM) : Option (Int32 × zM) :=
  (if (m_X5_isBody a1 u) = 0 then
zbind2 (m_X5_finding 0 u) (fun x2 u3 => some (x2, u3))
else
(if (m_X4_mayBecome a2 a3) = 0 then
zbind2 (m_X5_finding 0 u) (fun x10 u11 => some (x10, u11))
else
zbind (m_X4_tell a1 a2 u) (fun x6 => zbind (m_X4_put a1 a2 a3 u) (fun u8 => some (x6, u8)))))
set_option maxHeartbeats 4000000 in
set_option maxRecDepth 100000 in
theorem c_X5_change (a1 : Int32) (a2 : Int32) (a3 : Int32)   (u : zM) (r : Int32) (u' : zM) (h : m_X5_change a1 a2 a3 u = some (r, u')) : zCt 6 yX5_change cX5_change 5 (some .int) (fun E => [.ref (zad E 0), .int a1, .int a2, .int a3]) u (fun _ => some (.int r)) u' := by
  refine zCt.of (by decide +kernel) (fun E => Nat.le_of_ble_eq_true rfl) (fun X hX hR => ?_)
  have hX : zGood X RX5 cX5_change 5 6 := hX
  show zG X u 0 [(0, .ref (zad X.1 0)), (1, .int a1), (2, .int a2), (3, .int a3)] []
  unfold m_X5_change at h
  refine r_aload_n hX dX5_change_0 0 rfl rfl ?_
  refine r_iload_n hX dX5_change_1 1 rfl rfl ?_
  refine r_callV (As := [.int a1]) (rest := []) (st1 := [.int (m_X5_isBody a1 u)]) hX dX5_change_2 lv_RX5_77 (c_X5_isBody a1  u _ rfl) (by decide) rfl rfl (zRecv.of (q := 0) (ci := 5) rfl rfl) rfl (Nat.le_of_ble_eq_true rfl) rfl ?_
  refine r_if_eq (tgt := 16) hX dX5_change_5 (by decide) (fun c1 => ?_) (fun c1 => ?_)
  · have h := (if_pos c1).symm.trans h
    refine r_aload_n hX dX5_change_16 0 rfl rfl ?_
    refine r_iconst (v := 0) hX dX5_change_17 (by decide) ?_
    obtain ⟨x2, u3, e4, h⟩ := zbind2_elim h
    refine r_callV (As := [.int 0]) (rest := []) (st1 := [.int x2]) hX dX5_change_18 lv_RX5_65 (c_X5_finding 0  u _ _ e4) (by decide) rfl rfl (zRecv.of (q := 0) (ci := 5) rfl rfl) rfl (Nat.le_of_ble_eq_true rfl) rfl ?_
    obtain ⟨rfl, rfl⟩ := zinj2 (Option.some.inj h)
    exact r_iret hX hR dX5_change_21
  · have h := (if_neg c1).symm.trans h
    refine r_iload_n hX dX5_change_8 2 rfl rfl ?_
    refine r_iload_n hX dX5_change_9 3 rfl rfl ?_
    refine r_callS (As := [.int a2, .int a3]) (rest := []) (st1 := [.int (m_X4_mayBecome a2 a3)]) hX dX5_change_10 ls_RX5_88 (c_X4_mayBecome a2 a3  u _ rfl) (by decide) rfl rfl rfl (Nat.le_of_ble_eq_true rfl) rfl ?_
    refine r_if_ne (tgt := 22) hX dX5_change_13 (by decide) (fun c5 => ?_) (fun c5 => ?_)
    · have h := (if_neg c5).symm.trans h
      refine r_aload_n hX dX5_change_22 0 rfl rfl ?_
      refine r_getR hX dX5_change_23 f_RX5_10 zr_0_0 ?_
      refine r_iload_n hX dX5_change_26 1 rfl rfl ?_
      refine r_iload_n hX dX5_change_27 2 rfl rfl ?_
      obtain ⟨x6, e7, h⟩ := zbind_elim h
      refine r_callV (As := [.int a1, .int a2]) (rest := []) (st1 := [.int x6]) hX dX5_change_28 lv_RX5_84 (c_X4_tell a1 a2  u _ e7) (by decide) rfl rfl (zRecv.of (q := 1) (ci := 4) rfl rfl) rfl (Nat.le_of_ble_eq_true rfl) rfl ?_
      refine r_istore (y := x6) (L' := [(4, .int x6), (0, .ref (zad X.1 0)), (1, .int a1), (2, .int a2), (3, .int a3)]) hX dX5_change_31 (by decide) rfl rfl ?_
      refine r_aload_n hX dX5_change_33 1 rfl rfl ?_
      refine r_getR hX dX5_change_34 f_RX5_10 zr_0_0 ?_
      refine r_iload_n hX dX5_change_37 2 rfl rfl ?_
      refine r_iload_n hX dX5_change_38 3 rfl rfl ?_
      refine r_iload_n hX dX5_change_39 4 rfl rfl ?_
      obtain ⟨u8, e9, h⟩ := zbind_elim h
      refine r_callV (As := [.int a1, .int a2, .int a3]) (rest := []) (st1 := []) hX dX5_change_40 lv_RX5_92 (c_X4_put a1 a2 a3  u _ e9) (by decide) rfl rfl (zRecv.of (q := 1) (ci := 4) rfl rfl) rfl (Nat.le_of_ble_eq_true rfl) rfl ?_
      refine r_iload hX dX5_change_43 0 rfl ?_
      obtain ⟨rfl, rfl⟩ := zinj2 (Option.some.inj h)
      exact r_iret hX hR dX5_change_45
    · have h := (if_pos c5).symm.trans h
      refine r_aload_n hX dX5_change_16 0 rfl rfl ?_
      refine r_iconst (v := 0) hX dX5_change_17 (by decide) ?_
      obtain ⟨x10, u11, e12, h⟩ := zbind2_elim h
      refine r_callV (As := [.int 0]) (rest := []) (st1 := [.int x10]) hX dX5_change_18 lv_RX5_65 (c_X5_finding 0  u _ _ e12) (by decide) rfl rfl (zRecv.of (q := 0) (ci := 5) rfl rfl) rfl (Nat.le_of_ble_eq_true rfl) rfl ?_
      obtain ⟨rfl, rfl⟩ := zinj2 (Option.some.inj h)
      exact r_iret hX hR dX5_change_21
theorem dX5_here_0 : decode cX5_here 0 = .ok (.aload_n 0, 1) := by decide +kernel
theorem dX5_here_1 : decode cX5_here 1 = .ok (.iload_n 1, 1) := by decide +kernel
theorem dX5_here_2 : decode cX5_here 2 = .ok (.invokevirtual 77, 3) := by decide +kernel
theorem dX5_here_5 : decode cX5_here 5 = .ok (.ifCond .ne 9, 3) := by decide +kernel
theorem dX5_here_8 : decode cX5_here 8 = .ok (.aload_n 0, 1) := by decide +kernel
theorem dX5_here_9 : decode cX5_here 9 = .ok (.iconst 0, 1) := by decide +kernel
theorem dX5_here_10 : decode cX5_here 10 = .ok (.invokevirtual 65, 3) := by decide +kernel
theorem dX5_here_13 : decode cX5_here 13 = .ok (.ireturn, 1) := by decide +kernel
theorem dX5_here_14 : decode cX5_here 14 = .ok (.aload_n 0, 1) := by decide +kernel
theorem dX5_here_15 : decode cX5_here 15 = .ok (.getfield 10, 3) := by decide +kernel
theorem dX5_here_18 : decode cX5_here 18 = .ok (.iload_n 1, 1) := by decide +kernel
theorem dX5_here_19 : decode cX5_here 19 = .ok (.bipush 6, 2) := by decide +kernel
theorem dX5_here_21 : decode cX5_here 21 = .ok (.invokevirtual 84, 3) := by decide +kernel
theorem dX5_here_24 : decode cX5_here 24 = .ok (.istore_n 3, 1) := by decide +kernel
theorem dX5_here_25 : decode cX5_here 25 = .ok (.aload_n 0, 1) := by decide +kernel
theorem dX5_here_26 : decode cX5_here 26 = .ok (.getfield 10, 3) := by decide +kernel
theorem dX5_here_29 : decode cX5_here 29 = .ok (.iload_n 2, 1) := by decide +kernel
theorem dX5_here_30 : decode cX5_here 30 = .ok (.ifCond .eq 17, 3) := by decide +kernel
theorem dX5_here_33 : decode cX5_here 33 = .ok (.aload_n 0, 1) := by decide +kernel
theorem dX5_here_34 : decode cX5_here 34 = .ok (.getfield 10, 3) := by decide +kernel
theorem dX5_here_37 : decode cX5_here 37 = .ok (.getfield 96, 3) := by decide +kernel
theorem dX5_here_40 : decode cX5_here 40 = .ok (.iconst 1, 1) := by decide +kernel
theorem dX5_here_41 : decode cX5_here 41 = .ok (.iload_n 1, 1) := by decide +kernel
theorem dX5_here_42 : decode cX5_here 42 = .ok (.ishl, 1) := by decide +kernel
theorem dX5_here_43 : decode cX5_here 43 = .ok (.ior, 1) := by decide +kernel
theorem dX5_here_44 : decode cX5_here 44 = .ok (.goto 16, 3) := by decide +kernel
theorem dX5_here_47 : decode cX5_here 47 = .ok (.aload_n 0, 1) := by decide +kernel
theorem dX5_here_48 : decode cX5_here 48 = .ok (.getfield 10, 3) := by decide +kernel
theorem dX5_here_51 : decode cX5_here 51 = .ok (.getfield 96, 3) := by decide +kernel
theorem dX5_here_54 : decode cX5_here 54 = .ok (.iconst 1, 1) := by decide +kernel
theorem dX5_here_55 : decode cX5_here 55 = .ok (.iload_n 1, 1) := by decide +kernel
theorem dX5_here_56 : decode cX5_here 56 = .ok (.ishl, 1) := by decide +kernel
theorem dX5_here_57 : decode cX5_here 57 = .ok (.iconst (-1), 1) := by decide +kernel
theorem dX5_here_58 : decode cX5_here 58 = .ok (.ixor, 1) := by decide +kernel
theorem dX5_here_59 : decode cX5_here 59 = .ok (.iand, 1) := by decide +kernel
theorem dX5_here_60 : decode cX5_here 60 = .ok (.putfield 96, 3) := by decide +kernel
theorem dX5_here_63 : decode cX5_here 63 = .ok (.iload_n 3, 1) := by decide +kernel
theorem dX5_here_64 : decode cX5_here 64 = .ok (.ireturn, 1) := by decide +kernel
def m_X5_here (a1 : Int32) (a2 : Int32) (u : zM) : Option (Int32 × zM) :=
  (if (m_X5_isBody a1 u) = 0 then
zbind2 (m_X5_finding 0 u) (fun x9 u10 => some (x9, u10))
else
zbind (m_X4_tell a1 6 u) (fun x2 => (if a2 = 0 then
zlet (zst u 1 7 ((u 1 7) &&& ((zshl 1 a1) ^^^ (-1)))) (fun u5 => some (x2, u5))
else
zlet (zst u 1 7 ((u 1 7) ||| (zshl 1 a1))) (fun u7 => some (x2, u7)))))
set_option maxHeartbeats 4000000 in
set_option maxRecDepth 100000 in
theorem c_X5_here (a1 : Int32) (a2 : Int32)   (u : zM) (r : Int32) (u' : zM) (h : m_X5_here a1 a2 u = some (r, u')) : zCt 6 yX5_here cX5_here 4 (some .int) (fun E => [.ref (zad E 0), .int a1, .int a2]) u (fun _ => some (.int r)) u' := by
  refine zCt.of (by decide +kernel) (fun E => Nat.le_of_ble_eq_true rfl) (fun X hX hR => ?_)
  have hX : zGood X RX5 cX5_here 4 6 := hX
  show zG X u 0 [(0, .ref (zad X.1 0)), (1, .int a1), (2, .int a2)] []
  unfold m_X5_here at h
  refine r_aload_n hX dX5_here_0 0 rfl rfl ?_
  refine r_iload_n hX dX5_here_1 1 rfl rfl ?_
  refine r_callV (As := [.int a1]) (rest := []) (st1 := [.int (m_X5_isBody a1 u)]) hX dX5_here_2 lv_RX5_77 (c_X5_isBody a1  u _ rfl) (by decide) rfl rfl (zRecv.of (q := 0) (ci := 5) rfl rfl) rfl (Nat.le_of_ble_eq_true rfl) rfl ?_
  refine r_if_ne (tgt := 14) hX dX5_here_5 (by decide) (fun c1 => ?_) (fun c1 => ?_)
  · have h := (if_neg c1).symm.trans h
    refine r_aload_n hX dX5_here_14 0 rfl rfl ?_
    refine r_getR hX dX5_here_15 f_RX5_10 zr_0_0 ?_
    refine r_iload_n hX dX5_here_18 1 rfl rfl ?_
    refine r_bipush (v := 6) hX dX5_here_19 (by decide) ?_
    obtain ⟨x2, e3, h⟩ := zbind_elim h
    refine r_callV (As := [.int a1, .int 6]) (rest := []) (st1 := [.int x2]) hX dX5_here_21 lv_RX5_84 (c_X4_tell a1 6  u _ e3) (by decide) rfl rfl (zRecv.of (q := 1) (ci := 4) rfl rfl) rfl (Nat.le_of_ble_eq_true rfl) rfl ?_
    refine r_istore_n (y := x2) (L' := [(3, .int x2), (0, .ref (zad X.1 0)), (1, .int a1), (2, .int a2)]) hX dX5_here_24 rfl (by decide) rfl rfl ?_
    refine r_aload_n hX dX5_here_25 1 rfl rfl ?_
    refine r_getR hX dX5_here_26 f_RX5_10 zr_0_0 ?_
    refine r_iload_n hX dX5_here_29 3 rfl rfl ?_
    refine r_if_eq (tgt := 47) hX dX5_here_30 (by decide) (fun c4 => ?_) (fun c4 => ?_)
    · have h := (if_pos c4).symm.trans h
      refine r_aload_n hX dX5_here_47 1 rfl rfl ?_
      refine r_getR hX dX5_here_48 f_RX5_10 zr_0_0 ?_
      refine r_getI hX dX5_here_51 f_RX5_96 zi_1_7 ?_
      refine r_iconst (v := 1) hX dX5_here_54 (by decide) ?_
      refine r_iload_n hX dX5_here_55 2 rfl rfl ?_
      refine r_ishl hX dX5_here_56 ?_
      refine r_iconst (v := (-1)) hX dX5_here_57 (by decide) ?_
      refine r_ixor hX dX5_here_58 ?_
      refine r_iand hX dX5_here_59 ?_
      obtain ⟨u5, e6, h⟩ := zlet_elim h
      refine r_putI hX dX5_here_60 f_RX5_96 p_4_7 zi_1_7 ?_
      rw [e6]
      refine r_iload_n hX dX5_here_63 0 rfl rfl ?_
      obtain ⟨rfl, rfl⟩ := zinj2 (Option.some.inj h)
      exact r_iret hX hR dX5_here_64
    · have h := (if_neg c4).symm.trans h
      refine r_aload_n hX dX5_here_33 1 rfl rfl ?_
      refine r_getR hX dX5_here_34 f_RX5_10 zr_0_0 ?_
      refine r_getI hX dX5_here_37 f_RX5_96 zi_1_7 ?_
      refine r_iconst (v := 1) hX dX5_here_40 (by decide) ?_
      refine r_iload_n hX dX5_here_41 2 rfl rfl ?_
      refine r_ishl hX dX5_here_42 ?_
      refine r_ior hX dX5_here_43 ?_
      refine r_goto (tgt := 60) hX dX5_here_44 (by decide) ?_
      obtain ⟨u7, e8, h⟩ := zlet_elim h
      refine r_putI hX dX5_here_60 f_RX5_96 p_4_7 zi_1_7 ?_
      rw [e8]
      refine r_iload_n hX dX5_here_63 0 rfl rfl ?_
      obtain ⟨rfl, rfl⟩ := zinj2 (Option.some.inj h)
      exact r_iret hX hR dX5_here_64
  · have h := (if_pos c1).symm.trans h
    refine r_aload_n hX dX5_here_8 0 rfl rfl ?_
    refine r_iconst (v := 0) hX dX5_here_9 (by decide) ?_
    obtain ⟨x9, u10, e11, h⟩ := zbind2_elim h
    refine r_callV (As := [.int 0]) (rest := []) (st1 := [.int x9]) hX dX5_here_10 lv_RX5_65 (c_X5_finding 0  u _ _ e11) (by decide) rfl rfl (zRecv.of (q := 0) (ci := 5) rfl rfl) rfl (Nat.le_of_ble_eq_true rfl) rfl ?_
    obtain ⟨rfl, rfl⟩ := zinj2 (Option.some.inj h)
    exact r_iret hX hR dX5_here_13
theorem dX5_rule_0 : decode cX5_rule 0 = .ok (.iload_n 1, 1) := by decide +kernel
theorem dX5_rule_1 : decode cX5_rule 1 = .ok (.iconst 0, 1) := by decide +kernel
theorem dX5_rule_2 : decode cX5_rule 2 = .ok (.iconst 2, 1) := by decide +kernel
theorem dX5_rule_3 : decode cX5_rule 3 = .ok (.invokestatic 80, 3) := by decide +kernel
theorem dX5_rule_6 : decode cX5_rule 6 = .ok (.ifCond .ne 9, 3) := by decide +kernel
theorem dX5_rule_9 : decode cX5_rule 9 = .ok (.aload_n 0, 1) := by decide +kernel
theorem dX5_rule_10 : decode cX5_rule 10 = .ok (.iconst 0, 1) := by decide +kernel
theorem dX5_rule_11 : decode cX5_rule 11 = .ok (.invokevirtual 65, 3) := by decide +kernel
theorem dX5_rule_14 : decode cX5_rule 14 = .ok (.ireturn, 1) := by decide +kernel
theorem dX5_rule_15 : decode cX5_rule 15 = .ok (.aload_n 0, 1) := by decide +kernel
theorem dX5_rule_16 : decode cX5_rule 16 = .ok (.getfield 10, 3) := by decide +kernel
theorem dX5_rule_19 : decode cX5_rule 19 = .ok (.getfield 99, 3) := by decide +kernel
theorem dX5_rule_22 : decode cX5_rule 22 = .ok (.istore_n 2, 1) := by decide +kernel
theorem dX5_rule_23 : decode cX5_rule 23 = .ok (.aload_n 0, 1) := by decide +kernel
theorem dX5_rule_24 : decode cX5_rule 24 = .ok (.getfield 10, 3) := by decide +kernel
theorem dX5_rule_27 : decode cX5_rule 27 = .ok (.iload_n 1, 1) := by decide +kernel
theorem dX5_rule_28 : decode cX5_rule 28 = .ok (.putfield 99, 3) := by decide +kernel
theorem dX5_rule_31 : decode cX5_rule 31 = .ok (.iload_n 2, 1) := by decide +kernel
theorem dX5_rule_32 : decode cX5_rule 32 = .ok (.ireturn, 1) := by decide +kernel
def m_X5_rule (a1 : Int32) (u : zM) : Option (Int32 × zM) :=
  (if (m_X5_within a1 0 2) = 0 then
zbind2 (m_X5_finding 0 u) (fun x4 u5 => some (x4, u5))
else
zlet (zst u 1 8 a1) (fun u2 => some ((u 1 8), u2)))
set_option maxHeartbeats 4000000 in
set_option maxRecDepth 100000 in
theorem c_X5_rule (a1 : Int32)   (u : zM) (r : Int32) (u' : zM) (h : m_X5_rule a1 u = some (r, u')) : zCt 2 yX5_rule cX5_rule 3 (some .int) (fun E => [.ref (zad E 0), .int a1]) u (fun _ => some (.int r)) u' := by
  refine zCt.of (by decide +kernel) (fun E => Nat.le_of_ble_eq_true rfl) (fun X hX hR => ?_)
  have hX : zGood X RX5 cX5_rule 3 2 := hX
  show zG X u 0 [(0, .ref (zad X.1 0)), (1, .int a1)] []
  unfold m_X5_rule at h
  refine r_iload_n hX dX5_rule_0 1 rfl rfl ?_
  refine r_iconst (v := 0) hX dX5_rule_1 (by decide) ?_
  refine r_iconst (v := 2) hX dX5_rule_2 (by decide) ?_
  refine r_callS (As := [.int a1, .int 0, .int 2]) (rest := []) (st1 := [.int (m_X5_within a1 0 2)]) hX dX5_rule_3 ls_RX5_80 (c_X5_within a1 0 2  u _ rfl) (by decide) rfl rfl rfl (Nat.le_of_ble_eq_true rfl) rfl ?_
  refine r_if_ne (tgt := 15) hX dX5_rule_6 (by decide) (fun c1 => ?_) (fun c1 => ?_)
  · have h := (if_neg c1).symm.trans h
    refine r_aload_n hX dX5_rule_15 0 rfl rfl ?_
    refine r_getR hX dX5_rule_16 f_RX5_10 zr_0_0 ?_
    refine r_getI hX dX5_rule_19 f_RX5_99 zi_1_8 ?_
    refine r_istore_n (y := (u 1 8)) (L' := [(2, .int (u 1 8)), (0, .ref (zad X.1 0)), (1, .int a1)]) hX dX5_rule_22 rfl (by decide) rfl rfl ?_
    refine r_aload_n hX dX5_rule_23 1 rfl rfl ?_
    refine r_getR hX dX5_rule_24 f_RX5_10 zr_0_0 ?_
    refine r_iload_n hX dX5_rule_27 2 rfl rfl ?_
    obtain ⟨u2, e3, h⟩ := zlet_elim h
    refine r_putI hX dX5_rule_28 f_RX5_99 p_4_8 zi_1_8 ?_
    rw [e3]
    refine r_iload_n hX dX5_rule_31 0 rfl rfl ?_
    obtain ⟨rfl, rfl⟩ := zinj2 (Option.some.inj h)
    exact r_iret hX hR dX5_rule_32
  · have h := (if_pos c1).symm.trans h
    refine r_aload_n hX dX5_rule_9 0 rfl rfl ?_
    refine r_iconst (v := 0) hX dX5_rule_10 (by decide) ?_
    obtain ⟨x4, u5, e6, h⟩ := zbind2_elim h
    refine r_callV (As := [.int 0]) (rest := []) (st1 := [.int x4]) hX dX5_rule_11 lv_RX5_65 (c_X5_finding 0  u _ _ e6) (by decide) rfl rfl (zRecv.of (q := 0) (ci := 5) rfl rfl) rfl (Nat.le_of_ble_eq_true rfl) rfl ?_
    obtain ⟨rfl, rfl⟩ := zinj2 (Option.some.inj h)
    exact r_iret hX hR dX5_rule_14
theorem dX5_ease_0 : decode cX5_ease 0 = .ok (.iload_n 1, 1) := by decide +kernel
theorem dX5_ease_1 : decode cX5_ease 1 = .ok (.iconst 0, 1) := by decide +kernel
theorem dX5_ease_2 : decode cX5_ease 2 = .ok (.sipush 999, 3) := by decide +kernel
theorem dX5_ease_5 : decode cX5_ease 5 = .ok (.invokestatic 80, 3) := by decide +kernel
theorem dX5_ease_8 : decode cX5_ease 8 = .ok (.ifCond .ne 9, 3) := by decide +kernel
theorem dX5_ease_11 : decode cX5_ease 11 = .ok (.aload_n 0, 1) := by decide +kernel
theorem dX5_ease_12 : decode cX5_ease 12 = .ok (.iconst 0, 1) := by decide +kernel
theorem dX5_ease_13 : decode cX5_ease 13 = .ok (.invokevirtual 65, 3) := by decide +kernel
theorem dX5_ease_16 : decode cX5_ease 16 = .ok (.ireturn, 1) := by decide +kernel
theorem dX5_ease_17 : decode cX5_ease 17 = .ok (.aload_n 0, 1) := by decide +kernel
theorem dX5_ease_18 : decode cX5_ease 18 = .ok (.getfield 10, 3) := by decide +kernel
theorem dX5_ease_21 : decode cX5_ease 21 = .ok (.getfield 102, 3) := by decide +kernel
theorem dX5_ease_24 : decode cX5_ease 24 = .ok (.istore_n 2, 1) := by decide +kernel
theorem dX5_ease_25 : decode cX5_ease 25 = .ok (.aload_n 0, 1) := by decide +kernel
theorem dX5_ease_26 : decode cX5_ease 26 = .ok (.getfield 10, 3) := by decide +kernel
theorem dX5_ease_29 : decode cX5_ease 29 = .ok (.iload_n 1, 1) := by decide +kernel
theorem dX5_ease_30 : decode cX5_ease 30 = .ok (.putfield 102, 3) := by decide +kernel
theorem dX5_ease_33 : decode cX5_ease 33 = .ok (.iload_n 2, 1) := by decide +kernel
theorem dX5_ease_34 : decode cX5_ease 34 = .ok (.ireturn, 1) := by decide +kernel
def m_X5_ease (a1 : Int32) (u : zM) : Option (Int32 × zM) :=
  (if (m_X5_within a1 0 999) = 0 then
zbind2 (m_X5_finding 0 u) (fun x4 u5 => some (x4, u5))
else
zlet (zst u 1 9 a1) (fun u2 => some ((u 1 9), u2)))
set_option maxHeartbeats 4000000 in
set_option maxRecDepth 100000 in
theorem c_X5_ease (a1 : Int32)   (u : zM) (r : Int32) (u' : zM) (h : m_X5_ease a1 u = some (r, u')) : zCt 2 yX5_ease cX5_ease 3 (some .int) (fun E => [.ref (zad E 0), .int a1]) u (fun _ => some (.int r)) u' := by
  refine zCt.of (by decide +kernel) (fun E => Nat.le_of_ble_eq_true rfl) (fun X hX hR => ?_)
  have hX : zGood X RX5 cX5_ease 3 2 := hX
  show zG X u 0 [(0, .ref (zad X.1 0)), (1, .int a1)] []
  unfold m_X5_ease at h
  refine r_iload_n hX dX5_ease_0 1 rfl rfl ?_
  refine r_iconst (v := 0) hX dX5_ease_1 (by decide) ?_
  refine r_sipush (v := 999) hX dX5_ease_2 (by decide) ?_
  refine r_callS (As := [.int a1, .int 0, .int 999]) (rest := []) (st1 := [.int (m_X5_within a1 0 999)]) hX dX5_ease_5 ls_RX5_80 (c_X5_within a1 0 999  u _ rfl) (by decide) rfl rfl rfl (Nat.le_of_ble_eq_true rfl) rfl ?_
  refine r_if_ne (tgt := 17) hX dX5_ease_8 (by decide) (fun c1 => ?_) (fun c1 => ?_)
  · have h := (if_neg c1).symm.trans h
    refine r_aload_n hX dX5_ease_17 0 rfl rfl ?_
    refine r_getR hX dX5_ease_18 f_RX5_10 zr_0_0 ?_
    refine r_getI hX dX5_ease_21 f_RX5_102 zi_1_9 ?_
    refine r_istore_n (y := (u 1 9)) (L' := [(2, .int (u 1 9)), (0, .ref (zad X.1 0)), (1, .int a1)]) hX dX5_ease_24 rfl (by decide) rfl rfl ?_
    refine r_aload_n hX dX5_ease_25 1 rfl rfl ?_
    refine r_getR hX dX5_ease_26 f_RX5_10 zr_0_0 ?_
    refine r_iload_n hX dX5_ease_29 2 rfl rfl ?_
    obtain ⟨u2, e3, h⟩ := zlet_elim h
    refine r_putI hX dX5_ease_30 f_RX5_102 p_4_9 zi_1_9 ?_
    rw [e3]
    refine r_iload_n hX dX5_ease_33 0 rfl rfl ?_
    obtain ⟨rfl, rfl⟩ := zinj2 (Option.some.inj h)
    exact r_iret hX hR dX5_ease_34
  · have h := (if_pos c1).symm.trans h
    refine r_aload_n hX dX5_ease_11 0 rfl rfl ?_
    refine r_iconst (v := 0) hX dX5_ease_12 (by decide) ?_
    obtain ⟨x4, u5, e6, h⟩ := zbind2_elim h
    refine r_callV (As := [.int 0]) (rest := []) (st1 := [.int x4]) hX dX5_ease_13 lv_RX5_65 (c_X5_finding 0  u _ _ e6) (by decide) rfl rfl (zRecv.of (q := 0) (ci := 5) rfl rfl) rfl (Nat.le_of_ble_eq_true rfl) rfl ?_
    obtain ⟨rfl, rfl⟩ := zinj2 (Option.some.inj h)
    exact r_iret hX hR dX5_ease_16
theorem dX5_price_0 : decode cX5_price 0 = .ok (.iload_n 1, 1) := by decide +kernel
theorem dX5_price_1 : decode cX5_price 1 = .ok (.iconst 0, 1) := by decide +kernel
theorem dX5_price_2 : decode cX5_price 2 = .ok (.bipush 99, 2) := by decide +kernel
theorem dX5_price_4 : decode cX5_price 4 = .ok (.invokestatic 80, 3) := by decide +kernel
theorem dX5_price_7 : decode cX5_price 7 = .ok (.ifCond .ne 9, 3) := by decide +kernel
theorem dX5_price_10 : decode cX5_price 10 = .ok (.aload_n 0, 1) := by decide +kernel
theorem dX5_price_11 : decode cX5_price 11 = .ok (.iconst 0, 1) := by decide +kernel
theorem dX5_price_12 : decode cX5_price 12 = .ok (.invokevirtual 65, 3) := by decide +kernel
theorem dX5_price_15 : decode cX5_price 15 = .ok (.ireturn, 1) := by decide +kernel
theorem dX5_price_16 : decode cX5_price 16 = .ok (.aload_n 0, 1) := by decide +kernel
theorem dX5_price_17 : decode cX5_price 17 = .ok (.getfield 10, 3) := by decide +kernel
theorem dX5_price_20 : decode cX5_price 20 = .ok (.getfield 105, 3) := by decide +kernel
theorem dX5_price_23 : decode cX5_price 23 = .ok (.istore_n 2, 1) := by decide +kernel
theorem dX5_price_24 : decode cX5_price 24 = .ok (.aload_n 0, 1) := by decide +kernel
theorem dX5_price_25 : decode cX5_price 25 = .ok (.getfield 10, 3) := by decide +kernel
theorem dX5_price_28 : decode cX5_price 28 = .ok (.iload_n 1, 1) := by decide +kernel
theorem dX5_price_29 : decode cX5_price 29 = .ok (.putfield 105, 3) := by decide +kernel
theorem dX5_price_32 : decode cX5_price 32 = .ok (.iload_n 2, 1) := by decide +kernel
theorem dX5_price_33 : decode cX5_price 33 = .ok (.ireturn, 1) := by decide +kernel
def m_X5_price (a1 : Int32) (u : zM) : Option (Int32 × zM) :=
  (if (m_X5_within a1 0 99) = 0 then
zbind2 (m_X5_finding 0 u) (fun x4 u5 => some (x4, u5))
else
zlet (zst u 1 10 a1) (fun u2 => some ((u 1 10), u2)))
set_option maxHeartbeats 4000000 in
set_option maxRecDepth 100000 in
theorem c_X5_price (a1 : Int32)   (u : zM) (r : Int32) (u' : zM) (h : m_X5_price a1 u = some (r, u')) : zCt 2 yX5_price cX5_price 3 (some .int) (fun E => [.ref (zad E 0), .int a1]) u (fun _ => some (.int r)) u' := by
  refine zCt.of (by decide +kernel) (fun E => Nat.le_of_ble_eq_true rfl) (fun X hX hR => ?_)
  have hX : zGood X RX5 cX5_price 3 2 := hX
  show zG X u 0 [(0, .ref (zad X.1 0)), (1, .int a1)] []
  unfold m_X5_price at h
  refine r_iload_n hX dX5_price_0 1 rfl rfl ?_
  refine r_iconst (v := 0) hX dX5_price_1 (by decide) ?_
  refine r_bipush (v := 99) hX dX5_price_2 (by decide) ?_
  refine r_callS (As := [.int a1, .int 0, .int 99]) (rest := []) (st1 := [.int (m_X5_within a1 0 99)]) hX dX5_price_4 ls_RX5_80 (c_X5_within a1 0 99  u _ rfl) (by decide) rfl rfl rfl (Nat.le_of_ble_eq_true rfl) rfl ?_
  refine r_if_ne (tgt := 16) hX dX5_price_7 (by decide) (fun c1 => ?_) (fun c1 => ?_)
  · have h := (if_neg c1).symm.trans h
    refine r_aload_n hX dX5_price_16 0 rfl rfl ?_
    refine r_getR hX dX5_price_17 f_RX5_10 zr_0_0 ?_
    refine r_getI hX dX5_price_20 f_RX5_105 zi_1_10 ?_
    refine r_istore_n (y := (u 1 10)) (L' := [(2, .int (u 1 10)), (0, .ref (zad X.1 0)), (1, .int a1)]) hX dX5_price_23 rfl (by decide) rfl rfl ?_
    refine r_aload_n hX dX5_price_24 1 rfl rfl ?_
    refine r_getR hX dX5_price_25 f_RX5_10 zr_0_0 ?_
    refine r_iload_n hX dX5_price_28 2 rfl rfl ?_
    obtain ⟨u2, e3, h⟩ := zlet_elim h
    refine r_putI hX dX5_price_29 f_RX5_105 p_4_10 zi_1_10 ?_
    rw [e3]
    refine r_iload_n hX dX5_price_32 0 rfl rfl ?_
    obtain ⟨rfl, rfl⟩ := zinj2 (Option.some.inj h)
    exact r_iret hX hR dX5_price_33
  · have h := (if_pos c1).symm.trans h
    refine r_aload_n hX dX5_price_10 0 rfl rfl ?_
    refine r_iconst (v := 0) hX dX5_price_11 (by decide) ?_
    obtain ⟨x4, u5, e6, h⟩ := zbind2_elim h
    refine r_callV (As := [.int 0]) (rest := []) (st1 := [.int x4]) hX dX5_price_12 lv_RX5_65 (c_X5_finding 0  u _ _ e6) (by decide) rfl rfl (zRecv.of (q := 0) (ci := 5) rfl rfl) rfl (Nat.le_of_ble_eq_true rfl) rfl ?_
    obtain ⟨rfl, rfl⟩ := zinj2 (Option.some.inj h)
    exact r_iret hX hR dX5_price_15
