/-! MODELS AND CONTRACTS, by program (wip/whole/gen_all.py): X6_countsOf, X6_measured, X6_bodyOf, X6_mayBe, X6_become, X6_change, X6_here, X6_rule, X6_ease, X6_price -/
theorem dX6_countsOf_0 : decode cX6_countsOf 0 = .ok (.aload_n 0, 1) := by decide +kernel
theorem dX6_countsOf_1 : decode cX6_countsOf 1 = .ok (.iload_n 1, 1) := by decide +kernel
theorem dX6_countsOf_2 : decode cX6_countsOf 2 = .ok (.iconst 0, 1) := by decide +kernel
theorem dX6_countsOf_3 : decode cX6_countsOf 3 = .ok (.invokevirtual 92, 3) := by decide +kernel
theorem dX6_countsOf_6 : decode cX6_countsOf 6 = .ok (.istore_n 2, 1) := by decide +kernel
theorem dX6_countsOf_7 : decode cX6_countsOf 7 = .ok (.iload_n 2, 1) := by decide +kernel
theorem dX6_countsOf_8 : decode cX6_countsOf 8 = .ok (.iconst 3, 1) := by decide +kernel
theorem dX6_countsOf_9 : decode cX6_countsOf 9 = .ok (.if_icmp .ne 7, 3) := by decide +kernel
theorem dX6_countsOf_12 : decode cX6_countsOf 12 = .ok (.iconst 2, 1) := by decide +kernel
theorem dX6_countsOf_13 : decode cX6_countsOf 13 = .ok (.goto 13, 3) := by decide +kernel
theorem dX6_countsOf_16 : decode cX6_countsOf 16 = .ok (.iload_n 2, 1) := by decide +kernel
theorem dX6_countsOf_17 : decode cX6_countsOf 17 = .ok (.iconst 4, 1) := by decide +kernel
theorem dX6_countsOf_18 : decode cX6_countsOf 18 = .ok (.if_icmp .ne 7, 3) := by decide +kernel
theorem dX6_countsOf_21 : decode cX6_countsOf 21 = .ok (.iconst 3, 1) := by decide +kernel
theorem dX6_countsOf_22 : decode cX6_countsOf 22 = .ok (.goto 4, 3) := by decide +kernel
theorem dX6_countsOf_25 : decode cX6_countsOf 25 = .ok (.iconst 1, 1) := by decide +kernel
theorem dX6_countsOf_26 : decode cX6_countsOf 26 = .ok (.ireturn, 1) := by decide +kernel
def m_X6_countsOf (a1 : Int32) (u : zM) : Option (Int32) :=
  zbind (m_X6_bodyIs a1 0 u) (fun x1 => (if x1 = 3 then
some 2
else
(if x1 = 4 then
some 3
else
some 1)))
set_option maxHeartbeats 4000000 in
set_option maxRecDepth 100000 in
theorem c_X6_countsOf (a1 : Int32)   (u : zM) (r : Int32) (h : m_X6_countsOf a1 u = some r) : zCt 2 yX6_countsOf cX6_countsOf 3 (some .int) (fun E => [.ref (zad E 39), .int a1]) u (fun _ => some (.int r)) u := by
  refine zCt.of (by decide +kernel) (fun E => Nat.le_of_ble_eq_true rfl) (fun X hX hR => ?_)
  have hX : zGood X RX6 cX6_countsOf 3 2 := hX
  show zG X u 0 [(0, .ref (zad X.1 39)), (1, .int a1)] []
  unfold m_X6_countsOf at h
  refine r_aload_n hX dX6_countsOf_0 0 rfl rfl ?_
  refine r_iload_n hX dX6_countsOf_1 1 rfl rfl ?_
  refine r_iconst (v := 0) hX dX6_countsOf_2 (by decide) ?_
  obtain ⟨x1, e2, h⟩ := zbind_elim h
  refine r_callV (As := [.int a1, .int 0]) (rest := []) (st1 := [.int x1]) hX dX6_countsOf_3 lv_RX6_92 (c_X6_bodyIs a1 0  u _ e2) (by decide) rfl rfl (zRecv.of (q := 39) (ci := 6) rfl rfl) rfl (Nat.le_of_ble_eq_true rfl) rfl ?_
  refine r_istore_n (y := x1) (L' := [(2, .int x1), (0, .ref (zad X.1 39)), (1, .int a1)]) hX dX6_countsOf_6 rfl (by decide) rfl rfl ?_
  refine r_iload_n hX dX6_countsOf_7 0 rfl rfl ?_
  refine r_iconst (v := 3) hX dX6_countsOf_8 (by decide) ?_
  refine r_icmp_ne (tgt := 16) hX dX6_countsOf_9 (by decide) (fun c3 => ?_) (fun c3 => ?_)
  · have h := (if_neg c3).symm.trans h
    refine r_iload_n hX dX6_countsOf_16 0 rfl rfl ?_
    refine r_iconst (v := 4) hX dX6_countsOf_17 (by decide) ?_
    refine r_icmp_ne (tgt := 25) hX dX6_countsOf_18 (by decide) (fun c4 => ?_) (fun c4 => ?_)
    · have h := (if_neg c4).symm.trans h
      refine r_iconst (v := 1) hX dX6_countsOf_25 (by decide) ?_
      obtain rfl := Option.some.inj h
      exact r_iret hX hR dX6_countsOf_26
    · have h := (if_pos c4).symm.trans h
      refine r_iconst (v := 3) hX dX6_countsOf_21 (by decide) ?_
      refine r_goto (tgt := 26) hX dX6_countsOf_22 (by decide) ?_
      obtain rfl := Option.some.inj h
      exact r_iret hX hR dX6_countsOf_26
  · have h := (if_pos c3).symm.trans h
    refine r_iconst (v := 2) hX dX6_countsOf_12 (by decide) ?_
    refine r_goto (tgt := 26) hX dX6_countsOf_13 (by decide) ?_
    obtain rfl := Option.some.inj h
    exact r_iret hX hR dX6_countsOf_26
theorem dX6_measured_0 : decode cX6_measured 0 = .ok (.aload_n 0, 1) := by decide +kernel
theorem dX6_measured_1 : decode cX6_measured 1 = .ok (.iload_n 1, 1) := by decide +kernel
theorem dX6_measured_2 : decode cX6_measured 2 = .ok (.iconst 1, 1) := by decide +kernel
theorem dX6_measured_3 : decode cX6_measured 3 = .ok (.iload_n 2, 1) := by decide +kernel
theorem dX6_measured_4 : decode cX6_measured 4 = .ok (.iadd, 1) := by decide +kernel
theorem dX6_measured_5 : decode cX6_measured 5 = .ok (.invokevirtual 92, 3) := by decide +kernel
theorem dX6_measured_8 : decode cX6_measured 8 = .ok (.istore_n 3, 1) := by decide +kernel
theorem dX6_measured_9 : decode cX6_measured 9 = .ok (.aload_n 0, 1) := by decide +kernel
theorem dX6_measured_10 : decode cX6_measured 10 = .ok (.iload_n 1, 1) := by decide +kernel
theorem dX6_measured_11 : decode cX6_measured 11 = .ok (.iconst 4, 1) := by decide +kernel
theorem dX6_measured_12 : decode cX6_measured 12 = .ok (.invokevirtual 92, 3) := by decide +kernel
theorem dX6_measured_15 : decode cX6_measured 15 = .ok (.istore 4, 2) := by decide +kernel
theorem dX6_measured_17 : decode cX6_measured 17 = .ok (.aload_n 0, 1) := by decide +kernel
theorem dX6_measured_18 : decode cX6_measured 18 = .ok (.iload_n 1, 1) := by decide +kernel
theorem dX6_measured_19 : decode cX6_measured 19 = .ok (.iconst 0, 1) := by decide +kernel
theorem dX6_measured_20 : decode cX6_measured 20 = .ok (.invokevirtual 92, 3) := by decide +kernel
theorem dX6_measured_23 : decode cX6_measured 23 = .ok (.tableswitch 93 1 6 #[37, 49, 93, 37, 79, 63], 37) := by decide +kernel
theorem dX6_measured_60 : decode cX6_measured 60 = .ok (.iload_n 2, 1) := by decide +kernel
theorem dX6_measured_61 : decode cX6_measured 61 = .ok (.ifCond .ne 9, 3) := by decide +kernel
theorem dX6_measured_64 : decode cX6_measured 64 = .ok (.iload_n 3, 1) := by decide +kernel
theorem dX6_measured_65 : decode cX6_measured 65 = .ok (.iconst 2, 1) := by decide +kernel
theorem dX6_measured_66 : decode cX6_measured 66 = .ok (.iadd, 1) := by decide +kernel
theorem dX6_measured_67 : decode cX6_measured 67 = .ok (.goto 4, 3) := by decide +kernel
theorem dX6_measured_70 : decode cX6_measured 70 = .ok (.iload_n 3, 1) := by decide +kernel
theorem dX6_measured_71 : decode cX6_measured 71 = .ok (.ireturn, 1) := by decide +kernel
theorem dX6_measured_72 : decode cX6_measured 72 = .ok (.iload_n 2, 1) := by decide +kernel
theorem dX6_measured_73 : decode cX6_measured 73 = .ok (.iconst 1, 1) := by decide +kernel
theorem dX6_measured_74 : decode cX6_measured 74 = .ok (.if_icmp .ne 10, 3) := by decide +kernel
theorem dX6_measured_77 : decode cX6_measured 77 = .ok (.iload_n 3, 1) := by decide +kernel
theorem dX6_measured_78 : decode cX6_measured 78 = .ok (.iload 4, 2) := by decide +kernel
theorem dX6_measured_80 : decode cX6_measured 80 = .ok (.iadd, 1) := by decide +kernel
theorem dX6_measured_81 : decode cX6_measured 81 = .ok (.goto 4, 3) := by decide +kernel
theorem dX6_measured_84 : decode cX6_measured 84 = .ok (.iload_n 3, 1) := by decide +kernel
theorem dX6_measured_85 : decode cX6_measured 85 = .ok (.ireturn, 1) := by decide +kernel
theorem dX6_measured_86 : decode cX6_measured 86 = .ok (.iload_n 2, 1) := by decide +kernel
theorem dX6_measured_87 : decode cX6_measured 87 = .ok (.iconst 1, 1) := by decide +kernel
theorem dX6_measured_88 : decode cX6_measured 88 = .ok (.if_icmp .ne 12, 3) := by decide +kernel
theorem dX6_measured_91 : decode cX6_measured 91 = .ok (.iload_n 3, 1) := by decide +kernel
theorem dX6_measured_92 : decode cX6_measured 92 = .ok (.iconst 2, 1) := by decide +kernel
theorem dX6_measured_93 : decode cX6_measured 93 = .ok (.iload 4, 2) := by decide +kernel
theorem dX6_measured_95 : decode cX6_measured 95 = .ok (.imul, 1) := by decide +kernel
theorem dX6_measured_96 : decode cX6_measured 96 = .ok (.iadd, 1) := by decide +kernel
theorem dX6_measured_97 : decode cX6_measured 97 = .ok (.goto 4, 3) := by decide +kernel
theorem dX6_measured_100 : decode cX6_measured 100 = .ok (.iload_n 3, 1) := by decide +kernel
theorem dX6_measured_101 : decode cX6_measured 101 = .ok (.ireturn, 1) := by decide +kernel
theorem dX6_measured_102 : decode cX6_measured 102 = .ok (.iload_n 2, 1) := by decide +kernel
theorem dX6_measured_103 : decode cX6_measured 103 = .ok (.iconst 1, 1) := by decide +kernel
theorem dX6_measured_104 : decode cX6_measured 104 = .ok (.if_icmp .ne 10, 3) := by decide +kernel
theorem dX6_measured_107 : decode cX6_measured 107 = .ok (.iload_n 3, 1) := by decide +kernel
theorem dX6_measured_108 : decode cX6_measured 108 = .ok (.bipush 10, 2) := by decide +kernel
theorem dX6_measured_110 : decode cX6_measured 110 = .ok (.isub, 1) := by decide +kernel
theorem dX6_measured_111 : decode cX6_measured 111 = .ok (.goto 4, 3) := by decide +kernel
theorem dX6_measured_114 : decode cX6_measured 114 = .ok (.iload_n 3, 1) := by decide +kernel
theorem dX6_measured_115 : decode cX6_measured 115 = .ok (.ireturn, 1) := by decide +kernel
theorem dX6_measured_116 : decode cX6_measured 116 = .ok (.iload_n 3, 1) := by decide +kernel
theorem dX6_measured_117 : decode cX6_measured 117 = .ok (.ireturn, 1) := by decide +kernel
def m_X6_measured (a1 : Int32) (a2 : Int32) (u : zM) : Option (Int32) :=
  zbind (m_X6_bodyIs a1 (1 + a2) u) (fun x1 => zbind (m_X6_bodyIs a1 4 u) (fun x3 => zbind (m_X6_bodyIs a1 0 u) (fun x5 => (if x5 = 1 then
(if a2 = 0 then
some (x1 + 2)
else
some x1)
else
if x5 = 2 then
(if a2 = 1 then
some (x1 + x3)
else
some x1)
else
if x5 = 3 then
some x1
else
if x5 = 4 then
(if a2 = 0 then
some (x1 + 2)
else
some x1)
else
if x5 = 5 then
(if a2 = 1 then
some (x1 - 10)
else
some x1)
else
if x5 = 6 then
(if a2 = 1 then
some (x1 + (2 * x3))
else
some x1)
else
some x1))))
set_option maxHeartbeats 4000000 in
set_option maxRecDepth 100000 in
theorem c_X6_measured (a1 : Int32) (a2 : Int32)   (u : zM) (r : Int32) (h : m_X6_measured a1 a2 u = some r) : zCt 2 yX6_measured cX6_measured 5 (some .int) (fun E => [.ref (zad E 39), .int a1, .int a2]) u (fun _ => some (.int r)) u := by
  refine zCt.of (by decide +kernel) (fun E => Nat.le_of_ble_eq_true rfl) (fun X hX hR => ?_)
  have hX : zGood X RX6 cX6_measured 5 2 := hX
  show zG X u 0 [(0, .ref (zad X.1 39)), (1, .int a1), (2, .int a2)] []
  unfold m_X6_measured at h
  refine r_aload_n hX dX6_measured_0 0 rfl rfl ?_
  refine r_iload_n hX dX6_measured_1 1 rfl rfl ?_
  refine r_iconst (v := 1) hX dX6_measured_2 (by decide) ?_
  refine r_iload_n hX dX6_measured_3 2 rfl rfl ?_
  refine r_iadd hX dX6_measured_4 ?_
  obtain ⟨x1, e2, h⟩ := zbind_elim h
  refine r_callV (As := [.int a1, .int (1 + a2)]) (rest := []) (st1 := [.int x1]) hX dX6_measured_5 lv_RX6_92 (c_X6_bodyIs a1 (1 + a2)  u _ e2) (by decide) rfl rfl (zRecv.of (q := 39) (ci := 6) rfl rfl) rfl (Nat.le_of_ble_eq_true rfl) rfl ?_
  refine r_istore_n (y := x1) (L' := [(3, .int x1), (0, .ref (zad X.1 39)), (1, .int a1), (2, .int a2)]) hX dX6_measured_8 rfl (by decide) rfl rfl ?_
  refine r_aload_n hX dX6_measured_9 1 rfl rfl ?_
  refine r_iload_n hX dX6_measured_10 2 rfl rfl ?_
  refine r_iconst (v := 4) hX dX6_measured_11 (by decide) ?_
  obtain ⟨x3, e4, h⟩ := zbind_elim h
  refine r_callV (As := [.int a1, .int 4]) (rest := []) (st1 := [.int x3]) hX dX6_measured_12 lv_RX6_92 (c_X6_bodyIs a1 4  u _ e4) (by decide) rfl rfl (zRecv.of (q := 39) (ci := 6) rfl rfl) rfl (Nat.le_of_ble_eq_true rfl) rfl ?_
  refine r_istore (y := x3) (L' := [(4, .int x3), (3, .int x1), (0, .ref (zad X.1 39)), (1, .int a1), (2, .int a2)]) hX dX6_measured_15 (by decide) rfl rfl ?_
  refine r_aload_n hX dX6_measured_17 2 rfl rfl ?_
  refine r_iload_n hX dX6_measured_18 3 rfl rfl ?_
  refine r_iconst (v := 0) hX dX6_measured_19 (by decide) ?_
  obtain ⟨x5, e6, h⟩ := zbind_elim h
  refine r_callV (As := [.int a1, .int 0]) (rest := []) (st1 := [.int x5]) hX dX6_measured_20 lv_RX6_92 (c_X6_bodyIs a1 0  u _ e6) (by decide) rfl rfl (zRecv.of (q := 39) (ci := 6) rfl rfl) rfl (Nat.le_of_ble_eq_true rfl) rfl ?_
  by_cases c7 : x5 = 1
  · have h := (if_pos c7).symm.trans h
    refine r_tsIn (v := 1) (off := 37) (tgt := 60) hX dX6_measured_23 c7 (by decide) (by decide) (by decide +kernel) (by decide) ?_
    refine r_iload_n hX dX6_measured_60 4 rfl rfl ?_
    refine r_if_ne (tgt := 70) hX dX6_measured_61 (by decide) (fun c8 => ?_) (fun c8 => ?_)
    · have h := (if_neg c8).symm.trans h
      refine r_iload_n hX dX6_measured_70 1 rfl rfl ?_
      obtain rfl := Option.some.inj h
      exact r_iret hX hR dX6_measured_71
    · have h := (if_pos c8).symm.trans h
      refine r_iload_n hX dX6_measured_64 1 rfl rfl ?_
      refine r_iconst (v := 2) hX dX6_measured_65 (by decide) ?_
      refine r_iadd hX dX6_measured_66 ?_
      refine r_goto (tgt := 71) hX dX6_measured_67 (by decide) ?_
      obtain rfl := Option.some.inj h
      exact r_iret hX hR dX6_measured_71
  have h := (if_neg c7).symm.trans h
  by_cases c9 : x5 = 2
  · have h := (if_pos c9).symm.trans h
    refine r_tsIn (v := 2) (off := 49) (tgt := 72) hX dX6_measured_23 c9 (by decide) (by decide) (by decide +kernel) (by decide) ?_
    refine r_iload_n hX dX6_measured_72 4 rfl rfl ?_
    refine r_iconst (v := 1) hX dX6_measured_73 (by decide) ?_
    refine r_icmp_ne (tgt := 84) hX dX6_measured_74 (by decide) (fun c10 => ?_) (fun c10 => ?_)
    · have h := (if_neg c10).symm.trans h
      refine r_iload_n hX dX6_measured_84 1 rfl rfl ?_
      obtain rfl := Option.some.inj h
      exact r_iret hX hR dX6_measured_85
    · have h := (if_pos c10).symm.trans h
      refine r_iload_n hX dX6_measured_77 1 rfl rfl ?_
      refine r_iload hX dX6_measured_78 0 rfl ?_
      refine r_iadd hX dX6_measured_80 ?_
      refine r_goto (tgt := 85) hX dX6_measured_81 (by decide) ?_
      obtain rfl := Option.some.inj h
      exact r_iret hX hR dX6_measured_85
  have h := (if_neg c9).symm.trans h
  by_cases c11 : x5 = 3
  · have h := (if_pos c11).symm.trans h
    refine r_tsIn (v := 3) (off := 93) (tgt := 116) hX dX6_measured_23 c11 (by decide) (by decide) (by decide +kernel) (by decide) ?_
    refine r_iload_n hX dX6_measured_116 1 rfl rfl ?_
    obtain rfl := Option.some.inj h
    exact r_iret hX hR dX6_measured_117
  have h := (if_neg c11).symm.trans h
  by_cases c12 : x5 = 4
  · have h := (if_pos c12).symm.trans h
    refine r_tsIn (v := 4) (off := 37) (tgt := 60) hX dX6_measured_23 c12 (by decide) (by decide) (by decide +kernel) (by decide) ?_
    refine r_iload_n hX dX6_measured_60 4 rfl rfl ?_
    refine r_if_ne (tgt := 70) hX dX6_measured_61 (by decide) (fun c13 => ?_) (fun c13 => ?_)
    · have h := (if_neg c13).symm.trans h
      refine r_iload_n hX dX6_measured_70 1 rfl rfl ?_
      obtain rfl := Option.some.inj h
      exact r_iret hX hR dX6_measured_71
    · have h := (if_pos c13).symm.trans h
      refine r_iload_n hX dX6_measured_64 1 rfl rfl ?_
      refine r_iconst (v := 2) hX dX6_measured_65 (by decide) ?_
      refine r_iadd hX dX6_measured_66 ?_
      refine r_goto (tgt := 71) hX dX6_measured_67 (by decide) ?_
      obtain rfl := Option.some.inj h
      exact r_iret hX hR dX6_measured_71
  have h := (if_neg c12).symm.trans h
  by_cases c14 : x5 = 5
  · have h := (if_pos c14).symm.trans h
    refine r_tsIn (v := 5) (off := 79) (tgt := 102) hX dX6_measured_23 c14 (by decide) (by decide) (by decide +kernel) (by decide) ?_
    refine r_iload_n hX dX6_measured_102 4 rfl rfl ?_
    refine r_iconst (v := 1) hX dX6_measured_103 (by decide) ?_
    refine r_icmp_ne (tgt := 114) hX dX6_measured_104 (by decide) (fun c15 => ?_) (fun c15 => ?_)
    · have h := (if_neg c15).symm.trans h
      refine r_iload_n hX dX6_measured_114 1 rfl rfl ?_
      obtain rfl := Option.some.inj h
      exact r_iret hX hR dX6_measured_115
    · have h := (if_pos c15).symm.trans h
      refine r_iload_n hX dX6_measured_107 1 rfl rfl ?_
      refine r_bipush (v := 10) hX dX6_measured_108 (by decide) ?_
      refine r_isub hX dX6_measured_110 ?_
      refine r_goto (tgt := 115) hX dX6_measured_111 (by decide) ?_
      obtain rfl := Option.some.inj h
      exact r_iret hX hR dX6_measured_115
  have h := (if_neg c14).symm.trans h
  by_cases c16 : x5 = 6
  · have h := (if_pos c16).symm.trans h
    refine r_tsIn (v := 6) (off := 63) (tgt := 86) hX dX6_measured_23 c16 (by decide) (by decide) (by decide +kernel) (by decide) ?_
    refine r_iload_n hX dX6_measured_86 4 rfl rfl ?_
    refine r_iconst (v := 1) hX dX6_measured_87 (by decide) ?_
    refine r_icmp_ne (tgt := 100) hX dX6_measured_88 (by decide) (fun c17 => ?_) (fun c17 => ?_)
    · have h := (if_neg c17).symm.trans h
      refine r_iload_n hX dX6_measured_100 1 rfl rfl ?_
      obtain rfl := Option.some.inj h
      exact r_iret hX hR dX6_measured_101
    · have h := (if_pos c17).symm.trans h
      refine r_iload_n hX dX6_measured_91 1 rfl rfl ?_
      refine r_iconst (v := 2) hX dX6_measured_92 (by decide) ?_
      refine r_iload hX dX6_measured_93 0 rfl ?_
      refine r_imul hX dX6_measured_95 ?_
      refine r_iadd hX dX6_measured_96 ?_
      refine r_goto (tgt := 101) hX dX6_measured_97 (by decide) ?_
      obtain rfl := Option.some.inj h
      exact r_iret hX hR dX6_measured_101
  have h := (if_neg c16).symm.trans h
  refine r_tsOut (tgt := 116) hX dX6_measured_23 (by first | exact zts_out x5 1 (by decide) 6 (by decide) (fun k hk => match k, hk with | 0, _ => c7 | 1, _ => c9 | 2, _ => c11 | 3, _ => c12 | 4, _ => c14 | 5, _ => c16 | k + 6, hk => absurd hk (by omega))) (by decide) ?_
  refine r_iload_n hX dX6_measured_116 1 rfl rfl ?_
  obtain rfl := Option.some.inj h
  exact r_iret hX hR dX6_measured_117
theorem dX6_bodyOf_0 : decode cX6_bodyOf 0 = .ok (.aload_n 0, 1) := by decide +kernel
theorem dX6_bodyOf_1 : decode cX6_bodyOf 1 = .ok (.iload_n 1, 1) := by decide +kernel
theorem dX6_bodyOf_2 : decode cX6_bodyOf 2 = .ok (.invokevirtual 96, 3) := by decide +kernel
theorem dX6_bodyOf_5 : decode cX6_bodyOf 5 = .ok (.ifCond .eq 13, 3) := by decide +kernel
theorem dX6_bodyOf_8 : decode cX6_bodyOf 8 = .ok (.iload_n 2, 1) := by decide +kernel
theorem dX6_bodyOf_9 : decode cX6_bodyOf 9 = .ok (.iconst 0, 1) := by decide +kernel
theorem dX6_bodyOf_10 : decode cX6_bodyOf 10 = .ok (.bipush 10, 2) := by decide +kernel
theorem dX6_bodyOf_12 : decode cX6_bodyOf 12 = .ok (.invokestatic 79, 3) := by decide +kernel
theorem dX6_bodyOf_15 : decode cX6_bodyOf 15 = .ok (.ifCond .ne 10, 3) := by decide +kernel
theorem dX6_bodyOf_18 : decode cX6_bodyOf 18 = .ok (.aload_n 0, 1) := by decide +kernel
theorem dX6_bodyOf_19 : decode cX6_bodyOf 19 = .ok (.ldc 78, 2) := by decide +kernel
theorem dX6_bodyOf_21 : decode cX6_bodyOf 21 = .ok (.invokevirtual 83, 3) := by decide +kernel
theorem dX6_bodyOf_24 : decode cX6_bodyOf 24 = .ok (.ireturn, 1) := by decide +kernel
theorem dX6_bodyOf_25 : decode cX6_bodyOf 25 = .ok (.iload_n 2, 1) := by decide +kernel
theorem dX6_bodyOf_26 : decode cX6_bodyOf 26 = .ok (.bipush 7, 2) := by decide +kernel
theorem dX6_bodyOf_28 : decode cX6_bodyOf 28 = .ok (.if_icmp .ge 12, 3) := by decide +kernel
theorem dX6_bodyOf_31 : decode cX6_bodyOf 31 = .ok (.aload_n 0, 1) := by decide +kernel
theorem dX6_bodyOf_32 : decode cX6_bodyOf 32 = .ok (.iload_n 1, 1) := by decide +kernel
theorem dX6_bodyOf_33 : decode cX6_bodyOf 33 = .ok (.iload_n 2, 1) := by decide +kernel
theorem dX6_bodyOf_34 : decode cX6_bodyOf 34 = .ok (.invokevirtual 92, 3) := by decide +kernel
theorem dX6_bodyOf_37 : decode cX6_bodyOf 37 = .ok (.goto 26, 3) := by decide +kernel
theorem dX6_bodyOf_40 : decode cX6_bodyOf 40 = .ok (.iload_n 2, 1) := by decide +kernel
theorem dX6_bodyOf_41 : decode cX6_bodyOf 41 = .ok (.bipush 7, 2) := by decide +kernel
theorem dX6_bodyOf_43 : decode cX6_bodyOf 43 = .ok (.if_icmp .ne 11, 3) := by decide +kernel
theorem dX6_bodyOf_46 : decode cX6_bodyOf 46 = .ok (.aload_n 0, 1) := by decide +kernel
theorem dX6_bodyOf_47 : decode cX6_bodyOf 47 = .ok (.iload_n 1, 1) := by decide +kernel
theorem dX6_bodyOf_48 : decode cX6_bodyOf 48 = .ok (.invokevirtual 100, 3) := by decide +kernel
theorem dX6_bodyOf_51 : decode cX6_bodyOf 51 = .ok (.goto 12, 3) := by decide +kernel
theorem dX6_bodyOf_54 : decode cX6_bodyOf 54 = .ok (.aload_n 0, 1) := by decide +kernel
theorem dX6_bodyOf_55 : decode cX6_bodyOf 55 = .ok (.iload_n 1, 1) := by decide +kernel
theorem dX6_bodyOf_56 : decode cX6_bodyOf 56 = .ok (.iload_n 2, 1) := by decide +kernel
theorem dX6_bodyOf_57 : decode cX6_bodyOf 57 = .ok (.bipush 8, 2) := by decide +kernel
theorem dX6_bodyOf_59 : decode cX6_bodyOf 59 = .ok (.isub, 1) := by decide +kernel
theorem dX6_bodyOf_60 : decode cX6_bodyOf 60 = .ok (.invokevirtual 103, 3) := by decide +kernel
theorem dX6_bodyOf_63 : decode cX6_bodyOf 63 = .ok (.ireturn, 1) := by decide +kernel
def m_X6_bodyOf (a1 : Int32) (a2 : Int32) (u : zM) : Option (Int32 × zM) :=
  (if (m_X6_isBody a1 u) = 0 then
zbind2 (m_X6_finding (-1000001) u) (fun x2 u3 => some (x2, u3))
else
(if (m_X6_within a2 0 10) = 0 then
zbind2 (m_X6_finding (-1000001) u) (fun x14 u15 => some (x14, u15))
else
(if 7 ≤ a2 then
(if a2 = 7 then
zbind (m_X6_countsOf a1 u) (fun x10 => some (x10, u))
else
zbind (m_X6_measured a1 (a2 - 8) u) (fun x8 => some (x8, u)))
else
zbind (m_X6_bodyIs a1 a2 u) (fun x12 => some (x12, u)))))
set_option maxHeartbeats 4000000 in
set_option maxRecDepth 100000 in
theorem c_X6_bodyOf (a1 : Int32) (a2 : Int32)   (u : zM) (r : Int32) (u' : zM) (h : m_X6_bodyOf a1 a2 u = some (r, u')) : zCt 3 yX6_bodyOf cX6_bodyOf 3 (some .int) (fun E => [.ref (zad E 39), .int a1, .int a2]) u (fun _ => some (.int r)) u' := by
  refine zCt.of (by decide +kernel) (fun E => Nat.le_of_ble_eq_true rfl) (fun X hX hR => ?_)
  have hX : zGood X RX6 cX6_bodyOf 3 3 := hX
  show zG X u 0 [(0, .ref (zad X.1 39)), (1, .int a1), (2, .int a2)] []
  unfold m_X6_bodyOf at h
  refine r_aload_n hX dX6_bodyOf_0 0 rfl rfl ?_
  refine r_iload_n hX dX6_bodyOf_1 1 rfl rfl ?_
  refine r_callV (As := [.int a1]) (rest := []) (st1 := [.int (m_X6_isBody a1 u)]) hX dX6_bodyOf_2 lv_RX6_96 (c_X6_isBody a1  u _ rfl) (by decide) rfl rfl (zRecv.of (q := 39) (ci := 6) rfl rfl) rfl (Nat.le_of_ble_eq_true rfl) rfl ?_
  refine r_if_eq (tgt := 18) hX dX6_bodyOf_5 (by decide) (fun c1 => ?_) (fun c1 => ?_)
  · have h := (if_pos c1).symm.trans h
    refine r_aload_n hX dX6_bodyOf_18 0 rfl rfl ?_
    refine r_ldc (v := (-1000001)) hX dX6_bodyOf_19 (zT_in 1041 (by decide +kernel) rfl) ?_
    obtain ⟨x2, u3, e4, h⟩ := zbind2_elim h
    refine r_callV (As := [.int (-1000001)]) (rest := []) (st1 := [.int x2]) hX dX6_bodyOf_21 lv_RX6_83 (c_X6_finding (-1000001)  u _ _ e4) (by decide) rfl rfl (zRecv.of (q := 39) (ci := 6) rfl rfl) rfl (Nat.le_of_ble_eq_true rfl) rfl ?_
    obtain ⟨rfl, rfl⟩ := zinj2 (Option.some.inj h)
    exact r_iret hX hR dX6_bodyOf_24
  · have h := (if_neg c1).symm.trans h
    refine r_iload_n hX dX6_bodyOf_8 2 rfl rfl ?_
    refine r_iconst (v := 0) hX dX6_bodyOf_9 (by decide) ?_
    refine r_bipush (v := 10) hX dX6_bodyOf_10 (by decide) ?_
    refine r_callS (As := [.int a2, .int 0, .int 10]) (rest := []) (st1 := [.int (m_X6_within a2 0 10)]) hX dX6_bodyOf_12 ls_RX6_79 (c_X6_within a2 0 10  u _ rfl) (by decide) rfl rfl rfl (Nat.le_of_ble_eq_true rfl) rfl ?_
    refine r_if_ne (tgt := 25) hX dX6_bodyOf_15 (by decide) (fun c5 => ?_) (fun c5 => ?_)
    · have h := (if_neg c5).symm.trans h
      refine r_iload_n hX dX6_bodyOf_25 2 rfl rfl ?_
      refine r_bipush (v := 7) hX dX6_bodyOf_26 (by decide) ?_
      refine r_icmp_ge (tgt := 40) hX dX6_bodyOf_28 (by decide) (fun c6 => ?_) (fun c6 => ?_)
      · have h := (if_pos c6).symm.trans h
        refine r_iload_n hX dX6_bodyOf_40 2 rfl rfl ?_
        refine r_bipush (v := 7) hX dX6_bodyOf_41 (by decide) ?_
        refine r_icmp_ne (tgt := 54) hX dX6_bodyOf_43 (by decide) (fun c7 => ?_) (fun c7 => ?_)
        · have h := (if_neg c7).symm.trans h
          refine r_aload_n hX dX6_bodyOf_54 0 rfl rfl ?_
          refine r_iload_n hX dX6_bodyOf_55 1 rfl rfl ?_
          refine r_iload_n hX dX6_bodyOf_56 2 rfl rfl ?_
          refine r_bipush (v := 8) hX dX6_bodyOf_57 (by decide) ?_
          refine r_isub hX dX6_bodyOf_59 ?_
          obtain ⟨x8, e9, h⟩ := zbind_elim h
          refine r_callV (As := [.int a1, .int (a2 - 8)]) (rest := []) (st1 := [.int x8]) hX dX6_bodyOf_60 lv_RX6_103 (c_X6_measured a1 (a2 - 8)  u _ e9) (by decide) rfl rfl (zRecv.of (q := 39) (ci := 6) rfl rfl) rfl (Nat.le_of_ble_eq_true rfl) rfl ?_
          obtain ⟨rfl, rfl⟩ := zinj2 (Option.some.inj h)
          exact r_iret hX hR dX6_bodyOf_63
        · have h := (if_pos c7).symm.trans h
          refine r_aload_n hX dX6_bodyOf_46 0 rfl rfl ?_
          refine r_iload_n hX dX6_bodyOf_47 1 rfl rfl ?_
          obtain ⟨x10, e11, h⟩ := zbind_elim h
          refine r_callV (As := [.int a1]) (rest := []) (st1 := [.int x10]) hX dX6_bodyOf_48 lv_RX6_100 (c_X6_countsOf a1  u _ e11) (by decide) rfl rfl (zRecv.of (q := 39) (ci := 6) rfl rfl) rfl (Nat.le_of_ble_eq_true rfl) rfl ?_
          refine r_goto (tgt := 63) hX dX6_bodyOf_51 (by decide) ?_
          obtain ⟨rfl, rfl⟩ := zinj2 (Option.some.inj h)
          exact r_iret hX hR dX6_bodyOf_63
      · have h := (if_neg c6).symm.trans h
        refine r_aload_n hX dX6_bodyOf_31 0 rfl rfl ?_
        refine r_iload_n hX dX6_bodyOf_32 1 rfl rfl ?_
        refine r_iload_n hX dX6_bodyOf_33 2 rfl rfl ?_
        obtain ⟨x12, e13, h⟩ := zbind_elim h
        refine r_callV (As := [.int a1, .int a2]) (rest := []) (st1 := [.int x12]) hX dX6_bodyOf_34 lv_RX6_92 (c_X6_bodyIs a1 a2  u _ e13) (by decide) rfl rfl (zRecv.of (q := 39) (ci := 6) rfl rfl) rfl (Nat.le_of_ble_eq_true rfl) rfl ?_
        refine r_goto (tgt := 63) hX dX6_bodyOf_37 (by decide) ?_
        obtain ⟨rfl, rfl⟩ := zinj2 (Option.some.inj h)
        exact r_iret hX hR dX6_bodyOf_63
    · have h := (if_pos c5).symm.trans h
      refine r_aload_n hX dX6_bodyOf_18 0 rfl rfl ?_
      refine r_ldc (v := (-1000001)) hX dX6_bodyOf_19 (zT_in 1041 (by decide +kernel) rfl) ?_
      obtain ⟨x14, u15, e16, h⟩ := zbind2_elim h
      refine r_callV (As := [.int (-1000001)]) (rest := []) (st1 := [.int x14]) hX dX6_bodyOf_21 lv_RX6_83 (c_X6_finding (-1000001)  u _ _ e16) (by decide) rfl rfl (zRecv.of (q := 39) (ci := 6) rfl rfl) rfl (Nat.le_of_ble_eq_true rfl) rfl ?_
      obtain ⟨rfl, rfl⟩ := zinj2 (Option.some.inj h)
      exact r_iret hX hR dX6_bodyOf_24
theorem dX6_mayBe_0 : decode cX6_mayBe 0 = .ok (.iload_n 0, 1) := by decide +kernel
theorem dX6_mayBe_1 : decode cX6_mayBe 1 = .ok (.ifCond .ne 13, 3) := by decide +kernel
theorem dX6_mayBe_4 : decode cX6_mayBe 4 = .ok (.iload_n 1, 1) := by decide +kernel
theorem dX6_mayBe_5 : decode cX6_mayBe 5 = .ok (.iconst 0, 1) := by decide +kernel
theorem dX6_mayBe_6 : decode cX6_mayBe 6 = .ok (.bipush 6, 2) := by decide +kernel
theorem dX6_mayBe_8 : decode cX6_mayBe 8 = .ok (.invokestatic 79, 3) := by decide +kernel
theorem dX6_mayBe_11 : decode cX6_mayBe 11 = .ok (.goto 43, 3) := by decide +kernel
theorem dX6_mayBe_14 : decode cX6_mayBe 14 = .ok (.iload_n 0, 1) := by decide +kernel
theorem dX6_mayBe_15 : decode cX6_mayBe 15 = .ok (.iconst 4, 1) := by decide +kernel
theorem dX6_mayBe_16 : decode cX6_mayBe 16 = .ok (.if_icmp .ge 15, 3) := by decide +kernel
theorem dX6_mayBe_19 : decode cX6_mayBe 19 = .ok (.iload_n 1, 1) := by decide +kernel
theorem dX6_mayBe_20 : decode cX6_mayBe 20 = .ok (.bipush 50, 2) := by decide +kernel
theorem dX6_mayBe_22 : decode cX6_mayBe 22 = .ok (.sipush 250, 3) := by decide +kernel
theorem dX6_mayBe_25 : decode cX6_mayBe 25 = .ok (.invokestatic 79, 3) := by decide +kernel
theorem dX6_mayBe_28 : decode cX6_mayBe 28 = .ok (.goto 26, 3) := by decide +kernel
theorem dX6_mayBe_31 : decode cX6_mayBe 31 = .ok (.iload_n 0, 1) := by decide +kernel
theorem dX6_mayBe_32 : decode cX6_mayBe 32 = .ok (.iconst 4, 1) := by decide +kernel
theorem dX6_mayBe_33 : decode cX6_mayBe 33 = .ok (.if_icmp .ne 14, 3) := by decide +kernel
theorem dX6_mayBe_36 : decode cX6_mayBe 36 = .ok (.iload_n 1, 1) := by decide +kernel
theorem dX6_mayBe_37 : decode cX6_mayBe 37 = .ok (.bipush (-20), 2) := by decide +kernel
theorem dX6_mayBe_39 : decode cX6_mayBe 39 = .ok (.bipush 20, 2) := by decide +kernel
theorem dX6_mayBe_41 : decode cX6_mayBe 41 = .ok (.invokestatic 79, 3) := by decide +kernel
theorem dX6_mayBe_44 : decode cX6_mayBe 44 = .ok (.goto 10, 3) := by decide +kernel
theorem dX6_mayBe_47 : decode cX6_mayBe 47 = .ok (.iload_n 1, 1) := by decide +kernel
theorem dX6_mayBe_48 : decode cX6_mayBe 48 = .ok (.iconst 0, 1) := by decide +kernel
theorem dX6_mayBe_49 : decode cX6_mayBe 49 = .ok (.bipush 99, 2) := by decide +kernel
theorem dX6_mayBe_51 : decode cX6_mayBe 51 = .ok (.invokestatic 79, 3) := by decide +kernel
theorem dX6_mayBe_54 : decode cX6_mayBe 54 = .ok (.ireturn, 1) := by decide +kernel
def m_X6_mayBe (a1 : Int32) (a2 : Int32) : Int32 :=
  (if a1 = 0 then
(zb (m_X6_within a2 0 6))
else
(if 4 ≤ a1 then
(if a1 = 4 then
(zb (m_X6_within a2 (-20) 20))
else
(zb (m_X6_within a2 0 99)))
else
(zb (m_X6_within a2 50 250))))
set_option maxHeartbeats 4000000 in
set_option maxRecDepth 100000 in
theorem c_X6_mayBe (a1 : Int32) (a2 : Int32)   (u : zM) (r : Int32) (h : m_X6_mayBe a1 a2 = r) : zCt 2 yX6_mayBe cX6_mayBe 2 (some .boolean) (fun E => [.int a1, .int a2]) u (fun _ => some (.int r)) u := by
  refine zCt.of (by decide +kernel) (fun E => Nat.le_of_ble_eq_true rfl) (fun X hX hR => ?_)
  have hX : zGood X RX6 cX6_mayBe 2 2 := hX
  show zG X u 0 [(0, .int a1), (1, .int a2)] []
  unfold m_X6_mayBe at h
  refine r_iload_n hX dX6_mayBe_0 0 rfl rfl ?_
  refine r_if_ne (tgt := 14) hX dX6_mayBe_1 (by decide) (fun c1 => ?_) (fun c1 => ?_)
  · have h := (if_neg c1).symm.trans h
    refine r_iload_n hX dX6_mayBe_14 0 rfl rfl ?_
    refine r_iconst (v := 4) hX dX6_mayBe_15 (by decide) ?_
    refine r_icmp_ge (tgt := 31) hX dX6_mayBe_16 (by decide) (fun c2 => ?_) (fun c2 => ?_)
    · have h := (if_pos c2).symm.trans h
      refine r_iload_n hX dX6_mayBe_31 0 rfl rfl ?_
      refine r_iconst (v := 4) hX dX6_mayBe_32 (by decide) ?_
      refine r_icmp_ne (tgt := 47) hX dX6_mayBe_33 (by decide) (fun c3 => ?_) (fun c3 => ?_)
      · have h := (if_neg c3).symm.trans h
        refine r_iload_n hX dX6_mayBe_47 1 rfl rfl ?_
        refine r_iconst (v := 0) hX dX6_mayBe_48 (by decide) ?_
        refine r_bipush (v := 99) hX dX6_mayBe_49 (by decide) ?_
        refine r_callS (As := [.int a2, .int 0, .int 99]) (rest := []) (st1 := [.int (m_X6_within a2 0 99)]) hX dX6_mayBe_51 ls_RX6_79 (c_X6_within a2 0 99  u _ rfl) (by decide) rfl rfl rfl (Nat.le_of_ble_eq_true rfl) rfl ?_
        obtain rfl := h
        exact r_zret hX hR dX6_mayBe_54
      · have h := (if_pos c3).symm.trans h
        refine r_iload_n hX dX6_mayBe_36 1 rfl rfl ?_
        refine r_bipush (v := (-20)) hX dX6_mayBe_37 (by decide) ?_
        refine r_bipush (v := 20) hX dX6_mayBe_39 (by decide) ?_
        refine r_callS (As := [.int a2, .int (-20), .int 20]) (rest := []) (st1 := [.int (m_X6_within a2 (-20) 20)]) hX dX6_mayBe_41 ls_RX6_79 (c_X6_within a2 (-20) 20  u _ rfl) (by decide) rfl rfl rfl (Nat.le_of_ble_eq_true rfl) rfl ?_
        refine r_goto (tgt := 54) hX dX6_mayBe_44 (by decide) ?_
        obtain rfl := h
        exact r_zret hX hR dX6_mayBe_54
    · have h := (if_neg c2).symm.trans h
      refine r_iload_n hX dX6_mayBe_19 1 rfl rfl ?_
      refine r_bipush (v := 50) hX dX6_mayBe_20 (by decide) ?_
      refine r_sipush (v := 250) hX dX6_mayBe_22 (by decide) ?_
      refine r_callS (As := [.int a2, .int 50, .int 250]) (rest := []) (st1 := [.int (m_X6_within a2 50 250)]) hX dX6_mayBe_25 ls_RX6_79 (c_X6_within a2 50 250  u _ rfl) (by decide) rfl rfl rfl (Nat.le_of_ble_eq_true rfl) rfl ?_
      refine r_goto (tgt := 54) hX dX6_mayBe_28 (by decide) ?_
      obtain rfl := h
      exact r_zret hX hR dX6_mayBe_54
  · have h := (if_pos c1).symm.trans h
    refine r_iload_n hX dX6_mayBe_4 1 rfl rfl ?_
    refine r_iconst (v := 0) hX dX6_mayBe_5 (by decide) ?_
    refine r_bipush (v := 6) hX dX6_mayBe_6 (by decide) ?_
    refine r_callS (As := [.int a2, .int 0, .int 6]) (rest := []) (st1 := [.int (m_X6_within a2 0 6)]) hX dX6_mayBe_8 ls_RX6_79 (c_X6_within a2 0 6  u _ rfl) (by decide) rfl rfl rfl (Nat.le_of_ble_eq_true rfl) rfl ?_
    refine r_goto (tgt := 54) hX dX6_mayBe_11 (by decide) ?_
    obtain rfl := h
    exact r_zret hX hR dX6_mayBe_54
theorem dX6_become_0 : decode cX6_become 0 = .ok (.aload_n 0, 1) := by decide +kernel
theorem dX6_become_1 : decode cX6_become 1 = .ok (.getfield 9, 3) := by decide +kernel
theorem dX6_become_4 : decode cX6_become 4 = .ok (.iload_n 1, 1) := by decide +kernel
theorem dX6_become_5 : decode cX6_become 5 = .ok (.iaload, 1) := by decide +kernel
theorem dX6_become_6 : decode cX6_become 6 = .ok (.istore_n 3, 1) := by decide +kernel
theorem dX6_become_7 : decode cX6_become 7 = .ok (.aload_n 0, 1) := by decide +kernel
theorem dX6_become_8 : decode cX6_become 8 = .ok (.getfield 9, 3) := by decide +kernel
theorem dX6_become_11 : decode cX6_become 11 = .ok (.iload_n 1, 1) := by decide +kernel
theorem dX6_become_12 : decode cX6_become 12 = .ok (.iload_n 2, 1) := by decide +kernel
theorem dX6_become_13 : decode cX6_become 13 = .ok (.iastore, 1) := by decide +kernel
theorem dX6_become_14 : decode cX6_become 14 = .ok (.iload_n 3, 1) := by decide +kernel
theorem dX6_become_15 : decode cX6_become 15 = .ok (.ireturn, 1) := by decide +kernel
def m_X6_become (a1 : Int32) (a2 : Int32) (u : zM) : Option (Int32 × zM) :=
  zbind (zld u 40 160 a1) (fun x1 => zbind (zsv u 40 160 a1 a2) (fun u3 => some (x1, u3)))
set_option maxHeartbeats 4000000 in
set_option maxRecDepth 100000 in
theorem c_X6_become (a1 : Int32) (a2 : Int32)   (u : zM) (r : Int32) (u' : zM) (h : m_X6_become a1 a2 u = some (r, u')) : zCt 1 yX6_become cX6_become 4 (some .int) (fun E => [.ref (zad E 39), .int a1, .int a2]) u (fun _ => some (.int r)) u' := by
  refine zCt.of (by decide +kernel) (fun E => Nat.le_of_ble_eq_true rfl) (fun X hX hR => ?_)
  have hX : zGood X RX6 cX6_become 4 1 := hX
  show zG X u 0 [(0, .ref (zad X.1 39)), (1, .int a1), (2, .int a2)] []
  unfold m_X6_become at h
  refine r_aload_n hX dX6_become_0 0 rfl rfl ?_
  refine r_getR hX dX6_become_1 f_RX6_9 zr_39_0 ?_
  refine r_iload_n hX dX6_become_4 1 rfl rfl ?_
  obtain ⟨x1, e2, h⟩ := zbind_elim h
  refine r_iald hX dX6_become_5 rfl e2 ?_
  refine r_istore_n (y := x1) (L' := [(3, .int x1), (0, .ref (zad X.1 39)), (1, .int a1), (2, .int a2)]) hX dX6_become_6 rfl (by decide) rfl rfl ?_
  refine r_aload_n hX dX6_become_7 1 rfl rfl ?_
  refine r_getR hX dX6_become_8 f_RX6_9 zr_39_0 ?_
  refine r_iload_n hX dX6_become_11 2 rfl rfl ?_
  refine r_iload_n hX dX6_become_12 3 rfl rfl ?_
  obtain ⟨u3, e4, h⟩ := zbind_elim h
  refine r_iast hX dX6_become_13 rfl e4 ?_
  refine r_iload_n hX dX6_become_14 0 rfl rfl ?_
  obtain ⟨rfl, rfl⟩ := zinj2 (Option.some.inj h)
  exact r_iret hX hR dX6_become_15
theorem dX6_change_0 : decode cX6_change 0 = .ok (.aload_n 0, 1) := by decide +kernel
theorem dX6_change_1 : decode cX6_change 1 = .ok (.iload_n 1, 1) := by decide +kernel
theorem dX6_change_2 : decode cX6_change 2 = .ok (.invokevirtual 96, 3) := by decide +kernel
theorem dX6_change_5 : decode cX6_change 5 = .ok (.ifCond .eq 37, 3) := by decide +kernel
theorem dX6_change_8 : decode cX6_change 8 = .ok (.iload_n 2, 1) := by decide +kernel
theorem dX6_change_9 : decode cX6_change 9 = .ok (.iconst 0, 1) := by decide +kernel
theorem dX6_change_10 : decode cX6_change 10 = .ok (.iconst 5, 1) := by decide +kernel
theorem dX6_change_11 : decode cX6_change 11 = .ok (.invokestatic 79, 3) := by decide +kernel
theorem dX6_change_14 : decode cX6_change 14 = .ok (.ifCond .eq 28, 3) := by decide +kernel
theorem dX6_change_17 : decode cX6_change 17 = .ok (.iload_n 2, 1) := by decide +kernel
theorem dX6_change_18 : decode cX6_change 18 = .ok (.iload_n 3, 1) := by decide +kernel
theorem dX6_change_19 : decode cX6_change 19 = .ok (.invokestatic 106, 3) := by decide +kernel
theorem dX6_change_22 : decode cX6_change 22 = .ok (.ifCond .eq 20, 3) := by decide +kernel
theorem dX6_change_25 : decode cX6_change 25 = .ok (.aload_n 0, 1) := by decide +kernel
theorem dX6_change_26 : decode cX6_change 26 = .ok (.bipush 6, 2) := by decide +kernel
theorem dX6_change_28 : decode cX6_change 28 = .ok (.bipush 7, 2) := by decide +kernel
theorem dX6_change_30 : decode cX6_change 30 = .ok (.iload_n 1, 1) := by decide +kernel
theorem dX6_change_31 : decode cX6_change 31 = .ok (.imul, 1) := by decide +kernel
theorem dX6_change_32 : decode cX6_change 32 = .ok (.iadd, 1) := by decide +kernel
theorem dX6_change_33 : decode cX6_change 33 = .ok (.iload_n 2, 1) := by decide +kernel
theorem dX6_change_34 : decode cX6_change 34 = .ok (.iadd, 1) := by decide +kernel
theorem dX6_change_35 : decode cX6_change 35 = .ok (.iload_n 3, 1) := by decide +kernel
theorem dX6_change_36 : decode cX6_change 36 = .ok (.invokevirtual 110, 3) := by decide +kernel
theorem dX6_change_39 : decode cX6_change 39 = .ok (.goto 9, 3) := by decide +kernel
theorem dX6_change_42 : decode cX6_change 42 = .ok (.aload_n 0, 1) := by decide +kernel
theorem dX6_change_43 : decode cX6_change 43 = .ok (.ldc 78, 2) := by decide +kernel
theorem dX6_change_45 : decode cX6_change 45 = .ok (.invokevirtual 83, 3) := by decide +kernel
theorem dX6_change_48 : decode cX6_change 48 = .ok (.ireturn, 1) := by decide +kernel
def m_X6_change (a1 : Int32) (a2 : Int32) (a3 : Int32) (u : zM) : Option (Int32 × zM) :=
  (if (m_X6_isBody a1 u) = 0 then
zbind2 (m_X6_finding (-1000001) u) (fun x2 u3 => some (x2, u3))
else
(if (m_X6_within a2 0 5) = 0 then
zbind2 (m_X6_finding (-1000001) u) (fun x6 u7 => some (x6, u7))
else
(if (m_X6_mayBe a2 a3) = 0 then
zbind2 (m_X6_finding (-1000001) u) (fun x10 u11 => some (x10, u11))
else
zbind2 (m_X6_become ((6 + (7 * a1)) + a2) a3 u) (fun x13 u14 => some (x13, u14)))))
set_option maxHeartbeats 4000000 in
set_option maxRecDepth 100000 in
theorem c_X6_change (a1 : Int32) (a2 : Int32) (a3 : Int32)   (u : zM) (r : Int32) (u' : zM) (h : m_X6_change a1 a2 a3 u = some (r, u')) : zCt 3 yX6_change cX6_change 4 (some .int) (fun E => [.ref (zad E 39), .int a1, .int a2, .int a3]) u (fun _ => some (.int r)) u' := by
  refine zCt.of (by decide +kernel) (fun E => Nat.le_of_ble_eq_true rfl) (fun X hX hR => ?_)
  have hX : zGood X RX6 cX6_change 4 3 := hX
  show zG X u 0 [(0, .ref (zad X.1 39)), (1, .int a1), (2, .int a2), (3, .int a3)] []
  unfold m_X6_change at h
  refine r_aload_n hX dX6_change_0 0 rfl rfl ?_
  refine r_iload_n hX dX6_change_1 1 rfl rfl ?_
  refine r_callV (As := [.int a1]) (rest := []) (st1 := [.int (m_X6_isBody a1 u)]) hX dX6_change_2 lv_RX6_96 (c_X6_isBody a1  u _ rfl) (by decide) rfl rfl (zRecv.of (q := 39) (ci := 6) rfl rfl) rfl (Nat.le_of_ble_eq_true rfl) rfl ?_
  refine r_if_eq (tgt := 42) hX dX6_change_5 (by decide) (fun c1 => ?_) (fun c1 => ?_)
  · have h := (if_pos c1).symm.trans h
    refine r_aload_n hX dX6_change_42 0 rfl rfl ?_
    refine r_ldc (v := (-1000001)) hX dX6_change_43 (zT_in 1041 (by decide +kernel) rfl) ?_
    obtain ⟨x2, u3, e4, h⟩ := zbind2_elim h
    refine r_callV (As := [.int (-1000001)]) (rest := []) (st1 := [.int x2]) hX dX6_change_45 lv_RX6_83 (c_X6_finding (-1000001)  u _ _ e4) (by decide) rfl rfl (zRecv.of (q := 39) (ci := 6) rfl rfl) rfl (Nat.le_of_ble_eq_true rfl) rfl ?_
    obtain ⟨rfl, rfl⟩ := zinj2 (Option.some.inj h)
    exact r_iret hX hR dX6_change_48
  · have h := (if_neg c1).symm.trans h
    refine r_iload_n hX dX6_change_8 2 rfl rfl ?_
    refine r_iconst (v := 0) hX dX6_change_9 (by decide) ?_
    refine r_iconst (v := 5) hX dX6_change_10 (by decide) ?_
    refine r_callS (As := [.int a2, .int 0, .int 5]) (rest := []) (st1 := [.int (m_X6_within a2 0 5)]) hX dX6_change_11 ls_RX6_79 (c_X6_within a2 0 5  u _ rfl) (by decide) rfl rfl rfl (Nat.le_of_ble_eq_true rfl) rfl ?_
    refine r_if_eq (tgt := 42) hX dX6_change_14 (by decide) (fun c5 => ?_) (fun c5 => ?_)
    · have h := (if_pos c5).symm.trans h
      refine r_aload_n hX dX6_change_42 0 rfl rfl ?_
      refine r_ldc (v := (-1000001)) hX dX6_change_43 (zT_in 1041 (by decide +kernel) rfl) ?_
      obtain ⟨x6, u7, e8, h⟩ := zbind2_elim h
      refine r_callV (As := [.int (-1000001)]) (rest := []) (st1 := [.int x6]) hX dX6_change_45 lv_RX6_83 (c_X6_finding (-1000001)  u _ _ e8) (by decide) rfl rfl (zRecv.of (q := 39) (ci := 6) rfl rfl) rfl (Nat.le_of_ble_eq_true rfl) rfl ?_
      obtain ⟨rfl, rfl⟩ := zinj2 (Option.some.inj h)
      exact r_iret hX hR dX6_change_48
    · have h := (if_neg c5).symm.trans h
      refine r_iload_n hX dX6_change_17 2 rfl rfl ?_
      refine r_iload_n hX dX6_change_18 3 rfl rfl ?_
      refine r_callS (As := [.int a2, .int a3]) (rest := []) (st1 := [.int (m_X6_mayBe a2 a3)]) hX dX6_change_19 ls_RX6_106 (c_X6_mayBe a2 a3  u _ rfl) (by decide) rfl rfl rfl (Nat.le_of_ble_eq_true rfl) rfl ?_
      refine r_if_eq (tgt := 42) hX dX6_change_22 (by decide) (fun c9 => ?_) (fun c9 => ?_)
      · have h := (if_pos c9).symm.trans h
        refine r_aload_n hX dX6_change_42 0 rfl rfl ?_
        refine r_ldc (v := (-1000001)) hX dX6_change_43 (zT_in 1041 (by decide +kernel) rfl) ?_
        obtain ⟨x10, u11, e12, h⟩ := zbind2_elim h
        refine r_callV (As := [.int (-1000001)]) (rest := []) (st1 := [.int x10]) hX dX6_change_45 lv_RX6_83 (c_X6_finding (-1000001)  u _ _ e12) (by decide) rfl rfl (zRecv.of (q := 39) (ci := 6) rfl rfl) rfl (Nat.le_of_ble_eq_true rfl) rfl ?_
        obtain ⟨rfl, rfl⟩ := zinj2 (Option.some.inj h)
        exact r_iret hX hR dX6_change_48
      · have h := (if_neg c9).symm.trans h
        refine r_aload_n hX dX6_change_25 0 rfl rfl ?_
        refine r_bipush (v := 6) hX dX6_change_26 (by decide) ?_
        refine r_bipush (v := 7) hX dX6_change_28 (by decide) ?_
        refine r_iload_n hX dX6_change_30 1 rfl rfl ?_
        refine r_imul hX dX6_change_31 ?_
        refine r_iadd hX dX6_change_32 ?_
        refine r_iload_n hX dX6_change_33 2 rfl rfl ?_
        refine r_iadd hX dX6_change_34 ?_
        refine r_iload_n hX dX6_change_35 3 rfl rfl ?_
        obtain ⟨x13, u14, e15, h⟩ := zbind2_elim h
        refine r_callV (As := [.int ((6 + (7 * a1)) + a2), .int a3]) (rest := []) (st1 := [.int x13]) hX dX6_change_36 lv_RX6_110 (c_X6_become ((6 + (7 * a1)) + a2) a3  u _ _ e15) (by decide) rfl rfl (zRecv.of (q := 39) (ci := 6) rfl rfl) rfl (Nat.le_of_ble_eq_true rfl) rfl ?_
        refine r_goto (tgt := 48) hX dX6_change_39 (by decide) ?_
        obtain ⟨rfl, rfl⟩ := zinj2 (Option.some.inj h)
        exact r_iret hX hR dX6_change_48
theorem dX6_here_0 : decode cX6_here 0 = .ok (.aload_n 0, 1) := by decide +kernel
theorem dX6_here_1 : decode cX6_here 1 = .ok (.iload_n 1, 1) := by decide +kernel
theorem dX6_here_2 : decode cX6_here 2 = .ok (.invokevirtual 96, 3) := by decide +kernel
theorem dX6_here_5 : decode cX6_here 5 = .ok (.ifCond .eq 29, 3) := by decide +kernel
theorem dX6_here_8 : decode cX6_here 8 = .ok (.aload_n 0, 1) := by decide +kernel
theorem dX6_here_9 : decode cX6_here 9 = .ok (.bipush 6, 2) := by decide +kernel
theorem dX6_here_11 : decode cX6_here 11 = .ok (.bipush 7, 2) := by decide +kernel
theorem dX6_here_13 : decode cX6_here 13 = .ok (.iload_n 1, 1) := by decide +kernel
theorem dX6_here_14 : decode cX6_here 14 = .ok (.imul, 1) := by decide +kernel
theorem dX6_here_15 : decode cX6_here 15 = .ok (.iadd, 1) := by decide +kernel
theorem dX6_here_16 : decode cX6_here 16 = .ok (.bipush 6, 2) := by decide +kernel
theorem dX6_here_18 : decode cX6_here 18 = .ok (.iadd, 1) := by decide +kernel
theorem dX6_here_19 : decode cX6_here 19 = .ok (.iload_n 2, 1) := by decide +kernel
theorem dX6_here_20 : decode cX6_here 20 = .ok (.ifCond .eq 7, 3) := by decide +kernel
theorem dX6_here_23 : decode cX6_here 23 = .ok (.iconst 1, 1) := by decide +kernel
theorem dX6_here_24 : decode cX6_here 24 = .ok (.goto 4, 3) := by decide +kernel
theorem dX6_here_27 : decode cX6_here 27 = .ok (.iconst 0, 1) := by decide +kernel
theorem dX6_here_28 : decode cX6_here 28 = .ok (.invokevirtual 110, 3) := by decide +kernel
theorem dX6_here_31 : decode cX6_here 31 = .ok (.goto 9, 3) := by decide +kernel
theorem dX6_here_34 : decode cX6_here 34 = .ok (.aload_n 0, 1) := by decide +kernel
theorem dX6_here_35 : decode cX6_here 35 = .ok (.ldc 78, 2) := by decide +kernel
theorem dX6_here_37 : decode cX6_here 37 = .ok (.invokevirtual 83, 3) := by decide +kernel
theorem dX6_here_40 : decode cX6_here 40 = .ok (.ireturn, 1) := by decide +kernel
def m_X6_here (a1 : Int32) (a2 : Int32) (u : zM) : Option (Int32 × zM) :=
  (if (m_X6_isBody a1 u) = 0 then
zbind2 (m_X6_finding (-1000001) u) (fun x2 u3 => some (x2, u3))
else
(if a2 = 0 then
zbind2 (m_X6_become ((6 + (7 * a1)) + 6) 0 u) (fun x6 u7 => some (x6, u7))
else
zbind2 (m_X6_become ((6 + (7 * a1)) + 6) 1 u) (fun x9 u10 => some (x9, u10))))
set_option maxHeartbeats 4000000 in
set_option maxRecDepth 100000 in
theorem c_X6_here (a1 : Int32) (a2 : Int32)   (u : zM) (r : Int32) (u' : zM) (h : m_X6_here a1 a2 u = some (r, u')) : zCt 3 yX6_here cX6_here 3 (some .int) (fun E => [.ref (zad E 39), .int a1, .int a2]) u (fun _ => some (.int r)) u' := by
  refine zCt.of (by decide +kernel) (fun E => Nat.le_of_ble_eq_true rfl) (fun X hX hR => ?_)
  have hX : zGood X RX6 cX6_here 3 3 := hX
  show zG X u 0 [(0, .ref (zad X.1 39)), (1, .int a1), (2, .int a2)] []
  unfold m_X6_here at h
  refine r_aload_n hX dX6_here_0 0 rfl rfl ?_
  refine r_iload_n hX dX6_here_1 1 rfl rfl ?_
  refine r_callV (As := [.int a1]) (rest := []) (st1 := [.int (m_X6_isBody a1 u)]) hX dX6_here_2 lv_RX6_96 (c_X6_isBody a1  u _ rfl) (by decide) rfl rfl (zRecv.of (q := 39) (ci := 6) rfl rfl) rfl (Nat.le_of_ble_eq_true rfl) rfl ?_
  refine r_if_eq (tgt := 34) hX dX6_here_5 (by decide) (fun c1 => ?_) (fun c1 => ?_)
  · have h := (if_pos c1).symm.trans h
    refine r_aload_n hX dX6_here_34 0 rfl rfl ?_
    refine r_ldc (v := (-1000001)) hX dX6_here_35 (zT_in 1041 (by decide +kernel) rfl) ?_
    obtain ⟨x2, u3, e4, h⟩ := zbind2_elim h
    refine r_callV (As := [.int (-1000001)]) (rest := []) (st1 := [.int x2]) hX dX6_here_37 lv_RX6_83 (c_X6_finding (-1000001)  u _ _ e4) (by decide) rfl rfl (zRecv.of (q := 39) (ci := 6) rfl rfl) rfl (Nat.le_of_ble_eq_true rfl) rfl ?_
    obtain ⟨rfl, rfl⟩ := zinj2 (Option.some.inj h)
    exact r_iret hX hR dX6_here_40
  · have h := (if_neg c1).symm.trans h
    refine r_aload_n hX dX6_here_8 0 rfl rfl ?_
    refine r_bipush (v := 6) hX dX6_here_9 (by decide) ?_
    refine r_bipush (v := 7) hX dX6_here_11 (by decide) ?_
    refine r_iload_n hX dX6_here_13 1 rfl rfl ?_
    refine r_imul hX dX6_here_14 ?_
    refine r_iadd hX dX6_here_15 ?_
    refine r_bipush (v := 6) hX dX6_here_16 (by decide) ?_
    refine r_iadd hX dX6_here_18 ?_
    refine r_iload_n hX dX6_here_19 2 rfl rfl ?_
    refine r_if_eq (tgt := 27) hX dX6_here_20 (by decide) (fun c5 => ?_) (fun c5 => ?_)
    · have h := (if_pos c5).symm.trans h
      refine r_iconst (v := 0) hX dX6_here_27 (by decide) ?_
      obtain ⟨x6, u7, e8, h⟩ := zbind2_elim h
      refine r_callV (As := [.int ((6 + (7 * a1)) + 6), .int 0]) (rest := []) (st1 := [.int x6]) hX dX6_here_28 lv_RX6_110 (c_X6_become ((6 + (7 * a1)) + 6) 0  u _ _ e8) (by decide) rfl rfl (zRecv.of (q := 39) (ci := 6) rfl rfl) rfl (Nat.le_of_ble_eq_true rfl) rfl ?_
      refine r_goto (tgt := 40) hX dX6_here_31 (by decide) ?_
      obtain ⟨rfl, rfl⟩ := zinj2 (Option.some.inj h)
      exact r_iret hX hR dX6_here_40
    · have h := (if_neg c5).symm.trans h
      refine r_iconst (v := 1) hX dX6_here_23 (by decide) ?_
      refine r_goto (tgt := 28) hX dX6_here_24 (by decide) ?_
      obtain ⟨x9, u10, e11, h⟩ := zbind2_elim h
      refine r_callV (As := [.int ((6 + (7 * a1)) + 6), .int 1]) (rest := []) (st1 := [.int x9]) hX dX6_here_28 lv_RX6_110 (c_X6_become ((6 + (7 * a1)) + 6) 1  u _ _ e11) (by decide) rfl rfl (zRecv.of (q := 39) (ci := 6) rfl rfl) rfl (Nat.le_of_ble_eq_true rfl) rfl ?_
      refine r_goto (tgt := 40) hX dX6_here_31 (by decide) ?_
      obtain ⟨rfl, rfl⟩ := zinj2 (Option.some.inj h)
      exact r_iret hX hR dX6_here_40
theorem dX6_rule_0 : decode cX6_rule 0 = .ok (.iload_n 1, 1) := by decide +kernel
theorem dX6_rule_1 : decode cX6_rule 1 = .ok (.iconst 0, 1) := by decide +kernel
theorem dX6_rule_2 : decode cX6_rule 2 = .ok (.iconst 2, 1) := by decide +kernel
theorem dX6_rule_3 : decode cX6_rule 3 = .ok (.invokestatic 79, 3) := by decide +kernel
theorem dX6_rule_6 : decode cX6_rule 6 = .ok (.ifCond .eq 12, 3) := by decide +kernel
theorem dX6_rule_9 : decode cX6_rule 9 = .ok (.aload_n 0, 1) := by decide +kernel
theorem dX6_rule_10 : decode cX6_rule 10 = .ok (.iconst 1, 1) := by decide +kernel
theorem dX6_rule_11 : decode cX6_rule 11 = .ok (.iload_n 1, 1) := by decide +kernel
theorem dX6_rule_12 : decode cX6_rule 12 = .ok (.invokevirtual 110, 3) := by decide +kernel
theorem dX6_rule_15 : decode cX6_rule 15 = .ok (.goto 9, 3) := by decide +kernel
theorem dX6_rule_18 : decode cX6_rule 18 = .ok (.aload_n 0, 1) := by decide +kernel
theorem dX6_rule_19 : decode cX6_rule 19 = .ok (.ldc 78, 2) := by decide +kernel
theorem dX6_rule_21 : decode cX6_rule 21 = .ok (.invokevirtual 83, 3) := by decide +kernel
theorem dX6_rule_24 : decode cX6_rule 24 = .ok (.ireturn, 1) := by decide +kernel
def m_X6_rule (a1 : Int32) (u : zM) : Option (Int32 × zM) :=
  (if (m_X6_within a1 0 2) = 0 then
zbind2 (m_X6_finding (-1000001) u) (fun x2 u3 => some (x2, u3))
else
zbind2 (m_X6_become 1 a1 u) (fun x5 u6 => some (x5, u6)))
set_option maxHeartbeats 4000000 in
set_option maxRecDepth 100000 in
theorem c_X6_rule (a1 : Int32)   (u : zM) (r : Int32) (u' : zM) (h : m_X6_rule a1 u = some (r, u')) : zCt 2 yX6_rule cX6_rule 2 (some .int) (fun E => [.ref (zad E 39), .int a1]) u (fun _ => some (.int r)) u' := by
  refine zCt.of (by decide +kernel) (fun E => Nat.le_of_ble_eq_true rfl) (fun X hX hR => ?_)
  have hX : zGood X RX6 cX6_rule 2 2 := hX
  show zG X u 0 [(0, .ref (zad X.1 39)), (1, .int a1)] []
  unfold m_X6_rule at h
  refine r_iload_n hX dX6_rule_0 1 rfl rfl ?_
  refine r_iconst (v := 0) hX dX6_rule_1 (by decide) ?_
  refine r_iconst (v := 2) hX dX6_rule_2 (by decide) ?_
  refine r_callS (As := [.int a1, .int 0, .int 2]) (rest := []) (st1 := [.int (m_X6_within a1 0 2)]) hX dX6_rule_3 ls_RX6_79 (c_X6_within a1 0 2  u _ rfl) (by decide) rfl rfl rfl (Nat.le_of_ble_eq_true rfl) rfl ?_
  refine r_if_eq (tgt := 18) hX dX6_rule_6 (by decide) (fun c1 => ?_) (fun c1 => ?_)
  · have h := (if_pos c1).symm.trans h
    refine r_aload_n hX dX6_rule_18 0 rfl rfl ?_
    refine r_ldc (v := (-1000001)) hX dX6_rule_19 (zT_in 1041 (by decide +kernel) rfl) ?_
    obtain ⟨x2, u3, e4, h⟩ := zbind2_elim h
    refine r_callV (As := [.int (-1000001)]) (rest := []) (st1 := [.int x2]) hX dX6_rule_21 lv_RX6_83 (c_X6_finding (-1000001)  u _ _ e4) (by decide) rfl rfl (zRecv.of (q := 39) (ci := 6) rfl rfl) rfl (Nat.le_of_ble_eq_true rfl) rfl ?_
    obtain ⟨rfl, rfl⟩ := zinj2 (Option.some.inj h)
    exact r_iret hX hR dX6_rule_24
  · have h := (if_neg c1).symm.trans h
    refine r_aload_n hX dX6_rule_9 0 rfl rfl ?_
    refine r_iconst (v := 1) hX dX6_rule_10 (by decide) ?_
    refine r_iload_n hX dX6_rule_11 1 rfl rfl ?_
    obtain ⟨x5, u6, e7, h⟩ := zbind2_elim h
    refine r_callV (As := [.int 1, .int a1]) (rest := []) (st1 := [.int x5]) hX dX6_rule_12 lv_RX6_110 (c_X6_become 1 a1  u _ _ e7) (by decide) rfl rfl (zRecv.of (q := 39) (ci := 6) rfl rfl) rfl (Nat.le_of_ble_eq_true rfl) rfl ?_
    refine r_goto (tgt := 24) hX dX6_rule_15 (by decide) ?_
    obtain ⟨rfl, rfl⟩ := zinj2 (Option.some.inj h)
    exact r_iret hX hR dX6_rule_24
theorem dX6_ease_0 : decode cX6_ease 0 = .ok (.iload_n 1, 1) := by decide +kernel
theorem dX6_ease_1 : decode cX6_ease 1 = .ok (.iconst 0, 1) := by decide +kernel
theorem dX6_ease_2 : decode cX6_ease 2 = .ok (.sipush 999, 3) := by decide +kernel
theorem dX6_ease_5 : decode cX6_ease 5 = .ok (.invokestatic 79, 3) := by decide +kernel
theorem dX6_ease_8 : decode cX6_ease 8 = .ok (.ifCond .eq 12, 3) := by decide +kernel
theorem dX6_ease_11 : decode cX6_ease 11 = .ok (.aload_n 0, 1) := by decide +kernel
theorem dX6_ease_12 : decode cX6_ease 12 = .ok (.iconst 2, 1) := by decide +kernel
theorem dX6_ease_13 : decode cX6_ease 13 = .ok (.iload_n 1, 1) := by decide +kernel
theorem dX6_ease_14 : decode cX6_ease 14 = .ok (.invokevirtual 110, 3) := by decide +kernel
theorem dX6_ease_17 : decode cX6_ease 17 = .ok (.goto 9, 3) := by decide +kernel
theorem dX6_ease_20 : decode cX6_ease 20 = .ok (.aload_n 0, 1) := by decide +kernel
theorem dX6_ease_21 : decode cX6_ease 21 = .ok (.ldc 78, 2) := by decide +kernel
theorem dX6_ease_23 : decode cX6_ease 23 = .ok (.invokevirtual 83, 3) := by decide +kernel
theorem dX6_ease_26 : decode cX6_ease 26 = .ok (.ireturn, 1) := by decide +kernel
def m_X6_ease (a1 : Int32) (u : zM) : Option (Int32 × zM) :=
  (if (m_X6_within a1 0 999) = 0 then
zbind2 (m_X6_finding (-1000001) u) (fun x2 u3 => some (x2, u3))
else
zbind2 (m_X6_become 2 a1 u) (fun x5 u6 => some (x5, u6)))
set_option maxHeartbeats 4000000 in
set_option maxRecDepth 100000 in
theorem c_X6_ease (a1 : Int32)   (u : zM) (r : Int32) (u' : zM) (h : m_X6_ease a1 u = some (r, u')) : zCt 2 yX6_ease cX6_ease 2 (some .int) (fun E => [.ref (zad E 39), .int a1]) u (fun _ => some (.int r)) u' := by
  refine zCt.of (by decide +kernel) (fun E => Nat.le_of_ble_eq_true rfl) (fun X hX hR => ?_)
  have hX : zGood X RX6 cX6_ease 2 2 := hX
  show zG X u 0 [(0, .ref (zad X.1 39)), (1, .int a1)] []
  unfold m_X6_ease at h
  refine r_iload_n hX dX6_ease_0 1 rfl rfl ?_
  refine r_iconst (v := 0) hX dX6_ease_1 (by decide) ?_
  refine r_sipush (v := 999) hX dX6_ease_2 (by decide) ?_
  refine r_callS (As := [.int a1, .int 0, .int 999]) (rest := []) (st1 := [.int (m_X6_within a1 0 999)]) hX dX6_ease_5 ls_RX6_79 (c_X6_within a1 0 999  u _ rfl) (by decide) rfl rfl rfl (Nat.le_of_ble_eq_true rfl) rfl ?_
  refine r_if_eq (tgt := 20) hX dX6_ease_8 (by decide) (fun c1 => ?_) (fun c1 => ?_)
  · have h := (if_pos c1).symm.trans h
    refine r_aload_n hX dX6_ease_20 0 rfl rfl ?_
    refine r_ldc (v := (-1000001)) hX dX6_ease_21 (zT_in 1041 (by decide +kernel) rfl) ?_
    obtain ⟨x2, u3, e4, h⟩ := zbind2_elim h
    refine r_callV (As := [.int (-1000001)]) (rest := []) (st1 := [.int x2]) hX dX6_ease_23 lv_RX6_83 (c_X6_finding (-1000001)  u _ _ e4) (by decide) rfl rfl (zRecv.of (q := 39) (ci := 6) rfl rfl) rfl (Nat.le_of_ble_eq_true rfl) rfl ?_
    obtain ⟨rfl, rfl⟩ := zinj2 (Option.some.inj h)
    exact r_iret hX hR dX6_ease_26
  · have h := (if_neg c1).symm.trans h
    refine r_aload_n hX dX6_ease_11 0 rfl rfl ?_
    refine r_iconst (v := 2) hX dX6_ease_12 (by decide) ?_
    refine r_iload_n hX dX6_ease_13 1 rfl rfl ?_
    obtain ⟨x5, u6, e7, h⟩ := zbind2_elim h
    refine r_callV (As := [.int 2, .int a1]) (rest := []) (st1 := [.int x5]) hX dX6_ease_14 lv_RX6_110 (c_X6_become 2 a1  u _ _ e7) (by decide) rfl rfl (zRecv.of (q := 39) (ci := 6) rfl rfl) rfl (Nat.le_of_ble_eq_true rfl) rfl ?_
    refine r_goto (tgt := 26) hX dX6_ease_17 (by decide) ?_
    obtain ⟨rfl, rfl⟩ := zinj2 (Option.some.inj h)
    exact r_iret hX hR dX6_ease_26
theorem dX6_price_0 : decode cX6_price 0 = .ok (.iload_n 1, 1) := by decide +kernel
theorem dX6_price_1 : decode cX6_price 1 = .ok (.iconst 0, 1) := by decide +kernel
theorem dX6_price_2 : decode cX6_price 2 = .ok (.bipush 99, 2) := by decide +kernel
theorem dX6_price_4 : decode cX6_price 4 = .ok (.invokestatic 79, 3) := by decide +kernel
theorem dX6_price_7 : decode cX6_price 7 = .ok (.ifCond .eq 12, 3) := by decide +kernel
theorem dX6_price_10 : decode cX6_price 10 = .ok (.aload_n 0, 1) := by decide +kernel
theorem dX6_price_11 : decode cX6_price 11 = .ok (.iconst 3, 1) := by decide +kernel
theorem dX6_price_12 : decode cX6_price 12 = .ok (.iload_n 1, 1) := by decide +kernel
theorem dX6_price_13 : decode cX6_price 13 = .ok (.invokevirtual 110, 3) := by decide +kernel
theorem dX6_price_16 : decode cX6_price 16 = .ok (.goto 9, 3) := by decide +kernel
theorem dX6_price_19 : decode cX6_price 19 = .ok (.aload_n 0, 1) := by decide +kernel
theorem dX6_price_20 : decode cX6_price 20 = .ok (.ldc 78, 2) := by decide +kernel
theorem dX6_price_22 : decode cX6_price 22 = .ok (.invokevirtual 83, 3) := by decide +kernel
theorem dX6_price_25 : decode cX6_price 25 = .ok (.ireturn, 1) := by decide +kernel
def m_X6_price (a1 : Int32) (u : zM) : Option (Int32 × zM) :=
  (if (m_X6_within a1 0 99) = 0 then
zbind2 (m_X6_finding (-1000001) u) (fun x2 u3 => some (x2, u3))
else
zbind2 (m_X6_become 3 a1 u) (fun x5 u6 => some (x5, u6)))
set_option maxHeartbeats 4000000 in
set_option maxRecDepth 100000 in
theorem c_X6_price (a1 : Int32)   (u : zM) (r : Int32) (u' : zM) (h : m_X6_price a1 u = some (r, u')) : zCt 2 yX6_price cX6_price 2 (some .int) (fun E => [.ref (zad E 39), .int a1]) u (fun _ => some (.int r)) u' := by
  refine zCt.of (by decide +kernel) (fun E => Nat.le_of_ble_eq_true rfl) (fun X hX hR => ?_)
  have hX : zGood X RX6 cX6_price 2 2 := hX
  show zG X u 0 [(0, .ref (zad X.1 39)), (1, .int a1)] []
  unfold m_X6_price at h
  refine r_iload_n hX dX6_price_0 1 rfl rfl ?_
  refine r_iconst (v := 0) hX dX6_price_1 (by decide) ?_
  refine r_bipush (v := 99) hX dX6_price_2 (by decide) ?_
  refine r_callS (As := [.int a1, .int 0, .int 99]) (rest := []) (st1 := [.int (m_X6_within a1 0 99)]) hX dX6_price_4 ls_RX6_79 (c_X6_within a1 0 99  u _ rfl) (by decide) rfl rfl rfl (Nat.le_of_ble_eq_true rfl) rfl ?_
  refine r_if_eq (tgt := 19) hX dX6_price_7 (by decide) (fun c1 => ?_) (fun c1 => ?_)
  · have h := (if_pos c1).symm.trans h
    refine r_aload_n hX dX6_price_19 0 rfl rfl ?_
    refine r_ldc (v := (-1000001)) hX dX6_price_20 (zT_in 1041 (by decide +kernel) rfl) ?_
    obtain ⟨x2, u3, e4, h⟩ := zbind2_elim h
    refine r_callV (As := [.int (-1000001)]) (rest := []) (st1 := [.int x2]) hX dX6_price_22 lv_RX6_83 (c_X6_finding (-1000001)  u _ _ e4) (by decide) rfl rfl (zRecv.of (q := 39) (ci := 6) rfl rfl) rfl (Nat.le_of_ble_eq_true rfl) rfl ?_
    obtain ⟨rfl, rfl⟩ := zinj2 (Option.some.inj h)
    exact r_iret hX hR dX6_price_25
  · have h := (if_neg c1).symm.trans h
    refine r_aload_n hX dX6_price_10 0 rfl rfl ?_
    refine r_iconst (v := 3) hX dX6_price_11 (by decide) ?_
    refine r_iload_n hX dX6_price_12 1 rfl rfl ?_
    obtain ⟨x5, u6, e7, h⟩ := zbind2_elim h
    refine r_callV (As := [.int 3, .int a1]) (rest := []) (st1 := [.int x5]) hX dX6_price_13 lv_RX6_110 (c_X6_become 3 a1  u _ _ e7) (by decide) rfl rfl (zRecv.of (q := 39) (ci := 6) rfl rfl) rfl (Nat.le_of_ble_eq_true rfl) rfl ?_
    refine r_goto (tgt := 25) hX dX6_price_16 (by decide) ?_
    obtain ⟨rfl, rfl⟩ := zinj2 (Option.some.inj h)
    exact r_iret hX hR dX6_price_25
