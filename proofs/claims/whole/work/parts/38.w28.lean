/-! MODELS AND CONTRACTS, by program (wip/whole/gen_all.py): X6_isSo, X6_text, X6_hold, X6_above, X6_as, X6_isSheet -/
theorem dX6_isSo_0 : decode cX6_isSo 0 = .ok (.aload_n 0, 1) := by decide +kernel
theorem dX6_isSo_1 : decode cX6_isSo 1 = .ok (.getfield 63, 3) := by decide +kernel
theorem dX6_isSo_4 : decode cX6_isSo 4 = .ok (.iload_n 1, 1) := by decide +kernel
theorem dX6_isSo_5 : decode cX6_isSo 5 = .ok (.iconst 1, 1) := by decide +kernel
theorem dX6_isSo_6 : decode cX6_isSo 6 = .ok (.iadd, 1) := by decide +kernel
theorem dX6_isSo_7 : decode cX6_isSo 7 = .ok (.iaload, 1) := by decide +kernel
theorem dX6_isSo_8 : decode cX6_isSo 8 = .ok (.istore_n 2, 1) := by decide +kernel
theorem dX6_isSo_9 : decode cX6_isSo 9 = .ok (.aload_n 0, 1) := by decide +kernel
theorem dX6_isSo_10 : decode cX6_isSo 10 = .ok (.getfield 63, 3) := by decide +kernel
theorem dX6_isSo_13 : decode cX6_isSo 13 = .ok (.iload_n 1, 1) := by decide +kernel
theorem dX6_isSo_14 : decode cX6_isSo 14 = .ok (.iaload, 1) := by decide +kernel
theorem dX6_isSo_15 : decode cX6_isSo 15 = .ok (.tableswitch 55 10 12 #[25, 35, 45], 25) := by decide +kernel
theorem dX6_isSo_40 : decode cX6_isSo 40 = .ok (.aload_n 0, 1) := by decide +kernel
theorem dX6_isSo_41 : decode cX6_isSo 41 = .ok (.getfield 9, 3) := by decide +kernel
theorem dX6_isSo_44 : decode cX6_isSo 44 = .ok (.iconst 1, 1) := by decide +kernel
theorem dX6_isSo_45 : decode cX6_isSo 45 = .ok (.iload_n 2, 1) := by decide +kernel
theorem dX6_isSo_46 : decode cX6_isSo 46 = .ok (.iastore, 1) := by decide +kernel
theorem dX6_isSo_47 : decode cX6_isSo 47 = .ok (.goto 95, 3) := by decide +kernel
theorem dX6_isSo_50 : decode cX6_isSo 50 = .ok (.aload_n 0, 1) := by decide +kernel
theorem dX6_isSo_51 : decode cX6_isSo 51 = .ok (.getfield 9, 3) := by decide +kernel
theorem dX6_isSo_54 : decode cX6_isSo 54 = .ok (.iconst 2, 1) := by decide +kernel
theorem dX6_isSo_55 : decode cX6_isSo 55 = .ok (.iload_n 2, 1) := by decide +kernel
theorem dX6_isSo_56 : decode cX6_isSo 56 = .ok (.iastore, 1) := by decide +kernel
theorem dX6_isSo_57 : decode cX6_isSo 57 = .ok (.goto 85, 3) := by decide +kernel
theorem dX6_isSo_60 : decode cX6_isSo 60 = .ok (.aload_n 0, 1) := by decide +kernel
theorem dX6_isSo_61 : decode cX6_isSo 61 = .ok (.getfield 9, 3) := by decide +kernel
theorem dX6_isSo_64 : decode cX6_isSo 64 = .ok (.iconst 3, 1) := by decide +kernel
theorem dX6_isSo_65 : decode cX6_isSo 65 = .ok (.iload_n 2, 1) := by decide +kernel
theorem dX6_isSo_66 : decode cX6_isSo 66 = .ok (.iastore, 1) := by decide +kernel
theorem dX6_isSo_67 : decode cX6_isSo 67 = .ok (.goto 75, 3) := by decide +kernel
theorem dX6_isSo_70 : decode cX6_isSo 70 = .ok (.aload_n 0, 1) := by decide +kernel
theorem dX6_isSo_71 : decode cX6_isSo 71 = .ok (.aload_n 0, 1) := by decide +kernel
theorem dX6_isSo_72 : decode cX6_isSo 72 = .ok (.getfield 63, 3) := by decide +kernel
theorem dX6_isSo_75 : decode cX6_isSo 75 = .ok (.iload_n 1, 1) := by decide +kernel
theorem dX6_isSo_76 : decode cX6_isSo 76 = .ok (.iaload, 1) := by decide +kernel
theorem dX6_isSo_77 : decode cX6_isSo 77 = .ok (.iload_n 2, 1) := by decide +kernel
theorem dX6_isSo_78 : decode cX6_isSo 78 = .ok (.aload_n 0, 1) := by decide +kernel
theorem dX6_isSo_79 : decode cX6_isSo 79 = .ok (.getfield 63, 3) := by decide +kernel
theorem dX6_isSo_82 : decode cX6_isSo 82 = .ok (.iload_n 1, 1) := by decide +kernel
theorem dX6_isSo_83 : decode cX6_isSo 83 = .ok (.iconst 2, 1) := by decide +kernel
theorem dX6_isSo_84 : decode cX6_isSo 84 = .ok (.iadd, 1) := by decide +kernel
theorem dX6_isSo_85 : decode cX6_isSo 85 = .ok (.iaload, 1) := by decide +kernel
theorem dX6_isSo_86 : decode cX6_isSo 86 = .ok (.aload_n 0, 1) := by decide +kernel
theorem dX6_isSo_87 : decode cX6_isSo 87 = .ok (.getfield 63, 3) := by decide +kernel
theorem dX6_isSo_90 : decode cX6_isSo 90 = .ok (.iload_n 1, 1) := by decide +kernel
theorem dX6_isSo_91 : decode cX6_isSo 91 = .ok (.iconst 3, 1) := by decide +kernel
theorem dX6_isSo_92 : decode cX6_isSo 92 = .ok (.iadd, 1) := by decide +kernel
theorem dX6_isSo_93 : decode cX6_isSo 93 = .ok (.iaload, 1) := by decide +kernel
theorem dX6_isSo_94 : decode cX6_isSo 94 = .ok (.invokevirtual 88, 3) := by decide +kernel
theorem dX6_isSo_97 : decode cX6_isSo 97 = .ok (.istore_n 3, 1) := by decide +kernel
theorem dX6_isSo_98 : decode cX6_isSo 98 = .ok (.aload_n 0, 1) := by decide +kernel
theorem dX6_isSo_99 : decode cX6_isSo 99 = .ok (.getfield 9, 3) := by decide +kernel
theorem dX6_isSo_102 : decode cX6_isSo 102 = .ok (.bipush 6, 2) := by decide +kernel
theorem dX6_isSo_104 : decode cX6_isSo 104 = .ok (.bipush 7, 2) := by decide +kernel
theorem dX6_isSo_106 : decode cX6_isSo 106 = .ok (.iload_n 3, 1) := by decide +kernel
theorem dX6_isSo_107 : decode cX6_isSo 107 = .ok (.imul, 1) := by decide +kernel
theorem dX6_isSo_108 : decode cX6_isSo 108 = .ok (.iadd, 1) := by decide +kernel
theorem dX6_isSo_109 : decode cX6_isSo 109 = .ok (.iconst 4, 1) := by decide +kernel
theorem dX6_isSo_110 : decode cX6_isSo 110 = .ok (.iadd, 1) := by decide +kernel
theorem dX6_isSo_111 : decode cX6_isSo 111 = .ok (.aload_n 0, 1) := by decide +kernel
theorem dX6_isSo_112 : decode cX6_isSo 112 = .ok (.getfield 63, 3) := by decide +kernel
theorem dX6_isSo_115 : decode cX6_isSo 115 = .ok (.iload_n 1, 1) := by decide +kernel
theorem dX6_isSo_116 : decode cX6_isSo 116 = .ok (.iconst 4, 1) := by decide +kernel
theorem dX6_isSo_117 : decode cX6_isSo 117 = .ok (.iadd, 1) := by decide +kernel
theorem dX6_isSo_118 : decode cX6_isSo 118 = .ok (.iaload, 1) := by decide +kernel
theorem dX6_isSo_119 : decode cX6_isSo 119 = .ok (.iastore, 1) := by decide +kernel
theorem dX6_isSo_120 : decode cX6_isSo 120 = .ok (.aload_n 0, 1) := by decide +kernel
theorem dX6_isSo_121 : decode cX6_isSo 121 = .ok (.getfield 9, 3) := by decide +kernel
theorem dX6_isSo_124 : decode cX6_isSo 124 = .ok (.bipush 6, 2) := by decide +kernel
theorem dX6_isSo_126 : decode cX6_isSo 126 = .ok (.bipush 7, 2) := by decide +kernel
theorem dX6_isSo_128 : decode cX6_isSo 128 = .ok (.iload_n 3, 1) := by decide +kernel
theorem dX6_isSo_129 : decode cX6_isSo 129 = .ok (.imul, 1) := by decide +kernel
theorem dX6_isSo_130 : decode cX6_isSo 130 = .ok (.iadd, 1) := by decide +kernel
theorem dX6_isSo_131 : decode cX6_isSo 131 = .ok (.iconst 5, 1) := by decide +kernel
theorem dX6_isSo_132 : decode cX6_isSo 132 = .ok (.iadd, 1) := by decide +kernel
theorem dX6_isSo_133 : decode cX6_isSo 133 = .ok (.aload_n 0, 1) := by decide +kernel
theorem dX6_isSo_134 : decode cX6_isSo 134 = .ok (.getfield 63, 3) := by decide +kernel
theorem dX6_isSo_137 : decode cX6_isSo 137 = .ok (.iload_n 1, 1) := by decide +kernel
theorem dX6_isSo_138 : decode cX6_isSo 138 = .ok (.iconst 5, 1) := by decide +kernel
theorem dX6_isSo_139 : decode cX6_isSo 139 = .ok (.iadd, 1) := by decide +kernel
theorem dX6_isSo_140 : decode cX6_isSo 140 = .ok (.iaload, 1) := by decide +kernel
theorem dX6_isSo_141 : decode cX6_isSo 141 = .ok (.iastore, 1) := by decide +kernel
theorem dX6_isSo_142 : decode cX6_isSo 142 = .ok (.return_, 1) := by decide +kernel
def m_X6_isSo (a1 : Int32) (u : zM) : Option (zM) :=
  zbind (zld u 50 720 (a1 + 1)) (fun x1 => zbind (zld u 50 720 a1) (fun x3 => (if x3 = 10 then
zlet (zst u 40 1 x1) (fun u6 => some u6)
else
if x3 = 11 then
zlet (zst u 40 2 x1) (fun u9 => some u9)
else
if x3 = 12 then
zlet (zst u 40 3 x1) (fun u12 => some u12)
else
zbind (zld u 50 720 a1) (fun x14 => zbind (zld u 50 720 (a1 + 2)) (fun x16 => zbind (zld u 50 720 (a1 + 3)) (fun x18 => zbind2 (m_X6_comes x14 x1 x16 x18 u) (fun x20 u21 => zbind (zld u21 50 720 (a1 + 4)) (fun x23 => zbind (zsv u21 40 160 ((6 + (7 * x20)) + 4) x23) (fun u25 => zbind (zld u25 50 720 (a1 + 5)) (fun x27 => zbind (zsv u25 40 160 ((6 + (7 * x20)) + 5) x27) (fun u29 => some u29)))))))))))
set_option maxHeartbeats 4000000 in
set_option maxRecDepth 100000 in
theorem c_X6_isSo (a1 : Int32)   (u : zM) (u' : zM) (h : m_X6_isSo a1 u = some (u')) : zCt 2 yX6_isSo cX6_isSo 4 none (fun E => [.ref (zad E 39), .int a1]) u (fun _ => none) u' := by
  refine zCt.of (by decide +kernel) (fun E => Nat.le_of_ble_eq_true rfl) (fun X hX hR => ?_)
  have hX : zGood X RX6 cX6_isSo 4 2 := hX
  show zG X u 0 [(0, .ref (zad X.1 39)), (1, .int a1)] []
  unfold m_X6_isSo at h
  refine r_aload_n hX dX6_isSo_0 0 rfl rfl ?_
  refine r_getR hX dX6_isSo_1 f_RX6_63 zr_39_20 ?_
  refine r_iload_n hX dX6_isSo_4 1 rfl rfl ?_
  refine r_iconst (v := 1) hX dX6_isSo_5 (by decide) ?_
  refine r_iadd hX dX6_isSo_6 ?_
  obtain ⟨x1, e2, h⟩ := zbind_elim h
  refine r_iald hX dX6_isSo_7 rfl e2 ?_
  refine r_istore_n (y := x1) (L' := [(2, .int x1), (0, .ref (zad X.1 39)), (1, .int a1)]) hX dX6_isSo_8 rfl (by decide) rfl rfl ?_
  refine r_aload_n hX dX6_isSo_9 1 rfl rfl ?_
  refine r_getR hX dX6_isSo_10 f_RX6_63 zr_39_20 ?_
  refine r_iload_n hX dX6_isSo_13 2 rfl rfl ?_
  obtain ⟨x3, e4, h⟩ := zbind_elim h
  refine r_iald hX dX6_isSo_14 rfl e4 ?_
  by_cases c5 : x3 = 10
  · have h := (if_pos c5).symm.trans h
    refine r_tsIn (v := 10) (off := 25) (tgt := 40) hX dX6_isSo_15 c5 (by decide) (by decide) (by decide +kernel) (by decide) ?_
    refine r_aload_n hX dX6_isSo_40 1 rfl rfl ?_
    refine r_getR hX dX6_isSo_41 f_RX6_9 zr_39_0 ?_
    refine r_iconst (v := 1) hX dX6_isSo_44 (by decide) ?_
    refine r_iload_n hX dX6_isSo_45 0 rfl rfl ?_
    obtain ⟨u6, e7, h⟩ := zlet_elim h
    refine r_iastC (j := 1) hX dX6_isSo_46 rfl (by decide +kernel) ?_
    rw [e7]
    refine r_goto (tgt := 142) hX dX6_isSo_47 (by decide) ?_
    obtain rfl := Option.some.inj h
    exact r_vret hX hR dX6_isSo_142
  have h := (if_neg c5).symm.trans h
  by_cases c8 : x3 = 11
  · have h := (if_pos c8).symm.trans h
    refine r_tsIn (v := 11) (off := 35) (tgt := 50) hX dX6_isSo_15 c8 (by decide) (by decide) (by decide +kernel) (by decide) ?_
    refine r_aload_n hX dX6_isSo_50 1 rfl rfl ?_
    refine r_getR hX dX6_isSo_51 f_RX6_9 zr_39_0 ?_
    refine r_iconst (v := 2) hX dX6_isSo_54 (by decide) ?_
    refine r_iload_n hX dX6_isSo_55 0 rfl rfl ?_
    obtain ⟨u9, e10, h⟩ := zlet_elim h
    refine r_iastC (j := 2) hX dX6_isSo_56 rfl (by decide +kernel) ?_
    rw [e10]
    refine r_goto (tgt := 142) hX dX6_isSo_57 (by decide) ?_
    obtain rfl := Option.some.inj h
    exact r_vret hX hR dX6_isSo_142
  have h := (if_neg c8).symm.trans h
  by_cases c11 : x3 = 12
  · have h := (if_pos c11).symm.trans h
    refine r_tsIn (v := 12) (off := 45) (tgt := 60) hX dX6_isSo_15 c11 (by decide) (by decide) (by decide +kernel) (by decide) ?_
    refine r_aload_n hX dX6_isSo_60 1 rfl rfl ?_
    refine r_getR hX dX6_isSo_61 f_RX6_9 zr_39_0 ?_
    refine r_iconst (v := 3) hX dX6_isSo_64 (by decide) ?_
    refine r_iload_n hX dX6_isSo_65 0 rfl rfl ?_
    obtain ⟨u12, e13, h⟩ := zlet_elim h
    refine r_iastC (j := 3) hX dX6_isSo_66 rfl (by decide +kernel) ?_
    rw [e13]
    refine r_goto (tgt := 142) hX dX6_isSo_67 (by decide) ?_
    obtain rfl := Option.some.inj h
    exact r_vret hX hR dX6_isSo_142
  have h := (if_neg c11).symm.trans h
  refine r_tsOut (tgt := 70) hX dX6_isSo_15 (by first | exact zts_out x3 10 (by decide) 3 (by decide) (fun k hk => match k, hk with | 0, _ => c5 | 1, _ => c8 | 2, _ => c11 | k + 3, hk => absurd hk (by omega))) (by decide) ?_
  refine r_aload_n hX dX6_isSo_70 1 rfl rfl ?_
  refine r_aload_n hX dX6_isSo_71 1 rfl rfl ?_
  refine r_getR hX dX6_isSo_72 f_RX6_63 zr_39_20 ?_
  refine r_iload_n hX dX6_isSo_75 2 rfl rfl ?_
  obtain ⟨x14, e15, h⟩ := zbind_elim h
  refine r_iald hX dX6_isSo_76 rfl e15 ?_
  refine r_iload_n hX dX6_isSo_77 0 rfl rfl ?_
  refine r_aload_n hX dX6_isSo_78 1 rfl rfl ?_
  refine r_getR hX dX6_isSo_79 f_RX6_63 zr_39_20 ?_
  refine r_iload_n hX dX6_isSo_82 2 rfl rfl ?_
  refine r_iconst (v := 2) hX dX6_isSo_83 (by decide) ?_
  refine r_iadd hX dX6_isSo_84 ?_
  obtain ⟨x16, e17, h⟩ := zbind_elim h
  refine r_iald hX dX6_isSo_85 rfl e17 ?_
  refine r_aload_n hX dX6_isSo_86 1 rfl rfl ?_
  refine r_getR hX dX6_isSo_87 f_RX6_63 zr_39_20 ?_
  refine r_iload_n hX dX6_isSo_90 2 rfl rfl ?_
  refine r_iconst (v := 3) hX dX6_isSo_91 (by decide) ?_
  refine r_iadd hX dX6_isSo_92 ?_
  obtain ⟨x18, e19, h⟩ := zbind_elim h
  refine r_iald hX dX6_isSo_93 rfl e19 ?_
  obtain ⟨x20, u21, e22, h⟩ := zbind2_elim h
  refine r_callV (As := [.int x14, .int x1, .int x16, .int x18]) (rest := []) (st1 := [.int x20]) hX dX6_isSo_94 lv_RX6_88 (c_X6_comes x14 x1 x16 x18  u _ _ e22) (by decide) rfl rfl (zRecv.of (q := 39) (ci := 6) rfl rfl) rfl (Nat.le_of_ble_eq_true rfl) rfl ?_
  refine r_istore_n (y := x20) (L' := [(3, .int x20), (2, .int x1), (0, .ref (zad X.1 39)), (1, .int a1)]) hX dX6_isSo_97 rfl (by decide) rfl rfl ?_
  refine r_aload_n hX dX6_isSo_98 2 rfl rfl ?_
  refine r_getR hX dX6_isSo_99 f_RX6_9 zr_39_0 ?_
  refine r_bipush (v := 6) hX dX6_isSo_102 (by decide) ?_
  refine r_bipush (v := 7) hX dX6_isSo_104 (by decide) ?_
  refine r_iload_n hX dX6_isSo_106 0 rfl rfl ?_
  refine r_imul hX dX6_isSo_107 ?_
  refine r_iadd hX dX6_isSo_108 ?_
  refine r_iconst (v := 4) hX dX6_isSo_109 (by decide) ?_
  refine r_iadd hX dX6_isSo_110 ?_
  refine r_aload_n hX dX6_isSo_111 2 rfl rfl ?_
  refine r_getR hX dX6_isSo_112 f_RX6_63 zr_39_20 ?_
  refine r_iload_n hX dX6_isSo_115 3 rfl rfl ?_
  refine r_iconst (v := 4) hX dX6_isSo_116 (by decide) ?_
  refine r_iadd hX dX6_isSo_117 ?_
  obtain ⟨x23, e24, h⟩ := zbind_elim h
  refine r_iald hX dX6_isSo_118 rfl e24 ?_
  obtain ⟨u25, e26, h⟩ := zbind_elim h
  refine r_iast hX dX6_isSo_119 rfl e26 ?_
  refine r_aload_n hX dX6_isSo_120 2 rfl rfl ?_
  refine r_getR hX dX6_isSo_121 f_RX6_9 zr_39_0 ?_
  refine r_bipush (v := 6) hX dX6_isSo_124 (by decide) ?_
  refine r_bipush (v := 7) hX dX6_isSo_126 (by decide) ?_
  refine r_iload_n hX dX6_isSo_128 0 rfl rfl ?_
  refine r_imul hX dX6_isSo_129 ?_
  refine r_iadd hX dX6_isSo_130 ?_
  refine r_iconst (v := 5) hX dX6_isSo_131 (by decide) ?_
  refine r_iadd hX dX6_isSo_132 ?_
  refine r_aload_n hX dX6_isSo_133 2 rfl rfl ?_
  refine r_getR hX dX6_isSo_134 f_RX6_63 zr_39_20 ?_
  refine r_iload_n hX dX6_isSo_137 3 rfl rfl ?_
  refine r_iconst (v := 5) hX dX6_isSo_138 (by decide) ?_
  refine r_iadd hX dX6_isSo_139 ?_
  obtain ⟨x27, e28, h⟩ := zbind_elim h
  refine r_iald hX dX6_isSo_140 rfl e28 ?_
  obtain ⟨u29, e30, h⟩ := zbind_elim h
  refine r_iast hX dX6_isSo_141 rfl e30 ?_
  obtain rfl := Option.some.inj h
  exact r_vret hX hR dX6_isSo_142
theorem dX6_text_0 : decode cX6_text 0 = .ok (.aload_n 0, 1) := by decide +kernel
theorem dX6_text_1 : decode cX6_text 1 = .ok (.iconst 0, 1) := by decide +kernel
theorem dX6_text_2 : decode cX6_text 2 = .ok (.putfield 216, 3) := by decide +kernel
theorem dX6_text_5 : decode cX6_text 5 = .ok (.aload_n 0, 1) := by decide +kernel
theorem dX6_text_6 : decode cX6_text 6 = .ok (.iconst 0, 1) := by decide +kernel
theorem dX6_text_7 : decode cX6_text 7 = .ok (.putfield 238, 3) := by decide +kernel
theorem dX6_text_10 : decode cX6_text 10 = .ok (.aload_n 0, 1) := by decide +kernel
theorem dX6_text_11 : decode cX6_text 11 = .ok (.iconst 0, 1) := by decide +kernel
theorem dX6_text_12 : decode cX6_text 12 = .ok (.putfield 253, 3) := by decide +kernel
theorem dX6_text_15 : decode cX6_text 15 = .ok (.aload_n 0, 1) := by decide +kernel
theorem dX6_text_16 : decode cX6_text 16 = .ok (.iconst 0, 1) := by decide +kernel
theorem dX6_text_17 : decode cX6_text 17 = .ok (.putfield 272, 3) := by decide +kernel
theorem dX6_text_20 : decode cX6_text 20 = .ok (.aload_n 0, 1) := by decide +kernel
theorem dX6_text_21 : decode cX6_text 21 = .ok (.invokevirtual 242, 3) := by decide +kernel
theorem dX6_text_24 : decode cX6_text 24 = .ok (.aload_n 0, 1) := by decide +kernel
theorem dX6_text_25 : decode cX6_text 25 = .ok (.invokevirtual 282, 3) := by decide +kernel
theorem dX6_text_28 : decode cX6_text 28 = .ok (.aload_n 0, 1) := by decide +kernel
theorem dX6_text_29 : decode cX6_text 29 = .ok (.bipush 59, 2) := by decide +kernel
theorem dX6_text_31 : decode cX6_text 31 = .ok (.invokevirtual 277, 3) := by decide +kernel
theorem dX6_text_34 : decode cX6_text 34 = .ok (.ifCond .eq 15, 3) := by decide +kernel
theorem dX6_text_37 : decode cX6_text 37 = .ok (.aload_n 0, 1) := by decide +kernel
theorem dX6_text_38 : decode cX6_text 38 = .ok (.iconst 1, 1) := by decide +kernel
theorem dX6_text_39 : decode cX6_text 39 = .ok (.invokevirtual 245, 3) := by decide +kernel
theorem dX6_text_42 : decode cX6_text 42 = .ok (.aload_n 0, 1) := by decide +kernel
theorem dX6_text_43 : decode cX6_text 43 = .ok (.invokevirtual 282, 3) := by decide +kernel
theorem dX6_text_46 : decode cX6_text 46 = .ok (.goto (-18), 3) := by decide +kernel
theorem dX6_text_49 : decode cX6_text 49 = .ok (.aload_n 0, 1) := by decide +kernel
theorem dX6_text_50 : decode cX6_text 50 = .ok (.aload_n 0, 1) := by decide +kernel
theorem dX6_text_51 : decode cX6_text 51 = .ok (.getfield 228, 3) := by decide +kernel
theorem dX6_text_54 : decode cX6_text 54 = .ok (.ifCond .ne 7, 3) := by decide +kernel
theorem dX6_text_57 : decode cX6_text 57 = .ok (.iconst 1, 1) := by decide +kernel
theorem dX6_text_58 : decode cX6_text 58 = .ok (.goto 4, 3) := by decide +kernel
theorem dX6_text_61 : decode cX6_text 61 = .ok (.iconst 0, 1) := by decide +kernel
theorem dX6_text_62 : decode cX6_text 62 = .ok (.invokevirtual 245, 3) := by decide +kernel
theorem dX6_text_65 : decode cX6_text 65 = .ok (.aload_n 0, 1) := by decide +kernel
theorem dX6_text_66 : decode cX6_text 66 = .ok (.iconst 0, 1) := by decide +kernel
theorem dX6_text_67 : decode cX6_text 67 = .ok (.putfield 213, 3) := by decide +kernel
theorem dX6_text_70 : decode cX6_text 70 = .ok (.aload_n 0, 1) := by decide +kernel
theorem dX6_text_71 : decode cX6_text 71 = .ok (.getfield 238, 3) := by decide +kernel
theorem dX6_text_74 : decode cX6_text 74 = .ok (.ifCond .eq 10, 3) := by decide +kernel
theorem dX6_text_77 : decode cX6_text 77 = .ok (.iconst (-1), 1) := by decide +kernel
theorem dX6_text_78 : decode cX6_text 78 = .ok (.aload_n 0, 1) := by decide +kernel
theorem dX6_text_79 : decode cX6_text 79 = .ok (.getfield 219, 3) := by decide +kernel
theorem dX6_text_82 : decode cX6_text 82 = .ok (.isub, 1) := by decide +kernel
theorem dX6_text_83 : decode cX6_text 83 = .ok (.ireturn, 1) := by decide +kernel
theorem dX6_text_84 : decode cX6_text 84 = .ok (.iconst 0, 1) := by decide +kernel
theorem dX6_text_85 : decode cX6_text 85 = .ok (.istore_n 1, 1) := by decide +kernel
theorem dX6_text_86 : decode cX6_text 86 = .ok (.iload_n 1, 1) := by decide +kernel
theorem dX6_text_87 : decode cX6_text 87 = .ok (.aload_n 0, 1) := by decide +kernel
theorem dX6_text_88 : decode cX6_text 88 = .ok (.getfield 253, 3) := by decide +kernel
theorem dX6_text_91 : decode cX6_text 91 = .ok (.if_icmp .ge 17, 3) := by decide +kernel
theorem dX6_text_94 : decode cX6_text 94 = .ok (.aload_n 0, 1) := by decide +kernel
theorem dX6_text_95 : decode cX6_text 95 = .ok (.bipush 6, 2) := by decide +kernel
theorem dX6_text_97 : decode cX6_text 97 = .ok (.iload_n 1, 1) := by decide +kernel
theorem dX6_text_98 : decode cX6_text 98 = .ok (.imul, 1) := by decide +kernel
theorem dX6_text_99 : decode cX6_text 99 = .ok (.invokevirtual 285, 3) := by decide +kernel
theorem dX6_text_102 : decode cX6_text 102 = .ok (.iinc 1 1, 3) := by decide +kernel
theorem dX6_text_105 : decode cX6_text 105 = .ok (.goto (-19), 3) := by decide +kernel
theorem dX6_text_108 : decode cX6_text 108 = .ok (.aload_n 0, 1) := by decide +kernel
theorem dX6_text_109 : decode cX6_text 109 = .ok (.getfield 253, 3) := by decide +kernel
theorem dX6_text_112 : decode cX6_text 112 = .ok (.ireturn, 1) := by decide +kernel
def m_X6_text_b0  (u13 : zM) : Option ((zM) ⊕ (zM)) :=
  zbind (m_X6_isSign 59 u13) (fun x16 => (if x16 = 0 then
some (.inr u13)
else
zbind (m_X6_must 1 u13) (fun u19 => zbind (m_X6_readItem u19) (fun u21 => some (.inl u21)))))
def m_X6_text_b1  (x31 : Int32) (u32 : zM) : Option ((Int32 × zM) ⊕ (zM)) :=
  (if (u32 39 21) ≤ x31 then
some (.inr u32)
else
zbind (m_X6_isSo (6 * x31) u32) (fun u36 => some (.inl ((x31 + 1), u36))))
def m_X6_text  (u : zM) : Option (Int32 × zM) :=
  zlet (zst u 39 14 0) (fun u1 => zlet (zst u1 39 17 0) (fun u3 => zlet (zst u3 39 21 0) (fun u5 => zlet (zst u5 39 22 0) (fun u7 => zbind (m_X6_next u7) (fun u9 => zbind (m_X6_readItem u9) (fun u11 => zbind (zit zF (fun s : zM => m_X6_text_b0 s) u11) (fun u14 =>
zlet ((if (u14 39 15) = 0 then
1
else
0) : Int32) (fun x23 =>
zbind (m_X6_must x23 u14) (fun u26 => zlet (zst u26 39 12 0) (fun u28 => (if (u28 39 17) = 0 then
zbind (zit zF (fun s : Int32 × zM => m_X6_text_b1 s.1 s.2) (0, u28)) (fun u33 =>
some ((u33 39 21), u33))
else
some (((-1) - (u28 39 13)), u28))))))))))))
set_option maxHeartbeats 4000000 in
set_option maxRecDepth 100000 in
theorem c_X6_text    (u : zM) (r : Int32) (u' : zM) (h : m_X6_text u = some (r, u')) : zCt 8 yX6_text cX6_text 2 (some .int) (fun E => [.ref (zad E 39)]) u (fun _ => some (.int r)) u' := by
  refine zCt.of (by decide +kernel) (fun E => Nat.le_of_ble_eq_true rfl) (fun X hX hR => ?_)
  have hX : zGood X RX6 cX6_text 2 8 := hX
  show zG X u 0 [(0, .ref (zad X.1 39))] []
  unfold m_X6_text at h
  refine r_aload_n hX dX6_text_0 0 rfl rfl ?_
  refine r_iconst (v := 0) hX dX6_text_1 (by decide) ?_
  obtain ⟨u1, e2, h⟩ := zlet_elim h
  refine r_putI hX dX6_text_2 f_RX6_216 p_6_14 zi_39_14 ?_
  rw [e2]
  refine r_aload_n hX dX6_text_5 0 rfl rfl ?_
  refine r_iconst (v := 0) hX dX6_text_6 (by decide) ?_
  obtain ⟨u3, e4, h⟩ := zlet_elim h
  refine r_putZ hX dX6_text_7 f_RX6_238 p_6_17 zi_39_17 (by first | exact Or.inl rfl | exact Or.inr rfl | simp) ?_
  rw [e4]
  refine r_aload_n hX dX6_text_10 0 rfl rfl ?_
  refine r_iconst (v := 0) hX dX6_text_11 (by decide) ?_
  obtain ⟨u5, e6, h⟩ := zlet_elim h
  refine r_putI hX dX6_text_12 f_RX6_253 p_6_21 zi_39_21 ?_
  rw [e6]
  refine r_aload_n hX dX6_text_15 0 rfl rfl ?_
  refine r_iconst (v := 0) hX dX6_text_16 (by decide) ?_
  obtain ⟨u7, e8, h⟩ := zlet_elim h
  refine r_putI hX dX6_text_17 f_RX6_272 p_6_22 zi_39_22 ?_
  rw [e8]
  refine r_aload_n hX dX6_text_20 0 rfl rfl ?_
  obtain ⟨u9, e10, h⟩ := zbind_elim h
  refine r_callV (As := []) (rest := []) (st1 := []) hX dX6_text_21 lv_RX6_242 (c_X6_next   u7 _ e10) (by decide) rfl rfl (zRecv.of (q := 39) (ci := 6) rfl rfl) rfl (Nat.le_of_ble_eq_true rfl) rfl ?_
  refine r_aload_n hX dX6_text_24 0 rfl rfl ?_
  obtain ⟨u11, e12, h⟩ := zbind_elim h
  refine r_callV (As := []) (rest := []) (st1 := []) hX dX6_text_25 lv_RX6_282 (c_X6_readItem   u9 _ e12) (by decide) rfl rfl (zRecv.of (q := 39) (ci := 6) rfl rfl) rfl (Nat.le_of_ble_eq_true rfl) rfl ?_
  obtain ⟨u14, h15, h⟩ := zbind_elim h
  have Jh15 : zG X u14 49 [(0, .ref (zad X.1 39))] [] := by
      refine r_aload_n hX dX6_text_49 0 rfl rfl ?_
      refine r_aload_n hX dX6_text_50 0 rfl rfl ?_
      refine r_getI hX dX6_text_51 f_RX6_228 zi_39_15 ?_
      obtain ⟨x23, h24, h⟩ := zlet_elim h
      have Jh24 : zG X u14 62 [(0, .ref (zad X.1 39))] [.int x23, .ref (zad X.1 39)] := by
          obtain ⟨u26, e27, h⟩ := zbind_elim h
          refine r_callV (As := [.int x23]) (rest := []) (st1 := []) hX dX6_text_62 lv_RX6_245 (c_X6_must x23  u14 _ e27) (by decide) rfl rfl (zRecv.of (q := 39) (ci := 6) rfl rfl) rfl (Nat.le_of_ble_eq_true rfl) rfl ?_
          refine r_aload_n hX dX6_text_65 0 rfl rfl ?_
          refine r_iconst (v := 0) hX dX6_text_66 (by decide) ?_
          obtain ⟨u28, e29, h⟩ := zlet_elim h
          refine r_putI hX dX6_text_67 f_RX6_213 p_6_12 zi_39_12 ?_
          rw [e29]
          refine r_aload_n hX dX6_text_70 0 rfl rfl ?_
          refine r_getI hX dX6_text_71 f_RX6_238 zi_39_17 ?_
          refine r_if_eq (tgt := 84) hX dX6_text_74 (by decide) (fun c30 => ?_) (fun c30 => ?_)
          · have h := (if_pos c30).symm.trans h
            refine r_iconst (v := 0) hX dX6_text_84 (by decide) ?_
            refine r_istore_n (y := 0) (L' := [(1, .int 0), (0, .ref (zad X.1 39))]) hX dX6_text_85 rfl (by decide) rfl rfl ?_
            refine r_sub [1, 0] (L' := [(0, .ref (zad X.1 39)), (1, .int 0)]) rfl ?_
            obtain ⟨u33, h34, h⟩ := zbind_elim h
            have Jh34 : zG X u33 108 [(0, .ref (zad X.1 39))] [] := by
                refine r_aload_n hX dX6_text_108 0 rfl rfl ?_
                refine r_getI hX dX6_text_109 f_RX6_253 zi_39_21 ?_
                obtain ⟨rfl, rfl⟩ := zinj2 (Option.some.inj h)
                exact r_iret hX hR dX6_text_112
            clear h
            refine zit_walk (P := fun s1 : Int32 × zM => zG X s1.2 86 [(0, .ref (zad X.1 39)), (1, .int (s1.1))] []) ?_ zF _ h34
            clear h34
            intro s1 y1 h1b hin1 hout1
            obtain ⟨x31, u32⟩ := s1
            have h1b : m_X6_text_b1 x31 u32 = some y1 := h1b
            unfold m_X6_text_b1 at h1b
            show zG X u32 86 [(0, .ref (zad X.1 39)), (1, .int x31)] []
            refine r_iload_n hX dX6_text_86 1 rfl rfl ?_
            refine r_aload_n hX dX6_text_87 0 rfl rfl ?_
            refine r_getI hX dX6_text_88 f_RX6_253 zi_39_21 ?_
            refine r_icmp_ge (tgt := 108) hX dX6_text_91 (by decide) (fun c35 => ?_) (fun c35 => ?_)
            · have h1b := (if_pos c35).symm.trans h1b
              refine r_sub [0] (L' := [(0, .ref (zad X.1 39))]) rfl ?_
              have h1b := hout1 _ (Option.some.inj h1b).symm
              obtain rfl := h1b
              exact Jh34
            · have h1b := (if_neg c35).symm.trans h1b
              refine r_aload_n hX dX6_text_94 0 rfl rfl ?_
              refine r_bipush (v := 6) hX dX6_text_95 (by decide) ?_
              refine r_iload_n hX dX6_text_97 1 rfl rfl ?_
              refine r_imul hX dX6_text_98 ?_
              obtain ⟨u36, e37, h1b⟩ := zbind_elim h1b
              refine r_callV (As := [.int (6 * x31)]) (rest := []) (st1 := []) hX dX6_text_99 lv_RX6_285 (c_X6_isSo (6 * x31)  u32 _ e37) (by decide) rfl rfl (zRecv.of (q := 39) (ci := 6) rfl rfl) rfl (Nat.le_of_ble_eq_true rfl) rfl ?_
              refine r_iinc (v := (x31 + 1)) (L' := [(1, .int (x31 + 1)), (0, .ref (zad X.1 39))]) hX dX6_text_102 (by decide) 1 rfl rfl rfl ?_
              refine r_goto (tgt := 86) hX dX6_text_105 (by decide) ?_
              refine r_sub [1, 0] (L' := [(0, .ref (zad X.1 39)), (1, .int (x31 + 1))]) rfl ?_
              exact hin1 _ (Option.some.inj h1b).symm
          · have h := (if_neg c30).symm.trans h
            refine r_iconst (v := (-1)) hX dX6_text_77 (by decide) ?_
            refine r_aload_n hX dX6_text_78 0 rfl rfl ?_
            refine r_getI hX dX6_text_79 f_RX6_219 zi_39_13 ?_
            refine r_isub hX dX6_text_82 ?_
            obtain ⟨rfl, rfl⟩ := zinj2 (Option.some.inj h)
            exact r_iret hX hR dX6_text_83
      clear h
      refine r_if_ne (tgt := 61) hX dX6_text_54 (by decide) (fun c25 => ?_) (fun c25 => ?_)
      · have h24 := (if_neg c25).symm.trans h24
        refine r_iconst (v := 0) hX dX6_text_61 (by decide) ?_
        obtain rfl := h24
        exact Jh24
      · have h24 := (if_pos c25).symm.trans h24
        refine r_iconst (v := 1) hX dX6_text_57 (by decide) ?_
        refine r_goto (tgt := 62) hX dX6_text_58 (by decide) ?_
        obtain rfl := h24
        exact Jh24
  clear h
  refine zit_walk (P := fun s0 : zM => zG X s0 28 [(0, .ref (zad X.1 39))] []) ?_ zF _ h15
  clear h15
  intro s0 y0 h0b hin0 hout0
  obtain ⟨u13, es0⟩ : ∃ z, z = s0 := ⟨_, rfl⟩
  subst es0
  have h0b : m_X6_text_b0 u13 = some y0 := h0b
  unfold m_X6_text_b0 at h0b
  show zG X u13 28 [(0, .ref (zad X.1 39))] []
  refine r_aload_n hX dX6_text_28 0 rfl rfl ?_
  refine r_bipush (v := 59) hX dX6_text_29 (by decide) ?_
  obtain ⟨x16, e17, h0b⟩ := zbind_elim h0b
  refine r_callV (As := [.int 59]) (rest := []) (st1 := [.int x16]) hX dX6_text_31 lv_RX6_277 (c_X6_isSign 59  u13 _ e17) (by decide) rfl rfl (zRecv.of (q := 39) (ci := 6) rfl rfl) rfl (Nat.le_of_ble_eq_true rfl) rfl ?_
  refine r_if_eq (tgt := 49) hX dX6_text_34 (by decide) (fun c18 => ?_) (fun c18 => ?_)
  · have h0b := (if_pos c18).symm.trans h0b
    have h0b := hout0 _ (Option.some.inj h0b).symm
    obtain rfl := h0b
    exact Jh15
  · have h0b := (if_neg c18).symm.trans h0b
    refine r_aload_n hX dX6_text_37 0 rfl rfl ?_
    refine r_iconst (v := 1) hX dX6_text_38 (by decide) ?_
    obtain ⟨u19, e20, h0b⟩ := zbind_elim h0b
    refine r_callV (As := [.int 1]) (rest := []) (st1 := []) hX dX6_text_39 lv_RX6_245 (c_X6_must 1  u13 _ e20) (by decide) rfl rfl (zRecv.of (q := 39) (ci := 6) rfl rfl) rfl (Nat.le_of_ble_eq_true rfl) rfl ?_
    refine r_aload_n hX dX6_text_42 0 rfl rfl ?_
    obtain ⟨u21, e22, h0b⟩ := zbind_elim h0b
    refine r_callV (As := []) (rest := []) (st1 := []) hX dX6_text_43 lv_RX6_282 (c_X6_readItem   u19 _ e22) (by decide) rfl rfl (zRecv.of (q := 39) (ci := 6) rfl rfl) rfl (Nat.le_of_ble_eq_true rfl) rfl ?_
    refine r_goto (tgt := 28) hX dX6_text_46 (by decide) ?_
    exact hin0 _ (Option.some.inj h0b).symm
theorem dX6_hold_0 : decode cX6_hold 0 = .ok (.iload_n 1, 1) := by decide +kernel
theorem dX6_hold_1 : decode cX6_hold 1 = .ok (.iconst 0, 1) := by decide +kernel
theorem dX6_hold_2 : decode cX6_hold 2 = .ok (.bipush 9, 2) := by decide +kernel
theorem dX6_hold_4 : decode cX6_hold 4 = .ok (.invokestatic 79, 3) := by decide +kernel
theorem dX6_hold_7 : decode cX6_hold 7 = .ok (.ifCond .eq 16, 3) := by decide +kernel
theorem dX6_hold_10 : decode cX6_hold 10 = .ok (.iload_n 2, 1) := by decide +kernel
theorem dX6_hold_11 : decode cX6_hold 11 = .ok (.iconst (-1), 1) := by decide +kernel
theorem dX6_hold_12 : decode cX6_hold 12 = .ok (.if_icmp .eq 18, 3) := by decide +kernel
theorem dX6_hold_15 : decode cX6_hold 15 = .ok (.aload_n 0, 1) := by decide +kernel
theorem dX6_hold_16 : decode cX6_hold 16 = .ok (.iload_n 2, 1) := by decide +kernel
theorem dX6_hold_17 : decode cX6_hold 17 = .ok (.invokevirtual 96, 3) := by decide +kernel
theorem dX6_hold_20 : decode cX6_hold 20 = .ok (.ifCond .ne 10, 3) := by decide +kernel
theorem dX6_hold_23 : decode cX6_hold 23 = .ok (.aload_n 0, 1) := by decide +kernel
theorem dX6_hold_24 : decode cX6_hold 24 = .ok (.ldc 78, 2) := by decide +kernel
theorem dX6_hold_26 : decode cX6_hold 26 = .ok (.invokevirtual 83, 3) := by decide +kernel
theorem dX6_hold_29 : decode cX6_hold 29 = .ok (.ireturn, 1) := by decide +kernel
theorem dX6_hold_30 : decode cX6_hold 30 = .ok (.aload_n 0, 1) := by decide +kernel
theorem dX6_hold_31 : decode cX6_hold 31 = .ok (.getfield 9, 3) := by decide +kernel
theorem dX6_hold_34 : decode cX6_hold 34 = .ok (.sipush 150, 3) := by decide +kernel
theorem dX6_hold_37 : decode cX6_hold 37 = .ok (.iload_n 1, 1) := by decide +kernel
theorem dX6_hold_38 : decode cX6_hold 38 = .ok (.iadd, 1) := by decide +kernel
theorem dX6_hold_39 : decode cX6_hold 39 = .ok (.iload_n 2, 1) := by decide +kernel
theorem dX6_hold_40 : decode cX6_hold 40 = .ok (.iconst 1, 1) := by decide +kernel
theorem dX6_hold_41 : decode cX6_hold 41 = .ok (.iadd, 1) := by decide +kernel
theorem dX6_hold_42 : decode cX6_hold 42 = .ok (.iastore, 1) := by decide +kernel
theorem dX6_hold_43 : decode cX6_hold 43 = .ok (.iconst 1, 1) := by decide +kernel
theorem dX6_hold_44 : decode cX6_hold 44 = .ok (.ireturn, 1) := by decide +kernel
def m_X6_hold (a1 : Int32) (a2 : Int32) (u : zM) : Option (Int32 × zM) :=
  (if (m_X6_within a1 0 9) = 0 then
zbind2 (m_X6_finding (-1000001) u) (fun x2 u3 => some (x2, u3))
else
(if a2 = (-1) then
zbind (zsv u 40 160 (150 + a1) (a2 + 1)) (fun u6 => some (1, u6))
else
(if (m_X6_isBody a2 u) = 0 then
zbind2 (m_X6_finding (-1000001) u) (fun x11 u12 => some (x11, u12))
else
zbind (zsv u 40 160 (150 + a1) (a2 + 1)) (fun u9 => some (1, u9)))))
set_option maxHeartbeats 4000000 in
set_option maxRecDepth 100000 in
theorem c_X6_hold (a1 : Int32) (a2 : Int32)   (u : zM) (r : Int32) (u' : zM) (h : m_X6_hold a1 a2 u = some (r, u')) : zCt 3 yX6_hold cX6_hold 3 (some .int) (fun E => [.ref (zad E 39), .int a1, .int a2]) u (fun _ => some (.int r)) u' := by
  refine zCt.of (by decide +kernel) (fun E => Nat.le_of_ble_eq_true rfl) (fun X hX hR => ?_)
  have hX : zGood X RX6 cX6_hold 3 3 := hX
  show zG X u 0 [(0, .ref (zad X.1 39)), (1, .int a1), (2, .int a2)] []
  unfold m_X6_hold at h
  refine r_iload_n hX dX6_hold_0 1 rfl rfl ?_
  refine r_iconst (v := 0) hX dX6_hold_1 (by decide) ?_
  refine r_bipush (v := 9) hX dX6_hold_2 (by decide) ?_
  refine r_callS (As := [.int a1, .int 0, .int 9]) (rest := []) (st1 := [.int (m_X6_within a1 0 9)]) hX dX6_hold_4 ls_RX6_79 (c_X6_within a1 0 9  u _ rfl) (by decide) rfl rfl rfl (Nat.le_of_ble_eq_true rfl) rfl ?_
  refine r_if_eq (tgt := 23) hX dX6_hold_7 (by decide) (fun c1 => ?_) (fun c1 => ?_)
  · have h := (if_pos c1).symm.trans h
    refine r_aload_n hX dX6_hold_23 0 rfl rfl ?_
    refine r_ldc (v := (-1000001)) hX dX6_hold_24 (zT_in 1041 (by decide +kernel) rfl) ?_
    obtain ⟨x2, u3, e4, h⟩ := zbind2_elim h
    refine r_callV (As := [.int (-1000001)]) (rest := []) (st1 := [.int x2]) hX dX6_hold_26 lv_RX6_83 (c_X6_finding (-1000001)  u _ _ e4) (by decide) rfl rfl (zRecv.of (q := 39) (ci := 6) rfl rfl) rfl (Nat.le_of_ble_eq_true rfl) rfl ?_
    obtain ⟨rfl, rfl⟩ := zinj2 (Option.some.inj h)
    exact r_iret hX hR dX6_hold_29
  · have h := (if_neg c1).symm.trans h
    refine r_iload_n hX dX6_hold_10 2 rfl rfl ?_
    refine r_iconst (v := (-1)) hX dX6_hold_11 (by decide) ?_
    refine r_icmp_eq (tgt := 30) hX dX6_hold_12 (by decide) (fun c5 => ?_) (fun c5 => ?_)
    · have h := (if_pos c5).symm.trans h
      refine r_aload_n hX dX6_hold_30 0 rfl rfl ?_
      refine r_getR hX dX6_hold_31 f_RX6_9 zr_39_0 ?_
      refine r_sipush (v := 150) hX dX6_hold_34 (by decide) ?_
      refine r_iload_n hX dX6_hold_37 1 rfl rfl ?_
      refine r_iadd hX dX6_hold_38 ?_
      refine r_iload_n hX dX6_hold_39 2 rfl rfl ?_
      refine r_iconst (v := 1) hX dX6_hold_40 (by decide) ?_
      refine r_iadd hX dX6_hold_41 ?_
      obtain ⟨u6, e7, h⟩ := zbind_elim h
      refine r_iast hX dX6_hold_42 rfl e7 ?_
      refine r_iconst (v := 1) hX dX6_hold_43 (by decide) ?_
      obtain ⟨rfl, rfl⟩ := zinj2 (Option.some.inj h)
      exact r_iret hX hR dX6_hold_44
    · have h := (if_neg c5).symm.trans h
      refine r_aload_n hX dX6_hold_15 0 rfl rfl ?_
      refine r_iload_n hX dX6_hold_16 2 rfl rfl ?_
      refine r_callV (As := [.int a2]) (rest := []) (st1 := [.int (m_X6_isBody a2 u)]) hX dX6_hold_17 lv_RX6_96 (c_X6_isBody a2  u _ rfl) (by decide) rfl rfl (zRecv.of (q := 39) (ci := 6) rfl rfl) rfl (Nat.le_of_ble_eq_true rfl) rfl ?_
      refine r_if_ne (tgt := 30) hX dX6_hold_20 (by decide) (fun c8 => ?_) (fun c8 => ?_)
      · have h := (if_neg c8).symm.trans h
        refine r_aload_n hX dX6_hold_30 0 rfl rfl ?_
        refine r_getR hX dX6_hold_31 f_RX6_9 zr_39_0 ?_
        refine r_sipush (v := 150) hX dX6_hold_34 (by decide) ?_
        refine r_iload_n hX dX6_hold_37 1 rfl rfl ?_
        refine r_iadd hX dX6_hold_38 ?_
        refine r_iload_n hX dX6_hold_39 2 rfl rfl ?_
        refine r_iconst (v := 1) hX dX6_hold_40 (by decide) ?_
        refine r_iadd hX dX6_hold_41 ?_
        obtain ⟨u9, e10, h⟩ := zbind_elim h
        refine r_iast hX dX6_hold_42 rfl e10 ?_
        refine r_iconst (v := 1) hX dX6_hold_43 (by decide) ?_
        obtain ⟨rfl, rfl⟩ := zinj2 (Option.some.inj h)
        exact r_iret hX hR dX6_hold_44
      · have h := (if_pos c8).symm.trans h
        refine r_aload_n hX dX6_hold_23 0 rfl rfl ?_
        refine r_ldc (v := (-1000001)) hX dX6_hold_24 (zT_in 1041 (by decide +kernel) rfl) ?_
        obtain ⟨x11, u12, e13, h⟩ := zbind2_elim h
        refine r_callV (As := [.int (-1000001)]) (rest := []) (st1 := [.int x11]) hX dX6_hold_26 lv_RX6_83 (c_X6_finding (-1000001)  u _ _ e13) (by decide) rfl rfl (zRecv.of (q := 39) (ci := 6) rfl rfl) rfl (Nat.le_of_ble_eq_true rfl) rfl ?_
        obtain ⟨rfl, rfl⟩ := zinj2 (Option.some.inj h)
        exact r_iret hX hR dX6_hold_29
theorem dX6_above_0 : decode cX6_above 0 = .ok (.iload_n 0, 1) := by decide +kernel
theorem dX6_above_1 : decode cX6_above 1 = .ok (.ifCond .ne 7, 3) := by decide +kernel
theorem dX6_above_4 : decode cX6_above 4 = .ok (.iconst (-1), 1) := by decide +kernel
theorem dX6_above_5 : decode cX6_above 5 = .ok (.goto 23, 3) := by decide +kernel
theorem dX6_above_8 : decode cX6_above 8 = .ok (.iload_n 0, 1) := by decide +kernel
theorem dX6_above_9 : decode cX6_above 9 = .ok (.iconst 4, 1) := by decide +kernel
theorem dX6_above_10 : decode cX6_above 10 = .ok (.if_icmp .ne 7, 3) := by decide +kernel
theorem dX6_above_13 : decode cX6_above 13 = .ok (.iconst 1, 1) := by decide +kernel
theorem dX6_above_14 : decode cX6_above 14 = .ok (.goto 14, 3) := by decide +kernel
theorem dX6_above_17 : decode cX6_above 17 = .ok (.iload_n 0, 1) := by decide +kernel
theorem dX6_above_18 : decode cX6_above 18 = .ok (.bipush 6, 2) := by decide +kernel
theorem dX6_above_20 : decode cX6_above 20 = .ok (.if_icmp .ne 7, 3) := by decide +kernel
theorem dX6_above_23 : decode cX6_above 23 = .ok (.iconst 2, 1) := by decide +kernel
theorem dX6_above_24 : decode cX6_above 24 = .ok (.goto 4, 3) := by decide +kernel
theorem dX6_above_27 : decode cX6_above 27 = .ok (.iconst 0, 1) := by decide +kernel
theorem dX6_above_28 : decode cX6_above 28 = .ok (.ireturn, 1) := by decide +kernel
def m_X6_above (a1 : Int32) : Int32 :=
  (if a1 = 0 then
(-1)
else
(if a1 = 4 then
1
else
(if a1 = 6 then
2
else
0)))
set_option maxHeartbeats 4000000 in
set_option maxRecDepth 100000 in
theorem c_X6_above (a1 : Int32)   (u : zM) (r : Int32) (h : m_X6_above a1 = r) : zCt 1 yX6_above cX6_above 1 (some .int) (fun E => [.int a1]) u (fun _ => some (.int r)) u := by
  refine zCt.of (by decide +kernel) (fun E => Nat.le_of_ble_eq_true rfl) (fun X hX hR => ?_)
  have hX : zGood X RX6 cX6_above 1 1 := hX
  show zG X u 0 [(0, .int a1)] []
  unfold m_X6_above at h
  refine r_iload_n hX dX6_above_0 0 rfl rfl ?_
  refine r_if_ne (tgt := 8) hX dX6_above_1 (by decide) (fun c1 => ?_) (fun c1 => ?_)
  · have h := (if_neg c1).symm.trans h
    refine r_iload_n hX dX6_above_8 0 rfl rfl ?_
    refine r_iconst (v := 4) hX dX6_above_9 (by decide) ?_
    refine r_icmp_ne (tgt := 17) hX dX6_above_10 (by decide) (fun c2 => ?_) (fun c2 => ?_)
    · have h := (if_neg c2).symm.trans h
      refine r_iload_n hX dX6_above_17 0 rfl rfl ?_
      refine r_bipush (v := 6) hX dX6_above_18 (by decide) ?_
      refine r_icmp_ne (tgt := 27) hX dX6_above_20 (by decide) (fun c3 => ?_) (fun c3 => ?_)
      · have h := (if_neg c3).symm.trans h
        refine r_iconst (v := 0) hX dX6_above_27 (by decide) ?_
        obtain rfl := h
        exact r_iret hX hR dX6_above_28
      · have h := (if_pos c3).symm.trans h
        refine r_iconst (v := 2) hX dX6_above_23 (by decide) ?_
        refine r_goto (tgt := 28) hX dX6_above_24 (by decide) ?_
        obtain rfl := h
        exact r_iret hX hR dX6_above_28
    · have h := (if_pos c2).symm.trans h
      refine r_iconst (v := 1) hX dX6_above_13 (by decide) ?_
      refine r_goto (tgt := 28) hX dX6_above_14 (by decide) ?_
      obtain rfl := h
      exact r_iret hX hR dX6_above_28
  · have h := (if_pos c1).symm.trans h
    refine r_iconst (v := (-1)) hX dX6_above_4 (by decide) ?_
    refine r_goto (tgt := 28) hX dX6_above_5 (by decide) ?_
    obtain rfl := h
    exact r_iret hX hR dX6_above_28
theorem dX6_as_0 : decode cX6_as 0 = .ok (.iload_n 1, 1) := by decide +kernel
theorem dX6_as_1 : decode cX6_as 1 = .ok (.iconst 0, 1) := by decide +kernel
theorem dX6_as_2 : decode cX6_as 2 = .ok (.bipush 9, 2) := by decide +kernel
theorem dX6_as_4 : decode cX6_as 4 = .ok (.invokestatic 79, 3) := by decide +kernel
theorem dX6_as_7 : decode cX6_as 7 = .ok (.ifCond .eq 13, 3) := by decide +kernel
theorem dX6_as_10 : decode cX6_as 10 = .ok (.iload_n 2, 1) := by decide +kernel
theorem dX6_as_11 : decode cX6_as 11 = .ok (.iconst 0, 1) := by decide +kernel
theorem dX6_as_12 : decode cX6_as 12 = .ok (.bipush 6, 2) := by decide +kernel
theorem dX6_as_14 : decode cX6_as 14 = .ok (.invokestatic 79, 3) := by decide +kernel
theorem dX6_as_17 : decode cX6_as 17 = .ok (.ifCond .ne 10, 3) := by decide +kernel
theorem dX6_as_20 : decode cX6_as 20 = .ok (.aload_n 0, 1) := by decide +kernel
theorem dX6_as_21 : decode cX6_as 21 = .ok (.ldc 78, 2) := by decide +kernel
theorem dX6_as_23 : decode cX6_as 23 = .ok (.invokevirtual 83, 3) := by decide +kernel
theorem dX6_as_26 : decode cX6_as 26 = .ok (.ireturn, 1) := by decide +kernel
theorem dX6_as_27 : decode cX6_as 27 = .ok (.aload_n 0, 1) := by decide +kernel
theorem dX6_as_28 : decode cX6_as 28 = .ok (.getfield 9, 3) := by decide +kernel
theorem dX6_as_31 : decode cX6_as 31 = .ok (.sipush 150, 3) := by decide +kernel
theorem dX6_as_34 : decode cX6_as 34 = .ok (.iload_n 1, 1) := by decide +kernel
theorem dX6_as_35 : decode cX6_as 35 = .ok (.iadd, 1) := by decide +kernel
theorem dX6_as_36 : decode cX6_as 36 = .ok (.iaload, 1) := by decide +kernel
theorem dX6_as_37 : decode cX6_as 37 = .ok (.iconst 1, 1) := by decide +kernel
theorem dX6_as_38 : decode cX6_as 38 = .ok (.isub, 1) := by decide +kernel
theorem dX6_as_39 : decode cX6_as 39 = .ok (.istore_n 3, 1) := by decide +kernel
theorem dX6_as_40 : decode cX6_as 40 = .ok (.iload_n 3, 1) := by decide +kernel
theorem dX6_as_41 : decode cX6_as 41 = .ok (.ifCond .ge 11, 3) := by decide +kernel
theorem dX6_as_44 : decode cX6_as 44 = .ok (.aload_n 0, 1) := by decide +kernel
theorem dX6_as_45 : decode cX6_as 45 = .ok (.ldc_w 288, 3) := by decide +kernel
theorem dX6_as_48 : decode cX6_as 48 = .ok (.invokevirtual 83, 3) := by decide +kernel
theorem dX6_as_51 : decode cX6_as 51 = .ok (.ireturn, 1) := by decide +kernel
theorem dX6_as_52 : decode cX6_as 52 = .ok (.aload_n 0, 1) := by decide +kernel
theorem dX6_as_53 : decode cX6_as 53 = .ok (.iload_n 3, 1) := by decide +kernel
theorem dX6_as_54 : decode cX6_as 54 = .ok (.iconst 0, 1) := by decide +kernel
theorem dX6_as_55 : decode cX6_as 55 = .ok (.invokevirtual 92, 3) := by decide +kernel
theorem dX6_as_58 : decode cX6_as 58 = .ok (.istore 4, 2) := by decide +kernel
theorem dX6_as_60 : decode cX6_as 60 = .ok (.iload 4, 2) := by decide +kernel
theorem dX6_as_62 : decode cX6_as 62 = .ok (.ifCond .lt 19, 3) := by decide +kernel
theorem dX6_as_65 : decode cX6_as 65 = .ok (.iload 4, 2) := by decide +kernel
theorem dX6_as_67 : decode cX6_as 67 = .ok (.iload_n 2, 1) := by decide +kernel
theorem dX6_as_68 : decode cX6_as 68 = .ok (.if_icmp .eq 13, 3) := by decide +kernel
theorem dX6_as_71 : decode cX6_as 71 = .ok (.iload 4, 2) := by decide +kernel
theorem dX6_as_73 : decode cX6_as 73 = .ok (.invokestatic 289, 3) := by decide +kernel
theorem dX6_as_76 : decode cX6_as 76 = .ok (.istore 4, 2) := by decide +kernel
theorem dX6_as_78 : decode cX6_as 78 = .ok (.goto (-18), 3) := by decide +kernel
theorem dX6_as_81 : decode cX6_as 81 = .ok (.iload 4, 2) := by decide +kernel
theorem dX6_as_83 : decode cX6_as 83 = .ok (.ifCond .ge 13, 3) := by decide +kernel
theorem dX6_as_86 : decode cX6_as 86 = .ok (.aload_n 0, 1) := by decide +kernel
theorem dX6_as_87 : decode cX6_as 87 = .ok (.ldc_w 292, 3) := by decide +kernel
theorem dX6_as_90 : decode cX6_as 90 = .ok (.invokevirtual 83, 3) := by decide +kernel
theorem dX6_as_93 : decode cX6_as 93 = .ok (.goto 4, 3) := by decide +kernel
theorem dX6_as_96 : decode cX6_as 96 = .ok (.iload_n 3, 1) := by decide +kernel
theorem dX6_as_97 : decode cX6_as 97 = .ok (.ireturn, 1) := by decide +kernel
def m_X6_as_b0 (a2 : Int32) (x11 : Int32) : Option ((Int32) ⊕ (Int32)) :=
  (if x11 < 0 then
some (.inr x11)
else
(if x11 = a2 then
some (.inr x11)
else
some (.inl (m_X6_above x11))))
def m_X6_as (a1 : Int32) (a2 : Int32) (u : zM) : Option (Int32 × zM) :=
  (if (m_X6_within a1 0 9) = 0 then
zbind2 (m_X6_finding (-1000001) u) (fun x2 u3 => some (x2, u3))
else
(if (m_X6_within a2 0 6) = 0 then
zbind2 (m_X6_finding (-1000001) u) (fun x23 u24 => some (x23, u24))
else
zbind (zld u 40 160 (150 + a1)) (fun x6 => (if 0 ≤ (x6 - 1) then
zbind (m_X6_bodyIs (x6 - 1) 0 u) (fun x9 => zbind (zit zF (fun s : Int32 => m_X6_as_b0 a2 s) x9) (fun x12 =>
(if 0 ≤ x12 then
some ((x6 - 1), u)
else
zbind2 (m_X6_finding (-1000003) u) (fun x17 u18 => some (x17, u18)))))
else
zbind2 (m_X6_finding (-1000006) u) (fun x20 u21 => some (x20, u21))))))
set_option maxHeartbeats 4000000 in
set_option maxRecDepth 100000 in
theorem c_X6_as (a1 : Int32) (a2 : Int32)   (u : zM) (r : Int32) (u' : zM) (h : m_X6_as a1 a2 u = some (r, u')) : zCt 2 yX6_as cX6_as 5 (some .int) (fun E => [.ref (zad E 39), .int a1, .int a2]) u (fun _ => some (.int r)) u' := by
  refine zCt.of (by decide +kernel) (fun E => Nat.le_of_ble_eq_true rfl) (fun X hX hR => ?_)
  have hX : zGood X RX6 cX6_as 5 2 := hX
  show zG X u 0 [(0, .ref (zad X.1 39)), (1, .int a1), (2, .int a2)] []
  unfold m_X6_as at h
  refine r_iload_n hX dX6_as_0 1 rfl rfl ?_
  refine r_iconst (v := 0) hX dX6_as_1 (by decide) ?_
  refine r_bipush (v := 9) hX dX6_as_2 (by decide) ?_
  refine r_callS (As := [.int a1, .int 0, .int 9]) (rest := []) (st1 := [.int (m_X6_within a1 0 9)]) hX dX6_as_4 ls_RX6_79 (c_X6_within a1 0 9  u _ rfl) (by decide) rfl rfl rfl (Nat.le_of_ble_eq_true rfl) rfl ?_
  refine r_if_eq (tgt := 20) hX dX6_as_7 (by decide) (fun c1 => ?_) (fun c1 => ?_)
  · have h := (if_pos c1).symm.trans h
    refine r_aload_n hX dX6_as_20 0 rfl rfl ?_
    refine r_ldc (v := (-1000001)) hX dX6_as_21 (zT_in 1041 (by decide +kernel) rfl) ?_
    obtain ⟨x2, u3, e4, h⟩ := zbind2_elim h
    refine r_callV (As := [.int (-1000001)]) (rest := []) (st1 := [.int x2]) hX dX6_as_23 lv_RX6_83 (c_X6_finding (-1000001)  u _ _ e4) (by decide) rfl rfl (zRecv.of (q := 39) (ci := 6) rfl rfl) rfl (Nat.le_of_ble_eq_true rfl) rfl ?_
    obtain ⟨rfl, rfl⟩ := zinj2 (Option.some.inj h)
    exact r_iret hX hR dX6_as_26
  · have h := (if_neg c1).symm.trans h
    refine r_iload_n hX dX6_as_10 2 rfl rfl ?_
    refine r_iconst (v := 0) hX dX6_as_11 (by decide) ?_
    refine r_bipush (v := 6) hX dX6_as_12 (by decide) ?_
    refine r_callS (As := [.int a2, .int 0, .int 6]) (rest := []) (st1 := [.int (m_X6_within a2 0 6)]) hX dX6_as_14 ls_RX6_79 (c_X6_within a2 0 6  u _ rfl) (by decide) rfl rfl rfl (Nat.le_of_ble_eq_true rfl) rfl ?_
    refine r_if_ne (tgt := 27) hX dX6_as_17 (by decide) (fun c5 => ?_) (fun c5 => ?_)
    · have h := (if_neg c5).symm.trans h
      refine r_aload_n hX dX6_as_27 0 rfl rfl ?_
      refine r_getR hX dX6_as_28 f_RX6_9 zr_39_0 ?_
      refine r_sipush (v := 150) hX dX6_as_31 (by decide) ?_
      refine r_iload_n hX dX6_as_34 1 rfl rfl ?_
      refine r_iadd hX dX6_as_35 ?_
      obtain ⟨x6, e7, h⟩ := zbind_elim h
      refine r_iald hX dX6_as_36 rfl e7 ?_
      refine r_iconst (v := 1) hX dX6_as_37 (by decide) ?_
      refine r_isub hX dX6_as_38 ?_
      refine r_istore_n (y := (x6 - 1)) (L' := [(3, .int (x6 - 1)), (0, .ref (zad X.1 39)), (1, .int a1), (2, .int a2)]) hX dX6_as_39 rfl (by decide) rfl rfl ?_
      refine r_iload_n hX dX6_as_40 0 rfl rfl ?_
      refine r_if_ge (tgt := 52) hX dX6_as_41 (by decide) (fun c8 => ?_) (fun c8 => ?_)
      · have h := (if_pos c8).symm.trans h
        refine r_aload_n hX dX6_as_52 1 rfl rfl ?_
        refine r_iload_n hX dX6_as_53 0 rfl rfl ?_
        refine r_iconst (v := 0) hX dX6_as_54 (by decide) ?_
        obtain ⟨x9, e10, h⟩ := zbind_elim h
        refine r_callV (As := [.int (x6 - 1), .int 0]) (rest := []) (st1 := [.int x9]) hX dX6_as_55 lv_RX6_92 (c_X6_bodyIs (x6 - 1) 0  u _ e10) (by decide) rfl rfl (zRecv.of (q := 39) (ci := 6) rfl rfl) rfl (Nat.le_of_ble_eq_true rfl) rfl ?_
        refine r_istore (y := x9) (L' := [(4, .int x9), (3, .int (x6 - 1)), (0, .ref (zad X.1 39)), (1, .int a1), (2, .int a2)]) hX dX6_as_58 (by decide) rfl rfl ?_
        refine r_sub [2, 4, 1, 0] (L' := [(0, .ref (zad X.1 39)), (2, .int a2), (3, .int (x6 - 1)), (4, .int x9)]) rfl ?_
        obtain ⟨x12, h13, h⟩ := zbind_elim h
        have Jh13 : zG X u 81 [(0, .ref (zad X.1 39)), (3, .int (x6 - 1)), (4, .int x12)] [] := by
            refine r_iload hX dX6_as_81 2 rfl ?_
            refine r_if_ge (tgt := 96) hX dX6_as_83 (by decide) (fun c16 => ?_) (fun c16 => ?_)
            · have h := (if_pos c16).symm.trans h
              refine r_iload_n hX dX6_as_96 1 rfl rfl ?_
              obtain ⟨rfl, rfl⟩ := zinj2 (Option.some.inj h)
              exact r_iret hX hR dX6_as_97
            · have h := (if_neg c16).symm.trans h
              refine r_aload_n hX dX6_as_86 0 rfl rfl ?_
              refine r_ldcw (v := (-1000003)) hX dX6_as_87 (zT_in 1371 (by decide +kernel) rfl) ?_
              obtain ⟨x17, u18, e19, h⟩ := zbind2_elim h
              refine r_callV (As := [.int (-1000003)]) (rest := []) (st1 := [.int x17]) hX dX6_as_90 lv_RX6_83 (c_X6_finding (-1000003)  u _ _ e19) (by decide) rfl rfl (zRecv.of (q := 39) (ci := 6) rfl rfl) rfl (Nat.le_of_ble_eq_true rfl) rfl ?_
              refine r_goto (tgt := 97) hX dX6_as_93 (by decide) ?_
              obtain ⟨rfl, rfl⟩ := zinj2 (Option.some.inj h)
              exact r_iret hX hR dX6_as_97
        clear h
        refine zit_walk (P := fun s0 : Int32 => zG X u 60 [(0, .ref (zad X.1 39)), (2, .int a2), (3, .int (x6 - 1)), (4, .int s0)] []) ?_ zF _ h13
        clear h13
        intro s0 y0 h0b hin0 hout0
        obtain ⟨x11, es0⟩ : ∃ z, z = s0 := ⟨_, rfl⟩
        subst es0
        have h0b : m_X6_as_b0 a2 x11 = some y0 := h0b
        unfold m_X6_as_b0 at h0b
        show zG X u 60 [(0, .ref (zad X.1 39)), (2, .int a2), (3, .int (x6 - 1)), (4, .int x11)] []
        refine r_iload hX dX6_as_60 3 rfl ?_
        refine r_if_lt (tgt := 81) hX dX6_as_62 (by decide) (fun c14 => ?_) (fun c14 => ?_)
        · have h0b := (if_pos c14).symm.trans h0b
          refine r_sub [0, 2, 3] (L' := [(0, .ref (zad X.1 39)), (3, .int (x6 - 1)), (4, .int x11)]) rfl ?_
          have h0b := hout0 _ (Option.some.inj h0b).symm
          obtain rfl := h0b
          exact Jh13
        · have h0b := (if_neg c14).symm.trans h0b
          refine r_iload hX dX6_as_65 3 rfl ?_
          refine r_iload_n hX dX6_as_67 1 rfl rfl ?_
          refine r_icmp_eq (tgt := 81) hX dX6_as_68 (by decide) (fun c15 => ?_) (fun c15 => ?_)
          · have h0b := (if_pos c15).symm.trans h0b
            refine r_sub [0, 2, 3] (L' := [(0, .ref (zad X.1 39)), (3, .int (x6 - 1)), (4, .int x11)]) rfl ?_
            have h0b := hout0 _ (Option.some.inj h0b).symm
            obtain rfl := h0b
            exact Jh13
          · have h0b := (if_neg c15).symm.trans h0b
            refine r_iload hX dX6_as_71 3 rfl ?_
            refine r_callS (As := [.int x11]) (rest := []) (st1 := [.int (m_X6_above x11)]) hX dX6_as_73 ls_RX6_289 (c_X6_above x11  u _ rfl) (by decide) rfl rfl rfl (Nat.le_of_ble_eq_true rfl) rfl ?_
            refine r_istore (y := (m_X6_above x11)) (L' := [(4, .int (m_X6_above x11)), (0, .ref (zad X.1 39)), (2, .int a2), (3, .int (x6 - 1))]) hX dX6_as_76 (by decide) rfl rfl ?_
            refine r_goto (tgt := 60) hX dX6_as_78 (by decide) ?_
            refine r_sub [1, 2, 3, 0] (L' := [(0, .ref (zad X.1 39)), (2, .int a2), (3, .int (x6 - 1)), (4, .int (m_X6_above x11))]) rfl ?_
            exact hin0 _ (Option.some.inj h0b).symm
      · have h := (if_neg c8).symm.trans h
        refine r_aload_n hX dX6_as_44 1 rfl rfl ?_
        refine r_ldcw (v := (-1000006)) hX dX6_as_45 (zT_in 1367 (by decide +kernel) rfl) ?_
        obtain ⟨x20, u21, e22, h⟩ := zbind2_elim h
        refine r_callV (As := [.int (-1000006)]) (rest := []) (st1 := [.int x20]) hX dX6_as_48 lv_RX6_83 (c_X6_finding (-1000006)  u _ _ e22) (by decide) rfl rfl (zRecv.of (q := 39) (ci := 6) rfl rfl) rfl (Nat.le_of_ble_eq_true rfl) rfl ?_
        obtain ⟨rfl, rfl⟩ := zinj2 (Option.some.inj h)
        exact r_iret hX hR dX6_as_51
    · have h := (if_pos c5).symm.trans h
      refine r_aload_n hX dX6_as_20 0 rfl rfl ?_
      refine r_ldc (v := (-1000001)) hX dX6_as_21 (zT_in 1041 (by decide +kernel) rfl) ?_
      obtain ⟨x23, u24, e25, h⟩ := zbind2_elim h
      refine r_callV (As := [.int (-1000001)]) (rest := []) (st1 := [.int x23]) hX dX6_as_23 lv_RX6_83 (c_X6_finding (-1000001)  u _ _ e25) (by decide) rfl rfl (zRecv.of (q := 39) (ci := 6) rfl rfl) rfl (Nat.le_of_ble_eq_true rfl) rfl ?_
      obtain ⟨rfl, rfl⟩ := zinj2 (Option.some.inj h)
      exact r_iret hX hR dX6_as_26
theorem dX6_isSheet_0 : decode cX6_isSheet 0 = .ok (.iload_n 0, 1) := by decide +kernel
theorem dX6_isSheet_1 : decode cX6_isSheet 1 = .ok (.iconst 0, 1) := by decide +kernel
theorem dX6_isSheet_2 : decode cX6_isSheet 2 = .ok (.iconst 3, 1) := by decide +kernel
theorem dX6_isSheet_3 : decode cX6_isSheet 3 = .ok (.invokestatic 79, 3) := by decide +kernel
theorem dX6_isSheet_6 : decode cX6_isSheet 6 = .ok (.ireturn, 1) := by decide +kernel
def m_X6_isSheet (a1 : Int32) : Int32 :=
  (zb (m_X6_within a1 0 3))
set_option maxHeartbeats 4000000 in
set_option maxRecDepth 100000 in
theorem c_X6_isSheet (a1 : Int32)   (u : zM) (r : Int32) (h : m_X6_isSheet a1 = r) : zCt 2 yX6_isSheet cX6_isSheet 1 (some .boolean) (fun E => [.int a1]) u (fun _ => some (.int r)) u := by
  refine zCt.of (by decide +kernel) (fun E => Nat.le_of_ble_eq_true rfl) (fun X hX hR => ?_)
  have hX : zGood X RX6 cX6_isSheet 1 2 := hX
  show zG X u 0 [(0, .int a1)] []
  unfold m_X6_isSheet at h
  refine r_iload_n hX dX6_isSheet_0 0 rfl rfl ?_
  refine r_iconst (v := 0) hX dX6_isSheet_1 (by decide) ?_
  refine r_iconst (v := 3) hX dX6_isSheet_2 (by decide) ?_
  refine r_callS (As := [.int a1, .int 0, .int 3]) (rest := []) (st1 := [.int (m_X6_within a1 0 3)]) hX dX6_isSheet_3 ls_RX6_79 (c_X6_within a1 0 3  u _ rfl) (by decide) rfl rfl rfl (Nat.le_of_ble_eq_true rfl) rfl ?_
  obtain rfl := h
  exact r_zret hX hR dX6_isSheet_6
