/-! MODELS AND CONTRACTS, by program (wip/whole/gen_all.py): X6_readBody, X6_which_2, X6_readItem -/
theorem dX6_readBody_0 : decode cX6_readBody 0 = .ok (.aload_n 0, 1) := by decide +kernel
theorem dX6_readBody_1 : decode cX6_readBody 1 = .ok (.aload_n 0, 1) := by decide +kernel
theorem dX6_readBody_2 : decode cX6_readBody 2 = .ok (.getfield 9, 3) := by decide +kernel
theorem dX6_readBody_5 : decode cX6_readBody 5 = .ok (.iconst 0, 1) := by decide +kernel
theorem dX6_readBody_6 : decode cX6_readBody 6 = .ok (.iaload, 1) := by decide +kernel
theorem dX6_readBody_7 : decode cX6_readBody 7 = .ok (.aload_n 0, 1) := by decide +kernel
theorem dX6_readBody_8 : decode cX6_readBody 8 = .ok (.getfield 272, 3) := by decide +kernel
theorem dX6_readBody_11 : decode cX6_readBody 11 = .ok (.iadd, 1) := by decide +kernel
theorem dX6_readBody_12 : decode cX6_readBody 12 = .ok (.bipush 12, 2) := by decide +kernel
theorem dX6_readBody_14 : decode cX6_readBody 14 = .ok (.if_icmp .ge 7, 3) := by decide +kernel
theorem dX6_readBody_17 : decode cX6_readBody 17 = .ok (.iconst 1, 1) := by decide +kernel
theorem dX6_readBody_18 : decode cX6_readBody 18 = .ok (.goto 4, 3) := by decide +kernel
theorem dX6_readBody_21 : decode cX6_readBody 21 = .ok (.iconst 0, 1) := by decide +kernel
theorem dX6_readBody_22 : decode cX6_readBody 22 = .ok (.invokevirtual 245, 3) := by decide +kernel
theorem dX6_readBody_25 : decode cX6_readBody 25 = .ok (.aload_n 0, 1) := by decide +kernel
theorem dX6_readBody_26 : decode cX6_readBody 26 = .ok (.dup, 1) := by decide +kernel
theorem dX6_readBody_27 : decode cX6_readBody 27 = .ok (.getfield 272, 3) := by decide +kernel
theorem dX6_readBody_30 : decode cX6_readBody 30 = .ok (.iconst 1, 1) := by decide +kernel
theorem dX6_readBody_31 : decode cX6_readBody 31 = .ok (.iadd, 1) := by decide +kernel
theorem dX6_readBody_32 : decode cX6_readBody 32 = .ok (.putfield 272, 3) := by decide +kernel
theorem dX6_readBody_35 : decode cX6_readBody 35 = .ok (.iconst 0, 1) := by decide +kernel
theorem dX6_readBody_36 : decode cX6_readBody 36 = .ok (.istore_n 2, 1) := by decide +kernel
theorem dX6_readBody_37 : decode cX6_readBody 37 = .ok (.iload_n 2, 1) := by decide +kernel
theorem dX6_readBody_38 : decode cX6_readBody 38 = .ok (.iconst 3, 1) := by decide +kernel
theorem dX6_readBody_39 : decode cX6_readBody 39 = .ok (.if_icmp .ge 28, 3) := by decide +kernel
theorem dX6_readBody_42 : decode cX6_readBody 42 = .ok (.aload_n 0, 1) := by decide +kernel
theorem dX6_readBody_43 : decode cX6_readBody 43 = .ok (.getfield 63, 3) := by decide +kernel
theorem dX6_readBody_46 : decode cX6_readBody 46 = .ok (.iload_n 1, 1) := by decide +kernel
theorem dX6_readBody_47 : decode cX6_readBody 47 = .ok (.iconst 1, 1) := by decide +kernel
theorem dX6_readBody_48 : decode cX6_readBody 48 = .ok (.iadd, 1) := by decide +kernel
theorem dX6_readBody_49 : decode cX6_readBody 49 = .ok (.iload_n 2, 1) := by decide +kernel
theorem dX6_readBody_50 : decode cX6_readBody 50 = .ok (.iadd, 1) := by decide +kernel
theorem dX6_readBody_51 : decode cX6_readBody 51 = .ok (.aload_n 0, 1) := by decide +kernel
theorem dX6_readBody_52 : decode cX6_readBody 52 = .ok (.bipush 50, 2) := by decide +kernel
theorem dX6_readBody_54 : decode cX6_readBody 54 = .ok (.sipush 250, 3) := by decide +kernel
theorem dX6_readBody_57 : decode cX6_readBody 57 = .ok (.invokevirtual 267, 3) := by decide +kernel
theorem dX6_readBody_60 : decode cX6_readBody 60 = .ok (.iastore, 1) := by decide +kernel
theorem dX6_readBody_61 : decode cX6_readBody 61 = .ok (.iinc 2 1, 3) := by decide +kernel
theorem dX6_readBody_64 : decode cX6_readBody 64 = .ok (.goto (-27), 3) := by decide +kernel
theorem dX6_readBody_67 : decode cX6_readBody 67 = .ok (.aload_n 0, 1) := by decide +kernel
theorem dX6_readBody_68 : decode cX6_readBody 68 = .ok (.getfield 63, 3) := by decide +kernel
theorem dX6_readBody_71 : decode cX6_readBody 71 = .ok (.iload_n 1, 1) := by decide +kernel
theorem dX6_readBody_72 : decode cX6_readBody 72 = .ok (.iconst 4, 1) := by decide +kernel
theorem dX6_readBody_73 : decode cX6_readBody 73 = .ok (.iadd, 1) := by decide +kernel
theorem dX6_readBody_74 : decode cX6_readBody 74 = .ok (.iconst 0, 1) := by decide +kernel
theorem dX6_readBody_75 : decode cX6_readBody 75 = .ok (.iastore, 1) := by decide +kernel
theorem dX6_readBody_76 : decode cX6_readBody 76 = .ok (.aload_n 0, 1) := by decide +kernel
theorem dX6_readBody_77 : decode cX6_readBody 77 = .ok (.getfield 63, 3) := by decide +kernel
theorem dX6_readBody_80 : decode cX6_readBody 80 = .ok (.iload_n 1, 1) := by decide +kernel
theorem dX6_readBody_81 : decode cX6_readBody 81 = .ok (.iconst 5, 1) := by decide +kernel
theorem dX6_readBody_82 : decode cX6_readBody 82 = .ok (.iadd, 1) := by decide +kernel
theorem dX6_readBody_83 : decode cX6_readBody 83 = .ok (.iconst 0, 1) := by decide +kernel
theorem dX6_readBody_84 : decode cX6_readBody 84 = .ok (.iastore, 1) := by decide +kernel
theorem dX6_readBody_85 : decode cX6_readBody 85 = .ok (.aload_n 0, 1) := by decide +kernel
theorem dX6_readBody_86 : decode cX6_readBody 86 = .ok (.getfield 238, 3) := by decide +kernel
theorem dX6_readBody_89 : decode cX6_readBody 89 = .ok (.ifCond .ne 60, 3) := by decide +kernel
theorem dX6_readBody_92 : decode cX6_readBody 92 = .ok (.aload_n 0, 1) := by decide +kernel
theorem dX6_readBody_93 : decode cX6_readBody 93 = .ok (.ldc_w 275, 3) := by decide +kernel
theorem dX6_readBody_96 : decode cX6_readBody 96 = .ok (.invokevirtual 249, 3) := by decide +kernel
theorem dX6_readBody_99 : decode cX6_readBody 99 = .ok (.ifCond .eq 50, 3) := by decide +kernel
theorem dX6_readBody_102 : decode cX6_readBody 102 = .ok (.aload_n 0, 1) := by decide +kernel
theorem dX6_readBody_103 : decode cX6_readBody 103 = .ok (.iconst 1, 1) := by decide +kernel
theorem dX6_readBody_104 : decode cX6_readBody 104 = .ok (.invokevirtual 245, 3) := by decide +kernel
theorem dX6_readBody_107 : decode cX6_readBody 107 = .ok (.aload_n 0, 1) := by decide +kernel
theorem dX6_readBody_108 : decode cX6_readBody 108 = .ok (.bipush 45, 2) := by decide +kernel
theorem dX6_readBody_110 : decode cX6_readBody 110 = .ok (.invokevirtual 277, 3) := by decide +kernel
theorem dX6_readBody_113 : decode cX6_readBody 113 = .ok (.istore_n 2, 1) := by decide +kernel
theorem dX6_readBody_114 : decode cX6_readBody 114 = .ok (.iload_n 2, 1) := by decide +kernel
theorem dX6_readBody_115 : decode cX6_readBody 115 = .ok (.ifCond .eq 8, 3) := by decide +kernel
theorem dX6_readBody_118 : decode cX6_readBody 118 = .ok (.aload_n 0, 1) := by decide +kernel
theorem dX6_readBody_119 : decode cX6_readBody 119 = .ok (.iconst 1, 1) := by decide +kernel
theorem dX6_readBody_120 : decode cX6_readBody 120 = .ok (.invokevirtual 245, 3) := by decide +kernel
theorem dX6_readBody_123 : decode cX6_readBody 123 = .ok (.aload_n 0, 1) := by decide +kernel
theorem dX6_readBody_124 : decode cX6_readBody 124 = .ok (.iconst 0, 1) := by decide +kernel
theorem dX6_readBody_125 : decode cX6_readBody 125 = .ok (.bipush 20, 2) := by decide +kernel
theorem dX6_readBody_127 : decode cX6_readBody 127 = .ok (.invokevirtual 267, 3) := by decide +kernel
theorem dX6_readBody_130 : decode cX6_readBody 130 = .ok (.istore_n 3, 1) := by decide +kernel
theorem dX6_readBody_131 : decode cX6_readBody 131 = .ok (.aload_n 0, 1) := by decide +kernel
theorem dX6_readBody_132 : decode cX6_readBody 132 = .ok (.getfield 63, 3) := by decide +kernel
theorem dX6_readBody_135 : decode cX6_readBody 135 = .ok (.iload_n 1, 1) := by decide +kernel
theorem dX6_readBody_136 : decode cX6_readBody 136 = .ok (.iconst 4, 1) := by decide +kernel
theorem dX6_readBody_137 : decode cX6_readBody 137 = .ok (.iadd, 1) := by decide +kernel
theorem dX6_readBody_138 : decode cX6_readBody 138 = .ok (.iload_n 2, 1) := by decide +kernel
theorem dX6_readBody_139 : decode cX6_readBody 139 = .ok (.ifCond .eq 8, 3) := by decide +kernel
theorem dX6_readBody_142 : decode cX6_readBody 142 = .ok (.iload_n 3, 1) := by decide +kernel
theorem dX6_readBody_143 : decode cX6_readBody 143 = .ok (.ineg, 1) := by decide +kernel
theorem dX6_readBody_144 : decode cX6_readBody 144 = .ok (.goto 4, 3) := by decide +kernel
theorem dX6_readBody_147 : decode cX6_readBody 147 = .ok (.iload_n 3, 1) := by decide +kernel
theorem dX6_readBody_148 : decode cX6_readBody 148 = .ok (.iastore, 1) := by decide +kernel
theorem dX6_readBody_149 : decode cX6_readBody 149 = .ok (.aload_n 0, 1) := by decide +kernel
theorem dX6_readBody_150 : decode cX6_readBody 150 = .ok (.getfield 238, 3) := by decide +kernel
theorem dX6_readBody_153 : decode cX6_readBody 153 = .ok (.ifCond .ne 33, 3) := by decide +kernel
theorem dX6_readBody_156 : decode cX6_readBody 156 = .ok (.aload_n 0, 1) := by decide +kernel
theorem dX6_readBody_157 : decode cX6_readBody 157 = .ok (.ldc_w 280, 3) := by decide +kernel
theorem dX6_readBody_160 : decode cX6_readBody 160 = .ok (.invokevirtual 249, 3) := by decide +kernel
theorem dX6_readBody_163 : decode cX6_readBody 163 = .ok (.ifCond .eq 23, 3) := by decide +kernel
theorem dX6_readBody_166 : decode cX6_readBody 166 = .ok (.aload_n 0, 1) := by decide +kernel
theorem dX6_readBody_167 : decode cX6_readBody 167 = .ok (.iconst 1, 1) := by decide +kernel
theorem dX6_readBody_168 : decode cX6_readBody 168 = .ok (.invokevirtual 245, 3) := by decide +kernel
theorem dX6_readBody_171 : decode cX6_readBody 171 = .ok (.aload_n 0, 1) := by decide +kernel
theorem dX6_readBody_172 : decode cX6_readBody 172 = .ok (.getfield 63, 3) := by decide +kernel
theorem dX6_readBody_175 : decode cX6_readBody 175 = .ok (.iload_n 1, 1) := by decide +kernel
theorem dX6_readBody_176 : decode cX6_readBody 176 = .ok (.iconst 5, 1) := by decide +kernel
theorem dX6_readBody_177 : decode cX6_readBody 177 = .ok (.iadd, 1) := by decide +kernel
theorem dX6_readBody_178 : decode cX6_readBody 178 = .ok (.aload_n 0, 1) := by decide +kernel
theorem dX6_readBody_179 : decode cX6_readBody 179 = .ok (.iconst 0, 1) := by decide +kernel
theorem dX6_readBody_180 : decode cX6_readBody 180 = .ok (.bipush 99, 2) := by decide +kernel
theorem dX6_readBody_182 : decode cX6_readBody 182 = .ok (.invokevirtual 267, 3) := by decide +kernel
theorem dX6_readBody_185 : decode cX6_readBody 185 = .ok (.iastore, 1) := by decide +kernel
theorem dX6_readBody_186 : decode cX6_readBody 186 = .ok (.return_, 1) := by decide +kernel
def m_X6_readBody_b0 (a1 : Int32) (x8 : Int32) (u9 : zM) : Option ((Int32 × zM) ⊕ (zM)) :=
  (if 3 ≤ x8 then
some (.inr u9)
else
zbind2 (m_X6_number 50 250 u9) (fun x13 u14 => zbind (zsv u14 50 720 ((a1 + 1) + x8) x13) (fun u16 => some (.inl ((x8 + 1), u16)))))
def m_X6_readBody (a1 : Int32) (u : zM) : Option (zM) :=
  zlet ((if 12 ≤ ((u 40 0) + (u 39 22)) then
0
else
1) : Int32) (fun x1 =>
zbind (m_X6_must x1 u) (fun u4 => zlet (zst u4 39 22 ((u4 39 22) + 1)) (fun u6 => zbind (zit zF (fun s : Int32 × zM => m_X6_readBody_b0 a1 s.1 s.2) (0, u6)) (fun u10 =>
zbind (zsv u10 50 720 (a1 + 4) 0) (fun u18 => zbind (zsv u18 50 720 (a1 + 5) 0) (fun u20 => zbind ((if (u20 39 17) = 0 then
zbind (m_X6_isWord 13 u20) (fun x25 => (if x25 = 0 then
some u20
else
zbind (m_X6_must 1 u20) (fun u28 => zbind (m_X6_isSign 45 u28) (fun x30 => zbind ((if x30 = 0 then
some u28
else
zbind (m_X6_must 1 u28) (fun u35 => some u35)) : Option (zM)) (fun u32 =>
zbind2 (m_X6_number 0 20 u32) (fun x37 u38 => (if x30 = 0 then
zbind (zsv u38 50 720 (a1 + 4) x37) (fun u41 => some u41)
else
zbind (zsv u38 50 720 (a1 + 4) (-x37)) (fun u43 => some u43))))))))
else
some u20) : Option (zM)) (fun u22 =>
(if (u22 39 17) = 0 then
zbind (m_X6_isWord 14 u22) (fun x46 => (if x46 = 0 then
some u22
else
zbind (m_X6_must 1 u22) (fun u49 => zbind2 (m_X6_number 0 99 u49) (fun x51 u52 => zbind (zsv u52 50 720 (a1 + 5) x51) (fun u54 => some u54)))))
else
some u22))))))))
set_option maxHeartbeats 4000000 in
set_option maxRecDepth 100000 in
theorem c_X6_readBody (a1 : Int32)   (u : zM) (u' : zM) (h : m_X6_readBody a1 u = some (u')) : zCt 6 yX6_readBody cX6_readBody 4 none (fun E => [.ref (zad E 39), .int a1]) u (fun _ => none) u' := by
  refine zCt.of (by decide +kernel) (fun E => Nat.le_of_ble_eq_true rfl) (fun X hX hR => ?_)
  have hX : zGood X RX6 cX6_readBody 4 6 := hX
  show zG X u 0 [(0, .ref (zad X.1 39)), (1, .int a1)] []
  unfold m_X6_readBody at h
  refine r_aload_n hX dX6_readBody_0 0 rfl rfl ?_
  refine r_aload_n hX dX6_readBody_1 0 rfl rfl ?_
  refine r_getR hX dX6_readBody_2 f_RX6_9 zr_39_0 ?_
  refine r_iconst (v := 0) hX dX6_readBody_5 (by decide) ?_
  refine r_ialdC (j := 0) hX dX6_readBody_6 rfl (by decide +kernel) ?_
  refine r_aload_n hX dX6_readBody_7 0 rfl rfl ?_
  refine r_getI hX dX6_readBody_8 f_RX6_272 zi_39_22 ?_
  refine r_iadd hX dX6_readBody_11 ?_
  refine r_bipush (v := 12) hX dX6_readBody_12 (by decide) ?_
  obtain ⟨x1, h2, h⟩ := zlet_elim h
  have Jh2 : zG X u 22 [(0, .ref (zad X.1 39)), (1, .int a1)] [.int x1, .ref (zad X.1 39)] := by
      obtain ⟨u4, e5, h⟩ := zbind_elim h
      refine r_callV (As := [.int x1]) (rest := []) (st1 := []) hX dX6_readBody_22 lv_RX6_245 (c_X6_must x1  u _ e5) (by decide) rfl rfl (zRecv.of (q := 39) (ci := 6) rfl rfl) rfl (Nat.le_of_ble_eq_true rfl) rfl ?_
      refine r_aload_n hX dX6_readBody_25 0 rfl rfl ?_
      refine r_dup hX dX6_readBody_26 rfl ?_
      refine r_getI hX dX6_readBody_27 f_RX6_272 zi_39_22 ?_
      refine r_iconst (v := 1) hX dX6_readBody_30 (by decide) ?_
      refine r_iadd hX dX6_readBody_31 ?_
      obtain ⟨u6, e7, h⟩ := zlet_elim h
      refine r_putI hX dX6_readBody_32 f_RX6_272 p_6_22 zi_39_22 ?_
      rw [e7]
      refine r_iconst (v := 0) hX dX6_readBody_35 (by decide) ?_
      refine r_istore_n (y := 0) (L' := [(2, .int 0), (0, .ref (zad X.1 39)), (1, .int a1)]) hX dX6_readBody_36 rfl (by decide) rfl rfl ?_
      refine r_sub [1, 2, 0] (L' := [(0, .ref (zad X.1 39)), (1, .int a1), (2, .int 0)]) rfl ?_
      obtain ⟨u10, h11, h⟩ := zbind_elim h
      have Jh11 : zG X u10 67 [(0, .ref (zad X.1 39)), (1, .int a1)] [] := by
          refine r_aload_n hX dX6_readBody_67 0 rfl rfl ?_
          refine r_getR hX dX6_readBody_68 f_RX6_63 zr_39_20 ?_
          refine r_iload_n hX dX6_readBody_71 1 rfl rfl ?_
          refine r_iconst (v := 4) hX dX6_readBody_72 (by decide) ?_
          refine r_iadd hX dX6_readBody_73 ?_
          refine r_iconst (v := 0) hX dX6_readBody_74 (by decide) ?_
          obtain ⟨u18, e19, h⟩ := zbind_elim h
          refine r_iast hX dX6_readBody_75 rfl e19 ?_
          refine r_aload_n hX dX6_readBody_76 0 rfl rfl ?_
          refine r_getR hX dX6_readBody_77 f_RX6_63 zr_39_20 ?_
          refine r_iload_n hX dX6_readBody_80 1 rfl rfl ?_
          refine r_iconst (v := 5) hX dX6_readBody_81 (by decide) ?_
          refine r_iadd hX dX6_readBody_82 ?_
          refine r_iconst (v := 0) hX dX6_readBody_83 (by decide) ?_
          obtain ⟨u20, e21, h⟩ := zbind_elim h
          refine r_iast hX dX6_readBody_84 rfl e21 ?_
          refine r_aload_n hX dX6_readBody_85 0 rfl rfl ?_
          refine r_getI hX dX6_readBody_86 f_RX6_238 zi_39_17 ?_
          obtain ⟨u22, h23, h⟩ := zbind_elim h
          have Jh23 : zG X u22 149 [(0, .ref (zad X.1 39)), (1, .int a1)] [] := by
              refine r_aload_n hX dX6_readBody_149 0 rfl rfl ?_
              refine r_getI hX dX6_readBody_150 f_RX6_238 zi_39_17 ?_
              refine r_if_ne (tgt := 186) hX dX6_readBody_153 (by decide) (fun c45 => ?_) (fun c45 => ?_)
              · have h := (if_neg c45).symm.trans h
                obtain rfl := Option.some.inj h
                exact r_vret hX hR dX6_readBody_186
              · have h := (if_pos c45).symm.trans h
                refine r_aload_n hX dX6_readBody_156 0 rfl rfl ?_
                refine r_ldcwS (tx := "pins") (q := 14) hX dX6_readBody_157 (List.mem_of_getElem? (i := 26) rfl) ?_
                obtain ⟨x46, e47, h⟩ := zbind_elim h
                refine r_callV (As := [.ref (zaK X.1 14)]) (rest := []) (st1 := [.int x46]) hX dX6_readBody_160 lv_RX6_249 (c_X6_isWord 14 (by decide)  u22 _ e47) (by decide) rfl rfl (zRecv.of (q := 39) (ci := 6) rfl rfl) rfl (Nat.le_of_ble_eq_true rfl) rfl ?_
                refine r_if_eq (tgt := 186) hX dX6_readBody_163 (by decide) (fun c48 => ?_) (fun c48 => ?_)
                · have h := (if_pos c48).symm.trans h
                  obtain rfl := Option.some.inj h
                  exact r_vret hX hR dX6_readBody_186
                · have h := (if_neg c48).symm.trans h
                  refine r_aload_n hX dX6_readBody_166 0 rfl rfl ?_
                  refine r_iconst (v := 1) hX dX6_readBody_167 (by decide) ?_
                  obtain ⟨u49, e50, h⟩ := zbind_elim h
                  refine r_callV (As := [.int 1]) (rest := []) (st1 := []) hX dX6_readBody_168 lv_RX6_245 (c_X6_must 1  u22 _ e50) (by decide) rfl rfl (zRecv.of (q := 39) (ci := 6) rfl rfl) rfl (Nat.le_of_ble_eq_true rfl) rfl ?_
                  refine r_aload_n hX dX6_readBody_171 0 rfl rfl ?_
                  refine r_getR hX dX6_readBody_172 f_RX6_63 zr_39_20 ?_
                  refine r_iload_n hX dX6_readBody_175 1 rfl rfl ?_
                  refine r_iconst (v := 5) hX dX6_readBody_176 (by decide) ?_
                  refine r_iadd hX dX6_readBody_177 ?_
                  refine r_aload_n hX dX6_readBody_178 0 rfl rfl ?_
                  refine r_iconst (v := 0) hX dX6_readBody_179 (by decide) ?_
                  refine r_bipush (v := 99) hX dX6_readBody_180 (by decide) ?_
                  obtain ⟨x51, u52, e53, h⟩ := zbind2_elim h
                  refine r_callV (As := [.int 0, .int 99]) (rest := [.int (a1 + 5), .ref (zad X.1 50)]) (st1 := [.int x51, .int (a1 + 5), .ref (zad X.1 50)]) hX dX6_readBody_182 lv_RX6_267 (c_X6_number 0 99  u49 _ _ e53) (by decide) rfl rfl (zRecv.of (q := 39) (ci := 6) rfl rfl) rfl (Nat.le_of_ble_eq_true rfl) rfl ?_
                  obtain ⟨u54, e55, h⟩ := zbind_elim h
                  refine r_iast hX dX6_readBody_185 rfl e55 ?_
                  obtain rfl := Option.some.inj h
                  exact r_vret hX hR dX6_readBody_186
          clear h
          refine r_if_ne (tgt := 149) hX dX6_readBody_89 (by decide) (fun c24 => ?_) (fun c24 => ?_)
          · have h23 := (if_neg c24).symm.trans h23
            obtain rfl := Option.some.inj h23
            exact Jh23
          · have h23 := (if_pos c24).symm.trans h23
            refine r_aload_n hX dX6_readBody_92 0 rfl rfl ?_
            refine r_ldcwS (tx := "bribe") (q := 13) hX dX6_readBody_93 (List.mem_of_getElem? (i := 25) rfl) ?_
            obtain ⟨x25, e26, h23⟩ := zbind_elim h23
            refine r_callV (As := [.ref (zaK X.1 13)]) (rest := []) (st1 := [.int x25]) hX dX6_readBody_96 lv_RX6_249 (c_X6_isWord 13 (by decide)  u20 _ e26) (by decide) rfl rfl (zRecv.of (q := 39) (ci := 6) rfl rfl) rfl (Nat.le_of_ble_eq_true rfl) rfl ?_
            refine r_if_eq (tgt := 149) hX dX6_readBody_99 (by decide) (fun c27 => ?_) (fun c27 => ?_)
            · have h23 := (if_pos c27).symm.trans h23
              obtain rfl := Option.some.inj h23
              exact Jh23
            · have h23 := (if_neg c27).symm.trans h23
              refine r_aload_n hX dX6_readBody_102 0 rfl rfl ?_
              refine r_iconst (v := 1) hX dX6_readBody_103 (by decide) ?_
              obtain ⟨u28, e29, h23⟩ := zbind_elim h23
              refine r_callV (As := [.int 1]) (rest := []) (st1 := []) hX dX6_readBody_104 lv_RX6_245 (c_X6_must 1  u20 _ e29) (by decide) rfl rfl (zRecv.of (q := 39) (ci := 6) rfl rfl) rfl (Nat.le_of_ble_eq_true rfl) rfl ?_
              refine r_aload_n hX dX6_readBody_107 0 rfl rfl ?_
              refine r_bipush (v := 45) hX dX6_readBody_108 (by decide) ?_
              obtain ⟨x30, e31, h23⟩ := zbind_elim h23
              refine r_callV (As := [.int 45]) (rest := []) (st1 := [.int x30]) hX dX6_readBody_110 lv_RX6_277 (c_X6_isSign 45  u28 _ e31) (by decide) rfl rfl (zRecv.of (q := 39) (ci := 6) rfl rfl) rfl (Nat.le_of_ble_eq_true rfl) rfl ?_
              refine r_istore_n (y := x30) (L' := [(2, .int x30), (0, .ref (zad X.1 39)), (1, .int a1)]) hX dX6_readBody_113 rfl (by decide) rfl rfl ?_
              refine r_iload_n hX dX6_readBody_114 0 rfl rfl ?_
              obtain ⟨u32, h33, h23⟩ := zbind_elim h23
              have Jh33 : zG X u32 123 [(0, .ref (zad X.1 39)), (1, .int a1), (2, .int x30)] [] := by
                  refine r_aload_n hX dX6_readBody_123 0 rfl rfl ?_
                  refine r_iconst (v := 0) hX dX6_readBody_124 (by decide) ?_
                  refine r_bipush (v := 20) hX dX6_readBody_125 (by decide) ?_
                  obtain ⟨x37, u38, e39, h23⟩ := zbind2_elim h23
                  refine r_callV (As := [.int 0, .int 20]) (rest := []) (st1 := [.int x37]) hX dX6_readBody_127 lv_RX6_267 (c_X6_number 0 20  u32 _ _ e39) (by decide) rfl rfl (zRecv.of (q := 39) (ci := 6) rfl rfl) rfl (Nat.le_of_ble_eq_true rfl) rfl ?_
                  refine r_istore_n (y := x37) (L' := [(3, .int x37), (0, .ref (zad X.1 39)), (1, .int a1), (2, .int x30)]) hX dX6_readBody_130 rfl (by decide) rfl rfl ?_
                  refine r_aload_n hX dX6_readBody_131 1 rfl rfl ?_
                  refine r_getR hX dX6_readBody_132 f_RX6_63 zr_39_20 ?_
                  refine r_iload_n hX dX6_readBody_135 2 rfl rfl ?_
                  refine r_iconst (v := 4) hX dX6_readBody_136 (by decide) ?_
                  refine r_iadd hX dX6_readBody_137 ?_
                  refine r_iload_n hX dX6_readBody_138 3 rfl rfl ?_
                  refine r_if_eq (tgt := 147) hX dX6_readBody_139 (by decide) (fun c40 => ?_) (fun c40 => ?_)
                  · have h23 := (if_pos c40).symm.trans h23
                    refine r_iload_n hX dX6_readBody_147 0 rfl rfl ?_
                    obtain ⟨u41, e42, h23⟩ := zbind_elim h23
                    refine r_iast hX dX6_readBody_148 rfl e42 ?_
                    refine r_sub [1, 2] (L' := [(0, .ref (zad X.1 39)), (1, .int a1)]) rfl ?_
                    obtain rfl := Option.some.inj h23
                    exact Jh23
                  · have h23 := (if_neg c40).symm.trans h23
                    refine r_iload_n hX dX6_readBody_142 0 rfl rfl ?_
                    refine r_ineg hX dX6_readBody_143 ?_
                    refine r_goto (tgt := 148) hX dX6_readBody_144 (by decide) ?_
                    obtain ⟨u43, e44, h23⟩ := zbind_elim h23
                    refine r_iast hX dX6_readBody_148 rfl e44 ?_
                    refine r_sub [1, 2] (L' := [(0, .ref (zad X.1 39)), (1, .int a1)]) rfl ?_
                    obtain rfl := Option.some.inj h23
                    exact Jh23
              clear h23
              refine r_if_eq (tgt := 123) hX dX6_readBody_115 (by decide) (fun c34 => ?_) (fun c34 => ?_)
              · have h33 := (if_pos c34).symm.trans h33
                refine r_sub [1, 2, 0] (L' := [(0, .ref (zad X.1 39)), (1, .int a1), (2, .int x30)]) rfl ?_
                obtain rfl := Option.some.inj h33
                exact Jh33
              · have h33 := (if_neg c34).symm.trans h33
                refine r_aload_n hX dX6_readBody_118 1 rfl rfl ?_
                refine r_iconst (v := 1) hX dX6_readBody_119 (by decide) ?_
                obtain ⟨u35, e36, h33⟩ := zbind_elim h33
                refine r_callV (As := [.int 1]) (rest := []) (st1 := []) hX dX6_readBody_120 lv_RX6_245 (c_X6_must 1  u28 _ e36) (by decide) rfl rfl (zRecv.of (q := 39) (ci := 6) rfl rfl) rfl (Nat.le_of_ble_eq_true rfl) rfl ?_
                refine r_sub [1, 2, 0] (L' := [(0, .ref (zad X.1 39)), (1, .int a1), (2, .int x30)]) rfl ?_
                obtain rfl := Option.some.inj h33
                exact Jh33
      clear h
      refine zit_walk (P := fun s0 : Int32 × zM => zG X s0.2 37 [(0, .ref (zad X.1 39)), (1, .int a1), (2, .int (s0.1))] []) ?_ zF _ h11
      clear h11
      intro s0 y0 h0b hin0 hout0
      obtain ⟨x8, u9⟩ := s0
      have h0b : m_X6_readBody_b0 a1 x8 u9 = some y0 := h0b
      unfold m_X6_readBody_b0 at h0b
      show zG X u9 37 [(0, .ref (zad X.1 39)), (1, .int a1), (2, .int x8)] []
      refine r_iload_n hX dX6_readBody_37 2 rfl rfl ?_
      refine r_iconst (v := 3) hX dX6_readBody_38 (by decide) ?_
      refine r_icmp_ge (tgt := 67) hX dX6_readBody_39 (by decide) (fun c12 => ?_) (fun c12 => ?_)
      · have h0b := (if_pos c12).symm.trans h0b
        refine r_sub [0, 1] (L' := [(0, .ref (zad X.1 39)), (1, .int a1)]) rfl ?_
        have h0b := hout0 _ (Option.some.inj h0b).symm
        obtain rfl := h0b
        exact Jh11
      · have h0b := (if_neg c12).symm.trans h0b
        refine r_aload_n hX dX6_readBody_42 0 rfl rfl ?_
        refine r_getR hX dX6_readBody_43 f_RX6_63 zr_39_20 ?_
        refine r_iload_n hX dX6_readBody_46 1 rfl rfl ?_
        refine r_iconst (v := 1) hX dX6_readBody_47 (by decide) ?_
        refine r_iadd hX dX6_readBody_48 ?_
        refine r_iload_n hX dX6_readBody_49 2 rfl rfl ?_
        refine r_iadd hX dX6_readBody_50 ?_
        refine r_aload_n hX dX6_readBody_51 0 rfl rfl ?_
        refine r_bipush (v := 50) hX dX6_readBody_52 (by decide) ?_
        refine r_sipush (v := 250) hX dX6_readBody_54 (by decide) ?_
        obtain ⟨x13, u14, e15, h0b⟩ := zbind2_elim h0b
        refine r_callV (As := [.int 50, .int 250]) (rest := [.int ((a1 + 1) + x8), .ref (zad X.1 50)]) (st1 := [.int x13, .int ((a1 + 1) + x8), .ref (zad X.1 50)]) hX dX6_readBody_57 lv_RX6_267 (c_X6_number 50 250  u9 _ _ e15) (by decide) rfl rfl (zRecv.of (q := 39) (ci := 6) rfl rfl) rfl (Nat.le_of_ble_eq_true rfl) rfl ?_
        obtain ⟨u16, e17, h0b⟩ := zbind_elim h0b
        refine r_iast hX dX6_readBody_60 rfl e17 ?_
        refine r_iinc (v := (x8 + 1)) (L' := [(2, .int (x8 + 1)), (0, .ref (zad X.1 39)), (1, .int a1)]) hX dX6_readBody_61 (by decide) 2 rfl rfl rfl ?_
        refine r_goto (tgt := 37) hX dX6_readBody_64 (by decide) ?_
        refine r_sub [1, 2, 0] (L' := [(0, .ref (zad X.1 39)), (1, .int a1), (2, .int (x8 + 1))]) rfl ?_
        exact hin0 _ (Option.some.inj h0b).symm
  clear h
  refine r_icmp_ge (tgt := 21) hX dX6_readBody_14 (by decide) (fun c3 => ?_) (fun c3 => ?_)
  · have h2 := (if_pos c3).symm.trans h2
    refine r_iconst (v := 0) hX dX6_readBody_21 (by decide) ?_
    obtain rfl := h2
    exact Jh2
  · have h2 := (if_neg c3).symm.trans h2
    refine r_iconst (v := 1) hX dX6_readBody_17 (by decide) ?_
    refine r_goto (tgt := 22) hX dX6_readBody_18 (by decide) ?_
    obtain rfl := h2
    exact Jh2
def m_X6_which_2_b0 (u : zM) (x1 : Int32) (x2 : Int32) : Option ((Int32 × Int32) ⊕ (Int32)) :=
  (if 3 ≤ x2 then
some (.inr x1)
else
zbind (zsa 7 3 x2) (fun k6 => zbind (m_X6_isWord k6 u) (fun x8 => (if x8 = 0 then
some (.inl (x1, (x2 + 1)))
else
some (.inl (x2, (x2 + 1)))))))
def m_X6_which_2  (u : zM) : Option (Int32) :=
  zbind (zit zF (fun s : Int32 × Int32 => m_X6_which_2_b0 u s.1 s.2) ((-1), 0)) (fun x3 =>
some x3)
set_option maxHeartbeats 4000000 in
set_option maxRecDepth 100000 in
theorem c_X6_which_2    (u : zM) (r : Int32) (h : m_X6_which_2 u = some r) : zCt 6 yX6_which cX6_which 4 (some .int) (fun E => [.ref (zad E 39), .ref (zad E 49)]) u (fun _ => some (.int r)) u := by
  refine zCt.of (by decide +kernel) (fun E => Nat.le_of_ble_eq_true rfl) (fun X hX hR => ?_)
  have hX : zGood X RX6 cX6_which 4 6 := hX
  show zG X u 0 [(0, .ref (zad X.1 39)), (1, .ref (zad X.1 49))] []
  unfold m_X6_which_2 at h
  refine r_iconst (v := (-1)) hX dX6_which_0 (by decide) ?_
  refine r_istore_n (y := (-1)) (L' := [(2, .int (-1)), (0, .ref (zad X.1 39)), (1, .ref (zad X.1 49))]) hX dX6_which_1 rfl (by decide) rfl rfl ?_
  refine r_iconst (v := 0) hX dX6_which_2 (by decide) ?_
  refine r_istore_n (y := 0) (L' := [(3, .int 0), (2, .int (-1)), (0, .ref (zad X.1 39)), (1, .ref (zad X.1 49))]) hX dX6_which_3 rfl (by decide) rfl rfl ?_
  refine r_sub [2, 3, 1, 0] (L' := [(0, .ref (zad X.1 39)), (1, .ref (zad X.1 49)), (2, .int (-1)), (3, .int 0)]) rfl ?_
  obtain ⟨x3, h4, h⟩ := zbind_elim h
  have Jh4 : zG X u 32 [(2, .int x3)] [] := by
      refine r_iload_n hX dX6_which_32 0 rfl rfl ?_
      obtain rfl := Option.some.inj h
      exact r_iret hX hR dX6_which_33
  clear h
  refine zit_walk (P := fun s0 : Int32 × Int32 => zG X u 4 [(0, .ref (zad X.1 39)), (1, .ref (zad X.1 49)), (2, .int (s0.1)), (3, .int (s0.2))] []) ?_ zF _ h4
  clear h4
  intro s0 y0 h0b hin0 hout0
  obtain ⟨x1, x2⟩ := s0
  have h0b : m_X6_which_2_b0 u x1 x2 = some y0 := h0b
  unfold m_X6_which_2_b0 at h0b
  show zG X u 4 [(0, .ref (zad X.1 39)), (1, .ref (zad X.1 49)), (2, .int x1), (3, .int x2)] []
  refine r_iload_n hX dX6_which_4 3 rfl rfl ?_
  refine r_aload_n hX dX6_which_5 1 rfl rfl ?_
  refine r_alenR hX dX6_which_6 ?_
  refine r_icmp_ge (tgt := 32) hX dX6_which_7 (by decide) (fun c5 => ?_) (fun c5 => ?_)
  · have h0b := (if_pos c5).symm.trans h0b
    refine r_sub [2] (L' := [(2, .int x1)]) rfl ?_
    have h0b := hout0 _ (Option.some.inj h0b).symm
    obtain rfl := h0b
    exact Jh4
  · have h0b := (if_neg c5).symm.trans h0b
    refine r_aload_n hX dX6_which_10 0 rfl rfl ?_
    refine r_aload_n hX dX6_which_11 1 rfl rfl ?_
    refine r_iload_n hX dX6_which_12 3 rfl rfl ?_
    obtain ⟨k6, e7, h0b⟩ := zbind_elim h0b
    have hk6 : k6 < 15 := Nat.lt_of_lt_of_le (zsa_ok e7).2.2 (by decide)
    refine r_aldR hX dX6_which_13 e7 ?_
    obtain ⟨x8, e9, h0b⟩ := zbind_elim h0b
    refine r_callV (As := [.ref (zaK X.1 k6)]) (rest := []) (st1 := [.int x8]) hX dX6_which_14 lv_RX6_249 (c_X6_isWord k6 hk6  u _ e9) (by decide) rfl rfl (zRecv.of (q := 39) (ci := 6) rfl rfl) rfl (Nat.le_of_ble_eq_true rfl) rfl ?_
    refine r_if_eq (tgt := 24) hX dX6_which_17 (by decide) (fun c10 => ?_) (fun c10 => ?_)
    · have h0b := (if_pos c10).symm.trans h0b
      refine r_iload_n hX dX6_which_24 2 rfl rfl ?_
      refine r_istore_n (y := x1) (L' := [(2, .int x1), (0, .ref (zad X.1 39)), (1, .ref (zad X.1 49)), (3, .int x2)]) hX dX6_which_25 rfl (by decide) rfl rfl ?_
      refine r_iinc (v := (x2 + 1)) (L' := [(3, .int (x2 + 1)), (2, .int x1), (0, .ref (zad X.1 39)), (1, .ref (zad X.1 49))]) hX dX6_which_26 (by decide) 3 rfl rfl rfl ?_
      refine r_goto (tgt := 4) hX dX6_which_29 (by decide) ?_
      refine r_sub [2, 3, 1, 0] (L' := [(0, .ref (zad X.1 39)), (1, .ref (zad X.1 49)), (2, .int x1), (3, .int (x2 + 1))]) rfl ?_
      exact hin0 _ (Option.some.inj h0b).symm
    · have h0b := (if_neg c10).symm.trans h0b
      refine r_iload_n hX dX6_which_20 3 rfl rfl ?_
      refine r_goto (tgt := 25) hX dX6_which_21 (by decide) ?_
      refine r_istore_n (y := x2) (L' := [(2, .int x2), (0, .ref (zad X.1 39)), (1, .ref (zad X.1 49)), (3, .int x2)]) hX dX6_which_25 rfl (by decide) rfl rfl ?_
      refine r_iinc (v := (x2 + 1)) (L' := [(3, .int (x2 + 1)), (2, .int x2), (0, .ref (zad X.1 39)), (1, .ref (zad X.1 49))]) hX dX6_which_26 (by decide) 3 rfl rfl rfl ?_
      refine r_goto (tgt := 4) hX dX6_which_29 (by decide) ?_
      refine r_sub [2, 3, 1, 0] (L' := [(0, .ref (zad X.1 39)), (1, .ref (zad X.1 49)), (2, .int x2), (3, .int (x2 + 1))]) rfl ?_
      exact hin0 _ (Option.some.inj h0b).symm
theorem dX6_readItem_0 : decode cX6_readItem 0 = .ok (.bipush 6, 2) := by decide +kernel
theorem dX6_readItem_2 : decode cX6_readItem 2 = .ok (.aload_n 0, 1) := by decide +kernel
theorem dX6_readItem_3 : decode cX6_readItem 3 = .ok (.getfield 253, 3) := by decide +kernel
theorem dX6_readItem_6 : decode cX6_readItem 6 = .ok (.imul, 1) := by decide +kernel
theorem dX6_readItem_7 : decode cX6_readItem 7 = .ok (.istore_n 1, 1) := by decide +kernel
theorem dX6_readItem_8 : decode cX6_readItem 8 = .ok (.aload_n 0, 1) := by decide +kernel
theorem dX6_readItem_9 : decode cX6_readItem 9 = .ok (.aload_n 0, 1) := by decide +kernel
theorem dX6_readItem_10 : decode cX6_readItem 10 = .ok (.getfield 50, 3) := by decide +kernel
theorem dX6_readItem_13 : decode cX6_readItem 13 = .ok (.invokevirtual 256, 3) := by decide +kernel
theorem dX6_readItem_16 : decode cX6_readItem 16 = .ok (.istore_n 2, 1) := by decide +kernel
theorem dX6_readItem_17 : decode cX6_readItem 17 = .ok (.aload_n 0, 1) := by decide +kernel
theorem dX6_readItem_18 : decode cX6_readItem 18 = .ok (.dup, 1) := by decide +kernel
theorem dX6_readItem_19 : decode cX6_readItem 19 = .ok (.getfield 253, 3) := by decide +kernel
theorem dX6_readItem_22 : decode cX6_readItem 22 = .ok (.iconst 1, 1) := by decide +kernel
theorem dX6_readItem_23 : decode cX6_readItem 23 = .ok (.iadd, 1) := by decide +kernel
theorem dX6_readItem_24 : decode cX6_readItem 24 = .ok (.putfield 253, 3) := by decide +kernel
theorem dX6_readItem_27 : decode cX6_readItem 27 = .ok (.aload_n 0, 1) := by decide +kernel
theorem dX6_readItem_28 : decode cX6_readItem 28 = .ok (.getfield 63, 3) := by decide +kernel
theorem dX6_readItem_31 : decode cX6_readItem 31 = .ok (.iload_n 1, 1) := by decide +kernel
theorem dX6_readItem_32 : decode cX6_readItem 32 = .ok (.iload_n 2, 1) := by decide +kernel
theorem dX6_readItem_33 : decode cX6_readItem 33 = .ok (.iastore, 1) := by decide +kernel
theorem dX6_readItem_34 : decode cX6_readItem 34 = .ok (.iload_n 2, 1) := by decide +kernel
theorem dX6_readItem_35 : decode cX6_readItem 35 = .ok (.ifCond .lt 11, 3) := by decide +kernel
theorem dX6_readItem_38 : decode cX6_readItem 38 = .ok (.aload_n 0, 1) := by decide +kernel
theorem dX6_readItem_39 : decode cX6_readItem 39 = .ok (.iload_n 1, 1) := by decide +kernel
theorem dX6_readItem_40 : decode cX6_readItem 40 = .ok (.invokevirtual 260, 3) := by decide +kernel
theorem dX6_readItem_43 : decode cX6_readItem 43 = .ok (.goto 136, 3) := by decide +kernel
theorem dX6_readItem_46 : decode cX6_readItem 46 = .ok (.aload_n 0, 1) := by decide +kernel
theorem dX6_readItem_47 : decode cX6_readItem 47 = .ok (.ldc_w 263, 3) := by decide +kernel
theorem dX6_readItem_50 : decode cX6_readItem 50 = .ok (.invokevirtual 249, 3) := by decide +kernel
theorem dX6_readItem_53 : decode cX6_readItem 53 = .ok (.ifCond .eq 50, 3) := by decide +kernel
theorem dX6_readItem_56 : decode cX6_readItem 56 = .ok (.aload_n 0, 1) := by decide +kernel
theorem dX6_readItem_57 : decode cX6_readItem 57 = .ok (.iconst 1, 1) := by decide +kernel
theorem dX6_readItem_58 : decode cX6_readItem 58 = .ok (.invokevirtual 245, 3) := by decide +kernel
theorem dX6_readItem_61 : decode cX6_readItem 61 = .ok (.aload_n 0, 1) := by decide +kernel
theorem dX6_readItem_62 : decode cX6_readItem 62 = .ok (.aload_n 0, 1) := by decide +kernel
theorem dX6_readItem_63 : decode cX6_readItem 63 = .ok (.getfield 60, 3) := by decide +kernel
theorem dX6_readItem_66 : decode cX6_readItem 66 = .ok (.invokevirtual 256, 3) := by decide +kernel
theorem dX6_readItem_69 : decode cX6_readItem 69 = .ok (.istore_n 3, 1) := by decide +kernel
theorem dX6_readItem_70 : decode cX6_readItem 70 = .ok (.aload_n 0, 1) := by decide +kernel
theorem dX6_readItem_71 : decode cX6_readItem 71 = .ok (.iload_n 3, 1) := by decide +kernel
theorem dX6_readItem_72 : decode cX6_readItem 72 = .ok (.ifCond .lt 7, 3) := by decide +kernel
theorem dX6_readItem_75 : decode cX6_readItem 75 = .ok (.iconst 1, 1) := by decide +kernel
theorem dX6_readItem_76 : decode cX6_readItem 76 = .ok (.goto 4, 3) := by decide +kernel
theorem dX6_readItem_79 : decode cX6_readItem 79 = .ok (.iconst 0, 1) := by decide +kernel
theorem dX6_readItem_80 : decode cX6_readItem 80 = .ok (.invokevirtual 245, 3) := by decide +kernel
theorem dX6_readItem_83 : decode cX6_readItem 83 = .ok (.aload_n 0, 1) := by decide +kernel
theorem dX6_readItem_84 : decode cX6_readItem 84 = .ok (.getfield 63, 3) := by decide +kernel
theorem dX6_readItem_87 : decode cX6_readItem 87 = .ok (.iload_n 1, 1) := by decide +kernel
theorem dX6_readItem_88 : decode cX6_readItem 88 = .ok (.bipush 10, 2) := by decide +kernel
theorem dX6_readItem_90 : decode cX6_readItem 90 = .ok (.iastore, 1) := by decide +kernel
theorem dX6_readItem_91 : decode cX6_readItem 91 = .ok (.aload_n 0, 1) := by decide +kernel
theorem dX6_readItem_92 : decode cX6_readItem 92 = .ok (.getfield 63, 3) := by decide +kernel
theorem dX6_readItem_95 : decode cX6_readItem 95 = .ok (.iload_n 1, 1) := by decide +kernel
theorem dX6_readItem_96 : decode cX6_readItem 96 = .ok (.iconst 1, 1) := by decide +kernel
theorem dX6_readItem_97 : decode cX6_readItem 97 = .ok (.iadd, 1) := by decide +kernel
theorem dX6_readItem_98 : decode cX6_readItem 98 = .ok (.iload_n 3, 1) := by decide +kernel
theorem dX6_readItem_99 : decode cX6_readItem 99 = .ok (.iastore, 1) := by decide +kernel
theorem dX6_readItem_100 : decode cX6_readItem 100 = .ok (.goto 79, 3) := by decide +kernel
theorem dX6_readItem_103 : decode cX6_readItem 103 = .ok (.aload_n 0, 1) := by decide +kernel
theorem dX6_readItem_104 : decode cX6_readItem 104 = .ok (.ldc_w 265, 3) := by decide +kernel
theorem dX6_readItem_107 : decode cX6_readItem 107 = .ok (.invokevirtual 249, 3) := by decide +kernel
theorem dX6_readItem_110 : decode cX6_readItem 110 = .ok (.ifCond .eq 35, 3) := by decide +kernel
theorem dX6_readItem_113 : decode cX6_readItem 113 = .ok (.aload_n 0, 1) := by decide +kernel
theorem dX6_readItem_114 : decode cX6_readItem 114 = .ok (.iconst 1, 1) := by decide +kernel
theorem dX6_readItem_115 : decode cX6_readItem 115 = .ok (.invokevirtual 245, 3) := by decide +kernel
theorem dX6_readItem_118 : decode cX6_readItem 118 = .ok (.aload_n 0, 1) := by decide +kernel
theorem dX6_readItem_119 : decode cX6_readItem 119 = .ok (.getfield 63, 3) := by decide +kernel
theorem dX6_readItem_122 : decode cX6_readItem 122 = .ok (.iload_n 1, 1) := by decide +kernel
theorem dX6_readItem_123 : decode cX6_readItem 123 = .ok (.bipush 11, 2) := by decide +kernel
theorem dX6_readItem_125 : decode cX6_readItem 125 = .ok (.iastore, 1) := by decide +kernel
theorem dX6_readItem_126 : decode cX6_readItem 126 = .ok (.aload_n 0, 1) := by decide +kernel
theorem dX6_readItem_127 : decode cX6_readItem 127 = .ok (.getfield 63, 3) := by decide +kernel
theorem dX6_readItem_130 : decode cX6_readItem 130 = .ok (.iload_n 1, 1) := by decide +kernel
theorem dX6_readItem_131 : decode cX6_readItem 131 = .ok (.iconst 1, 1) := by decide +kernel
theorem dX6_readItem_132 : decode cX6_readItem 132 = .ok (.iadd, 1) := by decide +kernel
theorem dX6_readItem_133 : decode cX6_readItem 133 = .ok (.aload_n 0, 1) := by decide +kernel
theorem dX6_readItem_134 : decode cX6_readItem 134 = .ok (.iconst 0, 1) := by decide +kernel
theorem dX6_readItem_135 : decode cX6_readItem 135 = .ok (.sipush 999, 3) := by decide +kernel
theorem dX6_readItem_138 : decode cX6_readItem 138 = .ok (.invokevirtual 267, 3) := by decide +kernel
theorem dX6_readItem_141 : decode cX6_readItem 141 = .ok (.iastore, 1) := by decide +kernel
theorem dX6_readItem_142 : decode cX6_readItem 142 = .ok (.goto 37, 3) := by decide +kernel
theorem dX6_readItem_145 : decode cX6_readItem 145 = .ok (.aload_n 0, 1) := by decide +kernel
theorem dX6_readItem_146 : decode cX6_readItem 146 = .ok (.aload_n 0, 1) := by decide +kernel
theorem dX6_readItem_147 : decode cX6_readItem 147 = .ok (.ldc_w 270, 3) := by decide +kernel
theorem dX6_readItem_150 : decode cX6_readItem 150 = .ok (.invokevirtual 249, 3) := by decide +kernel
theorem dX6_readItem_153 : decode cX6_readItem 153 = .ok (.invokevirtual 245, 3) := by decide +kernel
theorem dX6_readItem_156 : decode cX6_readItem 156 = .ok (.aload_n 0, 1) := by decide +kernel
theorem dX6_readItem_157 : decode cX6_readItem 157 = .ok (.getfield 63, 3) := by decide +kernel
theorem dX6_readItem_160 : decode cX6_readItem 160 = .ok (.iload_n 1, 1) := by decide +kernel
theorem dX6_readItem_161 : decode cX6_readItem 161 = .ok (.bipush 12, 2) := by decide +kernel
theorem dX6_readItem_163 : decode cX6_readItem 163 = .ok (.iastore, 1) := by decide +kernel
theorem dX6_readItem_164 : decode cX6_readItem 164 = .ok (.aload_n 0, 1) := by decide +kernel
theorem dX6_readItem_165 : decode cX6_readItem 165 = .ok (.getfield 63, 3) := by decide +kernel
theorem dX6_readItem_168 : decode cX6_readItem 168 = .ok (.iload_n 1, 1) := by decide +kernel
theorem dX6_readItem_169 : decode cX6_readItem 169 = .ok (.iconst 1, 1) := by decide +kernel
theorem dX6_readItem_170 : decode cX6_readItem 170 = .ok (.iadd, 1) := by decide +kernel
theorem dX6_readItem_171 : decode cX6_readItem 171 = .ok (.aload_n 0, 1) := by decide +kernel
theorem dX6_readItem_172 : decode cX6_readItem 172 = .ok (.iconst 0, 1) := by decide +kernel
theorem dX6_readItem_173 : decode cX6_readItem 173 = .ok (.bipush 99, 2) := by decide +kernel
theorem dX6_readItem_175 : decode cX6_readItem 175 = .ok (.invokevirtual 267, 3) := by decide +kernel
theorem dX6_readItem_178 : decode cX6_readItem 178 = .ok (.iastore, 1) := by decide +kernel
theorem dX6_readItem_179 : decode cX6_readItem 179 = .ok (.return_, 1) := by decide +kernel
def m_X6_readItem  (u : zM) : Option (zM) :=
  zbind (m_X6_which u) (fun x1 => zlet (zst u 39 21 ((u 39 21) + 1)) (fun u3 => zbind (zsv u3 50 720 (6 * (u 39 21)) x1) (fun u5 => (if x1 < 0 then
zbind (m_X6_isWord 10 u5) (fun x8 => (if x8 = 0 then
zbind (m_X6_isWord 11 u5) (fun x11 => (if x11 = 0 then
zbind (m_X6_isWord 12 u5) (fun x14 => zbind (m_X6_must x14 u5) (fun u16 => zbind (zsv u16 50 720 (6 * (u 39 21)) 12) (fun u18 => zbind2 (m_X6_number 0 99 u18) (fun x20 u21 => zbind (zsv u21 50 720 ((6 * (u 39 21)) + 1) x20) (fun u23 => some u23)))))
else
zbind (m_X6_must 1 u5) (fun u25 => zbind (zsv u25 50 720 (6 * (u 39 21)) 11) (fun u27 => zbind2 (m_X6_number 0 999 u27) (fun x29 u30 => zbind (zsv u30 50 720 ((6 * (u 39 21)) + 1) x29) (fun u32 => some u32))))))
else
zbind (m_X6_must 1 u5) (fun u34 => zbind (m_X6_which_2 u34) (fun x36 => zlet ((if x36 < 0 then
0
else
1) : Int32) (fun x38 =>
zbind (m_X6_must x38 u34) (fun u41 => zbind (zsv u41 50 720 (6 * (u 39 21)) 10) (fun u43 => zbind (zsv u43 50 720 ((6 * (u 39 21)) + 1) x36) (fun u45 => some u45))))))))
else
zbind (m_X6_readBody (6 * (u 39 21)) u5) (fun u47 => some u47)))))
set_option maxHeartbeats 4000000 in
set_option maxRecDepth 100000 in
theorem c_X6_readItem    (u : zM) (u' : zM) (h : m_X6_readItem u = some (u')) : zCt 7 yX6_readItem cX6_readItem 4 none (fun E => [.ref (zad E 39)]) u (fun _ => none) u' := by
  refine zCt.of (by decide +kernel) (fun E => Nat.le_of_ble_eq_true rfl) (fun X hX hR => ?_)
  have hX : zGood X RX6 cX6_readItem 4 7 := hX
  show zG X u 0 [(0, .ref (zad X.1 39))] []
  unfold m_X6_readItem at h
  refine r_bipush (v := 6) hX dX6_readItem_0 (by decide) ?_
  refine r_aload_n hX dX6_readItem_2 0 rfl rfl ?_
  refine r_getI hX dX6_readItem_3 f_RX6_253 zi_39_21 ?_
  refine r_imul hX dX6_readItem_6 ?_
  refine r_istore_n (y := (6 * (u 39 21))) (L' := [(1, .int (6 * (u 39 21))), (0, .ref (zad X.1 39))]) hX dX6_readItem_7 rfl (by decide) rfl rfl ?_
  refine r_aload_n hX dX6_readItem_8 1 rfl rfl ?_
  refine r_aload_n hX dX6_readItem_9 1 rfl rfl ?_
  refine r_getR hX dX6_readItem_10 f_RX6_50 zr_39_18 ?_
  obtain ⟨x1, e2, h⟩ := zbind_elim h
  refine r_callV (As := [.ref (zad X.1 48)]) (rest := []) (st1 := [.int x1]) hX dX6_readItem_13 lv_RX6_256 (c_X6_which   u _ e2) (by decide) rfl rfl (zRecv.of (q := 39) (ci := 6) rfl rfl) rfl (Nat.le_of_ble_eq_true rfl) rfl ?_
  refine r_istore_n (y := x1) (L' := [(2, .int x1), (1, .int (6 * (u 39 21))), (0, .ref (zad X.1 39))]) hX dX6_readItem_16 rfl (by decide) rfl rfl ?_
  refine r_aload_n hX dX6_readItem_17 2 rfl rfl ?_
  refine r_dup hX dX6_readItem_18 rfl ?_
  refine r_getI hX dX6_readItem_19 f_RX6_253 zi_39_21 ?_
  refine r_iconst (v := 1) hX dX6_readItem_22 (by decide) ?_
  refine r_iadd hX dX6_readItem_23 ?_
  obtain ⟨u3, e4, h⟩ := zlet_elim h
  refine r_putI hX dX6_readItem_24 f_RX6_253 p_6_21 zi_39_21 ?_
  rw [e4]
  refine r_aload_n hX dX6_readItem_27 2 rfl rfl ?_
  refine r_getR hX dX6_readItem_28 f_RX6_63 zr_39_20 ?_
  refine r_iload_n hX dX6_readItem_31 1 rfl rfl ?_
  refine r_iload_n hX dX6_readItem_32 0 rfl rfl ?_
  obtain ⟨u5, e6, h⟩ := zbind_elim h
  refine r_iast hX dX6_readItem_33 rfl e6 ?_
  refine r_iload_n hX dX6_readItem_34 0 rfl rfl ?_
  refine r_if_lt (tgt := 46) hX dX6_readItem_35 (by decide) (fun c7 => ?_) (fun c7 => ?_)
  · have h := (if_pos c7).symm.trans h
    refine r_aload_n hX dX6_readItem_46 2 rfl rfl ?_
    refine r_ldcwS (tx := "rule") (q := 10) hX dX6_readItem_47 (List.mem_of_getElem? (i := 27) rfl) ?_
    obtain ⟨x8, e9, h⟩ := zbind_elim h
    refine r_callV (As := [.ref (zaK X.1 10)]) (rest := []) (st1 := [.int x8]) hX dX6_readItem_50 lv_RX6_249 (c_X6_isWord 10 (by decide)  u5 _ e9) (by decide) rfl rfl (zRecv.of (q := 39) (ci := 6) rfl rfl) rfl (Nat.le_of_ble_eq_true rfl) rfl ?_
    refine r_if_eq (tgt := 103) hX dX6_readItem_53 (by decide) (fun c10 => ?_) (fun c10 => ?_)
    · have h := (if_pos c10).symm.trans h
      refine r_aload_n hX dX6_readItem_103 2 rfl rfl ?_
      refine r_ldcwS (tx := "ease") (q := 11) hX dX6_readItem_104 (List.mem_of_getElem? (i := 28) rfl) ?_
      obtain ⟨x11, e12, h⟩ := zbind_elim h
      refine r_callV (As := [.ref (zaK X.1 11)]) (rest := []) (st1 := [.int x11]) hX dX6_readItem_107 lv_RX6_249 (c_X6_isWord 11 (by decide)  u5 _ e12) (by decide) rfl rfl (zRecv.of (q := 39) (ci := 6) rfl rfl) rfl (Nat.le_of_ble_eq_true rfl) rfl ?_
      refine r_if_eq (tgt := 145) hX dX6_readItem_110 (by decide) (fun c13 => ?_) (fun c13 => ?_)
      · have h := (if_pos c13).symm.trans h
        refine r_aload_n hX dX6_readItem_145 2 rfl rfl ?_
        refine r_aload_n hX dX6_readItem_146 2 rfl rfl ?_
        refine r_ldcwS (tx := "price") (q := 12) hX dX6_readItem_147 (List.mem_of_getElem? (i := 29) rfl) ?_
        obtain ⟨x14, e15, h⟩ := zbind_elim h
        refine r_callV (As := [.ref (zaK X.1 12)]) (rest := [.ref (zad X.1 39)]) (st1 := [.int x14, .ref (zad X.1 39)]) hX dX6_readItem_150 lv_RX6_249 (c_X6_isWord 12 (by decide)  u5 _ e15) (by decide) rfl rfl (zRecv.of (q := 39) (ci := 6) rfl rfl) rfl (Nat.le_of_ble_eq_true rfl) rfl ?_
        obtain ⟨u16, e17, h⟩ := zbind_elim h
        refine r_callV (As := [.int x14]) (rest := []) (st1 := []) hX dX6_readItem_153 lv_RX6_245 (c_X6_must x14  u5 _ e17) (by decide) rfl rfl (zRecv.of (q := 39) (ci := 6) rfl rfl) rfl (Nat.le_of_ble_eq_true rfl) rfl ?_
        refine r_aload_n hX dX6_readItem_156 2 rfl rfl ?_
        refine r_getR hX dX6_readItem_157 f_RX6_63 zr_39_20 ?_
        refine r_iload_n hX dX6_readItem_160 1 rfl rfl ?_
        refine r_bipush (v := 12) hX dX6_readItem_161 (by decide) ?_
        obtain ⟨u18, e19, h⟩ := zbind_elim h
        refine r_iast hX dX6_readItem_163 rfl e19 ?_
        refine r_aload_n hX dX6_readItem_164 2 rfl rfl ?_
        refine r_getR hX dX6_readItem_165 f_RX6_63 zr_39_20 ?_
        refine r_iload_n hX dX6_readItem_168 1 rfl rfl ?_
        refine r_iconst (v := 1) hX dX6_readItem_169 (by decide) ?_
        refine r_iadd hX dX6_readItem_170 ?_
        refine r_aload_n hX dX6_readItem_171 2 rfl rfl ?_
        refine r_iconst (v := 0) hX dX6_readItem_172 (by decide) ?_
        refine r_bipush (v := 99) hX dX6_readItem_173 (by decide) ?_
        obtain ⟨x20, u21, e22, h⟩ := zbind2_elim h
        refine r_callV (As := [.int 0, .int 99]) (rest := [.int ((6 * (u 39 21)) + 1), .ref (zad X.1 50)]) (st1 := [.int x20, .int ((6 * (u 39 21)) + 1), .ref (zad X.1 50)]) hX dX6_readItem_175 lv_RX6_267 (c_X6_number 0 99  u18 _ _ e22) (by decide) rfl rfl (zRecv.of (q := 39) (ci := 6) rfl rfl) rfl (Nat.le_of_ble_eq_true rfl) rfl ?_
        obtain ⟨u23, e24, h⟩ := zbind_elim h
        refine r_iast hX dX6_readItem_178 rfl e24 ?_
        obtain rfl := Option.some.inj h
        exact r_vret hX hR dX6_readItem_179
      · have h := (if_neg c13).symm.trans h
        refine r_aload_n hX dX6_readItem_113 2 rfl rfl ?_
        refine r_iconst (v := 1) hX dX6_readItem_114 (by decide) ?_
        obtain ⟨u25, e26, h⟩ := zbind_elim h
        refine r_callV (As := [.int 1]) (rest := []) (st1 := []) hX dX6_readItem_115 lv_RX6_245 (c_X6_must 1  u5 _ e26) (by decide) rfl rfl (zRecv.of (q := 39) (ci := 6) rfl rfl) rfl (Nat.le_of_ble_eq_true rfl) rfl ?_
        refine r_aload_n hX dX6_readItem_118 2 rfl rfl ?_
        refine r_getR hX dX6_readItem_119 f_RX6_63 zr_39_20 ?_
        refine r_iload_n hX dX6_readItem_122 1 rfl rfl ?_
        refine r_bipush (v := 11) hX dX6_readItem_123 (by decide) ?_
        obtain ⟨u27, e28, h⟩ := zbind_elim h
        refine r_iast hX dX6_readItem_125 rfl e28 ?_
        refine r_aload_n hX dX6_readItem_126 2 rfl rfl ?_
        refine r_getR hX dX6_readItem_127 f_RX6_63 zr_39_20 ?_
        refine r_iload_n hX dX6_readItem_130 1 rfl rfl ?_
        refine r_iconst (v := 1) hX dX6_readItem_131 (by decide) ?_
        refine r_iadd hX dX6_readItem_132 ?_
        refine r_aload_n hX dX6_readItem_133 2 rfl rfl ?_
        refine r_iconst (v := 0) hX dX6_readItem_134 (by decide) ?_
        refine r_sipush (v := 999) hX dX6_readItem_135 (by decide) ?_
        obtain ⟨x29, u30, e31, h⟩ := zbind2_elim h
        refine r_callV (As := [.int 0, .int 999]) (rest := [.int ((6 * (u 39 21)) + 1), .ref (zad X.1 50)]) (st1 := [.int x29, .int ((6 * (u 39 21)) + 1), .ref (zad X.1 50)]) hX dX6_readItem_138 lv_RX6_267 (c_X6_number 0 999  u27 _ _ e31) (by decide) rfl rfl (zRecv.of (q := 39) (ci := 6) rfl rfl) rfl (Nat.le_of_ble_eq_true rfl) rfl ?_
        obtain ⟨u32, e33, h⟩ := zbind_elim h
        refine r_iast hX dX6_readItem_141 rfl e33 ?_
        refine r_goto (tgt := 179) hX dX6_readItem_142 (by decide) ?_
        obtain rfl := Option.some.inj h
        exact r_vret hX hR dX6_readItem_179
    · have h := (if_neg c10).symm.trans h
      refine r_aload_n hX dX6_readItem_56 2 rfl rfl ?_
      refine r_iconst (v := 1) hX dX6_readItem_57 (by decide) ?_
      obtain ⟨u34, e35, h⟩ := zbind_elim h
      refine r_callV (As := [.int 1]) (rest := []) (st1 := []) hX dX6_readItem_58 lv_RX6_245 (c_X6_must 1  u5 _ e35) (by decide) rfl rfl (zRecv.of (q := 39) (ci := 6) rfl rfl) rfl (Nat.le_of_ble_eq_true rfl) rfl ?_
      refine r_aload_n hX dX6_readItem_61 2 rfl rfl ?_
      refine r_aload_n hX dX6_readItem_62 2 rfl rfl ?_
      refine r_getR hX dX6_readItem_63 f_RX6_60 zr_39_19 ?_
      obtain ⟨x36, e37, h⟩ := zbind_elim h
      refine r_callV (As := [.ref (zad X.1 49)]) (rest := []) (st1 := [.int x36]) hX dX6_readItem_66 lv_RX6_256 (c_X6_which_2   u34 _ e37) (by decide) rfl rfl (zRecv.of (q := 39) (ci := 6) rfl rfl) rfl (Nat.le_of_ble_eq_true rfl) rfl ?_
      refine r_istore_n (y := x36) (L' := [(3, .int x36), (2, .int x1), (1, .int (6 * (u 39 21))), (0, .ref (zad X.1 39))]) hX dX6_readItem_69 rfl (by decide) rfl rfl ?_
      refine r_aload_n hX dX6_readItem_70 3 rfl rfl ?_
      refine r_iload_n hX dX6_readItem_71 0 rfl rfl ?_
      obtain ⟨x38, h39, h⟩ := zlet_elim h
      have Jh39 : zG X u34 80 [(0, .ref (zad X.1 39)), (1, .int (6 * (u 39 21))), (3, .int x36)] [.int x38, .ref (zad X.1 39)] := by
          obtain ⟨u41, e42, h⟩ := zbind_elim h
          refine r_callV (As := [.int x38]) (rest := []) (st1 := []) hX dX6_readItem_80 lv_RX6_245 (c_X6_must x38  u34 _ e42) (by decide) rfl rfl (zRecv.of (q := 39) (ci := 6) rfl rfl) rfl (Nat.le_of_ble_eq_true rfl) rfl ?_
          refine r_aload_n hX dX6_readItem_83 0 rfl rfl ?_
          refine r_getR hX dX6_readItem_84 f_RX6_63 zr_39_20 ?_
          refine r_iload_n hX dX6_readItem_87 1 rfl rfl ?_
          refine r_bipush (v := 10) hX dX6_readItem_88 (by decide) ?_
          obtain ⟨u43, e44, h⟩ := zbind_elim h
          refine r_iast hX dX6_readItem_90 rfl e44 ?_
          refine r_aload_n hX dX6_readItem_91 0 rfl rfl ?_
          refine r_getR hX dX6_readItem_92 f_RX6_63 zr_39_20 ?_
          refine r_iload_n hX dX6_readItem_95 1 rfl rfl ?_
          refine r_iconst (v := 1) hX dX6_readItem_96 (by decide) ?_
          refine r_iadd hX dX6_readItem_97 ?_
          refine r_iload_n hX dX6_readItem_98 2 rfl rfl ?_
          obtain ⟨u45, e46, h⟩ := zbind_elim h
          refine r_iast hX dX6_readItem_99 rfl e46 ?_
          refine r_goto (tgt := 179) hX dX6_readItem_100 (by decide) ?_
          obtain rfl := Option.some.inj h
          exact r_vret hX hR dX6_readItem_179
      clear h
      refine r_if_lt (tgt := 79) hX dX6_readItem_72 (by decide) (fun c40 => ?_) (fun c40 => ?_)
      · have h39 := (if_pos c40).symm.trans h39
        refine r_iconst (v := 0) hX dX6_readItem_79 (by decide) ?_
        refine r_sub [3, 2, 0] (L' := [(0, .ref (zad X.1 39)), (1, .int (6 * (u 39 21))), (3, .int x36)]) rfl ?_
        obtain rfl := h39
        exact Jh39
      · have h39 := (if_neg c40).symm.trans h39
        refine r_iconst (v := 1) hX dX6_readItem_75 (by decide) ?_
        refine r_goto (tgt := 80) hX dX6_readItem_76 (by decide) ?_
        refine r_sub [3, 2, 0] (L' := [(0, .ref (zad X.1 39)), (1, .int (6 * (u 39 21))), (3, .int x36)]) rfl ?_
        obtain rfl := h39
        exact Jh39
  · have h := (if_neg c7).symm.trans h
    refine r_aload_n hX dX6_readItem_38 2 rfl rfl ?_
    refine r_iload_n hX dX6_readItem_39 1 rfl rfl ?_
    obtain ⟨u47, e48, h⟩ := zbind_elim h
    refine r_callV (As := [.int (6 * (u 39 21))]) (rest := []) (st1 := []) hX dX6_readItem_40 lv_RX6_260 (c_X6_readBody (6 * (u 39 21))  u5 _ e48) (by decide) rfl rfl (zRecv.of (q := 39) (ci := 6) rfl rfl) rfl (Nat.le_of_ble_eq_true rfl) rfl ?_
    refine r_goto (tgt := 179) hX dX6_readItem_43 (by decide) ?_
    obtain rfl := Option.some.inj h
    exact r_vret hX hR dX6_readItem_179
