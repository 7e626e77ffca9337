/-! MODELS AND CONTRACTS, by program (wip/whole/gen_all.py): X6_next, X6_isWord, X6_which, X6_must, X6_number, X6_isSign -/
theorem dX6_next_0 : decode cX6_next 0 = .ok (.aload_n 0, 1) := by decide +kernel
theorem dX6_next_1 : decode cX6_next 1 = .ok (.aload_n 0, 1) := by decide +kernel
theorem dX6_next_2 : decode cX6_next 2 = .ok (.getfield 216, 3) := by decide +kernel
theorem dX6_next_5 : decode cX6_next 5 = .ok (.putfield 219, 3) := by decide +kernel
theorem dX6_next_8 : decode cX6_next 8 = .ok (.aload_n 0, 1) := by decide +kernel
theorem dX6_next_9 : decode cX6_next 9 = .ok (.aload_n 0, 1) := by decide +kernel
theorem dX6_next_10 : decode cX6_next 10 = .ok (.getfield 219, 3) := by decide +kernel
theorem dX6_next_13 : decode cX6_next 13 = .ok (.invokevirtual 222, 3) := by decide +kernel
theorem dX6_next_16 : decode cX6_next 16 = .ok (.bipush 32, 2) := by decide +kernel
theorem dX6_next_18 : decode cX6_next 18 = .ok (.if_icmp .ne 16, 3) := by decide +kernel
theorem dX6_next_21 : decode cX6_next 21 = .ok (.aload_n 0, 1) := by decide +kernel
theorem dX6_next_22 : decode cX6_next 22 = .ok (.dup, 1) := by decide +kernel
theorem dX6_next_23 : decode cX6_next 23 = .ok (.getfield 219, 3) := by decide +kernel
theorem dX6_next_26 : decode cX6_next 26 = .ok (.iconst 1, 1) := by decide +kernel
theorem dX6_next_27 : decode cX6_next 27 = .ok (.iadd, 1) := by decide +kernel
theorem dX6_next_28 : decode cX6_next 28 = .ok (.putfield 219, 3) := by decide +kernel
theorem dX6_next_31 : decode cX6_next 31 = .ok (.goto (-23), 3) := by decide +kernel
theorem dX6_next_34 : decode cX6_next 34 = .ok (.aload_n 0, 1) := by decide +kernel
theorem dX6_next_35 : decode cX6_next 35 = .ok (.aload_n 0, 1) := by decide +kernel
theorem dX6_next_36 : decode cX6_next 36 = .ok (.getfield 219, 3) := by decide +kernel
theorem dX6_next_39 : decode cX6_next 39 = .ok (.invokevirtual 222, 3) := by decide +kernel
theorem dX6_next_42 : decode cX6_next 42 = .ok (.istore_n 1, 1) := by decide +kernel
theorem dX6_next_43 : decode cX6_next 43 = .ok (.aload_n 0, 1) := by decide +kernel
theorem dX6_next_44 : decode cX6_next 44 = .ok (.aload_n 0, 1) := by decide +kernel
theorem dX6_next_45 : decode cX6_next 45 = .ok (.getfield 219, 3) := by decide +kernel
theorem dX6_next_48 : decode cX6_next 48 = .ok (.putfield 216, 3) := by decide +kernel
theorem dX6_next_51 : decode cX6_next 51 = .ok (.aload_n 0, 1) := by decide +kernel
theorem dX6_next_52 : decode cX6_next 52 = .ok (.iconst 0, 1) := by decide +kernel
theorem dX6_next_53 : decode cX6_next 53 = .ok (.putfield 225, 3) := by decide +kernel
theorem dX6_next_56 : decode cX6_next 56 = .ok (.iload_n 1, 1) := by decide +kernel
theorem dX6_next_57 : decode cX6_next 57 = .ok (.ifCond .ge 11, 3) := by decide +kernel
theorem dX6_next_60 : decode cX6_next 60 = .ok (.aload_n 0, 1) := by decide +kernel
theorem dX6_next_61 : decode cX6_next 61 = .ok (.iconst 0, 1) := by decide +kernel
theorem dX6_next_62 : decode cX6_next 62 = .ok (.putfield 228, 3) := by decide +kernel
theorem dX6_next_65 : decode cX6_next 65 = .ok (.goto 141, 3) := by decide +kernel
theorem dX6_next_68 : decode cX6_next 68 = .ok (.iload_n 1, 1) := by decide +kernel
theorem dX6_next_69 : decode cX6_next 69 = .ok (.bipush 97, 2) := by decide +kernel
theorem dX6_next_71 : decode cX6_next 71 = .ok (.bipush 122, 2) := by decide +kernel
theorem dX6_next_73 : decode cX6_next 73 = .ok (.invokestatic 79, 3) := by decide +kernel
theorem dX6_next_76 : decode cX6_next 76 = .ok (.ifCond .eq 39, 3) := by decide +kernel
theorem dX6_next_79 : decode cX6_next 79 = .ok (.aload_n 0, 1) := by decide +kernel
theorem dX6_next_80 : decode cX6_next 80 = .ok (.iconst 1, 1) := by decide +kernel
theorem dX6_next_81 : decode cX6_next 81 = .ok (.putfield 228, 3) := by decide +kernel
theorem dX6_next_84 : decode cX6_next 84 = .ok (.aload_n 0, 1) := by decide +kernel
theorem dX6_next_85 : decode cX6_next 85 = .ok (.aload_n 0, 1) := by decide +kernel
theorem dX6_next_86 : decode cX6_next 86 = .ok (.getfield 216, 3) := by decide +kernel
theorem dX6_next_89 : decode cX6_next 89 = .ok (.invokevirtual 222, 3) := by decide +kernel
theorem dX6_next_92 : decode cX6_next 92 = .ok (.bipush 97, 2) := by decide +kernel
theorem dX6_next_94 : decode cX6_next 94 = .ok (.bipush 122, 2) := by decide +kernel
theorem dX6_next_96 : decode cX6_next 96 = .ok (.invokestatic 79, 3) := by decide +kernel
theorem dX6_next_99 : decode cX6_next 99 = .ok (.ifCond .eq 107, 3) := by decide +kernel
theorem dX6_next_102 : decode cX6_next 102 = .ok (.aload_n 0, 1) := by decide +kernel
theorem dX6_next_103 : decode cX6_next 103 = .ok (.dup, 1) := by decide +kernel
theorem dX6_next_104 : decode cX6_next 104 = .ok (.getfield 216, 3) := by decide +kernel
theorem dX6_next_107 : decode cX6_next 107 = .ok (.iconst 1, 1) := by decide +kernel
theorem dX6_next_108 : decode cX6_next 108 = .ok (.iadd, 1) := by decide +kernel
theorem dX6_next_109 : decode cX6_next 109 = .ok (.putfield 216, 3) := by decide +kernel
theorem dX6_next_112 : decode cX6_next 112 = .ok (.goto (-28), 3) := by decide +kernel
theorem dX6_next_115 : decode cX6_next 115 = .ok (.iload_n 1, 1) := by decide +kernel
theorem dX6_next_116 : decode cX6_next 116 = .ok (.bipush 48, 2) := by decide +kernel
theorem dX6_next_118 : decode cX6_next 118 = .ok (.bipush 57, 2) := by decide +kernel
theorem dX6_next_120 : decode cX6_next 120 = .ok (.invokestatic 79, 3) := by decide +kernel
theorem dX6_next_123 : decode cX6_next 123 = .ok (.ifCond .eq 68, 3) := by decide +kernel
theorem dX6_next_126 : decode cX6_next 126 = .ok (.aload_n 0, 1) := by decide +kernel
theorem dX6_next_127 : decode cX6_next 127 = .ok (.iconst 2, 1) := by decide +kernel
theorem dX6_next_128 : decode cX6_next 128 = .ok (.putfield 228, 3) := by decide +kernel
theorem dX6_next_131 : decode cX6_next 131 = .ok (.aload_n 0, 1) := by decide +kernel
theorem dX6_next_132 : decode cX6_next 132 = .ok (.aload_n 0, 1) := by decide +kernel
theorem dX6_next_133 : decode cX6_next 133 = .ok (.getfield 216, 3) := by decide +kernel
theorem dX6_next_136 : decode cX6_next 136 = .ok (.invokevirtual 222, 3) := by decide +kernel
theorem dX6_next_139 : decode cX6_next 139 = .ok (.bipush 48, 2) := by decide +kernel
theorem dX6_next_141 : decode cX6_next 141 = .ok (.bipush 57, 2) := by decide +kernel
theorem dX6_next_143 : decode cX6_next 143 = .ok (.invokestatic 79, 3) := by decide +kernel
theorem dX6_next_146 : decode cX6_next 146 = .ok (.ifCond .eq 60, 3) := by decide +kernel
theorem dX6_next_149 : decode cX6_next 149 = .ok (.aload_n 0, 1) := by decide +kernel
theorem dX6_next_150 : decode cX6_next 150 = .ok (.sipush 1000, 3) := by decide +kernel
theorem dX6_next_153 : decode cX6_next 153 = .ok (.bipush 10, 2) := by decide +kernel
theorem dX6_next_155 : decode cX6_next 155 = .ok (.aload_n 0, 1) := by decide +kernel
theorem dX6_next_156 : decode cX6_next 156 = .ok (.getfield 225, 3) := by decide +kernel
theorem dX6_next_159 : decode cX6_next 159 = .ok (.imul, 1) := by decide +kernel
theorem dX6_next_160 : decode cX6_next 160 = .ok (.aload_n 0, 1) := by decide +kernel
theorem dX6_next_161 : decode cX6_next 161 = .ok (.aload_n 0, 1) := by decide +kernel
theorem dX6_next_162 : decode cX6_next 162 = .ok (.getfield 216, 3) := by decide +kernel
theorem dX6_next_165 : decode cX6_next 165 = .ok (.invokevirtual 222, 3) := by decide +kernel
theorem dX6_next_168 : decode cX6_next 168 = .ok (.iadd, 1) := by decide +kernel
theorem dX6_next_169 : decode cX6_next 169 = .ok (.bipush 48, 2) := by decide +kernel
theorem dX6_next_171 : decode cX6_next 171 = .ok (.isub, 1) := by decide +kernel
theorem dX6_next_172 : decode cX6_next 172 = .ok (.invokestatic 172, 3) := by decide +kernel
theorem dX6_next_175 : decode cX6_next 175 = .ok (.putfield 225, 3) := by decide +kernel
theorem dX6_next_178 : decode cX6_next 178 = .ok (.aload_n 0, 1) := by decide +kernel
theorem dX6_next_179 : decode cX6_next 179 = .ok (.dup, 1) := by decide +kernel
theorem dX6_next_180 : decode cX6_next 180 = .ok (.getfield 216, 3) := by decide +kernel
theorem dX6_next_183 : decode cX6_next 183 = .ok (.iconst 1, 1) := by decide +kernel
theorem dX6_next_184 : decode cX6_next 184 = .ok (.iadd, 1) := by decide +kernel
theorem dX6_next_185 : decode cX6_next 185 = .ok (.putfield 216, 3) := by decide +kernel
theorem dX6_next_188 : decode cX6_next 188 = .ok (.goto (-57), 3) := by decide +kernel
theorem dX6_next_191 : decode cX6_next 191 = .ok (.aload_n 0, 1) := by decide +kernel
theorem dX6_next_192 : decode cX6_next 192 = .ok (.iconst 3, 1) := by decide +kernel
theorem dX6_next_193 : decode cX6_next 193 = .ok (.putfield 228, 3) := by decide +kernel
theorem dX6_next_196 : decode cX6_next 196 = .ok (.aload_n 0, 1) := by decide +kernel
theorem dX6_next_197 : decode cX6_next 197 = .ok (.dup, 1) := by decide +kernel
theorem dX6_next_198 : decode cX6_next 198 = .ok (.getfield 216, 3) := by decide +kernel
theorem dX6_next_201 : decode cX6_next 201 = .ok (.iconst 1, 1) := by decide +kernel
theorem dX6_next_202 : decode cX6_next 202 = .ok (.iadd, 1) := by decide +kernel
theorem dX6_next_203 : decode cX6_next 203 = .ok (.putfield 216, 3) := by decide +kernel
theorem dX6_next_206 : decode cX6_next 206 = .ok (.return_, 1) := by decide +kernel
def m_X6_next_b0  (u3 : zM) : Option ((zM) ⊕ (zM)) :=
  zbind (m_X6_byteAt (u3 39 13) u3) (fun x6 => (if x6 = 32 then
zlet (zst u3 39 13 ((u3 39 13) + 1)) (fun u9 => some (.inl u9))
else
some (.inr u3)))
def m_X6_next_b1  (u26 : zM) : Option ((zM) ⊕ (zM)) :=
  zbind (m_X6_byteAt (u26 39 14) u26) (fun x29 => (if (m_X6_within x29 48 57) = 0 then
some (.inr u26)
else
zbind (m_X6_byteAt (u26 39 14) u26) (fun x32 => zlet (zst u26 39 16 (zmin 1000 (((10 * (u26 39 16)) + x32) - 48))) (fun u34 => zlet (zst u34 39 14 ((u34 39 14) + 1)) (fun u36 => some (.inl u36))))))
def m_X6_next_b2  (u40 : zM) : Option ((zM) ⊕ (zM)) :=
  zbind (m_X6_byteAt (u40 39 14) u40) (fun x43 => (if (m_X6_within x43 97 122) = 0 then
some (.inr u40)
else
zlet (zst u40 39 14 ((u40 39 14) + 1)) (fun u46 => some (.inl u46))))
def m_X6_next  (u : zM) : Option (zM) :=
  zlet (zst u 39 13 (u 39 14)) (fun u1 => zbind (zit zF (fun s : zM => m_X6_next_b0 s) u1) (fun u4 =>
zbind (m_X6_byteAt (u4 39 13) u4) (fun x11 => zlet (zst u4 39 14 (u4 39 13)) (fun u13 => zlet (zst u13 39 16 0) (fun u15 => (if 0 ≤ x11 then
(if (m_X6_within x11 97 122) = 0 then
(if (m_X6_within x11 48 57) = 0 then
zlet (zst u15 39 15 3) (fun u20 => zlet (zst u20 39 14 ((u20 39 14) + 1)) (fun u22 => some u22))
else
zlet (zst u15 39 15 2) (fun u24 => zbind (zit zF (fun s : zM => m_X6_next_b1 s) u24) (fun u27 =>
some u27)))
else
zlet (zst u15 39 15 1) (fun u38 => zbind (zit zF (fun s : zM => m_X6_next_b2 s) u38) (fun u41 =>
some u41)))
else
zlet (zst u15 39 15 0) (fun u48 => some u48)))))))
set_option maxHeartbeats 4000000 in
set_option maxRecDepth 100000 in
theorem c_X6_next    (u : zM) (u' : zM) (h : m_X6_next u = some (u')) : zCt 2 yX6_next cX6_next 2 none (fun E => [.ref (zad E 39)]) u (fun _ => none) u' := by
  refine zCt.of (by decide +kernel) (fun E => Nat.le_of_ble_eq_true rfl) (fun X hX hR => ?_)
  have hX : zGood X RX6 cX6_next 2 2 := hX
  show zG X u 0 [(0, .ref (zad X.1 39))] []
  unfold m_X6_next at h
  refine r_aload_n hX dX6_next_0 0 rfl rfl ?_
  refine r_aload_n hX dX6_next_1 0 rfl rfl ?_
  refine r_getI hX dX6_next_2 f_RX6_216 zi_39_14 ?_
  obtain ⟨u1, e2, h⟩ := zlet_elim h
  refine r_putI hX dX6_next_5 f_RX6_219 p_6_13 zi_39_13 ?_
  rw [e2]
  obtain ⟨u4, h5, h⟩ := zbind_elim h
  have Jh5 : zG X u4 34 [(0, .ref (zad X.1 39))] [] := by
      refine r_aload_n hX dX6_next_34 0 rfl rfl ?_
      refine r_aload_n hX dX6_next_35 0 rfl rfl ?_
      refine r_getI hX dX6_next_36 f_RX6_219 zi_39_13 ?_
      obtain ⟨x11, e12, h⟩ := zbind_elim h
      refine r_callV (As := [.int (u4 39 13)]) (rest := []) (st1 := [.int x11]) hX dX6_next_39 lv_RX6_222 (c_X6_byteAt (u4 39 13)  u4 _ e12) (by decide) rfl rfl (zRecv.of (q := 39) (ci := 6) rfl rfl) rfl (Nat.le_of_ble_eq_true rfl) rfl ?_
      refine r_istore_n (y := x11) (L' := [(1, .int x11), (0, .ref (zad X.1 39))]) hX dX6_next_42 rfl (by decide) rfl rfl ?_
      refine r_aload_n hX dX6_next_43 1 rfl rfl ?_
      refine r_aload_n hX dX6_next_44 1 rfl rfl ?_
      refine r_getI hX dX6_next_45 f_RX6_219 zi_39_13 ?_
      obtain ⟨u13, e14, h⟩ := zlet_elim h
      refine r_putI hX dX6_next_48 f_RX6_216 p_6_14 zi_39_14 ?_
      rw [e14]
      refine r_aload_n hX dX6_next_51 1 rfl rfl ?_
      refine r_iconst (v := 0) hX dX6_next_52 (by decide) ?_
      obtain ⟨u15, e16, h⟩ := zlet_elim h
      refine r_putI hX dX6_next_53 f_RX6_225 p_6_16 zi_39_16 ?_
      rw [e16]
      refine r_iload_n hX dX6_next_56 0 rfl rfl ?_
      refine r_if_ge (tgt := 68) hX dX6_next_57 (by decide) (fun c17 => ?_) (fun c17 => ?_)
      · have h := (if_pos c17).symm.trans h
        refine r_iload_n hX dX6_next_68 0 rfl rfl ?_
        refine r_bipush (v := 97) hX dX6_next_69 (by decide) ?_
        refine r_bipush (v := 122) hX dX6_next_71 (by decide) ?_
        refine r_callS (As := [.int x11, .int 97, .int 122]) (rest := []) (st1 := [.int (m_X6_within x11 97 122)]) hX dX6_next_73 ls_RX6_79 (c_X6_within x11 97 122  u15 _ rfl) (by decide) rfl rfl rfl (Nat.le_of_ble_eq_true rfl) rfl ?_
        refine r_if_eq (tgt := 115) hX dX6_next_76 (by decide) (fun c18 => ?_) (fun c18 => ?_)
        · have h := (if_pos c18).symm.trans h
          refine r_iload_n hX dX6_next_115 0 rfl rfl ?_
          refine r_bipush (v := 48) hX dX6_next_116 (by decide) ?_
          refine r_bipush (v := 57) hX dX6_next_118 (by decide) ?_
          refine r_callS (As := [.int x11, .int 48, .int 57]) (rest := []) (st1 := [.int (m_X6_within x11 48 57)]) hX dX6_next_120 ls_RX6_79 (c_X6_within x11 48 57  u15 _ rfl) (by decide) rfl rfl rfl (Nat.le_of_ble_eq_true rfl) rfl ?_
          refine r_if_eq (tgt := 191) hX dX6_next_123 (by decide) (fun c19 => ?_) (fun c19 => ?_)
          · have h := (if_pos c19).symm.trans h
            refine r_aload_n hX dX6_next_191 1 rfl rfl ?_
            refine r_iconst (v := 3) hX dX6_next_192 (by decide) ?_
            obtain ⟨u20, e21, h⟩ := zlet_elim h
            refine r_putI hX dX6_next_193 f_RX6_228 p_6_15 zi_39_15 ?_
            rw [e21]
            refine r_aload_n hX dX6_next_196 1 rfl rfl ?_
            refine r_dup hX dX6_next_197 rfl ?_
            refine r_getI hX dX6_next_198 f_RX6_216 zi_39_14 ?_
            refine r_iconst (v := 1) hX dX6_next_201 (by decide) ?_
            refine r_iadd hX dX6_next_202 ?_
            obtain ⟨u22, e23, h⟩ := zlet_elim h
            refine r_putI hX dX6_next_203 f_RX6_216 p_6_14 zi_39_14 ?_
            rw [e23]
            obtain rfl := Option.some.inj h
            exact r_vret hX hR dX6_next_206
          · have h := (if_neg c19).symm.trans h
            refine r_aload_n hX dX6_next_126 1 rfl rfl ?_
            refine r_iconst (v := 2) hX dX6_next_127 (by decide) ?_
            obtain ⟨u24, e25, h⟩ := zlet_elim h
            refine r_putI hX dX6_next_128 f_RX6_228 p_6_15 zi_39_15 ?_
            rw [e25]
            refine r_sub [1] (L' := [(0, .ref (zad X.1 39))]) rfl ?_
            obtain ⟨u27, h28, h⟩ := zbind_elim h
            have Jh28 : zG X u27 206 [] [] := by
                obtain rfl := Option.some.inj h
                exact r_vret hX hR dX6_next_206
            clear h
            refine zit_walk (P := fun s1 : zM => zG X s1 131 [(0, .ref (zad X.1 39))] []) ?_ zF _ h28
            clear h28
            intro s1 y1 h1b hin1 hout1
            obtain ⟨u26, es1⟩ : ∃ z, z = s1 := ⟨_, rfl⟩
            subst es1
            have h1b : m_X6_next_b1 u26 = some y1 := h1b
            unfold m_X6_next_b1 at h1b
            show zG X u26 131 [(0, .ref (zad X.1 39))] []
            refine r_aload_n hX dX6_next_131 0 rfl rfl ?_
            refine r_aload_n hX dX6_next_132 0 rfl rfl ?_
            refine r_getI hX dX6_next_133 f_RX6_216 zi_39_14 ?_
            obtain ⟨x29, e30, h1b⟩ := zbind_elim h1b
            refine r_callV (As := [.int (u26 39 14)]) (rest := []) (st1 := [.int x29]) hX dX6_next_136 lv_RX6_222 (c_X6_byteAt (u26 39 14)  u26 _ e30) (by decide) rfl rfl (zRecv.of (q := 39) (ci := 6) rfl rfl) rfl (Nat.le_of_ble_eq_true rfl) rfl ?_
            refine r_bipush (v := 48) hX dX6_next_139 (by decide) ?_
            refine r_bipush (v := 57) hX dX6_next_141 (by decide) ?_
            refine r_callS (As := [.int x29, .int 48, .int 57]) (rest := []) (st1 := [.int (m_X6_within x29 48 57)]) hX dX6_next_143 ls_RX6_79 (c_X6_within x29 48 57  u26 _ rfl) (by decide) rfl rfl rfl (Nat.le_of_ble_eq_true rfl) rfl ?_
            refine r_if_eq (tgt := 206) hX dX6_next_146 (by decide) (fun c31 => ?_) (fun c31 => ?_)
            · have h1b := (if_pos c31).symm.trans h1b
              refine r_sub [] (L' := []) rfl ?_
              have h1b := hout1 _ (Option.some.inj h1b).symm
              obtain rfl := h1b
              exact Jh28
            · have h1b := (if_neg c31).symm.trans h1b
              refine r_aload_n hX dX6_next_149 0 rfl rfl ?_
              refine r_sipush (v := 1000) hX dX6_next_150 (by decide) ?_
              refine r_bipush (v := 10) hX dX6_next_153 (by decide) ?_
              refine r_aload_n hX dX6_next_155 0 rfl rfl ?_
              refine r_getI hX dX6_next_156 f_RX6_225 zi_39_16 ?_
              refine r_imul hX dX6_next_159 ?_
              refine r_aload_n hX dX6_next_160 0 rfl rfl ?_
              refine r_aload_n hX dX6_next_161 0 rfl rfl ?_
              refine r_getI hX dX6_next_162 f_RX6_216 zi_39_14 ?_
              obtain ⟨x32, e33, h1b⟩ := zbind_elim h1b
              refine r_callV (As := [.int (u26 39 14)]) (rest := [.int (10 * (u26 39 16)), .int 1000, .ref (zad X.1 39)]) (st1 := [.int x32, .int (10 * (u26 39 16)), .int 1000, .ref (zad X.1 39)]) hX dX6_next_165 lv_RX6_222 (c_X6_byteAt (u26 39 14)  u26 _ e33) (by decide) rfl rfl (zRecv.of (q := 39) (ci := 6) rfl rfl) rfl (Nat.le_of_ble_eq_true rfl) rfl ?_
              refine r_iadd hX dX6_next_168 ?_
              refine r_bipush (v := 48) hX dX6_next_169 (by decide) ?_
              refine r_isub hX dX6_next_171 ?_
              refine r_min hX dX6_next_172 lm_RX6_172 (by decide) (Nat.le_of_ble_eq_true rfl) ?_
              obtain ⟨u34, e35, h1b⟩ := zlet_elim h1b
              refine r_putI hX dX6_next_175 f_RX6_225 p_6_16 zi_39_16 ?_
              rw [e35]
              refine r_aload_n hX dX6_next_178 0 rfl rfl ?_
              refine r_dup hX dX6_next_179 rfl ?_
              refine r_getI hX dX6_next_180 f_RX6_216 zi_39_14 ?_
              refine r_iconst (v := 1) hX dX6_next_183 (by decide) ?_
              refine r_iadd hX dX6_next_184 ?_
              obtain ⟨u36, e37, h1b⟩ := zlet_elim h1b
              refine r_putI hX dX6_next_185 f_RX6_216 p_6_14 zi_39_14 ?_
              rw [e37]
              refine r_goto (tgt := 131) hX dX6_next_188 (by decide) ?_
              exact hin1 _ (Option.some.inj h1b).symm
        · have h := (if_neg c18).symm.trans h
          refine r_aload_n hX dX6_next_79 1 rfl rfl ?_
          refine r_iconst (v := 1) hX dX6_next_80 (by decide) ?_
          obtain ⟨u38, e39, h⟩ := zlet_elim h
          refine r_putI hX dX6_next_81 f_RX6_228 p_6_15 zi_39_15 ?_
          rw [e39]
          refine r_sub [1] (L' := [(0, .ref (zad X.1 39))]) rfl ?_
          obtain ⟨u41, h42, h⟩ := zbind_elim h
          have Jh42 : zG X u41 206 [] [] := by
              obtain rfl := Option.some.inj h
              exact r_vret hX hR dX6_next_206
          clear h
          refine zit_walk (P := fun s2 : zM => zG X s2 84 [(0, .ref (zad X.1 39))] []) ?_ zF _ h42
          clear h42
          intro s2 y2 h2b hin2 hout2
          obtain ⟨u40, es2⟩ : ∃ z, z = s2 := ⟨_, rfl⟩
          subst es2
          have h2b : m_X6_next_b2 u40 = some y2 := h2b
          unfold m_X6_next_b2 at h2b
          show zG X u40 84 [(0, .ref (zad X.1 39))] []
          refine r_aload_n hX dX6_next_84 0 rfl rfl ?_
          refine r_aload_n hX dX6_next_85 0 rfl rfl ?_
          refine r_getI hX dX6_next_86 f_RX6_216 zi_39_14 ?_
          obtain ⟨x43, e44, h2b⟩ := zbind_elim h2b
          refine r_callV (As := [.int (u40 39 14)]) (rest := []) (st1 := [.int x43]) hX dX6_next_89 lv_RX6_222 (c_X6_byteAt (u40 39 14)  u40 _ e44) (by decide) rfl rfl (zRecv.of (q := 39) (ci := 6) rfl rfl) rfl (Nat.le_of_ble_eq_true rfl) rfl ?_
          refine r_bipush (v := 97) hX dX6_next_92 (by decide) ?_
          refine r_bipush (v := 122) hX dX6_next_94 (by decide) ?_
          refine r_callS (As := [.int x43, .int 97, .int 122]) (rest := []) (st1 := [.int (m_X6_within x43 97 122)]) hX dX6_next_96 ls_RX6_79 (c_X6_within x43 97 122  u40 _ rfl) (by decide) rfl rfl rfl (Nat.le_of_ble_eq_true rfl) rfl ?_
          refine r_if_eq (tgt := 206) hX dX6_next_99 (by decide) (fun c45 => ?_) (fun c45 => ?_)
          · have h2b := (if_pos c45).symm.trans h2b
            refine r_sub [] (L' := []) rfl ?_
            have h2b := hout2 _ (Option.some.inj h2b).symm
            obtain rfl := h2b
            exact Jh42
          · have h2b := (if_neg c45).symm.trans h2b
            refine r_aload_n hX dX6_next_102 0 rfl rfl ?_
            refine r_dup hX dX6_next_103 rfl ?_
            refine r_getI hX dX6_next_104 f_RX6_216 zi_39_14 ?_
            refine r_iconst (v := 1) hX dX6_next_107 (by decide) ?_
            refine r_iadd hX dX6_next_108 ?_
            obtain ⟨u46, e47, h2b⟩ := zlet_elim h2b
            refine r_putI hX dX6_next_109 f_RX6_216 p_6_14 zi_39_14 ?_
            rw [e47]
            refine r_goto (tgt := 84) hX dX6_next_112 (by decide) ?_
            exact hin2 _ (Option.some.inj h2b).symm
      · have h := (if_neg c17).symm.trans h
        refine r_aload_n hX dX6_next_60 1 rfl rfl ?_
        refine r_iconst (v := 0) hX dX6_next_61 (by decide) ?_
        obtain ⟨u48, e49, h⟩ := zlet_elim h
        refine r_putI hX dX6_next_62 f_RX6_228 p_6_15 zi_39_15 ?_
        rw [e49]
        refine r_goto (tgt := 206) hX dX6_next_65 (by decide) ?_
        obtain rfl := Option.some.inj h
        exact r_vret hX hR dX6_next_206
  clear h
  refine zit_walk (P := fun s0 : zM => zG X s0 8 [(0, .ref (zad X.1 39))] []) ?_ zF _ h5
  clear h5
  intro s0 y0 h0b hin0 hout0
  obtain ⟨u3, es0⟩ : ∃ z, z = s0 := ⟨_, rfl⟩
  subst es0
  have h0b : m_X6_next_b0 u3 = some y0 := h0b
  unfold m_X6_next_b0 at h0b
  show zG X u3 8 [(0, .ref (zad X.1 39))] []
  refine r_aload_n hX dX6_next_8 0 rfl rfl ?_
  refine r_aload_n hX dX6_next_9 0 rfl rfl ?_
  refine r_getI hX dX6_next_10 f_RX6_219 zi_39_13 ?_
  obtain ⟨x6, e7, h0b⟩ := zbind_elim h0b
  refine r_callV (As := [.int (u3 39 13)]) (rest := []) (st1 := [.int x6]) hX dX6_next_13 lv_RX6_222 (c_X6_byteAt (u3 39 13)  u3 _ e7) (by decide) rfl rfl (zRecv.of (q := 39) (ci := 6) rfl rfl) rfl (Nat.le_of_ble_eq_true rfl) rfl ?_
  refine r_bipush (v := 32) hX dX6_next_16 (by decide) ?_
  refine r_icmp_ne (tgt := 34) hX dX6_next_18 (by decide) (fun c8 => ?_) (fun c8 => ?_)
  · have h0b := (if_neg c8).symm.trans h0b
    have h0b := hout0 _ (Option.some.inj h0b).symm
    obtain rfl := h0b
    exact Jh5
  · have h0b := (if_pos c8).symm.trans h0b
    refine r_aload_n hX dX6_next_21 0 rfl rfl ?_
    refine r_dup hX dX6_next_22 rfl ?_
    refine r_getI hX dX6_next_23 f_RX6_219 zi_39_13 ?_
    refine r_iconst (v := 1) hX dX6_next_26 (by decide) ?_
    refine r_iadd hX dX6_next_27 ?_
    obtain ⟨u9, e10, h0b⟩ := zlet_elim h0b
    refine r_putI hX dX6_next_28 f_RX6_219 p_6_13 zi_39_13 ?_
    rw [e10]
    refine r_goto (tgt := 8) hX dX6_next_31 (by decide) ?_
    exact hin0 _ (Option.some.inj h0b).symm
theorem dX6_isWord_0 : decode cX6_isWord 0 = .ok (.aload_n 0, 1) := by decide +kernel
theorem dX6_isWord_1 : decode cX6_isWord 1 = .ok (.getfield 228, 3) := by decide +kernel
theorem dX6_isWord_4 : decode cX6_isWord 4 = .ok (.iconst 1, 1) := by decide +kernel
theorem dX6_isWord_5 : decode cX6_isWord 5 = .ok (.if_icmp .ne 23, 3) := by decide +kernel
theorem dX6_isWord_8 : decode cX6_isWord 8 = .ok (.aload_n 0, 1) := by decide +kernel
theorem dX6_isWord_9 : decode cX6_isWord 9 = .ok (.getfield 216, 3) := by decide +kernel
theorem dX6_isWord_12 : decode cX6_isWord 12 = .ok (.aload_n 0, 1) := by decide +kernel
theorem dX6_isWord_13 : decode cX6_isWord 13 = .ok (.getfield 219, 3) := by decide +kernel
theorem dX6_isWord_16 : decode cX6_isWord 16 = .ok (.isub, 1) := by decide +kernel
theorem dX6_isWord_17 : decode cX6_isWord 17 = .ok (.aload_n 1, 1) := by decide +kernel
theorem dX6_isWord_18 : decode cX6_isWord 18 = .ok (.invokevirtual 231, 3) := by decide +kernel
theorem dX6_isWord_21 : decode cX6_isWord 21 = .ok (.if_icmp .ne 7, 3) := by decide +kernel
theorem dX6_isWord_24 : decode cX6_isWord 24 = .ok (.iconst 1, 1) := by decide +kernel
theorem dX6_isWord_25 : decode cX6_isWord 25 = .ok (.goto 4, 3) := by decide +kernel
theorem dX6_isWord_28 : decode cX6_isWord 28 = .ok (.iconst 0, 1) := by decide +kernel
theorem dX6_isWord_29 : decode cX6_isWord 29 = .ok (.istore_n 2, 1) := by decide +kernel
theorem dX6_isWord_30 : decode cX6_isWord 30 = .ok (.iconst 0, 1) := by decide +kernel
theorem dX6_isWord_31 : decode cX6_isWord 31 = .ok (.istore_n 3, 1) := by decide +kernel
theorem dX6_isWord_32 : decode cX6_isWord 32 = .ok (.iload_n 3, 1) := by decide +kernel
theorem dX6_isWord_33 : decode cX6_isWord 33 = .ok (.aload_n 1, 1) := by decide +kernel
theorem dX6_isWord_34 : decode cX6_isWord 34 = .ok (.invokevirtual 231, 3) := by decide +kernel
theorem dX6_isWord_37 : decode cX6_isWord 37 = .ok (.if_icmp .ge 38, 3) := by decide +kernel
theorem dX6_isWord_40 : decode cX6_isWord 40 = .ok (.iload_n 2, 1) := by decide +kernel
theorem dX6_isWord_41 : decode cX6_isWord 41 = .ok (.ifCond .eq 34, 3) := by decide +kernel
theorem dX6_isWord_44 : decode cX6_isWord 44 = .ok (.aload_n 0, 1) := by decide +kernel
theorem dX6_isWord_45 : decode cX6_isWord 45 = .ok (.getfield 31, 3) := by decide +kernel
theorem dX6_isWord_48 : decode cX6_isWord 48 = .ok (.aload_n 0, 1) := by decide +kernel
theorem dX6_isWord_49 : decode cX6_isWord 49 = .ok (.getfield 219, 3) := by decide +kernel
theorem dX6_isWord_52 : decode cX6_isWord 52 = .ok (.iload_n 3, 1) := by decide +kernel
theorem dX6_isWord_53 : decode cX6_isWord 53 = .ok (.iadd, 1) := by decide +kernel
theorem dX6_isWord_54 : decode cX6_isWord 54 = .ok (.iaload, 1) := by decide +kernel
theorem dX6_isWord_55 : decode cX6_isWord 55 = .ok (.aload_n 1, 1) := by decide +kernel
theorem dX6_isWord_56 : decode cX6_isWord 56 = .ok (.iload_n 3, 1) := by decide +kernel
theorem dX6_isWord_57 : decode cX6_isWord 57 = .ok (.invokevirtual 234, 3) := by decide +kernel
theorem dX6_isWord_60 : decode cX6_isWord 60 = .ok (.if_icmp .ne 7, 3) := by decide +kernel
theorem dX6_isWord_63 : decode cX6_isWord 63 = .ok (.iconst 1, 1) := by decide +kernel
theorem dX6_isWord_64 : decode cX6_isWord 64 = .ok (.goto 4, 3) := by decide +kernel
theorem dX6_isWord_67 : decode cX6_isWord 67 = .ok (.iconst 0, 1) := by decide +kernel
theorem dX6_isWord_68 : decode cX6_isWord 68 = .ok (.istore_n 2, 1) := by decide +kernel
theorem dX6_isWord_69 : decode cX6_isWord 69 = .ok (.iinc 3 1, 3) := by decide +kernel
theorem dX6_isWord_72 : decode cX6_isWord 72 = .ok (.goto (-40), 3) := by decide +kernel
theorem dX6_isWord_75 : decode cX6_isWord 75 = .ok (.iload_n 2, 1) := by decide +kernel
theorem dX6_isWord_76 : decode cX6_isWord 76 = .ok (.ireturn, 1) := by decide +kernel
def m_X6_isWord_b0 (j0 : Nat) (u : zM) (x5 : Int32) (x6 : Int32) : Option ((Int32 × Int32) ⊕ (Int32)) :=
  (if (m_J0_length_8abf5 j0 u) ≤ x6 then
some (.inr x5)
else
(if x5 = 0 then
some (.inr x5)
else
zbind (zld u 47 120 ((u 39 13) + x6)) (fun x11 => zbind (m_J0_charAt_5068e j0 x6 u) (fun x13 => (if x11 = x13 then
some (.inl (1, (x6 + 1)))
else
some (.inl (0, (x6 + 1))))))))
def m_X6_isWord (j0 : Nat) (u : zM) : Option (Int32) :=
  zlet ((if (u 39 15) = 1 then
(if ((u 39 14) - (u 39 13)) = (m_J0_length_8abf5 j0 u) then
1
else
0)
else
0) : Int32) (fun x1 =>
zbind (zit zF (fun s : Int32 × Int32 => m_X6_isWord_b0 j0 u s.1 s.2) (x1, 0)) (fun x7 =>
some (zb x7)))
set_option maxHeartbeats 4000000 in
set_option maxRecDepth 100000 in
theorem c_X6_isWord (j0 : Nat) (hj0 : j0 < 15)  (u : zM) (r : Int32) (h : m_X6_isWord j0 u = some r) : zCt 5 yX6_isWord cX6_isWord 4 (some .boolean) (fun E => [.ref (zad E 39), .ref (zaK E j0)]) u (fun _ => some (.int r)) u := by
  refine zCt.of (by decide +kernel) (fun E => Nat.le_of_ble_eq_true rfl) (fun X hX hR => ?_)
  have hX : zGood X RX6 cX6_isWord 4 5 := hX
  show zG X u 0 [(0, .ref (zad X.1 39)), (1, .ref (zaK X.1 j0))] []
  unfold m_X6_isWord at h
  refine r_aload_n hX dX6_isWord_0 0 rfl rfl ?_
  refine r_getI hX dX6_isWord_1 f_RX6_228 zi_39_15 ?_
  refine r_iconst (v := 1) hX dX6_isWord_4 (by decide) ?_
  obtain ⟨x1, h2, h⟩ := zlet_elim h
  have Jh2 : zG X u 29 [(0, .ref (zad X.1 39)), (1, .ref (zaK X.1 j0))] [.int x1] := by
      refine r_istore_n (y := x1) (L' := [(2, .int x1), (0, .ref (zad X.1 39)), (1, .ref (zaK X.1 j0))]) hX dX6_isWord_29 rfl (by decide) rfl rfl ?_
      refine r_iconst (v := 0) hX dX6_isWord_30 (by decide) ?_
      refine r_istore_n (y := 0) (L' := [(3, .int 0), (2, .int x1), (0, .ref (zad X.1 39)), (1, .ref (zaK X.1 j0))]) hX dX6_isWord_31 rfl (by decide) rfl rfl ?_
      refine r_sub [2, 3, 1, 0] (L' := [(0, .ref (zad X.1 39)), (1, .ref (zaK X.1 j0)), (2, .int x1), (3, .int 0)]) rfl ?_
      obtain ⟨x7, h8, h⟩ := zbind_elim h
      have Jh8 : zG X u 75 [(2, .int x7)] [] := by
          refine r_iload_n hX dX6_isWord_75 0 rfl rfl ?_
          obtain rfl := Option.some.inj h
          exact r_zret hX hR dX6_isWord_76
      clear h
      refine zit_walk (P := fun s0 : Int32 × Int32 => zG X u 32 [(0, .ref (zad X.1 39)), (1, .ref (zaK X.1 j0)), (2, .int (s0.1)), (3, .int (s0.2))] []) ?_ zF _ h8
      clear h8
      intro s0 y0 h0b hin0 hout0
      obtain ⟨x5, x6⟩ := s0
      have h0b : m_X6_isWord_b0 j0 u x5 x6 = some y0 := h0b
      unfold m_X6_isWord_b0 at h0b
      show zG X u 32 [(0, .ref (zad X.1 39)), (1, .ref (zaK X.1 j0)), (2, .int x5), (3, .int x6)] []
      refine r_iload_n hX dX6_isWord_32 3 rfl rfl ?_
      refine r_aload_n hX dX6_isWord_33 1 rfl rfl ?_
      refine r_callV (As := []) (rest := [.int x6]) (st1 := [.int (m_J0_length_8abf5 j0 u), .int x6]) hX dX6_isWord_34 lv_RX6_231 (c_J0_length_8abf5 j0 hj0  u _ rfl) (by decide) rfl rfl (Or.inr ⟨j0, hj0, rfl, rfl⟩) rfl (Nat.le_of_ble_eq_true rfl) rfl ?_
      refine r_icmp_ge (tgt := 75) hX dX6_isWord_37 (by decide) (fun c9 => ?_) (fun c9 => ?_)
      · have h0b := (if_pos c9).symm.trans h0b
        refine r_sub [2] (L' := [(2, .int x5)]) rfl ?_
        have h0b := hout0 _ (Option.some.inj h0b).symm
        obtain rfl := h0b
        exact Jh8
      · have h0b := (if_neg c9).symm.trans h0b
        refine r_iload_n hX dX6_isWord_40 2 rfl rfl ?_
        refine r_if_eq (tgt := 75) hX dX6_isWord_41 (by decide) (fun c10 => ?_) (fun c10 => ?_)
        · have h0b := (if_pos c10).symm.trans h0b
          refine r_sub [2] (L' := [(2, .int x5)]) rfl ?_
          have h0b := hout0 _ (Option.some.inj h0b).symm
          obtain rfl := h0b
          exact Jh8
        · have h0b := (if_neg c10).symm.trans h0b
          refine r_aload_n hX dX6_isWord_44 0 rfl rfl ?_
          refine r_getR hX dX6_isWord_45 f_RX6_31 zr_39_11 ?_
          refine r_aload_n hX dX6_isWord_48 0 rfl rfl ?_
          refine r_getI hX dX6_isWord_49 f_RX6_219 zi_39_13 ?_
          refine r_iload_n hX dX6_isWord_52 3 rfl rfl ?_
          refine r_iadd hX dX6_isWord_53 ?_
          obtain ⟨x11, e12, h0b⟩ := zbind_elim h0b
          refine r_iald hX dX6_isWord_54 rfl e12 ?_
          refine r_aload_n hX dX6_isWord_55 1 rfl rfl ?_
          refine r_iload_n hX dX6_isWord_56 3 rfl rfl ?_
          obtain ⟨x13, e14, h0b⟩ := zbind_elim h0b
          refine r_callV (As := [.int x6]) (rest := [.int x11]) (st1 := [.int x13, .int x11]) hX dX6_isWord_57 lv_RX6_234 (c_J0_charAt_5068e j0 x6 hj0  u _ e14) (by decide) rfl rfl (Or.inr ⟨j0, hj0, rfl, rfl⟩) rfl (Nat.le_of_ble_eq_true rfl) rfl ?_
          refine r_icmp_ne (tgt := 67) hX dX6_isWord_60 (by decide) (fun c15 => ?_) (fun c15 => ?_)
          · have h0b := (if_neg c15).symm.trans h0b
            refine r_iconst (v := 0) hX dX6_isWord_67 (by decide) ?_
            refine r_istore_n (y := 0) (L' := [(2, .int 0), (0, .ref (zad X.1 39)), (1, .ref (zaK X.1 j0)), (3, .int x6)]) hX dX6_isWord_68 rfl (by decide) rfl rfl ?_
            refine r_iinc (v := (x6 + 1)) (L' := [(3, .int (x6 + 1)), (2, .int 0), (0, .ref (zad X.1 39)), (1, .ref (zaK X.1 j0))]) hX dX6_isWord_69 (by decide) 3 rfl rfl rfl ?_
            refine r_goto (tgt := 32) hX dX6_isWord_72 (by decide) ?_
            refine r_sub [2, 3, 1, 0] (L' := [(0, .ref (zad X.1 39)), (1, .ref (zaK X.1 j0)), (2, .int 0), (3, .int (x6 + 1))]) rfl ?_
            exact hin0 _ (Option.some.inj h0b).symm
          · have h0b := (if_pos c15).symm.trans h0b
            refine r_iconst (v := 1) hX dX6_isWord_63 (by decide) ?_
            refine r_goto (tgt := 68) hX dX6_isWord_64 (by decide) ?_
            refine r_istore_n (y := 1) (L' := [(2, .int 1), (0, .ref (zad X.1 39)), (1, .ref (zaK X.1 j0)), (3, .int x6)]) hX dX6_isWord_68 rfl (by decide) rfl rfl ?_
            refine r_iinc (v := (x6 + 1)) (L' := [(3, .int (x6 + 1)), (2, .int 1), (0, .ref (zad X.1 39)), (1, .ref (zaK X.1 j0))]) hX dX6_isWord_69 (by decide) 3 rfl rfl rfl ?_
            refine r_goto (tgt := 32) hX dX6_isWord_72 (by decide) ?_
            refine r_sub [2, 3, 1, 0] (L' := [(0, .ref (zad X.1 39)), (1, .ref (zaK X.1 j0)), (2, .int 1), (3, .int (x6 + 1))]) rfl ?_
            exact hin0 _ (Option.some.inj h0b).symm
  clear h
  refine r_icmp_ne (tgt := 28) hX dX6_isWord_5 (by decide) (fun c3 => ?_) (fun c3 => ?_)
  · have h2 := (if_neg c3).symm.trans h2
    refine r_iconst (v := 0) hX dX6_isWord_28 (by decide) ?_
    obtain rfl := h2
    exact Jh2
  · have h2 := (if_pos c3).symm.trans h2
    refine r_aload_n hX dX6_isWord_8 0 rfl rfl ?_
    refine r_getI hX dX6_isWord_9 f_RX6_216 zi_39_14 ?_
    refine r_aload_n hX dX6_isWord_12 0 rfl rfl ?_
    refine r_getI hX dX6_isWord_13 f_RX6_219 zi_39_13 ?_
    refine r_isub hX dX6_isWord_16 ?_
    refine r_aload_n hX dX6_isWord_17 1 rfl rfl ?_
    refine r_callV (As := []) (rest := [.int ((u 39 14) - (u 39 13))]) (st1 := [.int (m_J0_length_8abf5 j0 u), .int ((u 39 14) - (u 39 13))]) hX dX6_isWord_18 lv_RX6_231 (c_J0_length_8abf5 j0 hj0  u _ rfl) (by decide) rfl rfl (Or.inr ⟨j0, hj0, rfl, rfl⟩) rfl (Nat.le_of_ble_eq_true rfl) rfl ?_
    refine r_icmp_ne (tgt := 28) hX dX6_isWord_21 (by decide) (fun c4 => ?_) (fun c4 => ?_)
    · have h2 := (if_neg c4).symm.trans h2
      refine r_iconst (v := 0) hX dX6_isWord_28 (by decide) ?_
      obtain rfl := h2
      exact Jh2
    · have h2 := (if_pos c4).symm.trans h2
      refine r_iconst (v := 1) hX dX6_isWord_24 (by decide) ?_
      refine r_goto (tgt := 29) hX dX6_isWord_25 (by decide) ?_
      obtain rfl := h2
      exact Jh2
theorem dX6_which_0 : decode cX6_which 0 = .ok (.iconst (-1), 1) := by decide +kernel
theorem dX6_which_1 : decode cX6_which 1 = .ok (.istore_n 2, 1) := by decide +kernel
theorem dX6_which_2 : decode cX6_which 2 = .ok (.iconst 0, 1) := by decide +kernel
theorem dX6_which_3 : decode cX6_which 3 = .ok (.istore_n 3, 1) := by decide +kernel
theorem dX6_which_4 : decode cX6_which 4 = .ok (.iload_n 3, 1) := by decide +kernel
theorem dX6_which_5 : decode cX6_which 5 = .ok (.aload_n 1, 1) := by decide +kernel
theorem dX6_which_6 : decode cX6_which 6 = .ok (.arraylength, 1) := by decide +kernel
theorem dX6_which_7 : decode cX6_which 7 = .ok (.if_icmp .ge 25, 3) := by decide +kernel
theorem dX6_which_10 : decode cX6_which 10 = .ok (.aload_n 0, 1) := by decide +kernel
theorem dX6_which_11 : decode cX6_which 11 = .ok (.aload_n 1, 1) := by decide +kernel
theorem dX6_which_12 : decode cX6_which 12 = .ok (.iload_n 3, 1) := by decide +kernel
theorem dX6_which_13 : decode cX6_which 13 = .ok (.aaload, 1) := by decide +kernel
theorem dX6_which_14 : decode cX6_which 14 = .ok (.invokevirtual 249, 3) := by decide +kernel
theorem dX6_which_17 : decode cX6_which 17 = .ok (.ifCond .eq 7, 3) := by decide +kernel
theorem dX6_which_20 : decode cX6_which 20 = .ok (.iload_n 3, 1) := by decide +kernel
theorem dX6_which_21 : decode cX6_which 21 = .ok (.goto 4, 3) := by decide +kernel
theorem dX6_which_24 : decode cX6_which 24 = .ok (.iload_n 2, 1) := by decide +kernel
theorem dX6_which_25 : decode cX6_which 25 = .ok (.istore_n 2, 1) := by decide +kernel
theorem dX6_which_26 : decode cX6_which 26 = .ok (.iinc 3 1, 3) := by decide +kernel
theorem dX6_which_29 : decode cX6_which 29 = .ok (.goto (-25), 3) := by decide +kernel
theorem dX6_which_32 : decode cX6_which 32 = .ok (.iload_n 2, 1) := by decide +kernel
theorem dX6_which_33 : decode cX6_which 33 = .ok (.ireturn, 1) := by decide +kernel
def m_X6_which_b0 (u : zM) (x1 : Int32) (x2 : Int32) : Option ((Int32 × Int32) ⊕ (Int32)) :=
  (if 7 ≤ x2 then
some (.inr x1)
else
zbind (zsa 0 7 x2) (fun k6 => zbind (m_X6_isWord k6 u) (fun x8 => (if x8 = 0 then
some (.inl (x1, (x2 + 1)))
else
some (.inl (x2, (x2 + 1)))))))
def m_X6_which  (u : zM) : Option (Int32) :=
  zbind (zit zF (fun s : Int32 × Int32 => m_X6_which_b0 u s.1 s.2) ((-1), 0)) (fun x3 =>
some x3)
set_option maxHeartbeats 4000000 in
set_option maxRecDepth 100000 in
theorem c_X6_which    (u : zM) (r : Int32) (h : m_X6_which u = some r) : zCt 6 yX6_which cX6_which 4 (some .int) (fun E => [.ref (zad E 39), .ref (zad E 48)]) u (fun _ => some (.int r)) u := by
  refine zCt.of (by decide +kernel) (fun E => Nat.le_of_ble_eq_true rfl) (fun X hX hR => ?_)
  have hX : zGood X RX6 cX6_which 4 6 := hX
  show zG X u 0 [(0, .ref (zad X.1 39)), (1, .ref (zad X.1 48))] []
  unfold m_X6_which at h
  refine r_iconst (v := (-1)) hX dX6_which_0 (by decide) ?_
  refine r_istore_n (y := (-1)) (L' := [(2, .int (-1)), (0, .ref (zad X.1 39)), (1, .ref (zad X.1 48))]) hX dX6_which_1 rfl (by decide) rfl rfl ?_
  refine r_iconst (v := 0) hX dX6_which_2 (by decide) ?_
  refine r_istore_n (y := 0) (L' := [(3, .int 0), (2, .int (-1)), (0, .ref (zad X.1 39)), (1, .ref (zad X.1 48))]) hX dX6_which_3 rfl (by decide) rfl rfl ?_
  refine r_sub [2, 3, 1, 0] (L' := [(0, .ref (zad X.1 39)), (1, .ref (zad X.1 48)), (2, .int (-1)), (3, .int 0)]) rfl ?_
  obtain ⟨x3, h4, h⟩ := zbind_elim h
  have Jh4 : zG X u 32 [(2, .int x3)] [] := by
      refine r_iload_n hX dX6_which_32 0 rfl rfl ?_
      obtain rfl := Option.some.inj h
      exact r_iret hX hR dX6_which_33
  clear h
  refine zit_walk (P := fun s0 : Int32 × Int32 => zG X u 4 [(0, .ref (zad X.1 39)), (1, .ref (zad X.1 48)), (2, .int (s0.1)), (3, .int (s0.2))] []) ?_ zF _ h4
  clear h4
  intro s0 y0 h0b hin0 hout0
  obtain ⟨x1, x2⟩ := s0
  have h0b : m_X6_which_b0 u x1 x2 = some y0 := h0b
  unfold m_X6_which_b0 at h0b
  show zG X u 4 [(0, .ref (zad X.1 39)), (1, .ref (zad X.1 48)), (2, .int x1), (3, .int x2)] []
  refine r_iload_n hX dX6_which_4 3 rfl rfl ?_
  refine r_aload_n hX dX6_which_5 1 rfl rfl ?_
  refine r_alenK hX dX6_which_6 ?_
  refine r_icmp_ge (tgt := 32) hX dX6_which_7 (by decide) (fun c5 => ?_) (fun c5 => ?_)
  · have h0b := (if_pos c5).symm.trans h0b
    refine r_sub [2] (L' := [(2, .int x1)]) rfl ?_
    have h0b := hout0 _ (Option.some.inj h0b).symm
    obtain rfl := h0b
    exact Jh4
  · have h0b := (if_neg c5).symm.trans h0b
    refine r_aload_n hX dX6_which_10 0 rfl rfl ?_
    refine r_aload_n hX dX6_which_11 1 rfl rfl ?_
    refine r_iload_n hX dX6_which_12 3 rfl rfl ?_
    obtain ⟨k6, e7, h0b⟩ := zbind_elim h0b
    have hk6 : k6 < 15 := Nat.lt_of_lt_of_le (zsa_ok e7).2.2 (by decide)
    refine r_aldK hX dX6_which_13 e7 ?_
    obtain ⟨x8, e9, h0b⟩ := zbind_elim h0b
    refine r_callV (As := [.ref (zaK X.1 k6)]) (rest := []) (st1 := [.int x8]) hX dX6_which_14 lv_RX6_249 (c_X6_isWord k6 hk6  u _ e9) (by decide) rfl rfl (zRecv.of (q := 39) (ci := 6) rfl rfl) rfl (Nat.le_of_ble_eq_true rfl) rfl ?_
    refine r_if_eq (tgt := 24) hX dX6_which_17 (by decide) (fun c10 => ?_) (fun c10 => ?_)
    · have h0b := (if_pos c10).symm.trans h0b
      refine r_iload_n hX dX6_which_24 2 rfl rfl ?_
      refine r_istore_n (y := x1) (L' := [(2, .int x1), (0, .ref (zad X.1 39)), (1, .ref (zad X.1 48)), (3, .int x2)]) hX dX6_which_25 rfl (by decide) rfl rfl ?_
      refine r_iinc (v := (x2 + 1)) (L' := [(3, .int (x2 + 1)), (2, .int x1), (0, .ref (zad X.1 39)), (1, .ref (zad X.1 48))]) hX dX6_which_26 (by decide) 3 rfl rfl rfl ?_
      refine r_goto (tgt := 4) hX dX6_which_29 (by decide) ?_
      refine r_sub [2, 3, 1, 0] (L' := [(0, .ref (zad X.1 39)), (1, .ref (zad X.1 48)), (2, .int x1), (3, .int (x2 + 1))]) rfl ?_
      exact hin0 _ (Option.some.inj h0b).symm
    · have h0b := (if_neg c10).symm.trans h0b
      refine r_iload_n hX dX6_which_20 3 rfl rfl ?_
      refine r_goto (tgt := 25) hX dX6_which_21 (by decide) ?_
      refine r_istore_n (y := x2) (L' := [(2, .int x2), (0, .ref (zad X.1 39)), (1, .ref (zad X.1 48)), (3, .int x2)]) hX dX6_which_25 rfl (by decide) rfl rfl ?_
      refine r_iinc (v := (x2 + 1)) (L' := [(3, .int (x2 + 1)), (2, .int x2), (0, .ref (zad X.1 39)), (1, .ref (zad X.1 48))]) hX dX6_which_26 (by decide) 3 rfl rfl rfl ?_
      refine r_goto (tgt := 4) hX dX6_which_29 (by decide) ?_
      refine r_sub [2, 3, 1, 0] (L' := [(0, .ref (zad X.1 39)), (1, .ref (zad X.1 48)), (2, .int x2), (3, .int (x2 + 1))]) rfl ?_
      exact hin0 _ (Option.some.inj h0b).symm
theorem dX6_must_0 : decode cX6_must 0 = .ok (.aload_n 0, 1) := by decide +kernel
theorem dX6_must_1 : decode cX6_must 1 = .ok (.aload_n 0, 1) := by decide +kernel
theorem dX6_must_2 : decode cX6_must 2 = .ok (.getfield 238, 3) := by decide +kernel
theorem dX6_must_5 : decode cX6_must 5 = .ok (.ifCond .ne 7, 3) := by decide +kernel
theorem dX6_must_8 : decode cX6_must 8 = .ok (.iload_n 1, 1) := by decide +kernel
theorem dX6_must_9 : decode cX6_must 9 = .ok (.ifCond .ne 7, 3) := by decide +kernel
theorem dX6_must_12 : decode cX6_must 12 = .ok (.iconst 1, 1) := by decide +kernel
theorem dX6_must_13 : decode cX6_must 13 = .ok (.goto 4, 3) := by decide +kernel
theorem dX6_must_16 : decode cX6_must 16 = .ok (.iconst 0, 1) := by decide +kernel
theorem dX6_must_17 : decode cX6_must 17 = .ok (.putfield 238, 3) := by decide +kernel
theorem dX6_must_20 : decode cX6_must 20 = .ok (.aload_n 0, 1) := by decide +kernel
theorem dX6_must_21 : decode cX6_must 21 = .ok (.getfield 238, 3) := by decide +kernel
theorem dX6_must_24 : decode cX6_must 24 = .ok (.ifCond .ne 7, 3) := by decide +kernel
theorem dX6_must_27 : decode cX6_must 27 = .ok (.aload_n 0, 1) := by decide +kernel
theorem dX6_must_28 : decode cX6_must 28 = .ok (.invokevirtual 242, 3) := by decide +kernel
theorem dX6_must_31 : decode cX6_must 31 = .ok (.return_, 1) := by decide +kernel
def m_X6_must (a1 : Int32) (u : zM) : Option (zM) :=
  (if (u 39 17) = 0 then
(if a1 = 0 then
zlet (zst u 39 17 1) (fun u13 => (if (u13 39 17) = 0 then
zbind (m_X6_next u13) (fun u16 => some u16)
else
some u13))
else
zlet (zst u 39 17 0) (fun u8 => (if (u8 39 17) = 0 then
zbind (m_X6_next u8) (fun u11 => some u11)
else
some u8)))
else
zlet (zst u 39 17 1) (fun u2 => (if (u2 39 17) = 0 then
zbind (m_X6_next u2) (fun u5 => some u5)
else
some u2)))
set_option maxHeartbeats 4000000 in
set_option maxRecDepth 100000 in
theorem c_X6_must (a1 : Int32)   (u : zM) (u' : zM) (h : m_X6_must a1 u = some (u')) : zCt 3 yX6_must cX6_must 2 none (fun E => [.ref (zad E 39), .int a1]) u (fun _ => none) u' := by
  refine zCt.of (by decide +kernel) (fun E => Nat.le_of_ble_eq_true rfl) (fun X hX hR => ?_)
  have hX : zGood X RX6 cX6_must 2 3 := hX
  show zG X u 0 [(0, .ref (zad X.1 39)), (1, .int a1)] []
  unfold m_X6_must at h
  refine r_aload_n hX dX6_must_0 0 rfl rfl ?_
  refine r_aload_n hX dX6_must_1 0 rfl rfl ?_
  refine r_getI hX dX6_must_2 f_RX6_238 zi_39_17 ?_
  refine r_if_ne (tgt := 12) hX dX6_must_5 (by decide) (fun c1 => ?_) (fun c1 => ?_)
  · have h := (if_neg c1).symm.trans h
    refine r_iconst (v := 1) hX dX6_must_12 (by decide) ?_
    refine r_goto (tgt := 17) hX dX6_must_13 (by decide) ?_
    obtain ⟨u2, e3, h⟩ := zlet_elim h
    refine r_putZ hX dX6_must_17 f_RX6_238 p_6_17 zi_39_17 (by first | exact Or.inl rfl | exact Or.inr rfl | simp) ?_
    rw [e3]
    refine r_aload_n hX dX6_must_20 0 rfl rfl ?_
    refine r_getI hX dX6_must_21 f_RX6_238 zi_39_17 ?_
    refine r_if_ne (tgt := 31) hX dX6_must_24 (by decide) (fun c4 => ?_) (fun c4 => ?_)
    · have h := (if_neg c4).symm.trans h
      obtain rfl := Option.some.inj h
      exact r_vret hX hR dX6_must_31
    · have h := (if_pos c4).symm.trans h
      refine r_aload_n hX dX6_must_27 0 rfl rfl ?_
      obtain ⟨u5, e6, h⟩ := zbind_elim h
      refine r_callV (As := []) (rest := []) (st1 := []) hX dX6_must_28 lv_RX6_242 (c_X6_next   u2 _ e6) (by decide) rfl rfl (zRecv.of (q := 39) (ci := 6) rfl rfl) rfl (Nat.le_of_ble_eq_true rfl) rfl ?_
      obtain rfl := Option.some.inj h
      exact r_vret hX hR dX6_must_31
  · have h := (if_pos c1).symm.trans h
    refine r_iload_n hX dX6_must_8 1 rfl rfl ?_
    refine r_if_ne (tgt := 16) hX dX6_must_9 (by decide) (fun c7 => ?_) (fun c7 => ?_)
    · have h := (if_neg c7).symm.trans h
      refine r_iconst (v := 0) hX dX6_must_16 (by decide) ?_
      obtain ⟨u8, e9, h⟩ := zlet_elim h
      refine r_putZ hX dX6_must_17 f_RX6_238 p_6_17 zi_39_17 (by first | exact Or.inl rfl | exact Or.inr rfl | simp) ?_
      rw [e9]
      refine r_aload_n hX dX6_must_20 0 rfl rfl ?_
      refine r_getI hX dX6_must_21 f_RX6_238 zi_39_17 ?_
      refine r_if_ne (tgt := 31) hX dX6_must_24 (by decide) (fun c10 => ?_) (fun c10 => ?_)
      · have h := (if_neg c10).symm.trans h
        obtain rfl := Option.some.inj h
        exact r_vret hX hR dX6_must_31
      · have h := (if_pos c10).symm.trans h
        refine r_aload_n hX dX6_must_27 0 rfl rfl ?_
        obtain ⟨u11, e12, h⟩ := zbind_elim h
        refine r_callV (As := []) (rest := []) (st1 := []) hX dX6_must_28 lv_RX6_242 (c_X6_next   u8 _ e12) (by decide) rfl rfl (zRecv.of (q := 39) (ci := 6) rfl rfl) rfl (Nat.le_of_ble_eq_true rfl) rfl ?_
        obtain rfl := Option.some.inj h
        exact r_vret hX hR dX6_must_31
    · have h := (if_pos c7).symm.trans h
      refine r_iconst (v := 1) hX dX6_must_12 (by decide) ?_
      refine r_goto (tgt := 17) hX dX6_must_13 (by decide) ?_
      obtain ⟨u13, e14, h⟩ := zlet_elim h
      refine r_putZ hX dX6_must_17 f_RX6_238 p_6_17 zi_39_17 (by first | exact Or.inl rfl | exact Or.inr rfl | simp) ?_
      rw [e14]
      refine r_aload_n hX dX6_must_20 0 rfl rfl ?_
      refine r_getI hX dX6_must_21 f_RX6_238 zi_39_17 ?_
      refine r_if_ne (tgt := 31) hX dX6_must_24 (by decide) (fun c15 => ?_) (fun c15 => ?_)
      · have h := (if_neg c15).symm.trans h
        obtain rfl := Option.some.inj h
        exact r_vret hX hR dX6_must_31
      · have h := (if_pos c15).symm.trans h
        refine r_aload_n hX dX6_must_27 0 rfl rfl ?_
        obtain ⟨u16, e17, h⟩ := zbind_elim h
        refine r_callV (As := []) (rest := []) (st1 := []) hX dX6_must_28 lv_RX6_242 (c_X6_next   u13 _ e17) (by decide) rfl rfl (zRecv.of (q := 39) (ci := 6) rfl rfl) rfl (Nat.le_of_ble_eq_true rfl) rfl ?_
        obtain rfl := Option.some.inj h
        exact r_vret hX hR dX6_must_31
theorem dX6_number_0 : decode cX6_number 0 = .ok (.aload_n 0, 1) := by decide +kernel
theorem dX6_number_1 : decode cX6_number 1 = .ok (.getfield 225, 3) := by decide +kernel
theorem dX6_number_4 : decode cX6_number 4 = .ok (.istore_n 3, 1) := by decide +kernel
theorem dX6_number_5 : decode cX6_number 5 = .ok (.aload_n 0, 1) := by decide +kernel
theorem dX6_number_6 : decode cX6_number 6 = .ok (.aload_n 0, 1) := by decide +kernel
theorem dX6_number_7 : decode cX6_number 7 = .ok (.getfield 228, 3) := by decide +kernel
theorem dX6_number_10 : decode cX6_number 10 = .ok (.iconst 2, 1) := by decide +kernel
theorem dX6_number_11 : decode cX6_number 11 = .ok (.if_icmp .ne 16, 3) := by decide +kernel
theorem dX6_number_14 : decode cX6_number 14 = .ok (.iload_n 3, 1) := by decide +kernel
theorem dX6_number_15 : decode cX6_number 15 = .ok (.iload_n 1, 1) := by decide +kernel
theorem dX6_number_16 : decode cX6_number 16 = .ok (.iload_n 2, 1) := by decide +kernel
theorem dX6_number_17 : decode cX6_number 17 = .ok (.invokestatic 79, 3) := by decide +kernel
theorem dX6_number_20 : decode cX6_number 20 = .ok (.ifCond .eq 7, 3) := by decide +kernel
theorem dX6_number_23 : decode cX6_number 23 = .ok (.iconst 1, 1) := by decide +kernel
theorem dX6_number_24 : decode cX6_number 24 = .ok (.goto 4, 3) := by decide +kernel
theorem dX6_number_27 : decode cX6_number 27 = .ok (.iconst 0, 1) := by decide +kernel
theorem dX6_number_28 : decode cX6_number 28 = .ok (.invokevirtual 245, 3) := by decide +kernel
theorem dX6_number_31 : decode cX6_number 31 = .ok (.iload_n 3, 1) := by decide +kernel
theorem dX6_number_32 : decode cX6_number 32 = .ok (.ireturn, 1) := by decide +kernel
def m_X6_number (a1 : Int32) (a2 : Int32) (u : zM) : Option (Int32 × zM) :=
  (if (u 39 15) = 2 then
(if (m_X6_within (u 39 16) a1 a2) = 0 then
zbind (m_X6_must 0 u) (fun u5 => some ((u 39 16), u5))
else
zbind (m_X6_must 1 u) (fun u7 => some ((u 39 16), u7)))
else
zbind (m_X6_must 0 u) (fun u2 => some ((u 39 16), u2)))
set_option maxHeartbeats 4000000 in
set_option maxRecDepth 100000 in
theorem c_X6_number (a1 : Int32) (a2 : Int32)   (u : zM) (r : Int32) (u' : zM) (h : m_X6_number a1 a2 u = some (r, u')) : zCt 4 yX6_number cX6_number 4 (some .int) (fun E => [.ref (zad E 39), .int a1, .int a2]) u (fun _ => some (.int r)) u' := by
  refine zCt.of (by decide +kernel) (fun E => Nat.le_of_ble_eq_true rfl) (fun X hX hR => ?_)
  have hX : zGood X RX6 cX6_number 4 4 := hX
  show zG X u 0 [(0, .ref (zad X.1 39)), (1, .int a1), (2, .int a2)] []
  unfold m_X6_number at h
  refine r_aload_n hX dX6_number_0 0 rfl rfl ?_
  refine r_getI hX dX6_number_1 f_RX6_225 zi_39_16 ?_
  refine r_istore_n (y := (u 39 16)) (L' := [(3, .int (u 39 16)), (0, .ref (zad X.1 39)), (1, .int a1), (2, .int a2)]) hX dX6_number_4 rfl (by decide) rfl rfl ?_
  refine r_aload_n hX dX6_number_5 1 rfl rfl ?_
  refine r_aload_n hX dX6_number_6 1 rfl rfl ?_
  refine r_getI hX dX6_number_7 f_RX6_228 zi_39_15 ?_
  refine r_iconst (v := 2) hX dX6_number_10 (by decide) ?_
  refine r_icmp_ne (tgt := 27) hX dX6_number_11 (by decide) (fun c1 => ?_) (fun c1 => ?_)
  · have h := (if_neg c1).symm.trans h
    refine r_iconst (v := 0) hX dX6_number_27 (by decide) ?_
    obtain ⟨u2, e3, h⟩ := zbind_elim h
    refine r_callV (As := [.int 0]) (rest := []) (st1 := []) hX dX6_number_28 lv_RX6_245 (c_X6_must 0  u _ e3) (by decide) rfl rfl (zRecv.of (q := 39) (ci := 6) rfl rfl) rfl (Nat.le_of_ble_eq_true rfl) rfl ?_
    refine r_iload_n hX dX6_number_31 0 rfl rfl ?_
    obtain ⟨rfl, rfl⟩ := zinj2 (Option.some.inj h)
    exact r_iret hX hR dX6_number_32
  · have h := (if_pos c1).symm.trans h
    refine r_iload_n hX dX6_number_14 0 rfl rfl ?_
    refine r_iload_n hX dX6_number_15 2 rfl rfl ?_
    refine r_iload_n hX dX6_number_16 3 rfl rfl ?_
    refine r_callS (As := [.int (u 39 16), .int a1, .int a2]) (rest := [.ref (zad X.1 39)]) (st1 := [.int (m_X6_within (u 39 16) a1 a2), .ref (zad X.1 39)]) hX dX6_number_17 ls_RX6_79 (c_X6_within (u 39 16) a1 a2  u _ rfl) (by decide) rfl rfl rfl (Nat.le_of_ble_eq_true rfl) rfl ?_
    refine r_if_eq (tgt := 27) hX dX6_number_20 (by decide) (fun c4 => ?_) (fun c4 => ?_)
    · have h := (if_pos c4).symm.trans h
      refine r_iconst (v := 0) hX dX6_number_27 (by decide) ?_
      obtain ⟨u5, e6, h⟩ := zbind_elim h
      refine r_callV (As := [.int 0]) (rest := []) (st1 := []) hX dX6_number_28 lv_RX6_245 (c_X6_must 0  u _ e6) (by decide) rfl rfl (zRecv.of (q := 39) (ci := 6) rfl rfl) rfl (Nat.le_of_ble_eq_true rfl) rfl ?_
      refine r_iload_n hX dX6_number_31 0 rfl rfl ?_
      obtain ⟨rfl, rfl⟩ := zinj2 (Option.some.inj h)
      exact r_iret hX hR dX6_number_32
    · have h := (if_neg c4).symm.trans h
      refine r_iconst (v := 1) hX dX6_number_23 (by decide) ?_
      refine r_goto (tgt := 28) hX dX6_number_24 (by decide) ?_
      obtain ⟨u7, e8, h⟩ := zbind_elim h
      refine r_callV (As := [.int 1]) (rest := []) (st1 := []) hX dX6_number_28 lv_RX6_245 (c_X6_must 1  u _ e8) (by decide) rfl rfl (zRecv.of (q := 39) (ci := 6) rfl rfl) rfl (Nat.le_of_ble_eq_true rfl) rfl ?_
      refine r_iload_n hX dX6_number_31 0 rfl rfl ?_
      obtain ⟨rfl, rfl⟩ := zinj2 (Option.some.inj h)
      exact r_iret hX hR dX6_number_32
theorem dX6_isSign_0 : decode cX6_isSign 0 = .ok (.aload_n 0, 1) := by decide +kernel
theorem dX6_isSign_1 : decode cX6_isSign 1 = .ok (.getfield 238, 3) := by decide +kernel
theorem dX6_isSign_4 : decode cX6_isSign 4 = .ok (.ifCond .ne 28, 3) := by decide +kernel
theorem dX6_isSign_7 : decode cX6_isSign 7 = .ok (.aload_n 0, 1) := by decide +kernel
theorem dX6_isSign_8 : decode cX6_isSign 8 = .ok (.getfield 228, 3) := by decide +kernel
theorem dX6_isSign_11 : decode cX6_isSign 11 = .ok (.iconst 3, 1) := by decide +kernel
theorem dX6_isSign_12 : decode cX6_isSign 12 = .ok (.if_icmp .ne 20, 3) := by decide +kernel
theorem dX6_isSign_15 : decode cX6_isSign 15 = .ok (.aload_n 0, 1) := by decide +kernel
theorem dX6_isSign_16 : decode cX6_isSign 16 = .ok (.getfield 31, 3) := by decide +kernel
theorem dX6_isSign_19 : decode cX6_isSign 19 = .ok (.aload_n 0, 1) := by decide +kernel
theorem dX6_isSign_20 : decode cX6_isSign 20 = .ok (.getfield 219, 3) := by decide +kernel
theorem dX6_isSign_23 : decode cX6_isSign 23 = .ok (.iaload, 1) := by decide +kernel
theorem dX6_isSign_24 : decode cX6_isSign 24 = .ok (.iload_n 1, 1) := by decide +kernel
theorem dX6_isSign_25 : decode cX6_isSign 25 = .ok (.if_icmp .ne 7, 3) := by decide +kernel
theorem dX6_isSign_28 : decode cX6_isSign 28 = .ok (.iconst 1, 1) := by decide +kernel
theorem dX6_isSign_29 : decode cX6_isSign 29 = .ok (.goto 4, 3) := by decide +kernel
theorem dX6_isSign_32 : decode cX6_isSign 32 = .ok (.iconst 0, 1) := by decide +kernel
theorem dX6_isSign_33 : decode cX6_isSign 33 = .ok (.ireturn, 1) := by decide +kernel
def m_X6_isSign (a1 : Int32) (u : zM) : Option (Int32) :=
  (if (u 39 17) = 0 then
(if (u 39 15) = 3 then
zbind (zld u 47 120 (u 39 13)) (fun x3 => (if x3 = a1 then
some 1
else
some 0))
else
some 0)
else
some 0)
set_option maxHeartbeats 4000000 in
set_option maxRecDepth 100000 in
theorem c_X6_isSign (a1 : Int32)   (u : zM) (r : Int32) (h : m_X6_isSign a1 u = some r) : zCt 1 yX6_isSign cX6_isSign 2 (some .boolean) (fun E => [.ref (zad E 39), .int a1]) u (fun _ => some (.int r)) u := by
  refine zCt.of (by decide +kernel) (fun E => Nat.le_of_ble_eq_true rfl) (fun X hX hR => ?_)
  have hX : zGood X RX6 cX6_isSign 2 1 := hX
  show zG X u 0 [(0, .ref (zad X.1 39)), (1, .int a1)] []
  unfold m_X6_isSign at h
  refine r_aload_n hX dX6_isSign_0 0 rfl rfl ?_
  refine r_getI hX dX6_isSign_1 f_RX6_238 zi_39_17 ?_
  refine r_if_ne (tgt := 32) hX dX6_isSign_4 (by decide) (fun c1 => ?_) (fun c1 => ?_)
  · have h := (if_neg c1).symm.trans h
    refine r_iconst (v := 0) hX dX6_isSign_32 (by decide) ?_
    obtain rfl := Option.some.inj h
    exact r_zret0 hX hR dX6_isSign_33
  · have h := (if_pos c1).symm.trans h
    refine r_aload_n hX dX6_isSign_7 0 rfl rfl ?_
    refine r_getI hX dX6_isSign_8 f_RX6_228 zi_39_15 ?_
    refine r_iconst (v := 3) hX dX6_isSign_11 (by decide) ?_
    refine r_icmp_ne (tgt := 32) hX dX6_isSign_12 (by decide) (fun c2 => ?_) (fun c2 => ?_)
    · have h := (if_neg c2).symm.trans h
      refine r_iconst (v := 0) hX dX6_isSign_32 (by decide) ?_
      obtain rfl := Option.some.inj h
      exact r_zret0 hX hR dX6_isSign_33
    · have h := (if_pos c2).symm.trans h
      refine r_aload_n hX dX6_isSign_15 0 rfl rfl ?_
      refine r_getR hX dX6_isSign_16 f_RX6_31 zr_39_11 ?_
      refine r_aload_n hX dX6_isSign_19 0 rfl rfl ?_
      refine r_getI hX dX6_isSign_20 f_RX6_219 zi_39_13 ?_
      obtain ⟨x3, e4, h⟩ := zbind_elim h
      refine r_iald hX dX6_isSign_23 rfl e4 ?_
      refine r_iload_n hX dX6_isSign_24 1 rfl rfl ?_
      refine r_icmp_ne (tgt := 32) hX dX6_isSign_25 (by decide) (fun c5 => ?_) (fun c5 => ?_)
      · have h := (if_neg c5).symm.trans h
        refine r_iconst (v := 0) hX dX6_isSign_32 (by decide) ?_
        obtain rfl := Option.some.inj h
        exact r_zret0 hX hR dX6_isSign_33
      · have h := (if_pos c5).symm.trans h
        refine r_iconst (v := 1) hX dX6_isSign_28 (by decide) ?_
        refine r_goto (tgt := 33) hX dX6_isSign_29 (by decide) ?_
        obtain rfl := Option.some.inj h
        exact r_zret1 hX hR dX6_isSign_33
