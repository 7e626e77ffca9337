/-! MODELS AND CONTRACTS, by program (wip/whole/gen_all.py): X6_copy, X6_load -/
theorem dX6_copy_0 : decode cX6_copy 0 = .ok (.iload_n 1, 1) := by decide +kernel
theorem dX6_copy_1 : decode cX6_copy 1 = .ok (.invokestatic 293, 3) := by decide +kernel
theorem dX6_copy_4 : decode cX6_copy 4 = .ok (.ifCond .eq 10, 3) := by decide +kernel
theorem dX6_copy_7 : decode cX6_copy 7 = .ok (.iload_n 3, 1) := by decide +kernel
theorem dX6_copy_8 : decode cX6_copy 8 = .ok (.invokestatic 293, 3) := by decide +kernel
theorem dX6_copy_11 : decode cX6_copy 11 = .ok (.ifCond .ne 10, 3) := by decide +kernel
theorem dX6_copy_14 : decode cX6_copy 14 = .ok (.aload_n 0, 1) := by decide +kernel
theorem dX6_copy_15 : decode cX6_copy 15 = .ok (.ldc 78, 2) := by decide +kernel
theorem dX6_copy_17 : decode cX6_copy 17 = .ok (.invokevirtual 83, 3) := by decide +kernel
theorem dX6_copy_20 : decode cX6_copy 20 = .ok (.ireturn, 1) := by decide +kernel
theorem dX6_copy_21 : decode cX6_copy 21 = .ok (.aload_n 0, 1) := by decide +kernel
theorem dX6_copy_22 : decode cX6_copy 22 = .ok (.getfield 66, 3) := by decide +kernel
theorem dX6_copy_25 : decode cX6_copy 25 = .ok (.iload_n 1, 1) := by decide +kernel
theorem dX6_copy_26 : decode cX6_copy 26 = .ok (.iaload, 1) := by decide +kernel
theorem dX6_copy_27 : decode cX6_copy 27 = .ok (.ifCond .eq 12, 3) := by decide +kernel
theorem dX6_copy_30 : decode cX6_copy 30 = .ok (.aload_n 0, 1) := by decide +kernel
theorem dX6_copy_31 : decode cX6_copy 31 = .ok (.getfield 66, 3) := by decide +kernel
theorem dX6_copy_34 : decode cX6_copy 34 = .ok (.iload_n 3, 1) := by decide +kernel
theorem dX6_copy_35 : decode cX6_copy 35 = .ok (.iaload, 1) := by decide +kernel
theorem dX6_copy_36 : decode cX6_copy 36 = .ok (.ifCond .ne 11, 3) := by decide +kernel
theorem dX6_copy_39 : decode cX6_copy 39 = .ok (.aload_n 0, 1) := by decide +kernel
theorem dX6_copy_40 : decode cX6_copy 40 = .ok (.ldc_w 288, 3) := by decide +kernel
theorem dX6_copy_43 : decode cX6_copy 43 = .ok (.invokevirtual 83, 3) := by decide +kernel
theorem dX6_copy_46 : decode cX6_copy 46 = .ok (.ireturn, 1) := by decide +kernel
theorem dX6_copy_47 : decode cX6_copy 47 = .ok (.aload_n 0, 1) := by decide +kernel
theorem dX6_copy_48 : decode cX6_copy 48 = .ok (.getfield 66, 3) := by decide +kernel
theorem dX6_copy_51 : decode cX6_copy 51 = .ok (.iload_n 1, 1) := by decide +kernel
theorem dX6_copy_52 : decode cX6_copy 52 = .ok (.iaload, 1) := by decide +kernel
theorem dX6_copy_53 : decode cX6_copy 53 = .ok (.aload_n 0, 1) := by decide +kernel
theorem dX6_copy_54 : decode cX6_copy 54 = .ok (.getfield 66, 3) := by decide +kernel
theorem dX6_copy_57 : decode cX6_copy 57 = .ok (.iload_n 3, 1) := by decide +kernel
theorem dX6_copy_58 : decode cX6_copy 58 = .ok (.iaload, 1) := by decide +kernel
theorem dX6_copy_59 : decode cX6_copy 59 = .ok (.if_icmp .eq 11, 3) := by decide +kernel
theorem dX6_copy_62 : decode cX6_copy 62 = .ok (.aload_n 0, 1) := by decide +kernel
theorem dX6_copy_63 : decode cX6_copy 63 = .ok (.ldc_w 292, 3) := by decide +kernel
theorem dX6_copy_66 : decode cX6_copy 66 = .ok (.invokevirtual 83, 3) := by decide +kernel
theorem dX6_copy_69 : decode cX6_copy 69 = .ok (.ireturn, 1) := by decide +kernel
theorem dX6_copy_70 : decode cX6_copy 70 = .ok (.iload_n 2, 1) := by decide +kernel
theorem dX6_copy_71 : decode cX6_copy 71 = .ok (.ifCond .lt 48, 3) := by decide +kernel
theorem dX6_copy_74 : decode cX6_copy 74 = .ok (.iload 4, 2) := by decide +kernel
theorem dX6_copy_76 : decode cX6_copy 76 = .ok (.ifCond .lt 43, 3) := by decide +kernel
theorem dX6_copy_79 : decode cX6_copy 79 = .ok (.iload 5, 2) := by decide +kernel
theorem dX6_copy_81 : decode cX6_copy 81 = .ok (.ifCond .lt 38, 3) := by decide +kernel
theorem dX6_copy_84 : decode cX6_copy 84 = .ok (.iload_n 2, 1) := by decide +kernel
theorem dX6_copy_85 : decode cX6_copy 85 = .ok (.i2l, 1) := by decide +kernel
theorem dX6_copy_86 : decode cX6_copy 86 = .ok (.iload 5, 2) := by decide +kernel
theorem dX6_copy_88 : decode cX6_copy 88 = .ok (.i2l, 1) := by decide +kernel
theorem dX6_copy_89 : decode cX6_copy 89 = .ok (.ladd, 1) := by decide +kernel
theorem dX6_copy_90 : decode cX6_copy 90 = .ok (.aload_n 0, 1) := by decide +kernel
theorem dX6_copy_91 : decode cX6_copy 91 = .ok (.getfield 69, 3) := by decide +kernel
theorem dX6_copy_94 : decode cX6_copy 94 = .ok (.iload_n 1, 1) := by decide +kernel
theorem dX6_copy_95 : decode cX6_copy 95 = .ok (.iaload, 1) := by decide +kernel
theorem dX6_copy_96 : decode cX6_copy 96 = .ok (.i2l, 1) := by decide +kernel
theorem dX6_copy_97 : decode cX6_copy 97 = .ok (.lcmp, 1) := by decide +kernel
theorem dX6_copy_98 : decode cX6_copy 98 = .ok (.ifCond .gt 21, 3) := by decide +kernel
theorem dX6_copy_101 : decode cX6_copy 101 = .ok (.iload 4, 2) := by decide +kernel
theorem dX6_copy_103 : decode cX6_copy 103 = .ok (.i2l, 1) := by decide +kernel
theorem dX6_copy_104 : decode cX6_copy 104 = .ok (.iload 5, 2) := by decide +kernel
theorem dX6_copy_106 : decode cX6_copy 106 = .ok (.i2l, 1) := by decide +kernel
theorem dX6_copy_107 : decode cX6_copy 107 = .ok (.ladd, 1) := by decide +kernel
theorem dX6_copy_108 : decode cX6_copy 108 = .ok (.aload_n 0, 1) := by decide +kernel
theorem dX6_copy_109 : decode cX6_copy 109 = .ok (.getfield 69, 3) := by decide +kernel
theorem dX6_copy_112 : decode cX6_copy 112 = .ok (.iload_n 3, 1) := by decide +kernel
theorem dX6_copy_113 : decode cX6_copy 113 = .ok (.iaload, 1) := by decide +kernel
theorem dX6_copy_114 : decode cX6_copy 114 = .ok (.i2l, 1) := by decide +kernel
theorem dX6_copy_115 : decode cX6_copy 115 = .ok (.lcmp, 1) := by decide +kernel
theorem dX6_copy_116 : decode cX6_copy 116 = .ok (.ifCond .le 10, 3) := by decide +kernel
theorem dX6_copy_119 : decode cX6_copy 119 = .ok (.aload_n 0, 1) := by decide +kernel
theorem dX6_copy_120 : decode cX6_copy 120 = .ok (.ldc 78, 2) := by decide +kernel
theorem dX6_copy_122 : decode cX6_copy 122 = .ok (.invokevirtual 83, 3) := by decide +kernel
theorem dX6_copy_125 : decode cX6_copy 125 = .ok (.ireturn, 1) := by decide +kernel
theorem dX6_copy_126 : decode cX6_copy 126 = .ok (.iconst 0, 1) := by decide +kernel
theorem dX6_copy_127 : decode cX6_copy 127 = .ok (.istore 6, 2) := by decide +kernel
theorem dX6_copy_129 : decode cX6_copy 129 = .ok (.iload 6, 2) := by decide +kernel
theorem dX6_copy_131 : decode cX6_copy 131 = .ok (.iload 5, 2) := by decide +kernel
theorem dX6_copy_133 : decode cX6_copy 133 = .ok (.if_icmp .ge 30, 3) := by decide +kernel
theorem dX6_copy_136 : decode cX6_copy 136 = .ok (.aload_n 0, 1) := by decide +kernel
theorem dX6_copy_137 : decode cX6_copy 137 = .ok (.getfield 75, 3) := by decide +kernel
theorem dX6_copy_140 : decode cX6_copy 140 = .ok (.iload 6, 2) := by decide +kernel
theorem dX6_copy_142 : decode cX6_copy 142 = .ok (.aload_n 0, 1) := by decide +kernel
theorem dX6_copy_143 : decode cX6_copy 143 = .ok (.getfield 72, 3) := by decide +kernel
theorem dX6_copy_146 : decode cX6_copy 146 = .ok (.bipush 40, 2) := by decide +kernel
theorem dX6_copy_148 : decode cX6_copy 148 = .ok (.iload_n 1, 1) := by decide +kernel
theorem dX6_copy_149 : decode cX6_copy 149 = .ok (.imul, 1) := by decide +kernel
theorem dX6_copy_150 : decode cX6_copy 150 = .ok (.iload_n 2, 1) := by decide +kernel
theorem dX6_copy_151 : decode cX6_copy 151 = .ok (.iadd, 1) := by decide +kernel
theorem dX6_copy_152 : decode cX6_copy 152 = .ok (.iload 6, 2) := by decide +kernel
theorem dX6_copy_154 : decode cX6_copy 154 = .ok (.iadd, 1) := by decide +kernel
theorem dX6_copy_155 : decode cX6_copy 155 = .ok (.iaload, 1) := by decide +kernel
theorem dX6_copy_156 : decode cX6_copy 156 = .ok (.iastore, 1) := by decide +kernel
theorem dX6_copy_157 : decode cX6_copy 157 = .ok (.iinc 6 1, 3) := by decide +kernel
theorem dX6_copy_160 : decode cX6_copy 160 = .ok (.goto (-31), 3) := by decide +kernel
theorem dX6_copy_163 : decode cX6_copy 163 = .ok (.iconst 0, 1) := by decide +kernel
theorem dX6_copy_164 : decode cX6_copy 164 = .ok (.istore 6, 2) := by decide +kernel
theorem dX6_copy_166 : decode cX6_copy 166 = .ok (.iload 6, 2) := by decide +kernel
theorem dX6_copy_168 : decode cX6_copy 168 = .ok (.iload 5, 2) := by decide +kernel
theorem dX6_copy_170 : decode cX6_copy 170 = .ok (.if_icmp .ge 31, 3) := by decide +kernel
theorem dX6_copy_173 : decode cX6_copy 173 = .ok (.aload_n 0, 1) := by decide +kernel
theorem dX6_copy_174 : decode cX6_copy 174 = .ok (.getfield 72, 3) := by decide +kernel
theorem dX6_copy_177 : decode cX6_copy 177 = .ok (.bipush 40, 2) := by decide +kernel
theorem dX6_copy_179 : decode cX6_copy 179 = .ok (.iload_n 3, 1) := by decide +kernel
theorem dX6_copy_180 : decode cX6_copy 180 = .ok (.imul, 1) := by decide +kernel
theorem dX6_copy_181 : decode cX6_copy 181 = .ok (.iload 4, 2) := by decide +kernel
theorem dX6_copy_183 : decode cX6_copy 183 = .ok (.iadd, 1) := by decide +kernel
theorem dX6_copy_184 : decode cX6_copy 184 = .ok (.iload 6, 2) := by decide +kernel
theorem dX6_copy_186 : decode cX6_copy 186 = .ok (.iadd, 1) := by decide +kernel
theorem dX6_copy_187 : decode cX6_copy 187 = .ok (.aload_n 0, 1) := by decide +kernel
theorem dX6_copy_188 : decode cX6_copy 188 = .ok (.getfield 75, 3) := by decide +kernel
theorem dX6_copy_191 : decode cX6_copy 191 = .ok (.iload 6, 2) := by decide +kernel
theorem dX6_copy_193 : decode cX6_copy 193 = .ok (.iaload, 1) := by decide +kernel
theorem dX6_copy_194 : decode cX6_copy 194 = .ok (.iastore, 1) := by decide +kernel
theorem dX6_copy_195 : decode cX6_copy 195 = .ok (.iinc 6 1, 3) := by decide +kernel
theorem dX6_copy_198 : decode cX6_copy 198 = .ok (.goto (-32), 3) := by decide +kernel
theorem dX6_copy_201 : decode cX6_copy 201 = .ok (.iload 5, 2) := by decide +kernel
theorem dX6_copy_203 : decode cX6_copy 203 = .ok (.ireturn, 1) := by decide +kernel
def m_X6_copy_b0 (a5 : Int32) (a1 : Int32) (a2 : Int32) (x41 : Int32) (u42 : zM) : Option ((Int32 × zM) ⊕ (zM)) :=
  (if a5 ≤ x41 then
some (.inr u42)
else
zbind (zld u42 53 160 (((40 * a1) + a2) + x41)) (fun x46 => zbind (zsv u42 54 40 x41 x46) (fun u48 => some (.inl ((x41 + 1), u48)))))
def m_X6_copy_b1 (a5 : Int32) (a3 : Int32) (a4 : Int32) (x50 : Int32) (u51 : zM) : Option ((Int32 × zM) ⊕ (zM)) :=
  (if a5 ≤ x50 then
some (.inr u51)
else
zbind (zld u51 54 40 x50) (fun x55 => zbind (zsv u51 53 160 (((40 * a3) + a4) + x50) x55) (fun u57 => some (.inl ((x50 + 1), u57)))))
def m_X6_copy (a1 : Int32) (a2 : Int32) (a3 : Int32) (a4 : Int32) (a5 : Int32) (u : zM) : Option (Int32 × zM) :=
  (if (m_X6_isSheet a1) = 0 then
zbind2 (m_X6_finding (-1000001) u) (fun x2 u3 => some (x2, u3))
else
(if (m_X6_isSheet a3) = 0 then
zbind2 (m_X6_finding (-1000001) u) (fun x68 u69 => some (x68, u69))
else
zbind (zld u 51 4 a1) (fun x6 => (if x6 = 0 then
zbind2 (m_X6_finding (-1000006) u) (fun x9 u10 => some (x9, u10))
else
zbind (zld u 51 4 a3) (fun x12 => (if x12 = 0 then
zbind2 (m_X6_finding (-1000006) u) (fun x65 u66 => some (x65, u66))
else
zbind (zld u 51 4 a1) (fun x15 => zbind (zld u 51 4 a3) (fun x17 => (if x15 = x17 then
(if a2 < 0 then
zbind2 (m_X6_finding (-1000001) u) (fun x21 u22 => some (x21, u22))
else
(if a4 < 0 then
zbind2 (m_X6_finding (-1000001) u) (fun x25 u26 => some (x25, u26))
else
(if a5 < 0 then
zbind2 (m_X6_finding (-1000001) u) (fun x29 u30 => some (x29, u30))
else
zbind (zld u 52 4 a1) (fun x32 => (if 0 < (lg_cmp ((Int32.toInt64 a2) + (Int32.toInt64 a5)) (Int32.toInt64 x32)) then
zbind2 (m_X6_finding (-1000001) u) (fun x35 u36 => some (x35, u36))
else
zbind (zld u 52 4 a3) (fun x38 => (if (lg_cmp ((Int32.toInt64 a4) + (Int32.toInt64 a5)) (Int32.toInt64 x38)) ≤ 0 then
zbind (zit zF (fun s : Int32 × zM => m_X6_copy_b0 a5 a1 a2 s.1 s.2) (0, u)) (fun u43 =>
zbind (zit zF (fun s : Int32 × zM => m_X6_copy_b1 a5 a3 a4 s.1 s.2) (0, u43)) (fun u52 =>
some (a5, u52)))
else
zbind2 (m_X6_finding (-1000001) u) (fun x59 u60 => some (x59, u60)))))))))
else
zbind2 (m_X6_finding (-1000003) u) (fun x62 u63 => some (x62, u63)))))))))))
set_option maxHeartbeats 4000000 in
set_option maxRecDepth 100000 in
theorem c_X6_copy (a1 : Int32) (a2 : Int32) (a3 : Int32) (a4 : Int32) (a5 : Int32)   (u : zM) (r : Int32) (u' : zM) (h : m_X6_copy a1 a2 a3 a4 a5 u = some (r, u')) : zCt 3 yX6_copy cX6_copy 7 (some .int) (fun E => [.ref (zad E 39), .int a1, .int a2, .int a3, .int a4, .int a5]) u (fun _ => some (.int r)) u' := by
  refine zCt.of (by decide +kernel) (fun E => Nat.le_of_ble_eq_true rfl) (fun X hX hR => ?_)
  have hX : zGood X RX6 cX6_copy 7 3 := hX
  show zG X u 0 [(0, .ref (zad X.1 39)), (1, .int a1), (2, .int a2), (3, .int a3), (4, .int a4), (5, .int a5)] []
  unfold m_X6_copy at h
  refine r_iload_n hX dX6_copy_0 1 rfl rfl ?_
  refine r_callS (As := [.int a1]) (rest := []) (st1 := [.int (m_X6_isSheet a1)]) hX dX6_copy_1 ls_RX6_293 (c_X6_isSheet a1  u _ rfl) (by decide) rfl rfl rfl (Nat.le_of_ble_eq_true rfl) rfl ?_
  refine r_if_eq (tgt := 14) hX dX6_copy_4 (by decide) (fun c1 => ?_) (fun c1 => ?_)
  · have h := (if_pos c1).symm.trans h
    refine r_aload_n hX dX6_copy_14 0 rfl rfl ?_
    refine r_ldc (v := (-1000001)) hX dX6_copy_15 (zT_in 1041 (by decide +kernel) rfl) ?_
    obtain ⟨x2, u3, e4, h⟩ := zbind2_elim h
    refine r_callV (As := [.int (-1000001)]) (rest := []) (st1 := [.int x2]) hX dX6_copy_17 lv_RX6_83 (c_X6_finding (-1000001)  u _ _ e4) (by decide) rfl rfl (zRecv.of (q := 39) (ci := 6) rfl rfl) rfl (Nat.le_of_ble_eq_true rfl) rfl ?_
    obtain ⟨rfl, rfl⟩ := zinj2 (Option.some.inj h)
    exact r_iret hX hR dX6_copy_20
  · have h := (if_neg c1).symm.trans h
    refine r_iload_n hX dX6_copy_7 3 rfl rfl ?_
    refine r_callS (As := [.int a3]) (rest := []) (st1 := [.int (m_X6_isSheet a3)]) hX dX6_copy_8 ls_RX6_293 (c_X6_isSheet a3  u _ rfl) (by decide) rfl rfl rfl (Nat.le_of_ble_eq_true rfl) rfl ?_
    refine r_if_ne (tgt := 21) hX dX6_copy_11 (by decide) (fun c5 => ?_) (fun c5 => ?_)
    · have h := (if_neg c5).symm.trans h
      refine r_aload_n hX dX6_copy_21 0 rfl rfl ?_
      refine r_getR hX dX6_copy_22 f_RX6_66 zr_39_23 ?_
      refine r_iload_n hX dX6_copy_25 1 rfl rfl ?_
      obtain ⟨x6, e7, h⟩ := zbind_elim h
      refine r_iald hX dX6_copy_26 rfl e7 ?_
      refine r_if_eq (tgt := 39) hX dX6_copy_27 (by decide) (fun c8 => ?_) (fun c8 => ?_)
      · have h := (if_pos c8).symm.trans h
        refine r_aload_n hX dX6_copy_39 0 rfl rfl ?_
        refine r_ldcw (v := (-1000006)) hX dX6_copy_40 (zT_in 1367 (by decide +kernel) rfl) ?_
        obtain ⟨x9, u10, e11, h⟩ := zbind2_elim h
        refine r_callV (As := [.int (-1000006)]) (rest := []) (st1 := [.int x9]) hX dX6_copy_43 lv_RX6_83 (c_X6_finding (-1000006)  u _ _ e11) (by decide) rfl rfl (zRecv.of (q := 39) (ci := 6) rfl rfl) rfl (Nat.le_of_ble_eq_true rfl) rfl ?_
        obtain ⟨rfl, rfl⟩ := zinj2 (Option.some.inj h)
        exact r_iret hX hR dX6_copy_46
      · have h := (if_neg c8).symm.trans h
        refine r_aload_n hX dX6_copy_30 0 rfl rfl ?_
        refine r_getR hX dX6_copy_31 f_RX6_66 zr_39_23 ?_
        refine r_iload_n hX dX6_copy_34 3 rfl rfl ?_
        obtain ⟨x12, e13, h⟩ := zbind_elim h
        refine r_iald hX dX6_copy_35 rfl e13 ?_
        refine r_if_ne (tgt := 47) hX dX6_copy_36 (by decide) (fun c14 => ?_) (fun c14 => ?_)
        · have h := (if_neg c14).symm.trans h
          refine r_aload_n hX dX6_copy_47 0 rfl rfl ?_
          refine r_getR hX dX6_copy_48 f_RX6_66 zr_39_23 ?_
          refine r_iload_n hX dX6_copy_51 1 rfl rfl ?_
          obtain ⟨x15, e16, h⟩ := zbind_elim h
          refine r_iald hX dX6_copy_52 rfl e16 ?_
          refine r_aload_n hX dX6_copy_53 0 rfl rfl ?_
          refine r_getR hX dX6_copy_54 f_RX6_66 zr_39_23 ?_
          refine r_iload_n hX dX6_copy_57 3 rfl rfl ?_
          obtain ⟨x17, e18, h⟩ := zbind_elim h
          refine r_iald hX dX6_copy_58 rfl e18 ?_
          refine r_icmp_eq (tgt := 70) hX dX6_copy_59 (by decide) (fun c19 => ?_) (fun c19 => ?_)
          · have h := (if_pos c19).symm.trans h
            refine r_iload_n hX dX6_copy_70 2 rfl rfl ?_
            refine r_if_lt (tgt := 119) hX dX6_copy_71 (by decide) (fun c20 => ?_) (fun c20 => ?_)
            · have h := (if_pos c20).symm.trans h
              refine r_aload_n hX dX6_copy_119 0 rfl rfl ?_
              refine r_ldc (v := (-1000001)) hX dX6_copy_120 (zT_in 1041 (by decide +kernel) rfl) ?_
              obtain ⟨x21, u22, e23, h⟩ := zbind2_elim h
              refine r_callV (As := [.int (-1000001)]) (rest := []) (st1 := [.int x21]) hX dX6_copy_122 lv_RX6_83 (c_X6_finding (-1000001)  u _ _ e23) (by decide) rfl rfl (zRecv.of (q := 39) (ci := 6) rfl rfl) rfl (Nat.le_of_ble_eq_true rfl) rfl ?_
              obtain ⟨rfl, rfl⟩ := zinj2 (Option.some.inj h)
              exact r_iret hX hR dX6_copy_125
            · have h := (if_neg c20).symm.trans h
              refine r_iload hX dX6_copy_74 4 rfl ?_
              refine r_if_lt (tgt := 119) hX dX6_copy_76 (by decide) (fun c24 => ?_) (fun c24 => ?_)
              · have h := (if_pos c24).symm.trans h
                refine r_aload_n hX dX6_copy_119 0 rfl rfl ?_
                refine r_ldc (v := (-1000001)) hX dX6_copy_120 (zT_in 1041 (by decide +kernel) rfl) ?_
                obtain ⟨x25, u26, e27, h⟩ := zbind2_elim h
                refine r_callV (As := [.int (-1000001)]) (rest := []) (st1 := [.int x25]) hX dX6_copy_122 lv_RX6_83 (c_X6_finding (-1000001)  u _ _ e27) (by decide) rfl rfl (zRecv.of (q := 39) (ci := 6) rfl rfl) rfl (Nat.le_of_ble_eq_true rfl) rfl ?_
                obtain ⟨rfl, rfl⟩ := zinj2 (Option.some.inj h)
                exact r_iret hX hR dX6_copy_125
              · have h := (if_neg c24).symm.trans h
                refine r_iload hX dX6_copy_79 5 rfl ?_
                refine r_if_lt (tgt := 119) hX dX6_copy_81 (by decide) (fun c28 => ?_) (fun c28 => ?_)
                · have h := (if_pos c28).symm.trans h
                  refine r_aload_n hX dX6_copy_119 0 rfl rfl ?_
                  refine r_ldc (v := (-1000001)) hX dX6_copy_120 (zT_in 1041 (by decide +kernel) rfl) ?_
                  obtain ⟨x29, u30, e31, h⟩ := zbind2_elim h
                  refine r_callV (As := [.int (-1000001)]) (rest := []) (st1 := [.int x29]) hX dX6_copy_122 lv_RX6_83 (c_X6_finding (-1000001)  u _ _ e31) (by decide) rfl rfl (zRecv.of (q := 39) (ci := 6) rfl rfl) rfl (Nat.le_of_ble_eq_true rfl) rfl ?_
                  obtain ⟨rfl, rfl⟩ := zinj2 (Option.some.inj h)
                  exact r_iret hX hR dX6_copy_125
                · have h := (if_neg c28).symm.trans h
                  refine r_iload_n hX dX6_copy_84 2 rfl rfl ?_
                  refine r_i2l hX dX6_copy_85 ?_
                  refine r_iload hX dX6_copy_86 5 rfl ?_
                  refine r_i2l hX dX6_copy_88 ?_
                  refine r_ladd hX dX6_copy_89 ?_
                  refine r_aload_n hX dX6_copy_90 0 rfl rfl ?_
                  refine r_getR hX dX6_copy_91 f_RX6_69 zr_39_24 ?_
                  refine r_iload_n hX dX6_copy_94 1 rfl rfl ?_
                  obtain ⟨x32, e33, h⟩ := zbind_elim h
                  refine r_iald hX dX6_copy_95 rfl e33 ?_
                  refine r_i2l hX dX6_copy_96 ?_
                  refine r_lcmp hX dX6_copy_97 ?_
                  refine r_if_gt (tgt := 119) hX dX6_copy_98 (by decide) (fun c34 => ?_) (fun c34 => ?_)
                  · have h := (if_pos c34).symm.trans h
                    refine r_aload_n hX dX6_copy_119 0 rfl rfl ?_
                    refine r_ldc (v := (-1000001)) hX dX6_copy_120 (zT_in 1041 (by decide +kernel) rfl) ?_
                    obtain ⟨x35, u36, e37, h⟩ := zbind2_elim h
                    refine r_callV (As := [.int (-1000001)]) (rest := []) (st1 := [.int x35]) hX dX6_copy_122 lv_RX6_83 (c_X6_finding (-1000001)  u _ _ e37) (by decide) rfl rfl (zRecv.of (q := 39) (ci := 6) rfl rfl) rfl (Nat.le_of_ble_eq_true rfl) rfl ?_
                    obtain ⟨rfl, rfl⟩ := zinj2 (Option.some.inj h)
                    exact r_iret hX hR dX6_copy_125
                  · have h := (if_neg c34).symm.trans h
                    refine r_iload hX dX6_copy_101 4 rfl ?_
                    refine r_i2l hX dX6_copy_103 ?_
                    refine r_iload hX dX6_copy_104 5 rfl ?_
                    refine r_i2l hX dX6_copy_106 ?_
                    refine r_ladd hX dX6_copy_107 ?_
                    refine r_aload_n hX dX6_copy_108 0 rfl rfl ?_
                    refine r_getR hX dX6_copy_109 f_RX6_69 zr_39_24 ?_
                    refine r_iload_n hX dX6_copy_112 3 rfl rfl ?_
                    obtain ⟨x38, e39, h⟩ := zbind_elim h
                    refine r_iald hX dX6_copy_113 rfl e39 ?_
                    refine r_i2l hX dX6_copy_114 ?_
                    refine r_lcmp hX dX6_copy_115 ?_
                    refine r_if_le (tgt := 126) hX dX6_copy_116 (by decide) (fun c40 => ?_) (fun c40 => ?_)
                    · have h := (if_pos c40).symm.trans h
                      refine r_iconst (v := 0) hX dX6_copy_126 (by decide) ?_
                      refine r_istore (y := 0) (L' := [(6, .int 0), (0, .ref (zad X.1 39)), (1, .int a1), (2, .int a2), (3, .int a3), (4, .int a4), (5, .int a5)]) hX dX6_copy_127 (by decide) rfl rfl ?_
                      refine r_sub [1, 2, 3, 4, 5, 6, 0] (L' := [(0, .ref (zad X.1 39)), (1, .int a1), (2, .int a2), (3, .int a3), (4, .int a4), (5, .int a5), (6, .int 0)]) rfl ?_
                      obtain ⟨u43, h44, h⟩ := zbind_elim h
                      have Jh44 : zG X u43 163 [(0, .ref (zad X.1 39)), (3, .int a3), (4, .int a4), (5, .int a5)] [] := by
                          refine r_iconst (v := 0) hX dX6_copy_163 (by decide) ?_
                          refine r_istore (y := 0) (L' := [(6, .int 0), (0, .ref (zad X.1 39)), (3, .int a3), (4, .int a4), (5, .int a5)]) hX dX6_copy_164 (by decide) rfl rfl ?_
                          refine r_sub [1, 2, 3, 4, 0] (L' := [(0, .ref (zad X.1 39)), (3, .int a3), (4, .int a4), (5, .int a5), (6, .int 0)]) rfl ?_
                          obtain ⟨u52, h53, h⟩ := zbind_elim h
                          have Jh53 : zG X u52 201 [(5, .int a5)] [] := by
                              refine r_iload hX dX6_copy_201 0 rfl ?_
                              obtain ⟨rfl, rfl⟩ := zinj2 (Option.some.inj h)
                              exact r_iret hX hR dX6_copy_203
                          clear h
                          refine zit_walk (P := fun s1 : Int32 × zM => zG X s1.2 166 [(0, .ref (zad X.1 39)), (3, .int a3), (4, .int a4), (5, .int a5), (6, .int (s1.1))] []) ?_ zF _ h53
                          clear h53
                          intro s1 y1 h1b hin1 hout1
                          obtain ⟨x50, u51⟩ := s1
                          have h1b : m_X6_copy_b1 a5 a3 a4 x50 u51 = some y1 := h1b
                          unfold m_X6_copy_b1 at h1b
                          show zG X u51 166 [(0, .ref (zad X.1 39)), (3, .int a3), (4, .int a4), (5, .int a5), (6, .int x50)] []
                          refine r_iload hX dX6_copy_166 4 rfl ?_
                          refine r_iload hX dX6_copy_168 3 rfl ?_
                          refine r_icmp_ge (tgt := 201) hX dX6_copy_170 (by decide) (fun c54 => ?_) (fun c54 => ?_)
                          · have h1b := (if_pos c54).symm.trans h1b
                            refine r_sub [3] (L' := [(5, .int a5)]) rfl ?_
                            have h1b := hout1 _ (Option.some.inj h1b).symm
                            obtain rfl := h1b
                            exact Jh53
                          · have h1b := (if_neg c54).symm.trans h1b
                            refine r_aload_n hX dX6_copy_173 0 rfl rfl ?_
                            refine r_getR hX dX6_copy_174 f_RX6_72 zr_39_25 ?_
                            refine r_bipush (v := 40) hX dX6_copy_177 (by decide) ?_
                            refine r_iload_n hX dX6_copy_179 1 rfl rfl ?_
                            refine r_imul hX dX6_copy_180 ?_
                            refine r_iload hX dX6_copy_181 2 rfl ?_
                            refine r_iadd hX dX6_copy_183 ?_
                            refine r_iload hX dX6_copy_184 4 rfl ?_
                            refine r_iadd hX dX6_copy_186 ?_
                            refine r_aload_n hX dX6_copy_187 0 rfl rfl ?_
                            refine r_getR hX dX6_copy_188 f_RX6_75 zr_39_26 ?_
                            refine r_iload hX dX6_copy_191 4 rfl ?_
                            obtain ⟨x55, e56, h1b⟩ := zbind_elim h1b
                            refine r_iald hX dX6_copy_193 rfl e56 ?_
                            obtain ⟨u57, e58, h1b⟩ := zbind_elim h1b
                            refine r_iast hX dX6_copy_194 rfl e58 ?_
                            refine r_iinc (v := (x50 + 1)) (L' := [(6, .int (x50 + 1)), (0, .ref (zad X.1 39)), (3, .int a3), (4, .int a4), (5, .int a5)]) hX dX6_copy_195 (by decide) 4 rfl rfl rfl ?_
                            refine r_goto (tgt := 166) hX dX6_copy_198 (by decide) ?_
                            refine r_sub [1, 2, 3, 4, 0] (L' := [(0, .ref (zad X.1 39)), (3, .int a3), (4, .int a4), (5, .int a5), (6, .int (x50 + 1))]) rfl ?_
                            exact hin1 _ (Option.some.inj h1b).symm
                      clear h
                      refine zit_walk (P := fun s0 : Int32 × zM => zG X s0.2 129 [(0, .ref (zad X.1 39)), (1, .int a1), (2, .int a2), (3, .int a3), (4, .int a4), (5, .int a5), (6, .int (s0.1))] []) ?_ zF _ h44
                      clear h44
                      intro s0 y0 h0b hin0 hout0
                      obtain ⟨x41, u42⟩ := s0
                      have h0b : m_X6_copy_b0 a5 a1 a2 x41 u42 = some y0 := h0b
                      unfold m_X6_copy_b0 at h0b
                      show zG X u42 129 [(0, .ref (zad X.1 39)), (1, .int a1), (2, .int a2), (3, .int a3), (4, .int a4), (5, .int a5), (6, .int x41)] []
                      refine r_iload hX dX6_copy_129 6 rfl ?_
                      refine r_iload hX dX6_copy_131 5 rfl ?_
                      refine r_icmp_ge (tgt := 163) hX dX6_copy_133 (by decide) (fun c45 => ?_) (fun c45 => ?_)
                      · have h0b := (if_pos c45).symm.trans h0b
                        refine r_sub [0, 3, 4, 5] (L' := [(0, .ref (zad X.1 39)), (3, .int a3), (4, .int a4), (5, .int a5)]) rfl ?_
                        have h0b := hout0 _ (Option.some.inj h0b).symm
                        obtain rfl := h0b
                        exact Jh44
                      · have h0b := (if_neg c45).symm.trans h0b
                        refine r_aload_n hX dX6_copy_136 0 rfl rfl ?_
                        refine r_getR hX dX6_copy_137 f_RX6_75 zr_39_26 ?_
                        refine r_iload hX dX6_copy_140 6 rfl ?_
                        refine r_aload_n hX dX6_copy_142 0 rfl rfl ?_
                        refine r_getR hX dX6_copy_143 f_RX6_72 zr_39_25 ?_
                        refine r_bipush (v := 40) hX dX6_copy_146 (by decide) ?_
                        refine r_iload_n hX dX6_copy_148 1 rfl rfl ?_
                        refine r_imul hX dX6_copy_149 ?_
                        refine r_iload_n hX dX6_copy_150 2 rfl rfl ?_
                        refine r_iadd hX dX6_copy_151 ?_
                        refine r_iload hX dX6_copy_152 6 rfl ?_
                        refine r_iadd hX dX6_copy_154 ?_
                        obtain ⟨x46, e47, h0b⟩ := zbind_elim h0b
                        refine r_iald hX dX6_copy_155 rfl e47 ?_
                        obtain ⟨u48, e49, h0b⟩ := zbind_elim h0b
                        refine r_iast hX dX6_copy_156 rfl e49 ?_
                        refine r_iinc (v := (x41 + 1)) (L' := [(6, .int (x41 + 1)), (0, .ref (zad X.1 39)), (1, .int a1), (2, .int a2), (3, .int a3), (4, .int a4), (5, .int a5)]) hX dX6_copy_157 (by decide) 6 rfl rfl rfl ?_
                        refine r_goto (tgt := 129) hX dX6_copy_160 (by decide) ?_
                        refine r_sub [1, 2, 3, 4, 5, 6, 0] (L' := [(0, .ref (zad X.1 39)), (1, .int a1), (2, .int a2), (3, .int a3), (4, .int a4), (5, .int a5), (6, .int (x41 + 1))]) rfl ?_
                        exact hin0 _ (Option.some.inj h0b).symm
                    · have h := (if_neg c40).symm.trans h
                      refine r_aload_n hX dX6_copy_119 0 rfl rfl ?_
                      refine r_ldc (v := (-1000001)) hX dX6_copy_120 (zT_in 1041 (by decide +kernel) rfl) ?_
                      obtain ⟨x59, u60, e61, h⟩ := zbind2_elim h
                      refine r_callV (As := [.int (-1000001)]) (rest := []) (st1 := [.int x59]) hX dX6_copy_122 lv_RX6_83 (c_X6_finding (-1000001)  u _ _ e61) (by decide) rfl rfl (zRecv.of (q := 39) (ci := 6) rfl rfl) rfl (Nat.le_of_ble_eq_true rfl) rfl ?_
                      obtain ⟨rfl, rfl⟩ := zinj2 (Option.some.inj h)
                      exact r_iret hX hR dX6_copy_125
          · have h := (if_neg c19).symm.trans h
            refine r_aload_n hX dX6_copy_62 0 rfl rfl ?_
            refine r_ldcw (v := (-1000003)) hX dX6_copy_63 (zT_in 1371 (by decide +kernel) rfl) ?_
            obtain ⟨x62, u63, e64, h⟩ := zbind2_elim h
            refine r_callV (As := [.int (-1000003)]) (rest := []) (st1 := [.int x62]) hX dX6_copy_66 lv_RX6_83 (c_X6_finding (-1000003)  u _ _ e64) (by decide) rfl rfl (zRecv.of (q := 39) (ci := 6) rfl rfl) rfl (Nat.le_of_ble_eq_true rfl) rfl ?_
            obtain ⟨rfl, rfl⟩ := zinj2 (Option.some.inj h)
            exact r_iret hX hR dX6_copy_69
        · have h := (if_pos c14).symm.trans h
          refine r_aload_n hX dX6_copy_39 0 rfl rfl ?_
          refine r_ldcw (v := (-1000006)) hX dX6_copy_40 (zT_in 1367 (by decide +kernel) rfl) ?_
          obtain ⟨x65, u66, e67, h⟩ := zbind2_elim h
          refine r_callV (As := [.int (-1000006)]) (rest := []) (st1 := [.int x65]) hX dX6_copy_43 lv_RX6_83 (c_X6_finding (-1000006)  u _ _ e67) (by decide) rfl rfl (zRecv.of (q := 39) (ci := 6) rfl rfl) rfl (Nat.le_of_ble_eq_true rfl) rfl ?_
          obtain ⟨rfl, rfl⟩ := zinj2 (Option.some.inj h)
          exact r_iret hX hR dX6_copy_46
    · have h := (if_pos c5).symm.trans h
      refine r_aload_n hX dX6_copy_14 0 rfl rfl ?_
      refine r_ldc (v := (-1000001)) hX dX6_copy_15 (zT_in 1041 (by decide +kernel) rfl) ?_
      obtain ⟨x68, u69, e70, h⟩ := zbind2_elim h
      refine r_callV (As := [.int (-1000001)]) (rest := []) (st1 := [.int x68]) hX dX6_copy_17 lv_RX6_83 (c_X6_finding (-1000001)  u _ _ e70) (by decide) rfl rfl (zRecv.of (q := 39) (ci := 6) rfl rfl) rfl (Nat.le_of_ble_eq_true rfl) rfl ?_
      obtain ⟨rfl, rfl⟩ := zinj2 (Option.some.inj h)
      exact r_iret hX hR dX6_copy_20
theorem dX6_load_0 : decode cX6_load 0 = .ok (.iload_n 1, 1) := by decide +kernel
theorem dX6_load_1 : decode cX6_load 1 = .ok (.invokestatic 293, 3) := by decide +kernel
theorem dX6_load_4 : decode cX6_load 4 = .ok (.ifCond .ne 10, 3) := by decide +kernel
theorem dX6_load_7 : decode cX6_load 7 = .ok (.aload_n 0, 1) := by decide +kernel
theorem dX6_load_8 : decode cX6_load 8 = .ok (.ldc 78, 2) := by decide +kernel
theorem dX6_load_10 : decode cX6_load 10 = .ok (.invokevirtual 83, 3) := by decide +kernel
theorem dX6_load_13 : decode cX6_load 13 = .ok (.ireturn, 1) := by decide +kernel
theorem dX6_load_14 : decode cX6_load 14 = .ok (.aload_n 0, 1) := by decide +kernel
theorem dX6_load_15 : decode cX6_load 15 = .ok (.getfield 66, 3) := by decide +kernel
theorem dX6_load_18 : decode cX6_load 18 = .ok (.iload_n 1, 1) := by decide +kernel
theorem dX6_load_19 : decode cX6_load 19 = .ok (.iaload, 1) := by decide +kernel
theorem dX6_load_20 : decode cX6_load 20 = .ok (.ifCond .ne 11, 3) := by decide +kernel
theorem dX6_load_23 : decode cX6_load 23 = .ok (.aload_n 0, 1) := by decide +kernel
theorem dX6_load_24 : decode cX6_load 24 = .ok (.ldc_w 288, 3) := by decide +kernel
theorem dX6_load_27 : decode cX6_load 27 = .ok (.invokevirtual 83, 3) := by decide +kernel
theorem dX6_load_30 : decode cX6_load 30 = .ok (.ireturn, 1) := by decide +kernel
theorem dX6_load_31 : decode cX6_load 31 = .ok (.iconst 0, 1) := by decide +kernel
theorem dX6_load_32 : decode cX6_load 32 = .ok (.istore_n 2, 1) := by decide +kernel
theorem dX6_load_33 : decode cX6_load 33 = .ok (.iconst 1, 1) := by decide +kernel
theorem dX6_load_34 : decode cX6_load 34 = .ok (.istore_n 3, 1) := by decide +kernel
theorem dX6_load_35 : decode cX6_load 35 = .ok (.iload_n 3, 1) := by decide +kernel
theorem dX6_load_36 : decode cX6_load 36 = .ok (.ifCond .eq 144, 3) := by decide +kernel
theorem dX6_load_39 : decode cX6_load 39 = .ok (.iconst 3, 1) := by decide +kernel
theorem dX6_load_40 : decode cX6_load 40 = .ok (.iload_n 2, 1) := by decide +kernel
theorem dX6_load_41 : decode cX6_load 41 = .ok (.imul, 1) := by decide +kernel
theorem dX6_load_42 : decode cX6_load 42 = .ok (.iconst 3, 1) := by decide +kernel
theorem dX6_load_43 : decode cX6_load 43 = .ok (.iadd, 1) := by decide +kernel
theorem dX6_load_44 : decode cX6_load 44 = .ok (.aload_n 0, 1) := by decide +kernel
theorem dX6_load_45 : decode cX6_load 45 = .ok (.getfield 69, 3) := by decide +kernel
theorem dX6_load_48 : decode cX6_load 48 = .ok (.iload_n 1, 1) := by decide +kernel
theorem dX6_load_49 : decode cX6_load 49 = .ok (.iaload, 1) := by decide +kernel
theorem dX6_load_50 : decode cX6_load 50 = .ok (.if_icmp .gt 130, 3) := by decide +kernel
theorem dX6_load_53 : decode cX6_load 53 = .ok (.iload_n 2, 1) := by decide +kernel
theorem dX6_load_54 : decode cX6_load 54 = .ok (.aload_n 0, 1) := by decide +kernel
theorem dX6_load_55 : decode cX6_load 55 = .ok (.getfield 9, 3) := by decide +kernel
theorem dX6_load_58 : decode cX6_load 58 = .ok (.iconst 0, 1) := by decide +kernel
theorem dX6_load_59 : decode cX6_load 59 = .ok (.iaload, 1) := by decide +kernel
theorem dX6_load_60 : decode cX6_load 60 = .ok (.if_icmp .ge 120, 3) := by decide +kernel
theorem dX6_load_63 : decode cX6_load 63 = .ok (.bipush 40, 2) := by decide +kernel
theorem dX6_load_65 : decode cX6_load 65 = .ok (.iload_n 1, 1) := by decide +kernel
theorem dX6_load_66 : decode cX6_load 66 = .ok (.imul, 1) := by decide +kernel
theorem dX6_load_67 : decode cX6_load 67 = .ok (.iconst 3, 1) := by decide +kernel
theorem dX6_load_68 : decode cX6_load 68 = .ok (.iload_n 2, 1) := by decide +kernel
theorem dX6_load_69 : decode cX6_load 69 = .ok (.imul, 1) := by decide +kernel
theorem dX6_load_70 : decode cX6_load 70 = .ok (.iadd, 1) := by decide +kernel
theorem dX6_load_71 : decode cX6_load 71 = .ok (.istore 4, 2) := by decide +kernel
theorem dX6_load_73 : decode cX6_load 73 = .ok (.iconst 0, 1) := by decide +kernel
theorem dX6_load_74 : decode cX6_load 74 = .ok (.istore 5, 2) := by decide +kernel
theorem dX6_load_76 : decode cX6_load 76 = .ok (.iload 5, 2) := by decide +kernel
theorem dX6_load_78 : decode cX6_load 78 = .ok (.iconst 3, 1) := by decide +kernel
theorem dX6_load_79 : decode cX6_load 79 = .ok (.if_icmp .ge 40, 3) := by decide +kernel
theorem dX6_load_82 : decode cX6_load 82 = .ok (.iload_n 3, 1) := by decide +kernel
theorem dX6_load_83 : decode cX6_load 83 = .ok (.ifCond .eq 28, 3) := by decide +kernel
theorem dX6_load_86 : decode cX6_load 86 = .ok (.aload_n 0, 1) := by decide +kernel
theorem dX6_load_87 : decode cX6_load 87 = .ok (.getfield 72, 3) := by decide +kernel
theorem dX6_load_90 : decode cX6_load 90 = .ok (.iload 4, 2) := by decide +kernel
theorem dX6_load_92 : decode cX6_load 92 = .ok (.iload 5, 2) := by decide +kernel
theorem dX6_load_94 : decode cX6_load 94 = .ok (.iadd, 1) := by decide +kernel
theorem dX6_load_95 : decode cX6_load 95 = .ok (.iaload, 1) := by decide +kernel
theorem dX6_load_96 : decode cX6_load 96 = .ok (.bipush 50, 2) := by decide +kernel
theorem dX6_load_98 : decode cX6_load 98 = .ok (.sipush 250, 3) := by decide +kernel
theorem dX6_load_101 : decode cX6_load 101 = .ok (.invokestatic 79, 3) := by decide +kernel
theorem dX6_load_104 : decode cX6_load 104 = .ok (.ifCond .eq 7, 3) := by decide +kernel
theorem dX6_load_107 : decode cX6_load 107 = .ok (.iconst 1, 1) := by decide +kernel
theorem dX6_load_108 : decode cX6_load 108 = .ok (.goto 4, 3) := by decide +kernel
theorem dX6_load_111 : decode cX6_load 111 = .ok (.iconst 0, 1) := by decide +kernel
theorem dX6_load_112 : decode cX6_load 112 = .ok (.istore_n 3, 1) := by decide +kernel
theorem dX6_load_113 : decode cX6_load 113 = .ok (.iinc 5 1, 3) := by decide +kernel
theorem dX6_load_116 : decode cX6_load 116 = .ok (.goto (-40), 3) := by decide +kernel
theorem dX6_load_119 : decode cX6_load 119 = .ok (.iconst 0, 1) := by decide +kernel
theorem dX6_load_120 : decode cX6_load 120 = .ok (.istore 5, 2) := by decide +kernel
theorem dX6_load_122 : decode cX6_load 122 = .ok (.iload 5, 2) := by decide +kernel
theorem dX6_load_124 : decode cX6_load 124 = .ok (.iconst 3, 1) := by decide +kernel
theorem dX6_load_125 : decode cX6_load 125 = .ok (.if_icmp .ge 40, 3) := by decide +kernel
theorem dX6_load_128 : decode cX6_load 128 = .ok (.iload_n 3, 1) := by decide +kernel
theorem dX6_load_129 : decode cX6_load 129 = .ok (.ifCond .eq 36, 3) := by decide +kernel
theorem dX6_load_132 : decode cX6_load 132 = .ok (.aload_n 0, 1) := by decide +kernel
theorem dX6_load_133 : decode cX6_load 133 = .ok (.getfield 9, 3) := by decide +kernel
theorem dX6_load_136 : decode cX6_load 136 = .ok (.bipush 6, 2) := by decide +kernel
theorem dX6_load_138 : decode cX6_load 138 = .ok (.bipush 7, 2) := by decide +kernel
theorem dX6_load_140 : decode cX6_load 140 = .ok (.iload_n 2, 1) := by decide +kernel
theorem dX6_load_141 : decode cX6_load 141 = .ok (.imul, 1) := by decide +kernel
theorem dX6_load_142 : decode cX6_load 142 = .ok (.iadd, 1) := by decide +kernel
theorem dX6_load_143 : decode cX6_load 143 = .ok (.iconst 1, 1) := by decide +kernel
theorem dX6_load_144 : decode cX6_load 144 = .ok (.iadd, 1) := by decide +kernel
theorem dX6_load_145 : decode cX6_load 145 = .ok (.iload 5, 2) := by decide +kernel
theorem dX6_load_147 : decode cX6_load 147 = .ok (.iadd, 1) := by decide +kernel
theorem dX6_load_148 : decode cX6_load 148 = .ok (.aload_n 0, 1) := by decide +kernel
theorem dX6_load_149 : decode cX6_load 149 = .ok (.getfield 72, 3) := by decide +kernel
theorem dX6_load_152 : decode cX6_load 152 = .ok (.iload 4, 2) := by decide +kernel
theorem dX6_load_154 : decode cX6_load 154 = .ok (.iload 5, 2) := by decide +kernel
theorem dX6_load_156 : decode cX6_load 156 = .ok (.iadd, 1) := by decide +kernel
theorem dX6_load_157 : decode cX6_load 157 = .ok (.iaload, 1) := by decide +kernel
theorem dX6_load_158 : decode cX6_load 158 = .ok (.iastore, 1) := by decide +kernel
theorem dX6_load_159 : decode cX6_load 159 = .ok (.iinc 5 1, 3) := by decide +kernel
theorem dX6_load_162 : decode cX6_load 162 = .ok (.goto (-40), 3) := by decide +kernel
theorem dX6_load_165 : decode cX6_load 165 = .ok (.iload_n 2, 1) := by decide +kernel
theorem dX6_load_166 : decode cX6_load 166 = .ok (.iload_n 3, 1) := by decide +kernel
theorem dX6_load_167 : decode cX6_load 167 = .ok (.ifCond .eq 7, 3) := by decide +kernel
theorem dX6_load_170 : decode cX6_load 170 = .ok (.iconst 1, 1) := by decide +kernel
theorem dX6_load_171 : decode cX6_load 171 = .ok (.goto 4, 3) := by decide +kernel
theorem dX6_load_174 : decode cX6_load 174 = .ok (.iconst 0, 1) := by decide +kernel
theorem dX6_load_175 : decode cX6_load 175 = .ok (.iadd, 1) := by decide +kernel
theorem dX6_load_176 : decode cX6_load 176 = .ok (.istore_n 2, 1) := by decide +kernel
theorem dX6_load_177 : decode cX6_load 177 = .ok (.goto (-142), 3) := by decide +kernel
theorem dX6_load_180 : decode cX6_load 180 = .ok (.iload_n 2, 1) := by decide +kernel
theorem dX6_load_181 : decode cX6_load 181 = .ok (.ireturn, 1) := by decide +kernel
def m_X6_load_b1 (u7 : zM) (a1 : Int32) (x5 : Int32) (x16 : Int32) (x17 : Int32) : Option ((Int32 × Int32) ⊕ (Int32)) :=
  (if 3 ≤ x17 then
some (.inr x16)
else
(if x16 = 0 then
some (.inl (0, (x17 + 1)))
else
zbind (zld u7 53 160 (((40 * a1) + (3 * x5)) + x17)) (fun x22 => (if (m_X6_within x22 50 250) = 0 then
some (.inl (0, (x17 + 1)))
else
some (.inl (1, (x17 + 1)))))))
def m_X6_load_b2 (x18 : Int32) (a1 : Int32) (x5 : Int32) (x25 : Int32) (u26 : zM) : Option ((Int32 × zM) ⊕ (zM)) :=
  (if 3 ≤ x25 then
some (.inr u26)
else
(if x18 = 0 then
some (.inr u26)
else
zbind (zld u26 53 160 (((40 * a1) + (3 * x5)) + x25)) (fun x31 => zbind (zsv u26 40 160 (((6 + (7 * x5)) + 1) + x25) x31) (fun u33 => some (.inl ((x25 + 1), u33))))))
def m_X6_load_b0 (a1 : Int32) (x5 : Int32) (x6 : Int32) (u7 : zM) : Option ((Int32 × Int32 × zM) ⊕ (Int32 × zM)) :=
  (if x6 = 0 then
some (.inr (x5, u7))
else
zbind (zld u7 52 4 a1) (fun x12 => (if x12 < ((3 * x5) + 3) then
some (.inr (x5, u7))
else
(if (u7 40 0) ≤ x5 then
some (.inr (x5, u7))
else
zbind (zit zF (fun s : Int32 × Int32 => m_X6_load_b1 u7 a1 x5 s.1 s.2) (x6, 0)) (fun x18 =>
zbind (zit zF (fun s : Int32 × zM => m_X6_load_b2 x18 a1 x5 s.1 s.2) (0, u7)) (fun u27 =>
(if x18 = 0 then
some (.inl ((x5 + 0), x18, u27))
else
some (.inl ((x5 + 1), x18, u27)))))))))
def m_X6_load (a1 : Int32) (u : zM) : Option (Int32 × zM) :=
  (if (m_X6_isSheet a1) = 0 then
zbind2 (m_X6_finding (-1000001) u) (fun x39 u40 => some (x39, u40))
else
zbind (zld u 51 4 a1) (fun x2 => (if x2 = 0 then
zbind2 (m_X6_finding (-1000006) u) (fun x36 u37 => some (x36, u37))
else
zbind2 (zit zF (fun s : Int32 × Int32 × zM => m_X6_load_b0 a1 s.1 s.2.1 s.2.2) (0, 1, u)) (fun x8 u9 =>
some (x8, u9)))))
set_option maxHeartbeats 4000000 in
set_option maxRecDepth 100000 in
theorem c_X6_load (a1 : Int32)   (u : zM) (r : Int32) (u' : zM) (h : m_X6_load a1 u = some (r, u')) : zCt 3 yX6_load cX6_load 6 (some .int) (fun E => [.ref (zad E 39), .int a1]) u (fun _ => some (.int r)) u' := by
  refine zCt.of (by decide +kernel) (fun E => Nat.le_of_ble_eq_true rfl) (fun X hX hR => ?_)
  have hX : zGood X RX6 cX6_load 6 3 := hX
  show zG X u 0 [(0, .ref (zad X.1 39)), (1, .int a1)] []
  unfold m_X6_load at h
  refine r_iload_n hX dX6_load_0 1 rfl rfl ?_
  refine r_callS (As := [.int a1]) (rest := []) (st1 := [.int (m_X6_isSheet a1)]) hX dX6_load_1 ls_RX6_293 (c_X6_isSheet a1  u _ rfl) (by decide) rfl rfl rfl (Nat.le_of_ble_eq_true rfl) rfl ?_
  refine r_if_ne (tgt := 14) hX dX6_load_4 (by decide) (fun c1 => ?_) (fun c1 => ?_)
  · have h := (if_neg c1).symm.trans h
    refine r_aload_n hX dX6_load_14 0 rfl rfl ?_
    refine r_getR hX dX6_load_15 f_RX6_66 zr_39_23 ?_
    refine r_iload_n hX dX6_load_18 1 rfl rfl ?_
    obtain ⟨x2, e3, h⟩ := zbind_elim h
    refine r_iald hX dX6_load_19 rfl e3 ?_
    refine r_if_ne (tgt := 31) hX dX6_load_20 (by decide) (fun c4 => ?_) (fun c4 => ?_)
    · have h := (if_neg c4).symm.trans h
      refine r_iconst (v := 0) hX dX6_load_31 (by decide) ?_
      refine r_istore_n (y := 0) (L' := [(2, .int 0), (0, .ref (zad X.1 39)), (1, .int a1)]) hX dX6_load_32 rfl (by decide) rfl rfl ?_
      refine r_iconst (v := 1) hX dX6_load_33 (by decide) ?_
      refine r_istore_n (y := 1) (L' := [(3, .int 1), (2, .int 0), (0, .ref (zad X.1 39)), (1, .int a1)]) hX dX6_load_34 rfl (by decide) rfl rfl ?_
      refine r_sub [2, 3, 1, 0] (L' := [(0, .ref (zad X.1 39)), (1, .int a1), (2, .int 0), (3, .int 1)]) rfl ?_
      obtain ⟨x8, u9, h10, h⟩ := zbind2_elim h
      have Jh10 : zG X u9 180 [(2, .int x8)] [] := by
          refine r_iload_n hX dX6_load_180 0 rfl rfl ?_
          obtain ⟨rfl, rfl⟩ := zinj2 (Option.some.inj h)
          exact r_iret hX hR dX6_load_181
      clear h
      refine zit_walk (P := fun s0 : Int32 × Int32 × zM => zG X s0.2.2 35 [(0, .ref (zad X.1 39)), (1, .int a1), (2, .int (s0.1)), (3, .int (s0.2.1))] []) ?_ zF _ h10
      clear h10
      intro s0 y0 h0b hin0 hout0
      obtain ⟨x5, x6, u7⟩ := s0
      have h0b : m_X6_load_b0 a1 x5 x6 u7 = some y0 := h0b
      unfold m_X6_load_b0 at h0b
      show zG X u7 35 [(0, .ref (zad X.1 39)), (1, .int a1), (2, .int x5), (3, .int x6)] []
      refine r_iload_n hX dX6_load_35 3 rfl rfl ?_
      refine r_if_eq (tgt := 180) hX dX6_load_36 (by decide) (fun c11 => ?_) (fun c11 => ?_)
      · have h0b := (if_pos c11).symm.trans h0b
        refine r_sub [2] (L' := [(2, .int x5)]) rfl ?_
        have h0b := hout0 _ (Option.some.inj h0b).symm
        obtain ⟨rfl, rfl⟩ := zinj2 h0b
        exact Jh10
      · have h0b := (if_neg c11).symm.trans h0b
        refine r_iconst (v := 3) hX dX6_load_39 (by decide) ?_
        refine r_iload_n hX dX6_load_40 2 rfl rfl ?_
        refine r_imul hX dX6_load_41 ?_
        refine r_iconst (v := 3) hX dX6_load_42 (by decide) ?_
        refine r_iadd hX dX6_load_43 ?_
        refine r_aload_n hX dX6_load_44 0 rfl rfl ?_
        refine r_getR hX dX6_load_45 f_RX6_69 zr_39_24 ?_
        refine r_iload_n hX dX6_load_48 1 rfl rfl ?_
        obtain ⟨x12, e13, h0b⟩ := zbind_elim h0b
        refine r_iald hX dX6_load_49 rfl e13 ?_
        refine r_icmp_gt (tgt := 180) hX dX6_load_50 (by decide) (fun c14 => ?_) (fun c14 => ?_)
        · have h0b := (if_pos c14).symm.trans h0b
          refine r_sub [2] (L' := [(2, .int x5)]) rfl ?_
          have h0b := hout0 _ (Option.some.inj h0b).symm
          obtain ⟨rfl, rfl⟩ := zinj2 h0b
          exact Jh10
        · have h0b := (if_neg c14).symm.trans h0b
          refine r_iload_n hX dX6_load_53 2 rfl rfl ?_
          refine r_aload_n hX dX6_load_54 0 rfl rfl ?_
          refine r_getR hX dX6_load_55 f_RX6_9 zr_39_0 ?_
          refine r_iconst (v := 0) hX dX6_load_58 (by decide) ?_
          refine r_ialdC (j := 0) hX dX6_load_59 rfl (by decide +kernel) ?_
          refine r_icmp_ge (tgt := 180) hX dX6_load_60 (by decide) (fun c15 => ?_) (fun c15 => ?_)
          · have h0b := (if_pos c15).symm.trans h0b
            refine r_sub [2] (L' := [(2, .int x5)]) rfl ?_
            have h0b := hout0 _ (Option.some.inj h0b).symm
            obtain ⟨rfl, rfl⟩ := zinj2 h0b
            exact Jh10
          · have h0b := (if_neg c15).symm.trans h0b
            refine r_bipush (v := 40) hX dX6_load_63 (by decide) ?_
            refine r_iload_n hX dX6_load_65 1 rfl rfl ?_
            refine r_imul hX dX6_load_66 ?_
            refine r_iconst (v := 3) hX dX6_load_67 (by decide) ?_
            refine r_iload_n hX dX6_load_68 2 rfl rfl ?_
            refine r_imul hX dX6_load_69 ?_
            refine r_iadd hX dX6_load_70 ?_
            refine r_istore (y := ((40 * a1) + (3 * x5))) (L' := [(4, .int ((40 * a1) + (3 * x5))), (0, .ref (zad X.1 39)), (1, .int a1), (2, .int x5), (3, .int x6)]) hX dX6_load_71 (by decide) rfl rfl ?_
            refine r_iconst (v := 0) hX dX6_load_73 (by decide) ?_
            refine r_istore (y := 0) (L' := [(5, .int 0), (4, .int ((40 * a1) + (3 * x5))), (0, .ref (zad X.1 39)), (1, .int a1), (2, .int x5), (3, .int x6)]) hX dX6_load_74 (by decide) rfl rfl ?_
            refine r_sub [2, 3, 4, 5, 1, 0] (L' := [(0, .ref (zad X.1 39)), (1, .int a1), (2, .int x5), (3, .int x6), (4, .int ((40 * a1) + (3 * x5))), (5, .int 0)]) rfl ?_
            obtain ⟨x18, h19, h0b⟩ := zbind_elim h0b
            have Jh19 : zG X u7 119 [(0, .ref (zad X.1 39)), (1, .int a1), (2, .int x5), (3, .int x18), (4, .int ((40 * a1) + (3 * x5)))] [] := by
                refine r_iconst (v := 0) hX dX6_load_119 (by decide) ?_
                refine r_istore (y := 0) (L' := [(5, .int 0), (0, .ref (zad X.1 39)), (1, .int a1), (2, .int x5), (3, .int x18), (4, .int ((40 * a1) + (3 * x5)))]) hX dX6_load_120 (by decide) rfl rfl ?_
                refine r_sub [1, 2, 3, 4, 5, 0] (L' := [(0, .ref (zad X.1 39)), (1, .int a1), (2, .int x5), (3, .int x18), (4, .int ((40 * a1) + (3 * x5))), (5, .int 0)]) rfl ?_
                obtain ⟨u27, h28, h0b⟩ := zbind_elim h0b
                have Jh28 : zG X u27 165 [(0, .ref (zad X.1 39)), (1, .int a1), (2, .int x5), (3, .int x18)] [] := by
                    refine r_iload_n hX dX6_load_165 2 rfl rfl ?_
                    refine r_iload_n hX dX6_load_166 3 rfl rfl ?_
                    refine r_if_eq (tgt := 174) hX dX6_load_167 (by decide) (fun c35 => ?_) (fun c35 => ?_)
                    · have h0b := (if_pos c35).symm.trans h0b
                      refine r_iconst (v := 0) hX dX6_load_174 (by decide) ?_
                      refine r_iadd hX dX6_load_175 ?_
                      refine r_istore_n (y := (x5 + 0)) (L' := [(2, .int (x5 + 0)), (0, .ref (zad X.1 39)), (1, .int a1), (3, .int x18)]) hX dX6_load_176 rfl (by decide) rfl rfl ?_
                      refine r_goto (tgt := 35) hX dX6_load_177 (by decide) ?_
                      refine r_sub [1, 2, 0, 3] (L' := [(0, .ref (zad X.1 39)), (1, .int a1), (2, .int (x5 + 0)), (3, .int x18)]) rfl ?_
                      exact hin0 _ (Option.some.inj h0b).symm
                    · have h0b := (if_neg c35).symm.trans h0b
                      refine r_iconst (v := 1) hX dX6_load_170 (by decide) ?_
                      refine r_goto (tgt := 175) hX dX6_load_171 (by decide) ?_
                      refine r_iadd hX dX6_load_175 ?_
                      refine r_istore_n (y := (x5 + 1)) (L' := [(2, .int (x5 + 1)), (0, .ref (zad X.1 39)), (1, .int a1), (3, .int x18)]) hX dX6_load_176 rfl (by decide) rfl rfl ?_
                      refine r_goto (tgt := 35) hX dX6_load_177 (by decide) ?_
                      refine r_sub [1, 2, 0, 3] (L' := [(0, .ref (zad X.1 39)), (1, .int a1), (2, .int (x5 + 1)), (3, .int x18)]) rfl ?_
                      exact hin0 _ (Option.some.inj h0b).symm
                clear h0b
                refine zit_walk (P := fun s2 : Int32 × zM => zG X s2.2 122 [(0, .ref (zad X.1 39)), (1, .int a1), (2, .int x5), (3, .int x18), (4, .int ((40 * a1) + (3 * x5))), (5, .int (s2.1))] []) ?_ zF _ h28
                clear h28
                intro s2 y2 h2b hin2 hout2
                obtain ⟨x25, u26⟩ := s2
                have h2b : m_X6_load_b2 x18 a1 x5 x25 u26 = some y2 := h2b
                unfold m_X6_load_b2 at h2b
                show zG X u26 122 [(0, .ref (zad X.1 39)), (1, .int a1), (2, .int x5), (3, .int x18), (4, .int ((40 * a1) + (3 * x5))), (5, .int x25)] []
                refine r_iload hX dX6_load_122 5 rfl ?_
                refine r_iconst (v := 3) hX dX6_load_124 (by decide) ?_
                refine r_icmp_ge (tgt := 165) hX dX6_load_125 (by decide) (fun c29 => ?_) (fun c29 => ?_)
                · have h2b := (if_pos c29).symm.trans h2b
                  refine r_sub [0, 1, 2, 3] (L' := [(0, .ref (zad X.1 39)), (1, .int a1), (2, .int x5), (3, .int x18)]) rfl ?_
                  have h2b := hout2 _ (Option.some.inj h2b).symm
                  obtain rfl := h2b
                  exact Jh28
                · have h2b := (if_neg c29).symm.trans h2b
                  refine r_iload_n hX dX6_load_128 3 rfl rfl ?_
                  refine r_if_eq (tgt := 165) hX dX6_load_129 (by decide) (fun c30 => ?_) (fun c30 => ?_)
                  · have h2b := (if_pos c30).symm.trans h2b
                    refine r_sub [0, 1, 2, 3] (L' := [(0, .ref (zad X.1 39)), (1, .int a1), (2, .int x5), (3, .int x18)]) rfl ?_
                    have h2b := hout2 _ (Option.some.inj h2b).symm
                    obtain rfl := h2b
                    exact Jh28
                  · have h2b := (if_neg c30).symm.trans h2b
                    refine r_aload_n hX dX6_load_132 0 rfl rfl ?_
                    refine r_getR hX dX6_load_133 f_RX6_9 zr_39_0 ?_
                    refine r_bipush (v := 6) hX dX6_load_136 (by decide) ?_
                    refine r_bipush (v := 7) hX dX6_load_138 (by decide) ?_
                    refine r_iload_n hX dX6_load_140 2 rfl rfl ?_
                    refine r_imul hX dX6_load_141 ?_
                    refine r_iadd hX dX6_load_142 ?_
                    refine r_iconst (v := 1) hX dX6_load_143 (by decide) ?_
                    refine r_iadd hX dX6_load_144 ?_
                    refine r_iload hX dX6_load_145 5 rfl ?_
                    refine r_iadd hX dX6_load_147 ?_
                    refine r_aload_n hX dX6_load_148 0 rfl rfl ?_
                    refine r_getR hX dX6_load_149 f_RX6_72 zr_39_25 ?_
                    refine r_iload hX dX6_load_152 4 rfl ?_
                    refine r_iload hX dX6_load_154 5 rfl ?_
                    refine r_iadd hX dX6_load_156 ?_
                    obtain ⟨x31, e32, h2b⟩ := zbind_elim h2b
                    refine r_iald hX dX6_load_157 rfl e32 ?_
                    obtain ⟨u33, e34, h2b⟩ := zbind_elim h2b
                    refine r_iast hX dX6_load_158 rfl e34 ?_
                    refine r_iinc (v := (x25 + 1)) (L' := [(5, .int (x25 + 1)), (0, .ref (zad X.1 39)), (1, .int a1), (2, .int x5), (3, .int x18), (4, .int ((40 * a1) + (3 * x5)))]) hX dX6_load_159 (by decide) 5 rfl rfl rfl ?_
                    refine r_goto (tgt := 122) hX dX6_load_162 (by decide) ?_
                    refine r_sub [1, 2, 3, 4, 5, 0] (L' := [(0, .ref (zad X.1 39)), (1, .int a1), (2, .int x5), (3, .int x18), (4, .int ((40 * a1) + (3 * x5))), (5, .int (x25 + 1))]) rfl ?_
                    exact hin2 _ (Option.some.inj h2b).symm
            clear h0b
            refine zit_walk (P := fun s1 : Int32 × Int32 => zG X u7 76 [(0, .ref (zad X.1 39)), (1, .int a1), (2, .int x5), (3, .int (s1.1)), (4, .int ((40 * a1) + (3 * x5))), (5, .int (s1.2))] []) ?_ zF _ h19
            clear h19
            intro s1 y1 h1b hin1 hout1
            obtain ⟨x16, x17⟩ := s1
            have h1b : m_X6_load_b1 u7 a1 x5 x16 x17 = some y1 := h1b
            unfold m_X6_load_b1 at h1b
            show zG X u7 76 [(0, .ref (zad X.1 39)), (1, .int a1), (2, .int x5), (3, .int x16), (4, .int ((40 * a1) + (3 * x5))), (5, .int x17)] []
            refine r_iload hX dX6_load_76 5 rfl ?_
            refine r_iconst (v := 3) hX dX6_load_78 (by decide) ?_
            refine r_icmp_ge (tgt := 119) hX dX6_load_79 (by decide) (fun c20 => ?_) (fun c20 => ?_)
            · have h1b := (if_pos c20).symm.trans h1b
              refine r_sub [0, 1, 2, 3, 4] (L' := [(0, .ref (zad X.1 39)), (1, .int a1), (2, .int x5), (3, .int x16), (4, .int ((40 * a1) + (3 * x5)))]) rfl ?_
              have h1b := hout1 _ (Option.some.inj h1b).symm
              obtain rfl := h1b
              exact Jh19
            · have h1b := (if_neg c20).symm.trans h1b
              refine r_iload_n hX dX6_load_82 3 rfl rfl ?_
              refine r_if_eq (tgt := 111) hX dX6_load_83 (by decide) (fun c21 => ?_) (fun c21 => ?_)
              · have h1b := (if_pos c21).symm.trans h1b
                refine r_iconst (v := 0) hX dX6_load_111 (by decide) ?_
                refine r_istore_n (y := 0) (L' := [(3, .int 0), (0, .ref (zad X.1 39)), (1, .int a1), (2, .int x5), (4, .int ((40 * a1) + (3 * x5))), (5, .int x17)]) hX dX6_load_112 rfl (by decide) rfl rfl ?_
                refine r_iinc (v := (x17 + 1)) (L' := [(5, .int (x17 + 1)), (3, .int 0), (0, .ref (zad X.1 39)), (1, .int a1), (2, .int x5), (4, .int ((40 * a1) + (3 * x5)))]) hX dX6_load_113 (by decide) 5 rfl rfl rfl ?_
                refine r_goto (tgt := 76) hX dX6_load_116 (by decide) ?_
                refine r_sub [2, 3, 4, 1, 5, 0] (L' := [(0, .ref (zad X.1 39)), (1, .int a1), (2, .int x5), (3, .int 0), (4, .int ((40 * a1) + (3 * x5))), (5, .int (x17 + 1))]) rfl ?_
                exact hin1 _ (Option.some.inj h1b).symm
              · have h1b := (if_neg c21).symm.trans h1b
                refine r_aload_n hX dX6_load_86 0 rfl rfl ?_
                refine r_getR hX dX6_load_87 f_RX6_72 zr_39_25 ?_
                refine r_iload hX dX6_load_90 4 rfl ?_
                refine r_iload hX dX6_load_92 5 rfl ?_
                refine r_iadd hX dX6_load_94 ?_
                obtain ⟨x22, e23, h1b⟩ := zbind_elim h1b
                refine r_iald hX dX6_load_95 rfl e23 ?_
                refine r_bipush (v := 50) hX dX6_load_96 (by decide) ?_
                refine r_sipush (v := 250) hX dX6_load_98 (by decide) ?_
                refine r_callS (As := [.int x22, .int 50, .int 250]) (rest := []) (st1 := [.int (m_X6_within x22 50 250)]) hX dX6_load_101 ls_RX6_79 (c_X6_within x22 50 250  u7 _ rfl) (by decide) rfl rfl rfl (Nat.le_of_ble_eq_true rfl) rfl ?_
                refine r_if_eq (tgt := 111) hX dX6_load_104 (by decide) (fun c24 => ?_) (fun c24 => ?_)
                · have h1b := (if_pos c24).symm.trans h1b
                  refine r_iconst (v := 0) hX dX6_load_111 (by decide) ?_
                  refine r_istore_n (y := 0) (L' := [(3, .int 0), (0, .ref (zad X.1 39)), (1, .int a1), (2, .int x5), (4, .int ((40 * a1) + (3 * x5))), (5, .int x17)]) hX dX6_load_112 rfl (by decide) rfl rfl ?_
                  refine r_iinc (v := (x17 + 1)) (L' := [(5, .int (x17 + 1)), (3, .int 0), (0, .ref (zad X.1 39)), (1, .int a1), (2, .int x5), (4, .int ((40 * a1) + (3 * x5)))]) hX dX6_load_113 (by decide) 5 rfl rfl rfl ?_
                  refine r_goto (tgt := 76) hX dX6_load_116 (by decide) ?_
                  refine r_sub [2, 3, 4, 1, 5, 0] (L' := [(0, .ref (zad X.1 39)), (1, .int a1), (2, .int x5), (3, .int 0), (4, .int ((40 * a1) + (3 * x5))), (5, .int (x17 + 1))]) rfl ?_
                  exact hin1 _ (Option.some.inj h1b).symm
                · have h1b := (if_neg c24).symm.trans h1b
                  refine r_iconst (v := 1) hX dX6_load_107 (by decide) ?_
                  refine r_goto (tgt := 112) hX dX6_load_108 (by decide) ?_
                  refine r_istore_n (y := 1) (L' := [(3, .int 1), (0, .ref (zad X.1 39)), (1, .int a1), (2, .int x5), (4, .int ((40 * a1) + (3 * x5))), (5, .int x17)]) hX dX6_load_112 rfl (by decide) rfl rfl ?_
                  refine r_iinc (v := (x17 + 1)) (L' := [(5, .int (x17 + 1)), (3, .int 1), (0, .ref (zad X.1 39)), (1, .int a1), (2, .int x5), (4, .int ((40 * a1) + (3 * x5)))]) hX dX6_load_113 (by decide) 5 rfl rfl rfl ?_
                  refine r_goto (tgt := 76) hX dX6_load_116 (by decide) ?_
                  refine r_sub [2, 3, 4, 1, 5, 0] (L' := [(0, .ref (zad X.1 39)), (1, .int a1), (2, .int x5), (3, .int 1), (4, .int ((40 * a1) + (3 * x5))), (5, .int (x17 + 1))]) rfl ?_
                  exact hin1 _ (Option.some.inj h1b).symm
    · have h := (if_pos c4).symm.trans h
      refine r_aload_n hX dX6_load_23 0 rfl rfl ?_
      refine r_ldcw (v := (-1000006)) hX dX6_load_24 (zT_in 1367 (by decide +kernel) rfl) ?_
      obtain ⟨x36, u37, e38, h⟩ := zbind2_elim h
      refine r_callV (As := [.int (-1000006)]) (rest := []) (st1 := [.int x36]) hX dX6_load_27 lv_RX6_83 (c_X6_finding (-1000006)  u _ _ e38) (by decide) rfl rfl (zRecv.of (q := 39) (ci := 6) rfl rfl) rfl (Nat.le_of_ble_eq_true rfl) rfl ?_
      obtain ⟨rfl, rfl⟩ := zinj2 (Option.some.inj h)
      exact r_iret hX hR dX6_load_30
  · have h := (if_pos c1).symm.trans h
    refine r_aload_n hX dX6_load_7 0 rfl rfl ?_
    refine r_ldc (v := (-1000001)) hX dX6_load_8 (zT_in 1041 (by decide +kernel) rfl) ?_
    obtain ⟨x39, u40, e41, h⟩ := zbind2_elim h
    refine r_callV (As := [.int (-1000001)]) (rest := []) (st1 := [.int x39]) hX dX6_load_10 lv_RX6_83 (c_X6_finding (-1000001)  u _ _ e41) (by decide) rfl rfl (zRecv.of (q := 39) (ci := 6) rfl rfl) rfl (Nat.le_of_ble_eq_true rfl) rfl ?_
    obtain ⟨rfl, rfl⟩ := zinj2 (Option.some.inj h)
    exact r_iret hX hR dX6_load_13
