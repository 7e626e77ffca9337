/-! MODELS AND CONTRACTS, by program (wip/whole/gen_all.py): X6_sheet, X6_cutTo, X6_write -/
theorem dX6_sheet_0 : decode cX6_sheet 0 = .ok (.iload_n 1, 1) := by decide +kernel
theorem dX6_sheet_1 : decode cX6_sheet 1 = .ok (.invokestatic 293, 3) := by decide +kernel
theorem dX6_sheet_4 : decode cX6_sheet 4 = .ok (.ifCond .eq 25, 3) := by decide +kernel
theorem dX6_sheet_7 : decode cX6_sheet 7 = .ok (.iload_n 2, 1) := by decide +kernel
theorem dX6_sheet_8 : decode cX6_sheet 8 = .ok (.ifCond .eq 28, 3) := by decide +kernel
theorem dX6_sheet_11 : decode cX6_sheet 11 = .ok (.iload_n 2, 1) := by decide +kernel
theorem dX6_sheet_12 : decode cX6_sheet 12 = .ok (.bipush 8, 2) := by decide +kernel
theorem dX6_sheet_14 : decode cX6_sheet 14 = .ok (.if_icmp .eq 22, 3) := by decide +kernel
theorem dX6_sheet_17 : decode cX6_sheet 17 = .ok (.iload_n 2, 1) := by decide +kernel
theorem dX6_sheet_18 : decode cX6_sheet 18 = .ok (.bipush 16, 2) := by decide +kernel
theorem dX6_sheet_20 : decode cX6_sheet 20 = .ok (.if_icmp .eq 16, 3) := by decide +kernel
theorem dX6_sheet_23 : decode cX6_sheet 23 = .ok (.iload_n 2, 1) := by decide +kernel
theorem dX6_sheet_24 : decode cX6_sheet 24 = .ok (.bipush 32, 2) := by decide +kernel
theorem dX6_sheet_26 : decode cX6_sheet 26 = .ok (.if_icmp .eq 10, 3) := by decide +kernel
theorem dX6_sheet_29 : decode cX6_sheet 29 = .ok (.aload_n 0, 1) := by decide +kernel
theorem dX6_sheet_30 : decode cX6_sheet 30 = .ok (.ldc 78, 2) := by decide +kernel
theorem dX6_sheet_32 : decode cX6_sheet 32 = .ok (.invokevirtual 83, 3) := by decide +kernel
theorem dX6_sheet_35 : decode cX6_sheet 35 = .ok (.ireturn, 1) := by decide +kernel
theorem dX6_sheet_36 : decode cX6_sheet 36 = .ok (.iload_n 3, 1) := by decide +kernel
theorem dX6_sheet_37 : decode cX6_sheet 37 = .ok (.ifCond .ge 11, 3) := by decide +kernel
theorem dX6_sheet_40 : decode cX6_sheet 40 = .ok (.aload_n 0, 1) := by decide +kernel
theorem dX6_sheet_41 : decode cX6_sheet 41 = .ok (.ldc_w 296, 3) := by decide +kernel
theorem dX6_sheet_44 : decode cX6_sheet 44 = .ok (.invokevirtual 83, 3) := by decide +kernel
theorem dX6_sheet_47 : decode cX6_sheet 47 = .ok (.ireturn, 1) := by decide +kernel
theorem dX6_sheet_48 : decode cX6_sheet 48 = .ok (.iload_n 3, 1) := by decide +kernel
theorem dX6_sheet_49 : decode cX6_sheet 49 = .ok (.bipush 40, 2) := by decide +kernel
theorem dX6_sheet_51 : decode cX6_sheet 51 = .ok (.if_icmp .le 10, 3) := by decide +kernel
theorem dX6_sheet_54 : decode cX6_sheet 54 = .ok (.aload_n 0, 1) := by decide +kernel
theorem dX6_sheet_55 : decode cX6_sheet 55 = .ok (.ldc 78, 2) := by decide +kernel
theorem dX6_sheet_57 : decode cX6_sheet 57 = .ok (.invokevirtual 83, 3) := by decide +kernel
theorem dX6_sheet_60 : decode cX6_sheet 60 = .ok (.ireturn, 1) := by decide +kernel
theorem dX6_sheet_61 : decode cX6_sheet 61 = .ok (.aload_n 0, 1) := by decide +kernel
theorem dX6_sheet_62 : decode cX6_sheet 62 = .ok (.getfield 66, 3) := by decide +kernel
theorem dX6_sheet_65 : decode cX6_sheet 65 = .ok (.iload_n 1, 1) := by decide +kernel
theorem dX6_sheet_66 : decode cX6_sheet 66 = .ok (.iload_n 2, 1) := by decide +kernel
theorem dX6_sheet_67 : decode cX6_sheet 67 = .ok (.iastore, 1) := by decide +kernel
theorem dX6_sheet_68 : decode cX6_sheet 68 = .ok (.aload_n 0, 1) := by decide +kernel
theorem dX6_sheet_69 : decode cX6_sheet 69 = .ok (.getfield 69, 3) := by decide +kernel
theorem dX6_sheet_72 : decode cX6_sheet 72 = .ok (.iload_n 1, 1) := by decide +kernel
theorem dX6_sheet_73 : decode cX6_sheet 73 = .ok (.iload_n 2, 1) := by decide +kernel
theorem dX6_sheet_74 : decode cX6_sheet 74 = .ok (.ifCond .ne 7, 3) := by decide +kernel
theorem dX6_sheet_77 : decode cX6_sheet 77 = .ok (.iconst 0, 1) := by decide +kernel
theorem dX6_sheet_78 : decode cX6_sheet 78 = .ok (.goto 4, 3) := by decide +kernel
theorem dX6_sheet_81 : decode cX6_sheet 81 = .ok (.iload_n 3, 1) := by decide +kernel
theorem dX6_sheet_82 : decode cX6_sheet 82 = .ok (.iastore, 1) := by decide +kernel
theorem dX6_sheet_83 : decode cX6_sheet 83 = .ok (.iconst 0, 1) := by decide +kernel
theorem dX6_sheet_84 : decode cX6_sheet 84 = .ok (.istore 4, 2) := by decide +kernel
theorem dX6_sheet_86 : decode cX6_sheet 86 = .ok (.iload 4, 2) := by decide +kernel
theorem dX6_sheet_88 : decode cX6_sheet 88 = .ok (.bipush 40, 2) := by decide +kernel
theorem dX6_sheet_90 : decode cX6_sheet 90 = .ok (.if_icmp .ge 22, 3) := by decide +kernel
theorem dX6_sheet_93 : decode cX6_sheet 93 = .ok (.aload_n 0, 1) := by decide +kernel
theorem dX6_sheet_94 : decode cX6_sheet 94 = .ok (.getfield 72, 3) := by decide +kernel
theorem dX6_sheet_97 : decode cX6_sheet 97 = .ok (.bipush 40, 2) := by decide +kernel
theorem dX6_sheet_99 : decode cX6_sheet 99 = .ok (.iload_n 1, 1) := by decide +kernel
theorem dX6_sheet_100 : decode cX6_sheet 100 = .ok (.imul, 1) := by decide +kernel
theorem dX6_sheet_101 : decode cX6_sheet 101 = .ok (.iload 4, 2) := by decide +kernel
theorem dX6_sheet_103 : decode cX6_sheet 103 = .ok (.iadd, 1) := by decide +kernel
theorem dX6_sheet_104 : decode cX6_sheet 104 = .ok (.iconst 0, 1) := by decide +kernel
theorem dX6_sheet_105 : decode cX6_sheet 105 = .ok (.iastore, 1) := by decide +kernel
theorem dX6_sheet_106 : decode cX6_sheet 106 = .ok (.iinc 4 1, 3) := by decide +kernel
theorem dX6_sheet_109 : decode cX6_sheet 109 = .ok (.goto (-23), 3) := by decide +kernel
theorem dX6_sheet_112 : decode cX6_sheet 112 = .ok (.aload_n 0, 1) := by decide +kernel
theorem dX6_sheet_113 : decode cX6_sheet 113 = .ok (.getfield 69, 3) := by decide +kernel
theorem dX6_sheet_116 : decode cX6_sheet 116 = .ok (.iload_n 1, 1) := by decide +kernel
theorem dX6_sheet_117 : decode cX6_sheet 117 = .ok (.iaload, 1) := by decide +kernel
theorem dX6_sheet_118 : decode cX6_sheet 118 = .ok (.ireturn, 1) := by decide +kernel
def m_X6_sheet_b0 (a1 : Int32) (x15 : Int32) (u16 : zM) : Option ((Int32 × zM) ⊕ (zM)) :=
  (if 40 ≤ x15 then
some (.inr u16)
else
zbind (zsv u16 53 160 ((40 * a1) + x15) 0) (fun u20 => some (.inl ((x15 + 1), u20))))
def m_X6_sheet_b1 (a1 : Int32) (x40 : Int32) (u41 : zM) : Option ((Int32 × zM) ⊕ (zM)) :=
  (if 40 ≤ x40 then
some (.inr u41)
else
zbind (zsv u41 53 160 ((40 * a1) + x40) 0) (fun u45 => some (.inl ((x40 + 1), u45))))
def m_X6_sheet_b2 (a1 : Int32) (x65 : Int32) (u66 : zM) : Option ((Int32 × zM) ⊕ (zM)) :=
  (if 40 ≤ x65 then
some (.inr u66)
else
zbind (zsv u66 53 160 ((40 * a1) + x65) 0) (fun u70 => some (.inl ((x65 + 1), u70))))
def m_X6_sheet_b3 (a1 : Int32) (x90 : Int32) (u91 : zM) : Option ((Int32 × zM) ⊕ (zM)) :=
  (if 40 ≤ x90 then
some (.inr u91)
else
zbind (zsv u91 53 160 ((40 * a1) + x90) 0) (fun u95 => some (.inl ((x90 + 1), u95))))
def m_X6_sheet (a1 : Int32) (a2 : Int32) (a3 : Int32) (u : zM) : Option (Int32 × zM) :=
  (if (m_X6_isSheet a1) = 0 then
zbind2 (m_X6_finding (-1000001) u) (fun x2 u3 => some (x2, u3))
else
(if a2 = 0 then
(if 0 ≤ a3 then
(if a3 ≤ 40 then
zbind (zsv u 51 4 a1 a2) (fun u8 => zlet ((if a2 = 0 then
0
else
a3) : Int32) (fun x10 =>
zbind (zsv u8 52 4 a1 x10) (fun u13 => zbind (zit zF (fun s : Int32 × zM => m_X6_sheet_b0 a1 s.1 s.2) (0, u13)) (fun u17 =>
zbind (zld u17 52 4 a1) (fun x22 => some (x22, u17))))))
else
zbind2 (m_X6_finding (-1000001) u) (fun x24 u25 => some (x24, u25)))
else
zbind2 (m_X6_finding (-1000007) u) (fun x27 u28 => some (x27, u28)))
else
(if a2 = 8 then
(if 0 ≤ a3 then
(if a3 ≤ 40 then
zbind (zsv u 51 4 a1 a2) (fun u33 => zlet ((if a2 = 0 then
0
else
a3) : Int32) (fun x35 =>
zbind (zsv u33 52 4 a1 x35) (fun u38 => zbind (zit zF (fun s : Int32 × zM => m_X6_sheet_b1 a1 s.1 s.2) (0, u38)) (fun u42 =>
zbind (zld u42 52 4 a1) (fun x47 => some (x47, u42))))))
else
zbind2 (m_X6_finding (-1000001) u) (fun x49 u50 => some (x49, u50)))
else
zbind2 (m_X6_finding (-1000007) u) (fun x52 u53 => some (x52, u53)))
else
(if a2 = 16 then
(if 0 ≤ a3 then
(if a3 ≤ 40 then
zbind (zsv u 51 4 a1 a2) (fun u58 => zlet ((if a2 = 0 then
0
else
a3) : Int32) (fun x60 =>
zbind (zsv u58 52 4 a1 x60) (fun u63 => zbind (zit zF (fun s : Int32 × zM => m_X6_sheet_b2 a1 s.1 s.2) (0, u63)) (fun u67 =>
zbind (zld u67 52 4 a1) (fun x72 => some (x72, u67))))))
else
zbind2 (m_X6_finding (-1000001) u) (fun x74 u75 => some (x74, u75)))
else
zbind2 (m_X6_finding (-1000007) u) (fun x77 u78 => some (x77, u78)))
else
(if a2 = 32 then
(if 0 ≤ a3 then
(if a3 ≤ 40 then
zbind (zsv u 51 4 a1 a2) (fun u83 => zlet ((if a2 = 0 then
0
else
a3) : Int32) (fun x85 =>
zbind (zsv u83 52 4 a1 x85) (fun u88 => zbind (zit zF (fun s : Int32 × zM => m_X6_sheet_b3 a1 s.1 s.2) (0, u88)) (fun u92 =>
zbind (zld u92 52 4 a1) (fun x97 => some (x97, u92))))))
else
zbind2 (m_X6_finding (-1000001) u) (fun x99 u100 => some (x99, u100)))
else
zbind2 (m_X6_finding (-1000007) u) (fun x102 u103 => some (x102, u103)))
else
zbind2 (m_X6_finding (-1000001) u) (fun x105 u106 => some (x105, u106)))))))
set_option maxHeartbeats 4000000 in
set_option maxRecDepth 100000 in
theorem c_X6_sheet (a1 : Int32) (a2 : Int32) (a3 : Int32)   (u : zM) (r : Int32) (u' : zM) (h : m_X6_sheet a1 a2 a3 u = some (r, u')) : zCt 3 yX6_sheet cX6_sheet 5 (some .int) (fun E => [.ref (zad E 39), .int a1, .int a2, .int a3]) u (fun _ => some (.int r)) u' := by
  refine zCt.of (by decide +kernel) (fun E => Nat.le_of_ble_eq_true rfl) (fun X hX hR => ?_)
  have hX : zGood X RX6 cX6_sheet 5 3 := hX
  show zG X u 0 [(0, .ref (zad X.1 39)), (1, .int a1), (2, .int a2), (3, .int a3)] []
  unfold m_X6_sheet at h
  refine r_iload_n hX dX6_sheet_0 1 rfl rfl ?_
  refine r_callS (As := [.int a1]) (rest := []) (st1 := [.int (m_X6_isSheet a1)]) hX dX6_sheet_1 ls_RX6_293 (c_X6_isSheet a1  u _ rfl) (by decide) rfl rfl rfl (Nat.le_of_ble_eq_true rfl) rfl ?_
  refine r_if_eq (tgt := 29) hX dX6_sheet_4 (by decide) (fun c1 => ?_) (fun c1 => ?_)
  · have h := (if_pos c1).symm.trans h
    refine r_aload_n hX dX6_sheet_29 0 rfl rfl ?_
    refine r_ldc (v := (-1000001)) hX dX6_sheet_30 (zT_in 1041 (by decide +kernel) rfl) ?_
    obtain ⟨x2, u3, e4, h⟩ := zbind2_elim h
    refine r_callV (As := [.int (-1000001)]) (rest := []) (st1 := [.int x2]) hX dX6_sheet_32 lv_RX6_83 (c_X6_finding (-1000001)  u _ _ e4) (by decide) rfl rfl (zRecv.of (q := 39) (ci := 6) rfl rfl) rfl (Nat.le_of_ble_eq_true rfl) rfl ?_
    obtain ⟨rfl, rfl⟩ := zinj2 (Option.some.inj h)
    exact r_iret hX hR dX6_sheet_35
  · have h := (if_neg c1).symm.trans h
    refine r_iload_n hX dX6_sheet_7 2 rfl rfl ?_
    refine r_if_eq (tgt := 36) hX dX6_sheet_8 (by decide) (fun c5 => ?_) (fun c5 => ?_)
    · have h := (if_pos c5).symm.trans h
      refine r_iload_n hX dX6_sheet_36 3 rfl rfl ?_
      refine r_if_ge (tgt := 48) hX dX6_sheet_37 (by decide) (fun c6 => ?_) (fun c6 => ?_)
      · have h := (if_pos c6).symm.trans h
        refine r_iload_n hX dX6_sheet_48 3 rfl rfl ?_
        refine r_bipush (v := 40) hX dX6_sheet_49 (by decide) ?_
        refine r_icmp_le (tgt := 61) hX dX6_sheet_51 (by decide) (fun c7 => ?_) (fun c7 => ?_)
        · have h := (if_pos c7).symm.trans h
          refine r_aload_n hX dX6_sheet_61 0 rfl rfl ?_
          refine r_getR hX dX6_sheet_62 f_RX6_66 zr_39_23 ?_
          refine r_iload_n hX dX6_sheet_65 1 rfl rfl ?_
          refine r_iload_n hX dX6_sheet_66 2 rfl rfl ?_
          obtain ⟨u8, e9, h⟩ := zbind_elim h
          refine r_iast hX dX6_sheet_67 rfl e9 ?_
          refine r_aload_n hX dX6_sheet_68 0 rfl rfl ?_
          refine r_getR hX dX6_sheet_69 f_RX6_69 zr_39_24 ?_
          refine r_iload_n hX dX6_sheet_72 1 rfl rfl ?_
          refine r_iload_n hX dX6_sheet_73 2 rfl rfl ?_
          obtain ⟨x10, h11, h⟩ := zlet_elim h
          have Jh11 : zG X u8 82 [(0, .ref (zad X.1 39)), (1, .int a1)] [.int x10, .int a1, .ref (zad X.1 52)] := by
              obtain ⟨u13, e14, h⟩ := zbind_elim h
              refine r_iast hX dX6_sheet_82 rfl e14 ?_
              refine r_iconst (v := 0) hX dX6_sheet_83 (by decide) ?_
              refine r_istore (y := 0) (L' := [(4, .int 0), (0, .ref (zad X.1 39)), (1, .int a1)]) hX dX6_sheet_84 (by decide) rfl rfl ?_
              refine r_sub [1, 2, 0] (L' := [(0, .ref (zad X.1 39)), (1, .int a1), (4, .int 0)]) rfl ?_
              obtain ⟨u17, h18, h⟩ := zbind_elim h
              have Jh18 : zG X u17 112 [(0, .ref (zad X.1 39)), (1, .int a1)] [] := by
                  refine r_aload_n hX dX6_sheet_112 0 rfl rfl ?_
                  refine r_getR hX dX6_sheet_113 f_RX6_69 zr_39_24 ?_
                  refine r_iload_n hX dX6_sheet_116 1 rfl rfl ?_
                  obtain ⟨x22, e23, h⟩ := zbind_elim h
                  refine r_iald hX dX6_sheet_117 rfl e23 ?_
                  obtain ⟨rfl, rfl⟩ := zinj2 (Option.some.inj h)
                  exact r_iret hX hR dX6_sheet_118
              clear h
              refine zit_walk (P := fun s0 : Int32 × zM => zG X s0.2 86 [(0, .ref (zad X.1 39)), (1, .int a1), (4, .int (s0.1))] []) ?_ zF _ h18
              clear h18
              intro s0 y0 h0b hin0 hout0
              obtain ⟨x15, u16⟩ := s0
              have h0b : m_X6_sheet_b0 a1 x15 u16 = some y0 := h0b
              unfold m_X6_sheet_b0 at h0b
              show zG X u16 86 [(0, .ref (zad X.1 39)), (1, .int a1), (4, .int x15)] []
              refine r_iload hX dX6_sheet_86 2 rfl ?_
              refine r_bipush (v := 40) hX dX6_sheet_88 (by decide) ?_
              refine r_icmp_ge (tgt := 112) hX dX6_sheet_90 (by decide) (fun c19 => ?_) (fun c19 => ?_)
              · have h0b := (if_pos c19).symm.trans h0b
                refine r_sub [0, 1] (L' := [(0, .ref (zad X.1 39)), (1, .int a1)]) rfl ?_
                have h0b := hout0 _ (Option.some.inj h0b).symm
                obtain rfl := h0b
                exact Jh18
              · have h0b := (if_neg c19).symm.trans h0b
                refine r_aload_n hX dX6_sheet_93 0 rfl rfl ?_
                refine r_getR hX dX6_sheet_94 f_RX6_72 zr_39_25 ?_
                refine r_bipush (v := 40) hX dX6_sheet_97 (by decide) ?_
                refine r_iload_n hX dX6_sheet_99 1 rfl rfl ?_
                refine r_imul hX dX6_sheet_100 ?_
                refine r_iload hX dX6_sheet_101 2 rfl ?_
                refine r_iadd hX dX6_sheet_103 ?_
                refine r_iconst (v := 0) hX dX6_sheet_104 (by decide) ?_
                obtain ⟨u20, e21, h0b⟩ := zbind_elim h0b
                refine r_iast hX dX6_sheet_105 rfl e21 ?_
                refine r_iinc (v := (x15 + 1)) (L' := [(4, .int (x15 + 1)), (0, .ref (zad X.1 39)), (1, .int a1)]) hX dX6_sheet_106 (by decide) 2 rfl rfl rfl ?_
                refine r_goto (tgt := 86) hX dX6_sheet_109 (by decide) ?_
                refine r_sub [1, 2, 0] (L' := [(0, .ref (zad X.1 39)), (1, .int a1), (4, .int (x15 + 1))]) rfl ?_
                exact hin0 _ (Option.some.inj h0b).symm
          clear h
          refine r_if_ne (tgt := 81) hX dX6_sheet_74 (by decide) (fun c12 => ?_) (fun c12 => ?_)
          · have h11 := (if_neg c12).symm.trans h11
            refine r_iload_n hX dX6_sheet_81 3 rfl rfl ?_
            refine r_sub [0, 1] (L' := [(0, .ref (zad X.1 39)), (1, .int a1)]) rfl ?_
            obtain rfl := h11
            exact Jh11
          · have h11 := (if_pos c12).symm.trans h11
            refine r_iconst (v := 0) hX dX6_sheet_77 (by decide) ?_
            refine r_goto (tgt := 82) hX dX6_sheet_78 (by decide) ?_
            refine r_sub [0, 1] (L' := [(0, .ref (zad X.1 39)), (1, .int a1)]) rfl ?_
            obtain rfl := h11
            exact Jh11
        · have h := (if_neg c7).symm.trans h
          refine r_aload_n hX dX6_sheet_54 0 rfl rfl ?_
          refine r_ldc (v := (-1000001)) hX dX6_sheet_55 (zT_in 1041 (by decide +kernel) rfl) ?_
          obtain ⟨x24, u25, e26, h⟩ := zbind2_elim h
          refine r_callV (As := [.int (-1000001)]) (rest := []) (st1 := [.int x24]) hX dX6_sheet_57 lv_RX6_83 (c_X6_finding (-1000001)  u _ _ e26) (by decide) rfl rfl (zRecv.of (q := 39) (ci := 6) rfl rfl) rfl (Nat.le_of_ble_eq_true rfl) rfl ?_
          obtain ⟨rfl, rfl⟩ := zinj2 (Option.some.inj h)
          exact r_iret hX hR dX6_sheet_60
      · have h := (if_neg c6).symm.trans h
        refine r_aload_n hX dX6_sheet_40 0 rfl rfl ?_
        refine r_ldcw (v := (-1000007)) hX dX6_sheet_41 (zT_in 1379 (by decide +kernel) rfl) ?_
        obtain ⟨x27, u28, e29, h⟩ := zbind2_elim h
        refine r_callV (As := [.int (-1000007)]) (rest := []) (st1 := [.int x27]) hX dX6_sheet_44 lv_RX6_83 (c_X6_finding (-1000007)  u _ _ e29) (by decide) rfl rfl (zRecv.of (q := 39) (ci := 6) rfl rfl) rfl (Nat.le_of_ble_eq_true rfl) rfl ?_
        obtain ⟨rfl, rfl⟩ := zinj2 (Option.some.inj h)
        exact r_iret hX hR dX6_sheet_47
    · have h := (if_neg c5).symm.trans h
      refine r_iload_n hX dX6_sheet_11 2 rfl rfl ?_
      refine r_bipush (v := 8) hX dX6_sheet_12 (by decide) ?_
      refine r_icmp_eq (tgt := 36) hX dX6_sheet_14 (by decide) (fun c30 => ?_) (fun c30 => ?_)
      · have h := (if_pos c30).symm.trans h
        refine r_iload_n hX dX6_sheet_36 3 rfl rfl ?_
        refine r_if_ge (tgt := 48) hX dX6_sheet_37 (by decide) (fun c31 => ?_) (fun c31 => ?_)
        · have h := (if_pos c31).symm.trans h
          refine r_iload_n hX dX6_sheet_48 3 rfl rfl ?_
          refine r_bipush (v := 40) hX dX6_sheet_49 (by decide) ?_
          refine r_icmp_le (tgt := 61) hX dX6_sheet_51 (by decide) (fun c32 => ?_) (fun c32 => ?_)
          · have h := (if_pos c32).symm.trans h
            refine r_aload_n hX dX6_sheet_61 0 rfl rfl ?_
            refine r_getR hX dX6_sheet_62 f_RX6_66 zr_39_23 ?_
            refine r_iload_n hX dX6_sheet_65 1 rfl rfl ?_
            refine r_iload_n hX dX6_sheet_66 2 rfl rfl ?_
            obtain ⟨u33, e34, h⟩ := zbind_elim h
            refine r_iast hX dX6_sheet_67 rfl e34 ?_
            refine r_aload_n hX dX6_sheet_68 0 rfl rfl ?_
            refine r_getR hX dX6_sheet_69 f_RX6_69 zr_39_24 ?_
            refine r_iload_n hX dX6_sheet_72 1 rfl rfl ?_
            refine r_iload_n hX dX6_sheet_73 2 rfl rfl ?_
            obtain ⟨x35, h36, h⟩ := zlet_elim h
            have Jh36 : zG X u33 82 [(0, .ref (zad X.1 39)), (1, .int a1)] [.int x35, .int a1, .ref (zad X.1 52)] := by
                obtain ⟨u38, e39, h⟩ := zbind_elim h
                refine r_iast hX dX6_sheet_82 rfl e39 ?_
                refine r_iconst (v := 0) hX dX6_sheet_83 (by decide) ?_
                refine r_istore (y := 0) (L' := [(4, .int 0), (0, .ref (zad X.1 39)), (1, .int a1)]) hX dX6_sheet_84 (by decide) rfl rfl ?_
                refine r_sub [1, 2, 0] (L' := [(0, .ref (zad X.1 39)), (1, .int a1), (4, .int 0)]) rfl ?_
                obtain ⟨u42, h43, h⟩ := zbind_elim h
                have Jh43 : zG X u42 112 [(0, .ref (zad X.1 39)), (1, .int a1)] [] := by
                    refine r_aload_n hX dX6_sheet_112 0 rfl rfl ?_
                    refine r_getR hX dX6_sheet_113 f_RX6_69 zr_39_24 ?_
                    refine r_iload_n hX dX6_sheet_116 1 rfl rfl ?_
                    obtain ⟨x47, e48, h⟩ := zbind_elim h
                    refine r_iald hX dX6_sheet_117 rfl e48 ?_
                    obtain ⟨rfl, rfl⟩ := zinj2 (Option.some.inj h)
                    exact r_iret hX hR dX6_sheet_118
                clear h
                refine zit_walk (P := fun s1 : Int32 × zM => zG X s1.2 86 [(0, .ref (zad X.1 39)), (1, .int a1), (4, .int (s1.1))] []) ?_ zF _ h43
                clear h43
                intro s1 y1 h1b hin1 hout1
                obtain ⟨x40, u41⟩ := s1
                have h1b : m_X6_sheet_b1 a1 x40 u41 = some y1 := h1b
                unfold m_X6_sheet_b1 at h1b
                show zG X u41 86 [(0, .ref (zad X.1 39)), (1, .int a1), (4, .int x40)] []
                refine r_iload hX dX6_sheet_86 2 rfl ?_
                refine r_bipush (v := 40) hX dX6_sheet_88 (by decide) ?_
                refine r_icmp_ge (tgt := 112) hX dX6_sheet_90 (by decide) (fun c44 => ?_) (fun c44 => ?_)
                · have h1b := (if_pos c44).symm.trans h1b
                  refine r_sub [0, 1] (L' := [(0, .ref (zad X.1 39)), (1, .int a1)]) rfl ?_
                  have h1b := hout1 _ (Option.some.inj h1b).symm
                  obtain rfl := h1b
                  exact Jh43
                · have h1b := (if_neg c44).symm.trans h1b
                  refine r_aload_n hX dX6_sheet_93 0 rfl rfl ?_
                  refine r_getR hX dX6_sheet_94 f_RX6_72 zr_39_25 ?_
                  refine r_bipush (v := 40) hX dX6_sheet_97 (by decide) ?_
                  refine r_iload_n hX dX6_sheet_99 1 rfl rfl ?_
                  refine r_imul hX dX6_sheet_100 ?_
                  refine r_iload hX dX6_sheet_101 2 rfl ?_
                  refine r_iadd hX dX6_sheet_103 ?_
                  refine r_iconst (v := 0) hX dX6_sheet_104 (by decide) ?_
                  obtain ⟨u45, e46, h1b⟩ := zbind_elim h1b
                  refine r_iast hX dX6_sheet_105 rfl e46 ?_
                  refine r_iinc (v := (x40 + 1)) (L' := [(4, .int (x40 + 1)), (0, .ref (zad X.1 39)), (1, .int a1)]) hX dX6_sheet_106 (by decide) 2 rfl rfl rfl ?_
                  refine r_goto (tgt := 86) hX dX6_sheet_109 (by decide) ?_
                  refine r_sub [1, 2, 0] (L' := [(0, .ref (zad X.1 39)), (1, .int a1), (4, .int (x40 + 1))]) rfl ?_
                  exact hin1 _ (Option.some.inj h1b).symm
            clear h
            refine r_if_ne (tgt := 81) hX dX6_sheet_74 (by decide) (fun c37 => ?_) (fun c37 => ?_)
            · have h36 := (if_neg c37).symm.trans h36
              refine r_iload_n hX dX6_sheet_81 3 rfl rfl ?_
              refine r_sub [0, 1] (L' := [(0, .ref (zad X.1 39)), (1, .int a1)]) rfl ?_
              obtain rfl := h36
              exact Jh36
            · have h36 := (if_pos c37).symm.trans h36
              refine r_iconst (v := 0) hX dX6_sheet_77 (by decide) ?_
              refine r_goto (tgt := 82) hX dX6_sheet_78 (by decide) ?_
              refine r_sub [0, 1] (L' := [(0, .ref (zad X.1 39)), (1, .int a1)]) rfl ?_
              obtain rfl := h36
              exact Jh36
          · have h := (if_neg c32).symm.trans h
            refine r_aload_n hX dX6_sheet_54 0 rfl rfl ?_
            refine r_ldc (v := (-1000001)) hX dX6_sheet_55 (zT_in 1041 (by decide +kernel) rfl) ?_
            obtain ⟨x49, u50, e51, h⟩ := zbind2_elim h
            refine r_callV (As := [.int (-1000001)]) (rest := []) (st1 := [.int x49]) hX dX6_sheet_57 lv_RX6_83 (c_X6_finding (-1000001)  u _ _ e51) (by decide) rfl rfl (zRecv.of (q := 39) (ci := 6) rfl rfl) rfl (Nat.le_of_ble_eq_true rfl) rfl ?_
            obtain ⟨rfl, rfl⟩ := zinj2 (Option.some.inj h)
            exact r_iret hX hR dX6_sheet_60
        · have h := (if_neg c31).symm.trans h
          refine r_aload_n hX dX6_sheet_40 0 rfl rfl ?_
          refine r_ldcw (v := (-1000007)) hX dX6_sheet_41 (zT_in 1379 (by decide +kernel) rfl) ?_
          obtain ⟨x52, u53, e54, h⟩ := zbind2_elim h
          refine r_callV (As := [.int (-1000007)]) (rest := []) (st1 := [.int x52]) hX dX6_sheet_44 lv_RX6_83 (c_X6_finding (-1000007)  u _ _ e54) (by decide) rfl rfl (zRecv.of (q := 39) (ci := 6) rfl rfl) rfl (Nat.le_of_ble_eq_true rfl) rfl ?_
          obtain ⟨rfl, rfl⟩ := zinj2 (Option.some.inj h)
          exact r_iret hX hR dX6_sheet_47
      · have h := (if_neg c30).symm.trans h
        refine r_iload_n hX dX6_sheet_17 2 rfl rfl ?_
        refine r_bipush (v := 16) hX dX6_sheet_18 (by decide) ?_
        refine r_icmp_eq (tgt := 36) hX dX6_sheet_20 (by decide) (fun c55 => ?_) (fun c55 => ?_)
        · have h := (if_pos c55).symm.trans h
          refine r_iload_n hX dX6_sheet_36 3 rfl rfl ?_
          refine r_if_ge (tgt := 48) hX dX6_sheet_37 (by decide) (fun c56 => ?_) (fun c56 => ?_)
          · have h := (if_pos c56).symm.trans h
            refine r_iload_n hX dX6_sheet_48 3 rfl rfl ?_
            refine r_bipush (v := 40) hX dX6_sheet_49 (by decide) ?_
            refine r_icmp_le (tgt := 61) hX dX6_sheet_51 (by decide) (fun c57 => ?_) (fun c57 => ?_)
            · have h := (if_pos c57).symm.trans h
              refine r_aload_n hX dX6_sheet_61 0 rfl rfl ?_
              refine r_getR hX dX6_sheet_62 f_RX6_66 zr_39_23 ?_
              refine r_iload_n hX dX6_sheet_65 1 rfl rfl ?_
              refine r_iload_n hX dX6_sheet_66 2 rfl rfl ?_
              obtain ⟨u58, e59, h⟩ := zbind_elim h
              refine r_iast hX dX6_sheet_67 rfl e59 ?_
              refine r_aload_n hX dX6_sheet_68 0 rfl rfl ?_
              refine r_getR hX dX6_sheet_69 f_RX6_69 zr_39_24 ?_
              refine r_iload_n hX dX6_sheet_72 1 rfl rfl ?_
              refine r_iload_n hX dX6_sheet_73 2 rfl rfl ?_
              obtain ⟨x60, h61, h⟩ := zlet_elim h
              have Jh61 : zG X u58 82 [(0, .ref (zad X.1 39)), (1, .int a1)] [.int x60, .int a1, .ref (zad X.1 52)] := by
                  obtain ⟨u63, e64, h⟩ := zbind_elim h
                  refine r_iast hX dX6_sheet_82 rfl e64 ?_
                  refine r_iconst (v := 0) hX dX6_sheet_83 (by decide) ?_
                  refine r_istore (y := 0) (L' := [(4, .int 0), (0, .ref (zad X.1 39)), (1, .int a1)]) hX dX6_sheet_84 (by decide) rfl rfl ?_
                  refine r_sub [1, 2, 0] (L' := [(0, .ref (zad X.1 39)), (1, .int a1), (4, .int 0)]) rfl ?_
                  obtain ⟨u67, h68, h⟩ := zbind_elim h
                  have Jh68 : zG X u67 112 [(0, .ref (zad X.1 39)), (1, .int a1)] [] := by
                      refine r_aload_n hX dX6_sheet_112 0 rfl rfl ?_
                      refine r_getR hX dX6_sheet_113 f_RX6_69 zr_39_24 ?_
                      refine r_iload_n hX dX6_sheet_116 1 rfl rfl ?_
                      obtain ⟨x72, e73, h⟩ := zbind_elim h
                      refine r_iald hX dX6_sheet_117 rfl e73 ?_
                      obtain ⟨rfl, rfl⟩ := zinj2 (Option.some.inj h)
                      exact r_iret hX hR dX6_sheet_118
                  clear h
                  refine zit_walk (P := fun s2 : Int32 × zM => zG X s2.2 86 [(0, .ref (zad X.1 39)), (1, .int a1), (4, .int (s2.1))] []) ?_ zF _ h68
                  clear h68
                  intro s2 y2 h2b hin2 hout2
                  obtain ⟨x65, u66⟩ := s2
                  have h2b : m_X6_sheet_b2 a1 x65 u66 = some y2 := h2b
                  unfold m_X6_sheet_b2 at h2b
                  show zG X u66 86 [(0, .ref (zad X.1 39)), (1, .int a1), (4, .int x65)] []
                  refine r_iload hX dX6_sheet_86 2 rfl ?_
                  refine r_bipush (v := 40) hX dX6_sheet_88 (by decide) ?_
                  refine r_icmp_ge (tgt := 112) hX dX6_sheet_90 (by decide) (fun c69 => ?_) (fun c69 => ?_)
                  · have h2b := (if_pos c69).symm.trans h2b
                    refine r_sub [0, 1] (L' := [(0, .ref (zad X.1 39)), (1, .int a1)]) rfl ?_
                    have h2b := hout2 _ (Option.some.inj h2b).symm
                    obtain rfl := h2b
                    exact Jh68
                  · have h2b := (if_neg c69).symm.trans h2b
                    refine r_aload_n hX dX6_sheet_93 0 rfl rfl ?_
                    refine r_getR hX dX6_sheet_94 f_RX6_72 zr_39_25 ?_
                    refine r_bipush (v := 40) hX dX6_sheet_97 (by decide) ?_
                    refine r_iload_n hX dX6_sheet_99 1 rfl rfl ?_
                    refine r_imul hX dX6_sheet_100 ?_
                    refine r_iload hX dX6_sheet_101 2 rfl ?_
                    refine r_iadd hX dX6_sheet_103 ?_
                    refine r_iconst (v := 0) hX dX6_sheet_104 (by decide) ?_
                    obtain ⟨u70, e71, h2b⟩ := zbind_elim h2b
                    refine r_iast hX dX6_sheet_105 rfl e71 ?_
                    refine r_iinc (v := (x65 + 1)) (L' := [(4, .int (x65 + 1)), (0, .ref (zad X.1 39)), (1, .int a1)]) hX dX6_sheet_106 (by decide) 2 rfl rfl rfl ?_
                    refine r_goto (tgt := 86) hX dX6_sheet_109 (by decide) ?_
                    refine r_sub [1, 2, 0] (L' := [(0, .ref (zad X.1 39)), (1, .int a1), (4, .int (x65 + 1))]) rfl ?_
                    exact hin2 _ (Option.some.inj h2b).symm
              clear h
              refine r_if_ne (tgt := 81) hX dX6_sheet_74 (by decide) (fun c62 => ?_) (fun c62 => ?_)
              · have h61 := (if_neg c62).symm.trans h61
                refine r_iload_n hX dX6_sheet_81 3 rfl rfl ?_
                refine r_sub [0, 1] (L' := [(0, .ref (zad X.1 39)), (1, .int a1)]) rfl ?_
                obtain rfl := h61
                exact Jh61
              · have h61 := (if_pos c62).symm.trans h61
                refine r_iconst (v := 0) hX dX6_sheet_77 (by decide) ?_
                refine r_goto (tgt := 82) hX dX6_sheet_78 (by decide) ?_
                refine r_sub [0, 1] (L' := [(0, .ref (zad X.1 39)), (1, .int a1)]) rfl ?_
                obtain rfl := h61
                exact Jh61
            · have h := (if_neg c57).symm.trans h
              refine r_aload_n hX dX6_sheet_54 0 rfl rfl ?_
              refine r_ldc (v := (-1000001)) hX dX6_sheet_55 (zT_in 1041 (by decide +kernel) rfl) ?_
              obtain ⟨x74, u75, e76, h⟩ := zbind2_elim h
              refine r_callV (As := [.int (-1000001)]) (rest := []) (st1 := [.int x74]) hX dX6_sheet_57 lv_RX6_83 (c_X6_finding (-1000001)  u _ _ e76) (by decide) rfl rfl (zRecv.of (q := 39) (ci := 6) rfl rfl) rfl (Nat.le_of_ble_eq_true rfl) rfl ?_
              obtain ⟨rfl, rfl⟩ := zinj2 (Option.some.inj h)
              exact r_iret hX hR dX6_sheet_60
          · have h := (if_neg c56).symm.trans h
            refine r_aload_n hX dX6_sheet_40 0 rfl rfl ?_
            refine r_ldcw (v := (-1000007)) hX dX6_sheet_41 (zT_in 1379 (by decide +kernel) rfl) ?_
            obtain ⟨x77, u78, e79, h⟩ := zbind2_elim h
            refine r_callV (As := [.int (-1000007)]) (rest := []) (st1 := [.int x77]) hX dX6_sheet_44 lv_RX6_83 (c_X6_finding (-1000007)  u _ _ e79) (by decide) rfl rfl (zRecv.of (q := 39) (ci := 6) rfl rfl) rfl (Nat.le_of_ble_eq_true rfl) rfl ?_
            obtain ⟨rfl, rfl⟩ := zinj2 (Option.some.inj h)
            exact r_iret hX hR dX6_sheet_47
        · have h := (if_neg c55).symm.trans h
          refine r_iload_n hX dX6_sheet_23 2 rfl rfl ?_
          refine r_bipush (v := 32) hX dX6_sheet_24 (by decide) ?_
          refine r_icmp_eq (tgt := 36) hX dX6_sheet_26 (by decide) (fun c80 => ?_) (fun c80 => ?_)
          · have h := (if_pos c80).symm.trans h
            refine r_iload_n hX dX6_sheet_36 3 rfl rfl ?_
            refine r_if_ge (tgt := 48) hX dX6_sheet_37 (by decide) (fun c81 => ?_) (fun c81 => ?_)
            · have h := (if_pos c81).symm.trans h
              refine r_iload_n hX dX6_sheet_48 3 rfl rfl ?_
              refine r_bipush (v := 40) hX dX6_sheet_49 (by decide) ?_
              refine r_icmp_le (tgt := 61) hX dX6_sheet_51 (by decide) (fun c82 => ?_) (fun c82 => ?_)
              · have h := (if_pos c82).symm.trans h
                refine r_aload_n hX dX6_sheet_61 0 rfl rfl ?_
                refine r_getR hX dX6_sheet_62 f_RX6_66 zr_39_23 ?_
                refine r_iload_n hX dX6_sheet_65 1 rfl rfl ?_
                refine r_iload_n hX dX6_sheet_66 2 rfl rfl ?_
                obtain ⟨u83, e84, h⟩ := zbind_elim h
                refine r_iast hX dX6_sheet_67 rfl e84 ?_
                refine r_aload_n hX dX6_sheet_68 0 rfl rfl ?_
                refine r_getR hX dX6_sheet_69 f_RX6_69 zr_39_24 ?_
                refine r_iload_n hX dX6_sheet_72 1 rfl rfl ?_
                refine r_iload_n hX dX6_sheet_73 2 rfl rfl ?_
                obtain ⟨x85, h86, h⟩ := zlet_elim h
                have Jh86 : zG X u83 82 [(0, .ref (zad X.1 39)), (1, .int a1)] [.int x85, .int a1, .ref (zad X.1 52)] := by
                    obtain ⟨u88, e89, h⟩ := zbind_elim h
                    refine r_iast hX dX6_sheet_82 rfl e89 ?_
                    refine r_iconst (v := 0) hX dX6_sheet_83 (by decide) ?_
                    refine r_istore (y := 0) (L' := [(4, .int 0), (0, .ref (zad X.1 39)), (1, .int a1)]) hX dX6_sheet_84 (by decide) rfl rfl ?_
                    refine r_sub [1, 2, 0] (L' := [(0, .ref (zad X.1 39)), (1, .int a1), (4, .int 0)]) rfl ?_
                    obtain ⟨u92, h93, h⟩ := zbind_elim h
                    have Jh93 : zG X u92 112 [(0, .ref (zad X.1 39)), (1, .int a1)] [] := by
                        refine r_aload_n hX dX6_sheet_112 0 rfl rfl ?_
                        refine r_getR hX dX6_sheet_113 f_RX6_69 zr_39_24 ?_
                        refine r_iload_n hX dX6_sheet_116 1 rfl rfl ?_
                        obtain ⟨x97, e98, h⟩ := zbind_elim h
                        refine r_iald hX dX6_sheet_117 rfl e98 ?_
                        obtain ⟨rfl, rfl⟩ := zinj2 (Option.some.inj h)
                        exact r_iret hX hR dX6_sheet_118
                    clear h
                    refine zit_walk (P := fun s3 : Int32 × zM => zG X s3.2 86 [(0, .ref (zad X.1 39)), (1, .int a1), (4, .int (s3.1))] []) ?_ zF _ h93
                    clear h93
                    intro s3 y3 h3b hin3 hout3
                    obtain ⟨x90, u91⟩ := s3
                    have h3b : m_X6_sheet_b3 a1 x90 u91 = some y3 := h3b
                    unfold m_X6_sheet_b3 at h3b
                    show zG X u91 86 [(0, .ref (zad X.1 39)), (1, .int a1), (4, .int x90)] []
                    refine r_iload hX dX6_sheet_86 2 rfl ?_
                    refine r_bipush (v := 40) hX dX6_sheet_88 (by decide) ?_
                    refine r_icmp_ge (tgt := 112) hX dX6_sheet_90 (by decide) (fun c94 => ?_) (fun c94 => ?_)
                    · have h3b := (if_pos c94).symm.trans h3b
                      refine r_sub [0, 1] (L' := [(0, .ref (zad X.1 39)), (1, .int a1)]) rfl ?_
                      have h3b := hout3 _ (Option.some.inj h3b).symm
                      obtain rfl := h3b
                      exact Jh93
                    · have h3b := (if_neg c94).symm.trans h3b
                      refine r_aload_n hX dX6_sheet_93 0 rfl rfl ?_
                      refine r_getR hX dX6_sheet_94 f_RX6_72 zr_39_25 ?_
                      refine r_bipush (v := 40) hX dX6_sheet_97 (by decide) ?_
                      refine r_iload_n hX dX6_sheet_99 1 rfl rfl ?_
                      refine r_imul hX dX6_sheet_100 ?_
                      refine r_iload hX dX6_sheet_101 2 rfl ?_
                      refine r_iadd hX dX6_sheet_103 ?_
                      refine r_iconst (v := 0) hX dX6_sheet_104 (by decide) ?_
                      obtain ⟨u95, e96, h3b⟩ := zbind_elim h3b
                      refine r_iast hX dX6_sheet_105 rfl e96 ?_
                      refine r_iinc (v := (x90 + 1)) (L' := [(4, .int (x90 + 1)), (0, .ref (zad X.1 39)), (1, .int a1)]) hX dX6_sheet_106 (by decide) 2 rfl rfl rfl ?_
                      refine r_goto (tgt := 86) hX dX6_sheet_109 (by decide) ?_
                      refine r_sub [1, 2, 0] (L' := [(0, .ref (zad X.1 39)), (1, .int a1), (4, .int (x90 + 1))]) rfl ?_
                      exact hin3 _ (Option.some.inj h3b).symm
                clear h
                refine r_if_ne (tgt := 81) hX dX6_sheet_74 (by decide) (fun c87 => ?_) (fun c87 => ?_)
                · have h86 := (if_neg c87).symm.trans h86
                  refine r_iload_n hX dX6_sheet_81 3 rfl rfl ?_
                  refine r_sub [0, 1] (L' := [(0, .ref (zad X.1 39)), (1, .int a1)]) rfl ?_
                  obtain rfl := h86
                  exact Jh86
                · have h86 := (if_pos c87).symm.trans h86
                  refine r_iconst (v := 0) hX dX6_sheet_77 (by decide) ?_
                  refine r_goto (tgt := 82) hX dX6_sheet_78 (by decide) ?_
                  refine r_sub [0, 1] (L' := [(0, .ref (zad X.1 39)), (1, .int a1)]) rfl ?_
                  obtain rfl := h86
                  exact Jh86
              · have h := (if_neg c82).symm.trans h
                refine r_aload_n hX dX6_sheet_54 0 rfl rfl ?_
                refine r_ldc (v := (-1000001)) hX dX6_sheet_55 (zT_in 1041 (by decide +kernel) rfl) ?_
                obtain ⟨x99, u100, e101, h⟩ := zbind2_elim h
                refine r_callV (As := [.int (-1000001)]) (rest := []) (st1 := [.int x99]) hX dX6_sheet_57 lv_RX6_83 (c_X6_finding (-1000001)  u _ _ e101) (by decide) rfl rfl (zRecv.of (q := 39) (ci := 6) rfl rfl) rfl (Nat.le_of_ble_eq_true rfl) rfl ?_
                obtain ⟨rfl, rfl⟩ := zinj2 (Option.some.inj h)
                exact r_iret hX hR dX6_sheet_60
            · have h := (if_neg c81).symm.trans h
              refine r_aload_n hX dX6_sheet_40 0 rfl rfl ?_
              refine r_ldcw (v := (-1000007)) hX dX6_sheet_41 (zT_in 1379 (by decide +kernel) rfl) ?_
              obtain ⟨x102, u103, e104, h⟩ := zbind2_elim h
              refine r_callV (As := [.int (-1000007)]) (rest := []) (st1 := [.int x102]) hX dX6_sheet_44 lv_RX6_83 (c_X6_finding (-1000007)  u _ _ e104) (by decide) rfl rfl (zRecv.of (q := 39) (ci := 6) rfl rfl) rfl (Nat.le_of_ble_eq_true rfl) rfl ?_
              obtain ⟨rfl, rfl⟩ := zinj2 (Option.some.inj h)
              exact r_iret hX hR dX6_sheet_47
          · have h := (if_neg c80).symm.trans h
            refine r_aload_n hX dX6_sheet_29 0 rfl rfl ?_
            refine r_ldc (v := (-1000001)) hX dX6_sheet_30 (zT_in 1041 (by decide +kernel) rfl) ?_
            obtain ⟨x105, u106, e107, h⟩ := zbind2_elim h
            refine r_callV (As := [.int (-1000001)]) (rest := []) (st1 := [.int x105]) hX dX6_sheet_32 lv_RX6_83 (c_X6_finding (-1000001)  u _ _ e107) (by decide) rfl rfl (zRecv.of (q := 39) (ci := 6) rfl rfl) rfl (Nat.le_of_ble_eq_true rfl) rfl ?_
            obtain ⟨rfl, rfl⟩ := zinj2 (Option.some.inj h)
            exact r_iret hX hR dX6_sheet_35
theorem dX6_cutTo_0 : decode cX6_cutTo 0 = .ok (.iload_n 1, 1) := by decide +kernel
theorem dX6_cutTo_1 : decode cX6_cutTo 1 = .ok (.bipush 8, 2) := by decide +kernel
theorem dX6_cutTo_3 : decode cX6_cutTo 3 = .ok (.if_icmp .ne 8, 3) := by decide +kernel
theorem dX6_cutTo_6 : decode cX6_cutTo 6 = .ok (.iload_n 0, 1) := by decide +kernel
theorem dX6_cutTo_7 : decode cX6_cutTo 7 = .ok (.i2b, 1) := by decide +kernel
theorem dX6_cutTo_8 : decode cX6_cutTo 8 = .ok (.goto 15, 3) := by decide +kernel
theorem dX6_cutTo_11 : decode cX6_cutTo 11 = .ok (.iload_n 1, 1) := by decide +kernel
theorem dX6_cutTo_12 : decode cX6_cutTo 12 = .ok (.bipush 16, 2) := by decide +kernel
theorem dX6_cutTo_14 : decode cX6_cutTo 14 = .ok (.if_icmp .ne 8, 3) := by decide +kernel
theorem dX6_cutTo_17 : decode cX6_cutTo 17 = .ok (.iload_n 0, 1) := by decide +kernel
theorem dX6_cutTo_18 : decode cX6_cutTo 18 = .ok (.i2s, 1) := by decide +kernel
theorem dX6_cutTo_19 : decode cX6_cutTo 19 = .ok (.goto 4, 3) := by decide +kernel
theorem dX6_cutTo_22 : decode cX6_cutTo 22 = .ok (.iload_n 0, 1) := by decide +kernel
theorem dX6_cutTo_23 : decode cX6_cutTo 23 = .ok (.ireturn, 1) := by decide +kernel
def m_X6_cutTo (a1 : Int32) (a2 : Int32) : Int32 :=
  (if a2 = 8 then
(zi2b a1)
else
(if a2 = 16 then
(zi2s a1)
else
a1))
set_option maxHeartbeats 4000000 in
set_option maxRecDepth 100000 in
theorem c_X6_cutTo (a1 : Int32) (a2 : Int32)   (u : zM) (r : Int32) (h : m_X6_cutTo a1 a2 = r) : zCt 1 yX6_cutTo cX6_cutTo 2 (some .int) (fun E => [.int a1, .int a2]) u (fun _ => some (.int r)) u := by
  refine zCt.of (by decide +kernel) (fun E => Nat.le_of_ble_eq_true rfl) (fun X hX hR => ?_)
  have hX : zGood X RX6 cX6_cutTo 2 1 := hX
  show zG X u 0 [(0, .int a1), (1, .int a2)] []
  unfold m_X6_cutTo at h
  refine r_iload_n hX dX6_cutTo_0 1 rfl rfl ?_
  refine r_bipush (v := 8) hX dX6_cutTo_1 (by decide) ?_
  refine r_icmp_ne (tgt := 11) hX dX6_cutTo_3 (by decide) (fun c1 => ?_) (fun c1 => ?_)
  · have h := (if_neg c1).symm.trans h
    refine r_iload_n hX dX6_cutTo_11 1 rfl rfl ?_
    refine r_bipush (v := 16) hX dX6_cutTo_12 (by decide) ?_
    refine r_icmp_ne (tgt := 22) hX dX6_cutTo_14 (by decide) (fun c2 => ?_) (fun c2 => ?_)
    · have h := (if_neg c2).symm.trans h
      refine r_iload_n hX dX6_cutTo_22 0 rfl rfl ?_
      obtain rfl := h
      exact r_iret hX hR dX6_cutTo_23
    · have h := (if_pos c2).symm.trans h
      refine r_iload_n hX dX6_cutTo_17 0 rfl rfl ?_
      refine r_i2s hX dX6_cutTo_18 ?_
      refine r_goto (tgt := 23) hX dX6_cutTo_19 (by decide) ?_
      obtain rfl := h
      exact r_iret hX hR dX6_cutTo_23
  · have h := (if_pos c1).symm.trans h
    refine r_iload_n hX dX6_cutTo_6 0 rfl rfl ?_
    refine r_i2b hX dX6_cutTo_7 ?_
    refine r_goto (tgt := 23) hX dX6_cutTo_8 (by decide) ?_
    obtain rfl := h
    exact r_iret hX hR dX6_cutTo_23
theorem dX6_write_0 : decode cX6_write 0 = .ok (.iload_n 1, 1) := by decide +kernel
theorem dX6_write_1 : decode cX6_write 1 = .ok (.invokestatic 293, 3) := by decide +kernel
theorem dX6_write_4 : decode cX6_write 4 = .ok (.ifCond .ne 10, 3) := by decide +kernel
theorem dX6_write_7 : decode cX6_write 7 = .ok (.aload_n 0, 1) := by decide +kernel
theorem dX6_write_8 : decode cX6_write 8 = .ok (.ldc 78, 2) := by decide +kernel
theorem dX6_write_10 : decode cX6_write 10 = .ok (.invokevirtual 83, 3) := by decide +kernel
theorem dX6_write_13 : decode cX6_write 13 = .ok (.ireturn, 1) := by decide +kernel
theorem dX6_write_14 : decode cX6_write 14 = .ok (.aload_n 0, 1) := by decide +kernel
theorem dX6_write_15 : decode cX6_write 15 = .ok (.getfield 66, 3) := by decide +kernel
theorem dX6_write_18 : decode cX6_write 18 = .ok (.iload_n 1, 1) := by decide +kernel
theorem dX6_write_19 : decode cX6_write 19 = .ok (.iaload, 1) := by decide +kernel
theorem dX6_write_20 : decode cX6_write 20 = .ok (.ifCond .ne 11, 3) := by decide +kernel
theorem dX6_write_23 : decode cX6_write 23 = .ok (.aload_n 0, 1) := by decide +kernel
theorem dX6_write_24 : decode cX6_write 24 = .ok (.ldc_w 288, 3) := by decide +kernel
theorem dX6_write_27 : decode cX6_write 27 = .ok (.invokevirtual 83, 3) := by decide +kernel
theorem dX6_write_30 : decode cX6_write 30 = .ok (.ireturn, 1) := by decide +kernel
theorem dX6_write_31 : decode cX6_write 31 = .ok (.iload_n 2, 1) := by decide +kernel
theorem dX6_write_32 : decode cX6_write 32 = .ok (.iconst 0, 1) := by decide +kernel
theorem dX6_write_33 : decode cX6_write 33 = .ok (.aload_n 0, 1) := by decide +kernel
theorem dX6_write_34 : decode cX6_write 34 = .ok (.getfield 69, 3) := by decide +kernel
theorem dX6_write_37 : decode cX6_write 37 = .ok (.iload_n 1, 1) := by decide +kernel
theorem dX6_write_38 : decode cX6_write 38 = .ok (.iaload, 1) := by decide +kernel
theorem dX6_write_39 : decode cX6_write 39 = .ok (.iconst 1, 1) := by decide +kernel
theorem dX6_write_40 : decode cX6_write 40 = .ok (.isub, 1) := by decide +kernel
theorem dX6_write_41 : decode cX6_write 41 = .ok (.invokestatic 79, 3) := by decide +kernel
theorem dX6_write_44 : decode cX6_write 44 = .ok (.ifCond .ne 10, 3) := by decide +kernel
theorem dX6_write_47 : decode cX6_write 47 = .ok (.aload_n 0, 1) := by decide +kernel
theorem dX6_write_48 : decode cX6_write 48 = .ok (.ldc 78, 2) := by decide +kernel
theorem dX6_write_50 : decode cX6_write 50 = .ok (.invokevirtual 83, 3) := by decide +kernel
theorem dX6_write_53 : decode cX6_write 53 = .ok (.ireturn, 1) := by decide +kernel
theorem dX6_write_54 : decode cX6_write 54 = .ok (.aload_n 0, 1) := by decide +kernel
theorem dX6_write_55 : decode cX6_write 55 = .ok (.getfield 72, 3) := by decide +kernel
theorem dX6_write_58 : decode cX6_write 58 = .ok (.bipush 40, 2) := by decide +kernel
theorem dX6_write_60 : decode cX6_write 60 = .ok (.iload_n 1, 1) := by decide +kernel
theorem dX6_write_61 : decode cX6_write 61 = .ok (.imul, 1) := by decide +kernel
theorem dX6_write_62 : decode cX6_write 62 = .ok (.iload_n 2, 1) := by decide +kernel
theorem dX6_write_63 : decode cX6_write 63 = .ok (.iadd, 1) := by decide +kernel
theorem dX6_write_64 : decode cX6_write 64 = .ok (.iload_n 3, 1) := by decide +kernel
theorem dX6_write_65 : decode cX6_write 65 = .ok (.aload_n 0, 1) := by decide +kernel
theorem dX6_write_66 : decode cX6_write 66 = .ok (.getfield 66, 3) := by decide +kernel
theorem dX6_write_69 : decode cX6_write 69 = .ok (.iload_n 1, 1) := by decide +kernel
theorem dX6_write_70 : decode cX6_write 70 = .ok (.iaload, 1) := by decide +kernel
theorem dX6_write_71 : decode cX6_write 71 = .ok (.invokestatic 297, 3) := by decide +kernel
theorem dX6_write_74 : decode cX6_write 74 = .ok (.iastore, 1) := by decide +kernel
theorem dX6_write_75 : decode cX6_write 75 = .ok (.iconst 1, 1) := by decide +kernel
theorem dX6_write_76 : decode cX6_write 76 = .ok (.ireturn, 1) := by decide +kernel
def m_X6_write (a1 : Int32) (a2 : Int32) (a3 : Int32) (u : zM) : Option (Int32 × zM) :=
  (if (m_X6_isSheet a1) = 0 then
zbind2 (m_X6_finding (-1000001) u) (fun x18 u19 => some (x18, u19))
else
zbind (zld u 51 4 a1) (fun x2 => (if x2 = 0 then
zbind2 (m_X6_finding (-1000006) u) (fun x15 u16 => some (x15, u16))
else
zbind (zld u 52 4 a1) (fun x5 => (if (m_X6_within a2 0 (x5 - 1)) = 0 then
zbind2 (m_X6_finding (-1000001) u) (fun x12 u13 => some (x12, u13))
else
zbind (zld u 51 4 a1) (fun x8 => zbind (zsv u 53 160 ((40 * a1) + a2) (m_X6_cutTo a3 x8)) (fun u10 => some (1, u10))))))))
set_option maxHeartbeats 4000000 in
set_option maxRecDepth 100000 in
theorem c_X6_write (a1 : Int32) (a2 : Int32) (a3 : Int32)   (u : zM) (r : Int32) (u' : zM) (h : m_X6_write a1 a2 a3 u = some (r, u')) : zCt 3 yX6_write cX6_write 4 (some .int) (fun E => [.ref (zad E 39), .int a1, .int a2, .int a3]) u (fun _ => some (.int r)) u' := by
  refine zCt.of (by decide +kernel) (fun E => Nat.le_of_ble_eq_true rfl) (fun X hX hR => ?_)
  have hX : zGood X RX6 cX6_write 4 3 := hX
  show zG X u 0 [(0, .ref (zad X.1 39)), (1, .int a1), (2, .int a2), (3, .int a3)] []
  unfold m_X6_write at h
  refine r_iload_n hX dX6_write_0 1 rfl rfl ?_
  refine r_callS (As := [.int a1]) (rest := []) (st1 := [.int (m_X6_isSheet a1)]) hX dX6_write_1 ls_RX6_293 (c_X6_isSheet a1  u _ rfl) (by decide) rfl rfl rfl (Nat.le_of_ble_eq_true rfl) rfl ?_
  refine r_if_ne (tgt := 14) hX dX6_write_4 (by decide) (fun c1 => ?_) (fun c1 => ?_)
  · have h := (if_neg c1).symm.trans h
    refine r_aload_n hX dX6_write_14 0 rfl rfl ?_
    refine r_getR hX dX6_write_15 f_RX6_66 zr_39_23 ?_
    refine r_iload_n hX dX6_write_18 1 rfl rfl ?_
    obtain ⟨x2, e3, h⟩ := zbind_elim h
    refine r_iald hX dX6_write_19 rfl e3 ?_
    refine r_if_ne (tgt := 31) hX dX6_write_20 (by decide) (fun c4 => ?_) (fun c4 => ?_)
    · have h := (if_neg c4).symm.trans h
      refine r_iload_n hX dX6_write_31 2 rfl rfl ?_
      refine r_iconst (v := 0) hX dX6_write_32 (by decide) ?_
      refine r_aload_n hX dX6_write_33 0 rfl rfl ?_
      refine r_getR hX dX6_write_34 f_RX6_69 zr_39_24 ?_
      refine r_iload_n hX dX6_write_37 1 rfl rfl ?_
      obtain ⟨x5, e6, h⟩ := zbind_elim h
      refine r_iald hX dX6_write_38 rfl e6 ?_
      refine r_iconst (v := 1) hX dX6_write_39 (by decide) ?_
      refine r_isub hX dX6_write_40 ?_
      refine r_callS (As := [.int a2, .int 0, .int (x5 - 1)]) (rest := []) (st1 := [.int (m_X6_within a2 0 (x5 - 1))]) hX dX6_write_41 ls_RX6_79 (c_X6_within a2 0 (x5 - 1)  u _ rfl) (by decide) rfl rfl rfl (Nat.le_of_ble_eq_true rfl) rfl ?_
      refine r_if_ne (tgt := 54) hX dX6_write_44 (by decide) (fun c7 => ?_) (fun c7 => ?_)
      · have h := (if_neg c7).symm.trans h
        refine r_aload_n hX dX6_write_54 0 rfl rfl ?_
        refine r_getR hX dX6_write_55 f_RX6_72 zr_39_25 ?_
        refine r_bipush (v := 40) hX dX6_write_58 (by decide) ?_
        refine r_iload_n hX dX6_write_60 1 rfl rfl ?_
        refine r_imul hX dX6_write_61 ?_
        refine r_iload_n hX dX6_write_62 2 rfl rfl ?_
        refine r_iadd hX dX6_write_63 ?_
        refine r_iload_n hX dX6_write_64 3 rfl rfl ?_
        refine r_aload_n hX dX6_write_65 0 rfl rfl ?_
        refine r_getR hX dX6_write_66 f_RX6_66 zr_39_23 ?_
        refine r_iload_n hX dX6_write_69 1 rfl rfl ?_
        obtain ⟨x8, e9, h⟩ := zbind_elim h
        refine r_iald hX dX6_write_70 rfl e9 ?_
        refine r_callS (As := [.int a3, .int x8]) (rest := [.int ((40 * a1) + a2), .ref (zad X.1 53)]) (st1 := [.int (m_X6_cutTo a3 x8), .int ((40 * a1) + a2), .ref (zad X.1 53)]) hX dX6_write_71 ls_RX6_297 (c_X6_cutTo a3 x8  u _ rfl) (by decide) rfl rfl rfl (Nat.le_of_ble_eq_true rfl) rfl ?_
        obtain ⟨u10, e11, h⟩ := zbind_elim h
        refine r_iast hX dX6_write_74 rfl e11 ?_
        refine r_iconst (v := 1) hX dX6_write_75 (by decide) ?_
        obtain ⟨rfl, rfl⟩ := zinj2 (Option.some.inj h)
        exact r_iret hX hR dX6_write_76
      · have h := (if_pos c7).symm.trans h
        refine r_aload_n hX dX6_write_47 0 rfl rfl ?_
        refine r_ldc (v := (-1000001)) hX dX6_write_48 (zT_in 1041 (by decide +kernel) rfl) ?_
        obtain ⟨x12, u13, e14, h⟩ := zbind2_elim h
        refine r_callV (As := [.int (-1000001)]) (rest := []) (st1 := [.int x12]) hX dX6_write_50 lv_RX6_83 (c_X6_finding (-1000001)  u _ _ e14) (by decide) rfl rfl (zRecv.of (q := 39) (ci := 6) rfl rfl) rfl (Nat.le_of_ble_eq_true rfl) rfl ?_
        obtain ⟨rfl, rfl⟩ := zinj2 (Option.some.inj h)
        exact r_iret hX hR dX6_write_53
    · have h := (if_pos c4).symm.trans h
      refine r_aload_n hX dX6_write_23 0 rfl rfl ?_
      refine r_ldcw (v := (-1000006)) hX dX6_write_24 (zT_in 1367 (by decide +kernel) rfl) ?_
      obtain ⟨x15, u16, e17, h⟩ := zbind2_elim h
      refine r_callV (As := [.int (-1000006)]) (rest := []) (st1 := [.int x15]) hX dX6_write_27 lv_RX6_83 (c_X6_finding (-1000006)  u _ _ e17) (by decide) rfl rfl (zRecv.of (q := 39) (ci := 6) rfl rfl) rfl (Nat.le_of_ble_eq_true rfl) rfl ?_
      obtain ⟨rfl, rfl⟩ := zinj2 (Option.some.inj h)
      exact r_iret hX hR dX6_write_30
  · have h := (if_pos c1).symm.trans h
    refine r_aload_n hX dX6_write_7 0 rfl rfl ?_
    refine r_ldc (v := (-1000001)) hX dX6_write_8 (zT_in 1041 (by decide +kernel) rfl) ?_
    obtain ⟨x18, u19, e20, h⟩ := zbind2_elim h
    refine r_callV (As := [.int (-1000001)]) (rest := []) (st1 := [.int x18]) hX dX6_write_10 lv_RX6_83 (c_X6_finding (-1000001)  u _ _ e20) (by decide) rfl rfl (zRecv.of (q := 39) (ci := 6) rfl rfl) rfl (Nat.le_of_ble_eq_true rfl) rfl ?_
    obtain ⟨rfl, rfl⟩ := zinj2 (Option.some.inj h)
    exact r_iret hX hR dX6_write_13
