/-! MODELS AND CONTRACTS, by program (wip/whole/gen_all.py): X6_odds, X6_seed, X6_feed, X6_wipe, X6_byteAt -/
theorem dX6_odds_0 : decode cX6_odds 0 = .ok (.iload_n 1, 1) := by decide +kernel
theorem dX6_odds_1 : decode cX6_odds 1 = .ok (.iconst 1, 1) := by decide +kernel
theorem dX6_odds_2 : decode cX6_odds 2 = .ok (.bipush 30, 2) := by decide +kernel
theorem dX6_odds_4 : decode cX6_odds 4 = .ok (.invokestatic 79, 3) := by decide +kernel
theorem dX6_odds_7 : decode cX6_odds 7 = .ok (.ifCond .ne 10, 3) := by decide +kernel
theorem dX6_odds_10 : decode cX6_odds 10 = .ok (.aload_n 0, 1) := by decide +kernel
theorem dX6_odds_11 : decode cX6_odds 11 = .ok (.ldc 78, 2) := by decide +kernel
theorem dX6_odds_13 : decode cX6_odds 13 = .ok (.invokevirtual 83, 3) := by decide +kernel
theorem dX6_odds_16 : decode cX6_odds 16 = .ok (.ireturn, 1) := by decide +kernel
theorem dX6_odds_17 : decode cX6_odds 17 = .ok (.aload_n 0, 1) := by decide +kernel
theorem dX6_odds_18 : decode cX6_odds 18 = .ok (.invokevirtual 139, 3) := by decide +kernel
theorem dX6_odds_21 : decode cX6_odds 21 = .ok (.istore_n 2, 1) := by decide +kernel
theorem dX6_odds_22 : decode cX6_odds 22 = .ok (.iload_n 2, 1) := by decide +kernel
theorem dX6_odds_23 : decode cX6_odds 23 = .ok (.ifCond .ne 10, 3) := by decide +kernel
theorem dX6_odds_26 : decode cX6_odds 26 = .ok (.aload_n 0, 1) := by decide +kernel
theorem dX6_odds_27 : decode cX6_odds 27 = .ok (.ldc 142, 2) := by decide +kernel
theorem dX6_odds_29 : decode cX6_odds 29 = .ok (.invokevirtual 83, 3) := by decide +kernel
theorem dX6_odds_32 : decode cX6_odds 32 = .ok (.ireturn, 1) := by decide +kernel
theorem dX6_odds_33 : decode cX6_odds 33 = .ok (.iconst 0, 1) := by decide +kernel
theorem dX6_odds_34 : decode cX6_odds 34 = .ok (.istore_n 3, 1) := by decide +kernel
theorem dX6_odds_35 : decode cX6_odds 35 = .ok (.iconst 0, 1) := by decide +kernel
theorem dX6_odds_36 : decode cX6_odds 36 = .ok (.istore 4, 2) := by decide +kernel
theorem dX6_odds_38 : decode cX6_odds 38 = .ok (.iload 4, 2) := by decide +kernel
theorem dX6_odds_40 : decode cX6_odds 40 = .ok (.iload_n 1, 1) := by decide +kernel
theorem dX6_odds_41 : decode cX6_odds 41 = .ok (.if_icmp .ge 105, 3) := by decide +kernel
theorem dX6_odds_44 : decode cX6_odds 44 = .ok (.aload_n 0, 1) := by decide +kernel
theorem dX6_odds_45 : decode cX6_odds 45 = .ok (.iload_n 2, 1) := by decide +kernel
theorem dX6_odds_46 : decode cX6_odds 46 = .ok (.invokevirtual 152, 3) := by decide +kernel
theorem dX6_odds_49 : decode cX6_odds 49 = .ok (.aload_n 0, 1) := by decide +kernel
theorem dX6_odds_50 : decode cX6_odds 50 = .ok (.invokevirtual 210, 3) := by decide +kernel
theorem dX6_odds_53 : decode cX6_odds 53 = .ok (.iconst 1, 1) := by decide +kernel
theorem dX6_odds_54 : decode cX6_odds 54 = .ok (.istore 5, 2) := by decide +kernel
theorem dX6_odds_56 : decode cX6_odds 56 = .ok (.iconst 0, 1) := by decide +kernel
theorem dX6_odds_57 : decode cX6_odds 57 = .ok (.istore 6, 2) := by decide +kernel
theorem dX6_odds_59 : decode cX6_odds 59 = .ok (.iload 6, 2) := by decide +kernel
theorem dX6_odds_61 : decode cX6_odds 61 = .ok (.iconst 3, 1) := by decide +kernel
theorem dX6_odds_62 : decode cX6_odds 62 = .ok (.if_icmp .ge 38, 3) := by decide +kernel
theorem dX6_odds_65 : decode cX6_odds 65 = .ok (.iload 5, 2) := by decide +kernel
theorem dX6_odds_67 : decode cX6_odds 67 = .ok (.ifCond .eq 24, 3) := by decide +kernel
theorem dX6_odds_70 : decode cX6_odds 70 = .ok (.aload_n 0, 1) := by decide +kernel
theorem dX6_odds_71 : decode cX6_odds 71 = .ok (.iload_n 2, 1) := by decide +kernel
theorem dX6_odds_72 : decode cX6_odds 72 = .ok (.iload 6, 2) := by decide +kernel
theorem dX6_odds_74 : decode cX6_odds 74 = .ok (.invokevirtual 133, 3) := by decide +kernel
theorem dX6_odds_77 : decode cX6_odds 77 = .ok (.aload_n 0, 1) := by decide +kernel
theorem dX6_odds_78 : decode cX6_odds 78 = .ok (.getfield 19, 3) := by decide +kernel
theorem dX6_odds_81 : decode cX6_odds 81 = .ok (.iload 6, 2) := by decide +kernel
theorem dX6_odds_83 : decode cX6_odds 83 = .ok (.iaload, 1) := by decide +kernel
theorem dX6_odds_84 : decode cX6_odds 84 = .ok (.if_icmp .ne 7, 3) := by decide +kernel
theorem dX6_odds_87 : decode cX6_odds 87 = .ok (.iconst 1, 1) := by decide +kernel
theorem dX6_odds_88 : decode cX6_odds 88 = .ok (.goto 4, 3) := by decide +kernel
theorem dX6_odds_91 : decode cX6_odds 91 = .ok (.iconst 0, 1) := by decide +kernel
theorem dX6_odds_92 : decode cX6_odds 92 = .ok (.istore 5, 2) := by decide +kernel
theorem dX6_odds_94 : decode cX6_odds 94 = .ok (.iinc 6 1, 3) := by decide +kernel
theorem dX6_odds_97 : decode cX6_odds 97 = .ok (.goto (-38), 3) := by decide +kernel
theorem dX6_odds_100 : decode cX6_odds 100 = .ok (.iload_n 3, 1) := by decide +kernel
theorem dX6_odds_101 : decode cX6_odds 101 = .ok (.iload 5, 2) := by decide +kernel
theorem dX6_odds_103 : decode cX6_odds 103 = .ok (.ifCond .eq 7, 3) := by decide +kernel
theorem dX6_odds_106 : decode cX6_odds 106 = .ok (.iconst 1, 1) := by decide +kernel
theorem dX6_odds_107 : decode cX6_odds 107 = .ok (.goto 4, 3) := by decide +kernel
theorem dX6_odds_110 : decode cX6_odds 110 = .ok (.iconst 0, 1) := by decide +kernel
theorem dX6_odds_111 : decode cX6_odds 111 = .ok (.iadd, 1) := by decide +kernel
theorem dX6_odds_112 : decode cX6_odds 112 = .ok (.istore_n 3, 1) := by decide +kernel
theorem dX6_odds_113 : decode cX6_odds 113 = .ok (.iconst 0, 1) := by decide +kernel
theorem dX6_odds_114 : decode cX6_odds 114 = .ok (.istore 6, 2) := by decide +kernel
theorem dX6_odds_116 : decode cX6_odds 116 = .ok (.iload 6, 2) := by decide +kernel
theorem dX6_odds_118 : decode cX6_odds 118 = .ok (.aload_n 0, 1) := by decide +kernel
theorem dX6_odds_119 : decode cX6_odds 119 = .ok (.getfield 22, 3) := by decide +kernel
theorem dX6_odds_122 : decode cX6_odds 122 = .ok (.arraylength, 1) := by decide +kernel
theorem dX6_odds_123 : decode cX6_odds 123 = .ok (.if_icmp .ge 17, 3) := by decide +kernel
theorem dX6_odds_126 : decode cX6_odds 126 = .ok (.aload_n 0, 1) := by decide +kernel
theorem dX6_odds_127 : decode cX6_odds 127 = .ok (.getfield 22, 3) := by decide +kernel
theorem dX6_odds_130 : decode cX6_odds 130 = .ok (.iload 6, 2) := by decide +kernel
theorem dX6_odds_132 : decode cX6_odds 132 = .ok (.iconst 0, 1) := by decide +kernel
theorem dX6_odds_133 : decode cX6_odds 133 = .ok (.iastore, 1) := by decide +kernel
theorem dX6_odds_134 : decode cX6_odds 134 = .ok (.iinc 6 1, 3) := by decide +kernel
theorem dX6_odds_137 : decode cX6_odds 137 = .ok (.goto (-21), 3) := by decide +kernel
theorem dX6_odds_140 : decode cX6_odds 140 = .ok (.iinc 4 1, 3) := by decide +kernel
theorem dX6_odds_143 : decode cX6_odds 143 = .ok (.goto (-105), 3) := by decide +kernel
theorem dX6_odds_146 : decode cX6_odds 146 = .ok (.iload_n 3, 1) := by decide +kernel
theorem dX6_odds_147 : decode cX6_odds 147 = .ok (.ireturn, 1) := by decide +kernel
def m_X6_odds_b1 (x2 : Int32) (x16 : Int32) (x17 : Int32) (u18 : zM) : Option ((Int32 × Int32 × zM) ⊕ (Int32 × zM)) :=
  (if 3 ≤ x17 then
some (.inr (x16, u18))
else
(if x16 = 0 then
some (.inl (0, (x17 + 1), u18))
else
zbind2 (m_X6_cutFor x2 x17 u18) (fun x24 u25 => zbind (zld u25 43 3 x17) (fun x27 => (if x24 = x27 then
some (.inl (1, (x17 + 1), u25))
else
some (.inl (0, (x17 + 1), u25)))))))
def m_X6_odds_b2  (x33 : Int32) (u34 : zM) : Option ((Int32 × zM) ⊕ (zM)) :=
  (if 36 ≤ x33 then
some (.inr u34)
else
zbind (zsv u34 44 36 x33 0) (fun u38 => some (.inl ((x33 + 1), u38))))
def m_X6_odds_b0 (a1 : Int32) (x2 : Int32) (x5 : Int32) (x6 : Int32) (u7 : zM) : Option ((Int32 × Int32 × zM) ⊕ (Int32 × zM)) :=
  (if a1 ≤ x6 then
some (.inr (x5, u7))
else
zbind (m_X6_cut x2 u7) (fun u12 => zbind (m_X6_slip u12) (fun u14 => zbind2 (zit zF (fun s : Int32 × Int32 × zM => m_X6_odds_b1 x2 s.1 s.2.1 s.2.2) (1, 0, u14)) (fun x19 u20 =>
zlet ((if x19 = 0 then
0
else
1) : Int32) (fun x30 =>
zbind (zit zF (fun s : Int32 × zM => m_X6_odds_b2 s.1 s.2) (0, u20)) (fun u35 =>
some (.inl ((x5 + x30), (x6 + 1), u35))))))))
def m_X6_odds (a1 : Int32) (u : zM) : Option (Int32 × zM) :=
  (if (m_X6_within a1 1 30) = 0 then
zbind2 (m_X6_finding (-1000001) u) (fun x43 u44 => some (x43, u44))
else
zbind (m_X6_hereSet u) (fun x2 => (if x2 = 0 then
zbind2 (m_X6_finding (-1000004) u) (fun x40 u41 => some (x40, u41))
else
zbind2 (zit zF (fun s : Int32 × Int32 × zM => m_X6_odds_b0 a1 x2 s.1 s.2.1 s.2.2) (0, 0, u)) (fun x8 u9 =>
some (x8, u9)))))
set_option maxHeartbeats 4000000 in
set_option maxRecDepth 100000 in
theorem c_X6_odds (a1 : Int32)   (u : zM) (r : Int32) (u' : zM) (h : m_X6_odds a1 u = some (r, u')) : zCt 6 yX6_odds cX6_odds 7 (some .int) (fun E => [.ref (zad E 39), .int a1]) u (fun _ => some (.int r)) u' := by
  refine zCt.of (by decide +kernel) (fun E => Nat.le_of_ble_eq_true rfl) (fun X hX hR => ?_)
  have hX : zGood X RX6 cX6_odds 7 6 := hX
  show zG X u 0 [(0, .ref (zad X.1 39)), (1, .int a1)] []
  unfold m_X6_odds at h
  refine r_iload_n hX dX6_odds_0 1 rfl rfl ?_
  refine r_iconst (v := 1) hX dX6_odds_1 (by decide) ?_
  refine r_bipush (v := 30) hX dX6_odds_2 (by decide) ?_
  refine r_callS (As := [.int a1, .int 1, .int 30]) (rest := []) (st1 := [.int (m_X6_within a1 1 30)]) hX dX6_odds_4 ls_RX6_79 (c_X6_within a1 1 30  u _ rfl) (by decide) rfl rfl rfl (Nat.le_of_ble_eq_true rfl) rfl ?_
  refine r_if_ne (tgt := 17) hX dX6_odds_7 (by decide) (fun c1 => ?_) (fun c1 => ?_)
  · have h := (if_neg c1).symm.trans h
    refine r_aload_n hX dX6_odds_17 0 rfl rfl ?_
    obtain ⟨x2, e3, h⟩ := zbind_elim h
    refine r_callV (As := []) (rest := []) (st1 := [.int x2]) hX dX6_odds_18 lv_RX6_139 (c_X6_hereSet   u _ e3) (by decide) rfl rfl (zRecv.of (q := 39) (ci := 6) rfl rfl) rfl (Nat.le_of_ble_eq_true rfl) rfl ?_
    refine r_istore_n (y := x2) (L' := [(2, .int x2), (0, .ref (zad X.1 39)), (1, .int a1)]) hX dX6_odds_21 rfl (by decide) rfl rfl ?_
    refine r_iload_n hX dX6_odds_22 0 rfl rfl ?_
    refine r_if_ne (tgt := 33) hX dX6_odds_23 (by decide) (fun c4 => ?_) (fun c4 => ?_)
    · have h := (if_neg c4).symm.trans h
      refine r_iconst (v := 0) hX dX6_odds_33 (by decide) ?_
      refine r_istore_n (y := 0) (L' := [(3, .int 0), (2, .int x2), (0, .ref (zad X.1 39)), (1, .int a1)]) hX dX6_odds_34 rfl (by decide) rfl rfl ?_
      refine r_iconst (v := 0) hX dX6_odds_35 (by decide) ?_
      refine r_istore (y := 0) (L' := [(4, .int 0), (3, .int 0), (2, .int x2), (0, .ref (zad X.1 39)), (1, .int a1)]) hX dX6_odds_36 (by decide) rfl rfl ?_
      refine r_sub [3, 4, 2, 1, 0] (L' := [(0, .ref (zad X.1 39)), (1, .int a1), (2, .int x2), (3, .int 0), (4, .int 0)]) rfl ?_
      obtain ⟨x8, u9, h10, h⟩ := zbind2_elim h
      have Jh10 : zG X u9 146 [(3, .int x8)] [] := by
          refine r_iload_n hX dX6_odds_146 0 rfl rfl ?_
          obtain ⟨rfl, rfl⟩ := zinj2 (Option.some.inj h)
          exact r_iret hX hR dX6_odds_147
      clear h
      refine zit_walk (P := fun s0 : Int32 × Int32 × zM => zG X s0.2.2 38 [(0, .ref (zad X.1 39)), (1, .int a1), (2, .int x2), (3, .int (s0.1)), (4, .int (s0.2.1))] []) ?_ zF _ h10
      clear h10
      intro s0 y0 h0b hin0 hout0
      obtain ⟨x5, x6, u7⟩ := s0
      have h0b : m_X6_odds_b0 a1 x2 x5 x6 u7 = some y0 := h0b
      unfold m_X6_odds_b0 at h0b
      show zG X u7 38 [(0, .ref (zad X.1 39)), (1, .int a1), (2, .int x2), (3, .int x5), (4, .int x6)] []
      refine r_iload hX dX6_odds_38 4 rfl ?_
      refine r_iload_n hX dX6_odds_40 1 rfl rfl ?_
      refine r_icmp_ge (tgt := 146) hX dX6_odds_41 (by decide) (fun c11 => ?_) (fun c11 => ?_)
      · have h0b := (if_pos c11).symm.trans h0b
        refine r_sub [3] (L' := [(3, .int x5)]) rfl ?_
        have h0b := hout0 _ (Option.some.inj h0b).symm
        obtain ⟨rfl, rfl⟩ := zinj2 h0b
        exact Jh10
      · have h0b := (if_neg c11).symm.trans h0b
        refine r_aload_n hX dX6_odds_44 0 rfl rfl ?_
        refine r_iload_n hX dX6_odds_45 2 rfl rfl ?_
        obtain ⟨u12, e13, h0b⟩ := zbind_elim h0b
        refine r_callV (As := [.int x2]) (rest := []) (st1 := []) hX dX6_odds_46 lv_RX6_152 (c_X6_cut x2  u7 _ e13) (by decide) rfl rfl (zRecv.of (q := 39) (ci := 6) rfl rfl) rfl (Nat.le_of_ble_eq_true rfl) rfl ?_
        refine r_aload_n hX dX6_odds_49 0 rfl rfl ?_
        obtain ⟨u14, e15, h0b⟩ := zbind_elim h0b
        refine r_callV (As := []) (rest := []) (st1 := []) hX dX6_odds_50 lv_RX6_210 (c_X6_slip   u12 _ e15) (by decide) rfl rfl (zRecv.of (q := 39) (ci := 6) rfl rfl) rfl (Nat.le_of_ble_eq_true rfl) rfl ?_
        refine r_iconst (v := 1) hX dX6_odds_53 (by decide) ?_
        refine r_istore (y := 1) (L' := [(5, .int 1), (0, .ref (zad X.1 39)), (1, .int a1), (2, .int x2), (3, .int x5), (4, .int x6)]) hX dX6_odds_54 (by decide) rfl rfl ?_
        refine r_iconst (v := 0) hX dX6_odds_56 (by decide) ?_
        refine r_istore (y := 0) (L' := [(6, .int 0), (5, .int 1), (0, .ref (zad X.1 39)), (1, .int a1), (2, .int x2), (3, .int x5), (4, .int x6)]) hX dX6_odds_57 (by decide) rfl rfl ?_
        refine r_sub [2, 3, 4, 5, 6, 1, 0] (L' := [(0, .ref (zad X.1 39)), (1, .int a1), (2, .int x2), (3, .int x5), (4, .int x6), (5, .int 1), (6, .int 0)]) rfl ?_
        obtain ⟨x19, u20, h21, h0b⟩ := zbind2_elim h0b
        have Jh21 : zG X u20 100 [(0, .ref (zad X.1 39)), (1, .int a1), (2, .int x2), (3, .int x5), (4, .int x6), (5, .int x19)] [] := by
            refine r_iload_n hX dX6_odds_100 3 rfl rfl ?_
            refine r_iload hX dX6_odds_101 5 rfl ?_
            obtain ⟨x30, h31, h0b⟩ := zlet_elim h0b
            have Jh31 : zG X u20 111 [(0, .ref (zad X.1 39)), (1, .int a1), (2, .int x2), (4, .int x6)] [.int x30, .int x5] := by
                refine r_iadd hX dX6_odds_111 ?_
                refine r_istore_n (y := (x5 + x30)) (L' := [(3, .int (x5 + x30)), (0, .ref (zad X.1 39)), (1, .int a1), (2, .int x2), (4, .int x6)]) hX dX6_odds_112 rfl (by decide) rfl rfl ?_
                refine r_iconst (v := 0) hX dX6_odds_113 (by decide) ?_
                refine r_istore (y := 0) (L' := [(6, .int 0), (3, .int (x5 + x30)), (0, .ref (zad X.1 39)), (1, .int a1), (2, .int x2), (4, .int x6)]) hX dX6_odds_114 (by decide) rfl rfl ?_
                refine r_sub [2, 3, 4, 1, 5, 0] (L' := [(0, .ref (zad X.1 39)), (1, .int a1), (2, .int x2), (3, .int (x5 + x30)), (4, .int x6), (6, .int 0)]) rfl ?_
                obtain ⟨u35, h36, h0b⟩ := zbind_elim h0b
                have Jh36 : zG X u35 140 [(0, .ref (zad X.1 39)), (1, .int a1), (2, .int x2), (3, .int (x5 + x30)), (4, .int x6)] [] := by
                    refine r_iinc (v := (x6 + 1)) (L' := [(4, .int (x6 + 1)), (0, .ref (zad X.1 39)), (1, .int a1), (2, .int x2), (3, .int (x5 + x30))]) hX dX6_odds_140 (by decide) 4 rfl rfl rfl ?_
                    refine r_goto (tgt := 38) hX dX6_odds_143 (by decide) ?_
                    refine r_sub [1, 2, 3, 4, 0] (L' := [(0, .ref (zad X.1 39)), (1, .int a1), (2, .int x2), (3, .int (x5 + x30)), (4, .int (x6 + 1))]) rfl ?_
                    exact hin0 _ (Option.some.inj h0b).symm
                clear h0b
                refine zit_walk (P := fun s2 : Int32 × zM => zG X s2.2 116 [(0, .ref (zad X.1 39)), (1, .int a1), (2, .int x2), (3, .int (x5 + x30)), (4, .int x6), (6, .int (s2.1))] []) ?_ zF _ h36
                clear h36
                intro s2 y2 h2b hin2 hout2
                obtain ⟨x33, u34⟩ := s2
                have h2b : m_X6_odds_b2 x33 u34 = some y2 := h2b
                unfold m_X6_odds_b2 at h2b
                show zG X u34 116 [(0, .ref (zad X.1 39)), (1, .int a1), (2, .int x2), (3, .int (x5 + x30)), (4, .int x6), (6, .int x33)] []
                refine r_iload hX dX6_odds_116 5 rfl ?_
                refine r_aload_n hX dX6_odds_118 0 rfl rfl ?_
                refine r_getR hX dX6_odds_119 f_RX6_22 zr_39_5 ?_
                refine r_alen (v := 36) hX dX6_odds_122 rfl (by decide) ?_
                refine r_icmp_ge (tgt := 140) hX dX6_odds_123 (by decide) (fun c37 => ?_) (fun c37 => ?_)
                · have h2b := (if_pos c37).symm.trans h2b
                  refine r_sub [0, 1, 2, 3, 4] (L' := [(0, .ref (zad X.1 39)), (1, .int a1), (2, .int x2), (3, .int (x5 + x30)), (4, .int x6)]) rfl ?_
                  have h2b := hout2 _ (Option.some.inj h2b).symm
                  obtain rfl := h2b
                  exact Jh36
                · have h2b := (if_neg c37).symm.trans h2b
                  refine r_aload_n hX dX6_odds_126 0 rfl rfl ?_
                  refine r_getR hX dX6_odds_127 f_RX6_22 zr_39_5 ?_
                  refine r_iload hX dX6_odds_130 5 rfl ?_
                  refine r_iconst (v := 0) hX dX6_odds_132 (by decide) ?_
                  obtain ⟨u38, e39, h2b⟩ := zbind_elim h2b
                  refine r_iast hX dX6_odds_133 rfl e39 ?_
                  refine r_iinc (v := (x33 + 1)) (L' := [(6, .int (x33 + 1)), (0, .ref (zad X.1 39)), (1, .int a1), (2, .int x2), (3, .int (x5 + x30)), (4, .int x6)]) hX dX6_odds_134 (by decide) 5 rfl rfl rfl ?_
                  refine r_goto (tgt := 116) hX dX6_odds_137 (by decide) ?_
                  refine r_sub [1, 2, 3, 4, 5, 0] (L' := [(0, .ref (zad X.1 39)), (1, .int a1), (2, .int x2), (3, .int (x5 + x30)), (4, .int x6), (6, .int (x33 + 1))]) rfl ?_
                  exact hin2 _ (Option.some.inj h2b).symm
            clear h0b
            refine r_if_eq (tgt := 110) hX dX6_odds_103 (by decide) (fun c32 => ?_) (fun c32 => ?_)
            · have h31 := (if_pos c32).symm.trans h31
              refine r_iconst (v := 0) hX dX6_odds_110 (by decide) ?_
              refine r_sub [0, 1, 2, 4] (L' := [(0, .ref (zad X.1 39)), (1, .int a1), (2, .int x2), (4, .int x6)]) rfl ?_
              obtain rfl := h31
              exact Jh31
            · have h31 := (if_neg c32).symm.trans h31
              refine r_iconst (v := 1) hX dX6_odds_106 (by decide) ?_
              refine r_goto (tgt := 111) hX dX6_odds_107 (by decide) ?_
              refine r_sub [0, 1, 2, 4] (L' := [(0, .ref (zad X.1 39)), (1, .int a1), (2, .int x2), (4, .int x6)]) rfl ?_
              obtain rfl := h31
              exact Jh31
        clear h0b
        refine zit_walk (P := fun s1 : Int32 × Int32 × zM => zG X s1.2.2 59 [(0, .ref (zad X.1 39)), (1, .int a1), (2, .int x2), (3, .int x5), (4, .int x6), (5, .int (s1.1)), (6, .int (s1.2.1))] []) ?_ zF _ h21
        clear h21
        intro s1 y1 h1b hin1 hout1
        obtain ⟨x16, x17, u18⟩ := s1
        have h1b : m_X6_odds_b1 x2 x16 x17 u18 = some y1 := h1b
        unfold m_X6_odds_b1 at h1b
        show zG X u18 59 [(0, .ref (zad X.1 39)), (1, .int a1), (2, .int x2), (3, .int x5), (4, .int x6), (5, .int x16), (6, .int x17)] []
        refine r_iload hX dX6_odds_59 6 rfl ?_
        refine r_iconst (v := 3) hX dX6_odds_61 (by decide) ?_
        refine r_icmp_ge (tgt := 100) hX dX6_odds_62 (by decide) (fun c22 => ?_) (fun c22 => ?_)
        · have h1b := (if_pos c22).symm.trans h1b
          refine r_sub [0, 1, 2, 3, 4, 5] (L' := [(0, .ref (zad X.1 39)), (1, .int a1), (2, .int x2), (3, .int x5), (4, .int x6), (5, .int x16)]) rfl ?_
          have h1b := hout1 _ (Option.some.inj h1b).symm
          obtain ⟨rfl, rfl⟩ := zinj2 h1b
          exact Jh21
        · have h1b := (if_neg c22).symm.trans h1b
          refine r_iload hX dX6_odds_65 5 rfl ?_
          refine r_if_eq (tgt := 91) hX dX6_odds_67 (by decide) (fun c23 => ?_) (fun c23 => ?_)
          · have h1b := (if_pos c23).symm.trans h1b
            refine r_iconst (v := 0) hX dX6_odds_91 (by decide) ?_
            refine r_istore (y := 0) (L' := [(5, .int 0), (0, .ref (zad X.1 39)), (1, .int a1), (2, .int x2), (3, .int x5), (4, .int x6), (6, .int x17)]) hX dX6_odds_92 (by decide) rfl rfl ?_
            refine r_iinc (v := (x17 + 1)) (L' := [(6, .int (x17 + 1)), (5, .int 0), (0, .ref (zad X.1 39)), (1, .int a1), (2, .int x2), (3, .int x5), (4, .int x6)]) hX dX6_odds_94 (by decide) 6 rfl rfl rfl ?_
            refine r_goto (tgt := 59) hX dX6_odds_97 (by decide) ?_
            refine r_sub [2, 3, 4, 5, 6, 1, 0] (L' := [(0, .ref (zad X.1 39)), (1, .int a1), (2, .int x2), (3, .int x5), (4, .int x6), (5, .int 0), (6, .int (x17 + 1))]) rfl ?_
            exact hin1 _ (Option.some.inj h1b).symm
          · have h1b := (if_neg c23).symm.trans h1b
            refine r_aload_n hX dX6_odds_70 0 rfl rfl ?_
            refine r_iload_n hX dX6_odds_71 2 rfl rfl ?_
            refine r_iload hX dX6_odds_72 6 rfl ?_
            obtain ⟨x24, u25, e26, h1b⟩ := zbind2_elim h1b
            refine r_callV (As := [.int x2, .int x17]) (rest := []) (st1 := [.int x24]) hX dX6_odds_74 lv_RX6_133 (c_X6_cutFor x2 x17  u18 _ _ e26) (by decide) rfl rfl (zRecv.of (q := 39) (ci := 6) rfl rfl) rfl (Nat.le_of_ble_eq_true rfl) rfl ?_
            refine r_aload_n hX dX6_odds_77 0 rfl rfl ?_
            refine r_getR hX dX6_odds_78 f_RX6_19 zr_39_4 ?_
            refine r_iload hX dX6_odds_81 6 rfl ?_
            obtain ⟨x27, e28, h1b⟩ := zbind_elim h1b
            refine r_iald hX dX6_odds_83 rfl e28 ?_
            refine r_icmp_ne (tgt := 91) hX dX6_odds_84 (by decide) (fun c29 => ?_) (fun c29 => ?_)
            · have h1b := (if_neg c29).symm.trans h1b
              refine r_iconst (v := 0) hX dX6_odds_91 (by decide) ?_
              refine r_istore (y := 0) (L' := [(5, .int 0), (0, .ref (zad X.1 39)), (1, .int a1), (2, .int x2), (3, .int x5), (4, .int x6), (6, .int x17)]) hX dX6_odds_92 (by decide) rfl rfl ?_
              refine r_iinc (v := (x17 + 1)) (L' := [(6, .int (x17 + 1)), (5, .int 0), (0, .ref (zad X.1 39)), (1, .int a1), (2, .int x2), (3, .int x5), (4, .int x6)]) hX dX6_odds_94 (by decide) 6 rfl rfl rfl ?_
              refine r_goto (tgt := 59) hX dX6_odds_97 (by decide) ?_
              refine r_sub [2, 3, 4, 5, 6, 1, 0] (L' := [(0, .ref (zad X.1 39)), (1, .int a1), (2, .int x2), (3, .int x5), (4, .int x6), (5, .int 0), (6, .int (x17 + 1))]) rfl ?_
              exact hin1 _ (Option.some.inj h1b).symm
            · have h1b := (if_pos c29).symm.trans h1b
              refine r_iconst (v := 1) hX dX6_odds_87 (by decide) ?_
              refine r_goto (tgt := 92) hX dX6_odds_88 (by decide) ?_
              refine r_istore (y := 1) (L' := [(5, .int 1), (0, .ref (zad X.1 39)), (1, .int a1), (2, .int x2), (3, .int x5), (4, .int x6), (6, .int x17)]) hX dX6_odds_92 (by decide) rfl rfl ?_
              refine r_iinc (v := (x17 + 1)) (L' := [(6, .int (x17 + 1)), (5, .int 1), (0, .ref (zad X.1 39)), (1, .int a1), (2, .int x2), (3, .int x5), (4, .int x6)]) hX dX6_odds_94 (by decide) 6 rfl rfl rfl ?_
              refine r_goto (tgt := 59) hX dX6_odds_97 (by decide) ?_
              refine r_sub [2, 3, 4, 5, 6, 1, 0] (L' := [(0, .ref (zad X.1 39)), (1, .int a1), (2, .int x2), (3, .int x5), (4, .int x6), (5, .int 1), (6, .int (x17 + 1))]) rfl ?_
              exact hin1 _ (Option.some.inj h1b).symm
    · have h := (if_pos c4).symm.trans h
      refine r_aload_n hX dX6_odds_26 1 rfl rfl ?_
      refine r_ldc (v := (-1000004)) hX dX6_odds_27 (zT_in 1114 (by decide +kernel) rfl) ?_
      obtain ⟨x40, u41, e42, h⟩ := zbind2_elim h
      refine r_callV (As := [.int (-1000004)]) (rest := []) (st1 := [.int x40]) hX dX6_odds_29 lv_RX6_83 (c_X6_finding (-1000004)  u _ _ e42) (by decide) rfl rfl (zRecv.of (q := 39) (ci := 6) rfl rfl) rfl (Nat.le_of_ble_eq_true rfl) rfl ?_
      obtain ⟨rfl, rfl⟩ := zinj2 (Option.some.inj h)
      exact r_iret hX hR dX6_odds_32
  · have h := (if_pos c1).symm.trans h
    refine r_aload_n hX dX6_odds_10 0 rfl rfl ?_
    refine r_ldc (v := (-1000001)) hX dX6_odds_11 (zT_in 1041 (by decide +kernel) rfl) ?_
    obtain ⟨x43, u44, e45, h⟩ := zbind2_elim h
    refine r_callV (As := [.int (-1000001)]) (rest := []) (st1 := [.int x43]) hX dX6_odds_13 lv_RX6_83 (c_X6_finding (-1000001)  u _ _ e45) (by decide) rfl rfl (zRecv.of (q := 39) (ci := 6) rfl rfl) rfl (Nat.le_of_ble_eq_true rfl) rfl ?_
    obtain ⟨rfl, rfl⟩ := zinj2 (Option.some.inj h)
    exact r_iret hX hR dX6_odds_16
theorem dX6_seed_0 : decode cX6_seed 0 = .ok (.aload_n 0, 1) := by decide +kernel
theorem dX6_seed_1 : decode cX6_seed 1 = .ok (.iconst 5, 1) := by decide +kernel
theorem dX6_seed_2 : decode cX6_seed 2 = .ok (.iload_n 1, 1) := by decide +kernel
theorem dX6_seed_3 : decode cX6_seed 3 = .ok (.invokevirtual 110, 3) := by decide +kernel
theorem dX6_seed_6 : decode cX6_seed 6 = .ok (.ireturn, 1) := by decide +kernel
def m_X6_seed (a1 : Int32) (u : zM) : Option (Int32 × zM) :=
  zbind2 (m_X6_become 5 a1 u) (fun x1 u2 => some (x1, u2))
set_option maxHeartbeats 4000000 in
set_option maxRecDepth 100000 in
theorem c_X6_seed (a1 : Int32)   (u : zM) (r : Int32) (u' : zM) (h : m_X6_seed a1 u = some (r, u')) : zCt 2 yX6_seed cX6_seed 2 (some .int) (fun E => [.ref (zad E 39), .int a1]) u (fun _ => some (.int r)) u' := by
  refine zCt.of (by decide +kernel) (fun E => Nat.le_of_ble_eq_true rfl) (fun X hX hR => ?_)
  have hX : zGood X RX6 cX6_seed 2 2 := hX
  show zG X u 0 [(0, .ref (zad X.1 39)), (1, .int a1)] []
  unfold m_X6_seed at h
  refine r_aload_n hX dX6_seed_0 0 rfl rfl ?_
  refine r_iconst (v := 5) hX dX6_seed_1 (by decide) ?_
  refine r_iload_n hX dX6_seed_2 1 rfl rfl ?_
  obtain ⟨x1, u2, e3, h⟩ := zbind2_elim h
  refine r_callV (As := [.int 5, .int a1]) (rest := []) (st1 := [.int x1]) hX dX6_seed_3 lv_RX6_110 (c_X6_become 5 a1  u _ _ e3) (by decide) rfl rfl (zRecv.of (q := 39) (ci := 6) rfl rfl) rfl (Nat.le_of_ble_eq_true rfl) rfl ?_
  obtain ⟨rfl, rfl⟩ := zinj2 (Option.some.inj h)
  exact r_iret hX hR dX6_seed_6
theorem dX6_feed_0 : decode cX6_feed 0 = .ok (.iload_n 2, 1) := by decide +kernel
theorem dX6_feed_1 : decode cX6_feed 1 = .ok (.iconst 1, 1) := by decide +kernel
theorem dX6_feed_2 : decode cX6_feed 2 = .ok (.iconst 4, 1) := by decide +kernel
theorem dX6_feed_3 : decode cX6_feed 3 = .ok (.invokestatic 79, 3) := by decide +kernel
theorem dX6_feed_6 : decode cX6_feed 6 = .ok (.ifCond .ne 10, 3) := by decide +kernel
theorem dX6_feed_9 : decode cX6_feed 9 = .ok (.aload_n 0, 1) := by decide +kernel
theorem dX6_feed_10 : decode cX6_feed 10 = .ok (.ldc 78, 2) := by decide +kernel
theorem dX6_feed_12 : decode cX6_feed 12 = .ok (.invokevirtual 83, 3) := by decide +kernel
theorem dX6_feed_15 : decode cX6_feed 15 = .ok (.ireturn, 1) := by decide +kernel
theorem dX6_feed_16 : decode cX6_feed 16 = .ok (.aload_n 0, 1) := by decide +kernel
theorem dX6_feed_17 : decode cX6_feed 17 = .ok (.getfield 213, 3) := by decide +kernel
theorem dX6_feed_20 : decode cX6_feed 20 = .ok (.iload_n 2, 1) := by decide +kernel
theorem dX6_feed_21 : decode cX6_feed 21 = .ok (.iadd, 1) := by decide +kernel
theorem dX6_feed_22 : decode cX6_feed 22 = .ok (.bipush 120, 2) := by decide +kernel
theorem dX6_feed_24 : decode cX6_feed 24 = .ok (.if_icmp .le 10, 3) := by decide +kernel
theorem dX6_feed_27 : decode cX6_feed 27 = .ok (.aload_n 0, 1) := by decide +kernel
theorem dX6_feed_28 : decode cX6_feed 28 = .ok (.ldc 87, 2) := by decide +kernel
theorem dX6_feed_30 : decode cX6_feed 30 = .ok (.invokevirtual 83, 3) := by decide +kernel
theorem dX6_feed_33 : decode cX6_feed 33 = .ok (.ireturn, 1) := by decide +kernel
theorem dX6_feed_34 : decode cX6_feed 34 = .ok (.iload_n 2, 1) := by decide +kernel
theorem dX6_feed_35 : decode cX6_feed 35 = .ok (.iconst 1, 1) := by decide +kernel
theorem dX6_feed_36 : decode cX6_feed 36 = .ok (.isub, 1) := by decide +kernel
theorem dX6_feed_37 : decode cX6_feed 37 = .ok (.istore_n 3, 1) := by decide +kernel
theorem dX6_feed_38 : decode cX6_feed 38 = .ok (.iload_n 3, 1) := by decide +kernel
theorem dX6_feed_39 : decode cX6_feed 39 = .ok (.ifCond .lt 38, 3) := by decide +kernel
theorem dX6_feed_42 : decode cX6_feed 42 = .ok (.aload_n 0, 1) := by decide +kernel
theorem dX6_feed_43 : decode cX6_feed 43 = .ok (.getfield 31, 3) := by decide +kernel
theorem dX6_feed_46 : decode cX6_feed 46 = .ok (.aload_n 0, 1) := by decide +kernel
theorem dX6_feed_47 : decode cX6_feed 47 = .ok (.getfield 213, 3) := by decide +kernel
theorem dX6_feed_50 : decode cX6_feed 50 = .ok (.iload_n 1, 1) := by decide +kernel
theorem dX6_feed_51 : decode cX6_feed 51 = .ok (.bipush 8, 2) := by decide +kernel
theorem dX6_feed_53 : decode cX6_feed 53 = .ok (.iload_n 3, 1) := by decide +kernel
theorem dX6_feed_54 : decode cX6_feed 54 = .ok (.imul, 1) := by decide +kernel
theorem dX6_feed_55 : decode cX6_feed 55 = .ok (.ishr, 1) := by decide +kernel
theorem dX6_feed_56 : decode cX6_feed 56 = .ok (.sipush 255, 3) := by decide +kernel
theorem dX6_feed_59 : decode cX6_feed 59 = .ok (.iand, 1) := by decide +kernel
theorem dX6_feed_60 : decode cX6_feed 60 = .ok (.iastore, 1) := by decide +kernel
theorem dX6_feed_61 : decode cX6_feed 61 = .ok (.aload_n 0, 1) := by decide +kernel
theorem dX6_feed_62 : decode cX6_feed 62 = .ok (.dup, 1) := by decide +kernel
theorem dX6_feed_63 : decode cX6_feed 63 = .ok (.getfield 213, 3) := by decide +kernel
theorem dX6_feed_66 : decode cX6_feed 66 = .ok (.iconst 1, 1) := by decide +kernel
theorem dX6_feed_67 : decode cX6_feed 67 = .ok (.iadd, 1) := by decide +kernel
theorem dX6_feed_68 : decode cX6_feed 68 = .ok (.putfield 213, 3) := by decide +kernel
theorem dX6_feed_71 : decode cX6_feed 71 = .ok (.iinc 3 (-1), 3) := by decide +kernel
theorem dX6_feed_74 : decode cX6_feed 74 = .ok (.goto (-36), 3) := by decide +kernel
theorem dX6_feed_77 : decode cX6_feed 77 = .ok (.aload_n 0, 1) := by decide +kernel
theorem dX6_feed_78 : decode cX6_feed 78 = .ok (.getfield 213, 3) := by decide +kernel
theorem dX6_feed_81 : decode cX6_feed 81 = .ok (.ireturn, 1) := by decide +kernel
def m_X6_feed_b0 (a1 : Int32) (x3 : Int32) (u4 : zM) : Option ((Int32 × zM) ⊕ (zM)) :=
  (if x3 < 0 then
some (.inr u4)
else
zbind (zsv u4 47 120 (u4 39 12) ((zshr a1 (8 * x3)) &&& 255)) (fun u8 => zlet (zst u8 39 12 ((u8 39 12) + 1)) (fun u10 => some (.inl ((x3 + (-1)), u10)))))
def m_X6_feed (a1 : Int32) (a2 : Int32) (u : zM) : Option (Int32 × zM) :=
  (if (m_X6_within a2 1 4) = 0 then
zbind2 (m_X6_finding (-1000001) u) (fun x15 u16 => some (x15, u16))
else
(if ((u 39 12) + a2) ≤ 120 then
zbind (zit zF (fun s : Int32 × zM => m_X6_feed_b0 a1 s.1 s.2) ((a2 - 1), u)) (fun u5 =>
some ((u5 39 12), u5))
else
zbind2 (m_X6_finding (-1000002) u) (fun x12 u13 => some (x12, u13))))
set_option maxHeartbeats 4000000 in
set_option maxRecDepth 100000 in
theorem c_X6_feed (a1 : Int32) (a2 : Int32)   (u : zM) (r : Int32) (u' : zM) (h : m_X6_feed a1 a2 u = some (r, u')) : zCt 2 yX6_feed cX6_feed 4 (some .int) (fun E => [.ref (zad E 39), .int a1, .int a2]) u (fun _ => some (.int r)) u' := by
  refine zCt.of (by decide +kernel) (fun E => Nat.le_of_ble_eq_true rfl) (fun X hX hR => ?_)
  have hX : zGood X RX6 cX6_feed 4 2 := hX
  show zG X u 0 [(0, .ref (zad X.1 39)), (1, .int a1), (2, .int a2)] []
  unfold m_X6_feed at h
  refine r_iload_n hX dX6_feed_0 2 rfl rfl ?_
  refine r_iconst (v := 1) hX dX6_feed_1 (by decide) ?_
  refine r_iconst (v := 4) hX dX6_feed_2 (by decide) ?_
  refine r_callS (As := [.int a2, .int 1, .int 4]) (rest := []) (st1 := [.int (m_X6_within a2 1 4)]) hX dX6_feed_3 ls_RX6_79 (c_X6_within a2 1 4  u _ rfl) (by decide) rfl rfl rfl (Nat.le_of_ble_eq_true rfl) rfl ?_
  refine r_if_ne (tgt := 16) hX dX6_feed_6 (by decide) (fun c1 => ?_) (fun c1 => ?_)
  · have h := (if_neg c1).symm.trans h
    refine r_aload_n hX dX6_feed_16 0 rfl rfl ?_
    refine r_getI hX dX6_feed_17 f_RX6_213 zi_39_12 ?_
    refine r_iload_n hX dX6_feed_20 2 rfl rfl ?_
    refine r_iadd hX dX6_feed_21 ?_
    refine r_bipush (v := 120) hX dX6_feed_22 (by decide) ?_
    refine r_icmp_le (tgt := 34) hX dX6_feed_24 (by decide) (fun c2 => ?_) (fun c2 => ?_)
    · have h := (if_pos c2).symm.trans h
      refine r_iload_n hX dX6_feed_34 2 rfl rfl ?_
      refine r_iconst (v := 1) hX dX6_feed_35 (by decide) ?_
      refine r_isub hX dX6_feed_36 ?_
      refine r_istore_n (y := (a2 - 1)) (L' := [(3, .int (a2 - 1)), (0, .ref (zad X.1 39)), (1, .int a1), (2, .int a2)]) hX dX6_feed_37 rfl (by decide) rfl rfl ?_
      refine r_sub [1, 2, 0] (L' := [(0, .ref (zad X.1 39)), (1, .int a1), (3, .int (a2 - 1))]) rfl ?_
      obtain ⟨u5, h6, h⟩ := zbind_elim h
      have Jh6 : zG X u5 77 [(0, .ref (zad X.1 39))] [] := by
          refine r_aload_n hX dX6_feed_77 0 rfl rfl ?_
          refine r_getI hX dX6_feed_78 f_RX6_213 zi_39_12 ?_
          obtain ⟨rfl, rfl⟩ := zinj2 (Option.some.inj h)
          exact r_iret hX hR dX6_feed_81
      clear h
      refine zit_walk (P := fun s0 : Int32 × zM => zG X s0.2 38 [(0, .ref (zad X.1 39)), (1, .int a1), (3, .int (s0.1))] []) ?_ zF _ h6
      clear h6
      intro s0 y0 h0b hin0 hout0
      obtain ⟨x3, u4⟩ := s0
      have h0b : m_X6_feed_b0 a1 x3 u4 = some y0 := h0b
      unfold m_X6_feed_b0 at h0b
      show zG X u4 38 [(0, .ref (zad X.1 39)), (1, .int a1), (3, .int x3)] []
      refine r_iload_n hX dX6_feed_38 2 rfl rfl ?_
      refine r_if_lt (tgt := 77) hX dX6_feed_39 (by decide) (fun c7 => ?_) (fun c7 => ?_)
      · have h0b := (if_pos c7).symm.trans h0b
        refine r_sub [0] (L' := [(0, .ref (zad X.1 39))]) rfl ?_
        have h0b := hout0 _ (Option.some.inj h0b).symm
        obtain rfl := h0b
        exact Jh6
      · have h0b := (if_neg c7).symm.trans h0b
        refine r_aload_n hX dX6_feed_42 0 rfl rfl ?_
        refine r_getR hX dX6_feed_43 f_RX6_31 zr_39_11 ?_
        refine r_aload_n hX dX6_feed_46 0 rfl rfl ?_
        refine r_getI hX dX6_feed_47 f_RX6_213 zi_39_12 ?_
        refine r_iload_n hX dX6_feed_50 1 rfl rfl ?_
        refine r_bipush (v := 8) hX dX6_feed_51 (by decide) ?_
        refine r_iload_n hX dX6_feed_53 2 rfl rfl ?_
        refine r_imul hX dX6_feed_54 ?_
        refine r_ishr hX dX6_feed_55 ?_
        refine r_sipush (v := 255) hX dX6_feed_56 (by decide) ?_
        refine r_iand hX dX6_feed_59 ?_
        obtain ⟨u8, e9, h0b⟩ := zbind_elim h0b
        refine r_iast hX dX6_feed_60 rfl e9 ?_
        refine r_aload_n hX dX6_feed_61 0 rfl rfl ?_
        refine r_dup hX dX6_feed_62 rfl ?_
        refine r_getI hX dX6_feed_63 f_RX6_213 zi_39_12 ?_
        refine r_iconst (v := 1) hX dX6_feed_66 (by decide) ?_
        refine r_iadd hX dX6_feed_67 ?_
        obtain ⟨u10, e11, h0b⟩ := zlet_elim h0b
        refine r_putI hX dX6_feed_68 f_RX6_213 p_6_12 zi_39_12 ?_
        rw [e11]
        refine r_iinc (v := (x3 + (-1))) (L' := [(3, .int (x3 + (-1))), (0, .ref (zad X.1 39)), (1, .int a1)]) hX dX6_feed_71 (by decide) 2 rfl rfl rfl ?_
        refine r_goto (tgt := 38) hX dX6_feed_74 (by decide) ?_
        refine r_sub [1, 2, 0] (L' := [(0, .ref (zad X.1 39)), (1, .int a1), (3, .int (x3 + (-1)))]) rfl ?_
        exact hin0 _ (Option.some.inj h0b).symm
    · have h := (if_neg c2).symm.trans h
      refine r_aload_n hX dX6_feed_27 0 rfl rfl ?_
      refine r_ldc (v := (-1000002)) hX dX6_feed_28 (zT_in 1046 (by decide +kernel) rfl) ?_
      obtain ⟨x12, u13, e14, h⟩ := zbind2_elim h
      refine r_callV (As := [.int (-1000002)]) (rest := []) (st1 := [.int x12]) hX dX6_feed_30 lv_RX6_83 (c_X6_finding (-1000002)  u _ _ e14) (by decide) rfl rfl (zRecv.of (q := 39) (ci := 6) rfl rfl) rfl (Nat.le_of_ble_eq_true rfl) rfl ?_
      obtain ⟨rfl, rfl⟩ := zinj2 (Option.some.inj h)
      exact r_iret hX hR dX6_feed_33
  · have h := (if_pos c1).symm.trans h
    refine r_aload_n hX dX6_feed_9 0 rfl rfl ?_
    refine r_ldc (v := (-1000001)) hX dX6_feed_10 (zT_in 1041 (by decide +kernel) rfl) ?_
    obtain ⟨x15, u16, e17, h⟩ := zbind2_elim h
    refine r_callV (As := [.int (-1000001)]) (rest := []) (st1 := [.int x15]) hX dX6_feed_12 lv_RX6_83 (c_X6_finding (-1000001)  u _ _ e17) (by decide) rfl rfl (zRecv.of (q := 39) (ci := 6) rfl rfl) rfl (Nat.le_of_ble_eq_true rfl) rfl ?_
    obtain ⟨rfl, rfl⟩ := zinj2 (Option.some.inj h)
    exact r_iret hX hR dX6_feed_15
theorem dX6_wipe_0 : decode cX6_wipe 0 = .ok (.aload_n 0, 1) := by decide +kernel
theorem dX6_wipe_1 : decode cX6_wipe 1 = .ok (.getfield 213, 3) := by decide +kernel
theorem dX6_wipe_4 : decode cX6_wipe 4 = .ok (.istore_n 1, 1) := by decide +kernel
theorem dX6_wipe_5 : decode cX6_wipe 5 = .ok (.aload_n 0, 1) := by decide +kernel
theorem dX6_wipe_6 : decode cX6_wipe 6 = .ok (.iconst 0, 1) := by decide +kernel
theorem dX6_wipe_7 : decode cX6_wipe 7 = .ok (.putfield 213, 3) := by decide +kernel
theorem dX6_wipe_10 : decode cX6_wipe 10 = .ok (.iload_n 1, 1) := by decide +kernel
theorem dX6_wipe_11 : decode cX6_wipe 11 = .ok (.ireturn, 1) := by decide +kernel
def m_X6_wipe  (u : zM) : Int32 × zM :=
  zlet (zst u 39 12 0) (fun u1 => ((u 39 12), u1))
set_option maxHeartbeats 4000000 in
set_option maxRecDepth 100000 in
theorem c_X6_wipe    (u : zM) (r : Int32) (u' : zM) (h : m_X6_wipe u = (r, u')) : zCt 1 yX6_wipe cX6_wipe 2 (some .int) (fun E => [.ref (zad E 39)]) u (fun _ => some (.int r)) u' := by
  refine zCt.of (by decide +kernel) (fun E => Nat.le_of_ble_eq_true rfl) (fun X hX hR => ?_)
  have hX : zGood X RX6 cX6_wipe 2 1 := hX
  show zG X u 0 [(0, .ref (zad X.1 39))] []
  unfold m_X6_wipe at h
  refine r_aload_n hX dX6_wipe_0 0 rfl rfl ?_
  refine r_getI hX dX6_wipe_1 f_RX6_213 zi_39_12 ?_
  refine r_istore_n (y := (u 39 12)) (L' := [(1, .int (u 39 12)), (0, .ref (zad X.1 39))]) hX dX6_wipe_4 rfl (by decide) rfl rfl ?_
  refine r_aload_n hX dX6_wipe_5 1 rfl rfl ?_
  refine r_iconst (v := 0) hX dX6_wipe_6 (by decide) ?_
  obtain ⟨u1, e2, h⟩ := zlet_elim h
  refine r_putI hX dX6_wipe_7 f_RX6_213 p_6_12 zi_39_12 ?_
  rw [e2]
  refine r_iload_n hX dX6_wipe_10 0 rfl rfl ?_
  obtain ⟨rfl, rfl⟩ := zinj2 h
  exact r_iret hX hR dX6_wipe_11
theorem dX6_byteAt_0 : decode cX6_byteAt 0 = .ok (.iload_n 1, 1) := by decide +kernel
theorem dX6_byteAt_1 : decode cX6_byteAt 1 = .ok (.aload_n 0, 1) := by decide +kernel
theorem dX6_byteAt_2 : decode cX6_byteAt 2 = .ok (.getfield 213, 3) := by decide +kernel
theorem dX6_byteAt_5 : decode cX6_byteAt 5 = .ok (.if_icmp .ge 12, 3) := by decide +kernel
theorem dX6_byteAt_8 : decode cX6_byteAt 8 = .ok (.aload_n 0, 1) := by decide +kernel
theorem dX6_byteAt_9 : decode cX6_byteAt 9 = .ok (.getfield 31, 3) := by decide +kernel
theorem dX6_byteAt_12 : decode cX6_byteAt 12 = .ok (.iload_n 1, 1) := by decide +kernel
theorem dX6_byteAt_13 : decode cX6_byteAt 13 = .ok (.iaload, 1) := by decide +kernel
theorem dX6_byteAt_14 : decode cX6_byteAt 14 = .ok (.goto 4, 3) := by decide +kernel
theorem dX6_byteAt_17 : decode cX6_byteAt 17 = .ok (.iconst (-1), 1) := by decide +kernel
theorem dX6_byteAt_18 : decode cX6_byteAt 18 = .ok (.ireturn, 1) := by decide +kernel
def m_X6_byteAt (a1 : Int32) (u : zM) : Option (Int32) :=
  (if (u 39 12) ≤ a1 then
some (-1)
else
zbind (zld u 47 120 a1) (fun x2 => some x2))
set_option maxHeartbeats 4000000 in
set_option maxRecDepth 100000 in
theorem c_X6_byteAt (a1 : Int32)   (u : zM) (r : Int32) (h : m_X6_byteAt a1 u = some r) : zCt 1 yX6_byteAt cX6_byteAt 2 (some .int) (fun E => [.ref (zad E 39), .int a1]) u (fun _ => some (.int r)) u := by
  refine zCt.of (by decide +kernel) (fun E => Nat.le_of_ble_eq_true rfl) (fun X hX hR => ?_)
  have hX : zGood X RX6 cX6_byteAt 2 1 := hX
  show zG X u 0 [(0, .ref (zad X.1 39)), (1, .int a1)] []
  unfold m_X6_byteAt at h
  refine r_iload_n hX dX6_byteAt_0 1 rfl rfl ?_
  refine r_aload_n hX dX6_byteAt_1 0 rfl rfl ?_
  refine r_getI hX dX6_byteAt_2 f_RX6_213 zi_39_12 ?_
  refine r_icmp_ge (tgt := 17) hX dX6_byteAt_5 (by decide) (fun c1 => ?_) (fun c1 => ?_)
  · have h := (if_pos c1).symm.trans h
    refine r_iconst (v := (-1)) hX dX6_byteAt_17 (by decide) ?_
    obtain rfl := Option.some.inj h
    exact r_iret hX hR dX6_byteAt_18
  · have h := (if_neg c1).symm.trans h
    refine r_aload_n hX dX6_byteAt_8 0 rfl rfl ?_
    refine r_getR hX dX6_byteAt_9 f_RX6_31 zr_39_11 ?_
    refine r_iload_n hX dX6_byteAt_12 1 rfl rfl ?_
    obtain ⟨x2, e3, h⟩ := zbind_elim h
    refine r_iald hX dX6_byteAt_13 rfl e3 ?_
    refine r_goto (tgt := 18) hX dX6_byteAt_14 (by decide) ?_
    obtain rfl := Option.some.inj h
    exact r_iret hX hR dX6_byteAt_18
