/-! MODELS AND CONTRACTS, by program (wip/whole/gen_all.py): X5_sized, X4_bribesHere, X2_show, X5_costAtBribe, X5_bestBribe, X5_bribe, X5_isSettled, X5_settled, X4_readBribes -/
theorem dX5_sized_0 : decode cX5_sized 0 = .ok (.aload_n 0, 1) := by decide +kernel
theorem dX5_sized_1 : decode cX5_sized 1 = .ok (.iload_n 1, 1) := by decide +kernel
theorem dX5_sized_2 : decode cX5_sized 2 = .ok (.invokevirtual 77, 3) := by decide +kernel
theorem dX5_sized_5 : decode cX5_sized 5 = .ok (.ifCond .eq 10, 3) := by decide +kernel
theorem dX5_sized_8 : decode cX5_sized 8 = .ok (.iload_n 2, 1) := by decide +kernel
theorem dX5_sized_9 : decode cX5_sized 9 = .ok (.invokestatic 122, 3) := by decide +kernel
theorem dX5_sized_12 : decode cX5_sized 12 = .ok (.ifCond .ne 9, 3) := by decide +kernel
theorem dX5_sized_15 : decode cX5_sized 15 = .ok (.aload_n 0, 1) := by decide +kernel
theorem dX5_sized_16 : decode cX5_sized 16 = .ok (.iconst 0, 1) := by decide +kernel
theorem dX5_sized_17 : decode cX5_sized 17 = .ok (.invokevirtual 65, 3) := by decide +kernel
theorem dX5_sized_20 : decode cX5_sized 20 = .ok (.ireturn, 1) := by decide +kernel
theorem dX5_sized_21 : decode cX5_sized 21 = .ok (.aload_n 0, 1) := by decide +kernel
theorem dX5_sized_22 : decode cX5_sized 22 = .ok (.getfield 10, 3) := by decide +kernel
theorem dX5_sized_25 : decode cX5_sized 25 = .ok (.iload_n 1, 1) := by decide +kernel
theorem dX5_sized_26 : decode cX5_sized 26 = .ok (.invokevirtual 108, 3) := by decide +kernel
theorem dX5_sized_29 : decode cX5_sized 29 = .ok (.ifCond .ne 9, 3) := by decide +kernel
theorem dX5_sized_32 : decode cX5_sized 32 = .ok (.aload_n 0, 1) := by decide +kernel
theorem dX5_sized_33 : decode cX5_sized 33 = .ok (.iconst 4, 1) := by decide +kernel
theorem dX5_sized_34 : decode cX5_sized 34 = .ok (.invokevirtual 65, 3) := by decide +kernel
theorem dX5_sized_37 : decode cX5_sized 37 = .ok (.ireturn, 1) := by decide +kernel
theorem dX5_sized_38 : decode cX5_sized 38 = .ok (.aload_n 0, 1) := by decide +kernel
theorem dX5_sized_39 : decode cX5_sized 39 = .ok (.getfield 10, 3) := by decide +kernel
theorem dX5_sized_42 : decode cX5_sized 42 = .ok (.iload_n 1, 1) := by decide +kernel
theorem dX5_sized_43 : decode cX5_sized 43 = .ok (.iload_n 2, 1) := by decide +kernel
theorem dX5_sized_44 : decode cX5_sized 44 = .ok (.invokevirtual 111, 3) := by decide +kernel
theorem dX5_sized_47 : decode cX5_sized 47 = .ok (.istore_n 3, 1) := by decide +kernel
theorem dX5_sized_48 : decode cX5_sized 48 = .ok (.bipush 50, 2) := by decide +kernel
theorem dX5_sized_50 : decode cX5_sized 50 = .ok (.istore 4, 2) := by decide +kernel
theorem dX5_sized_52 : decode cX5_sized 52 = .ok (.iconst (-1), 1) := by decide +kernel
theorem dX5_sized_53 : decode cX5_sized 53 = .ok (.istore 5, 2) := by decide +kernel
theorem dX5_sized_55 : decode cX5_sized 55 = .ok (.bipush 50, 2) := by decide +kernel
theorem dX5_sized_57 : decode cX5_sized 57 = .ok (.istore 6, 2) := by decide +kernel
theorem dX5_sized_59 : decode cX5_sized 59 = .ok (.iload 6, 2) := by decide +kernel
theorem dX5_sized_61 : decode cX5_sized 61 = .ok (.sipush 250, 3) := by decide +kernel
theorem dX5_sized_64 : decode cX5_sized 64 = .ok (.if_icmp .gt 66, 3) := by decide +kernel
theorem dX5_sized_67 : decode cX5_sized 67 = .ok (.aload_n 0, 1) := by decide +kernel
theorem dX5_sized_68 : decode cX5_sized 68 = .ok (.getfield 10, 3) := by decide +kernel
theorem dX5_sized_71 : decode cX5_sized 71 = .ok (.iload_n 1, 1) := by decide +kernel
theorem dX5_sized_72 : decode cX5_sized 72 = .ok (.iload_n 2, 1) := by decide +kernel
theorem dX5_sized_73 : decode cX5_sized 73 = .ok (.iload 6, 2) := by decide +kernel
theorem dX5_sized_75 : decode cX5_sized 75 = .ok (.invokevirtual 119, 3) := by decide +kernel
theorem dX5_sized_78 : decode cX5_sized 78 = .ok (.aload_n 0, 1) := by decide +kernel
theorem dX5_sized_79 : decode cX5_sized 79 = .ok (.getfield 22, 3) := by decide +kernel
theorem dX5_sized_82 : decode cX5_sized 82 = .ok (.aload_n 0, 1) := by decide +kernel
theorem dX5_sized_83 : decode cX5_sized 83 = .ok (.getfield 10, 3) := by decide +kernel
theorem dX5_sized_86 : decode cX5_sized 86 = .ok (.invokevirtual 132, 3) := by decide +kernel
theorem dX5_sized_89 : decode cX5_sized 89 = .ok (.aload_n 0, 1) := by decide +kernel
theorem dX5_sized_90 : decode cX5_sized 90 = .ok (.aload_n 0, 1) := by decide +kernel
theorem dX5_sized_91 : decode cX5_sized 91 = .ok (.getfield 10, 3) := by decide +kernel
theorem dX5_sized_94 : decode cX5_sized 94 = .ok (.getfield 99, 3) := by decide +kernel
theorem dX5_sized_97 : decode cX5_sized 97 = .ok (.aload_n 0, 1) := by decide +kernel
theorem dX5_sized_98 : decode cX5_sized 98 = .ok (.getfield 10, 3) := by decide +kernel
theorem dX5_sized_101 : decode cX5_sized 101 = .ok (.getfield 96, 3) := by decide +kernel
theorem dX5_sized_104 : decode cX5_sized 104 = .ok (.invokevirtual 168, 3) := by decide +kernel
theorem dX5_sized_107 : decode cX5_sized 107 = .ok (.istore 7, 2) := by decide +kernel
theorem dX5_sized_109 : decode cX5_sized 109 = .ok (.iload 7, 2) := by decide +kernel
theorem dX5_sized_111 : decode cX5_sized 111 = .ok (.iload 5, 2) := by decide +kernel
theorem dX5_sized_113 : decode cX5_sized 113 = .ok (.if_icmp .le 11, 3) := by decide +kernel
theorem dX5_sized_116 : decode cX5_sized 116 = .ok (.iload 7, 2) := by decide +kernel
theorem dX5_sized_118 : decode cX5_sized 118 = .ok (.istore 5, 2) := by decide +kernel
theorem dX5_sized_120 : decode cX5_sized 120 = .ok (.iload 6, 2) := by decide +kernel
theorem dX5_sized_122 : decode cX5_sized 122 = .ok (.istore 4, 2) := by decide +kernel
theorem dX5_sized_124 : decode cX5_sized 124 = .ok (.iinc 6 1, 3) := by decide +kernel
theorem dX5_sized_127 : decode cX5_sized 127 = .ok (.goto (-68), 3) := by decide +kernel
theorem dX5_sized_130 : decode cX5_sized 130 = .ok (.aload_n 0, 1) := by decide +kernel
theorem dX5_sized_131 : decode cX5_sized 131 = .ok (.getfield 10, 3) := by decide +kernel
theorem dX5_sized_134 : decode cX5_sized 134 = .ok (.iload_n 1, 1) := by decide +kernel
theorem dX5_sized_135 : decode cX5_sized 135 = .ok (.iload_n 2, 1) := by decide +kernel
theorem dX5_sized_136 : decode cX5_sized 136 = .ok (.iload_n 3, 1) := by decide +kernel
theorem dX5_sized_137 : decode cX5_sized 137 = .ok (.invokevirtual 119, 3) := by decide +kernel
theorem dX5_sized_140 : decode cX5_sized 140 = .ok (.iload 4, 2) := by decide +kernel
theorem dX5_sized_142 : decode cX5_sized 142 = .ok (.ireturn, 1) := by decide +kernel
def m_X5_sized_b0 (a1 : Int32) (a2 : Int32) (x9 : Int32) (x10 : Int32) (x11 : Int32) (u12 : zM) : Option ((Int32 × Int32 × Int32 × zM) ⊕ (Int32 × zM)) :=
  (if 250 < x11 then
some (.inr (x9, u12))
else
zbind (m_X4_setInches a1 a2 x11 u12) (fun u17 => zbind (m_X2_measureAll u17) (fun u19 => zbind2 (m_X5_fittingBy (u19 1 8) (u19 1 7) u19) (fun x21 u22 => (if x21 ≤ x10 then
some (.inl (x9, x10, (x11 + 1), u22))
else
some (.inl (x11, x21, (x11 + 1), u22)))))))
def m_X5_sized (a1 : Int32) (a2 : Int32) (u : zM) : Option (Int32 × zM) :=
  (if (m_X5_isBody a1 u) = 0 then
zbind2 (m_X5_finding 0 u) (fun x2 u3 => some (x2, u3))
else
(if (m_X5_isMeasure a2) = 0 then
zbind2 (m_X5_finding 0 u) (fun x30 u31 => some (x30, u31))
else
(if (m_X4_isHere a1 u) = 0 then
zbind2 (m_X5_finding 4 u) (fun x27 u28 => some (x27, u28))
else
zbind (m_X4_inchesOf a1 a2 u) (fun x7 => zbind2 (zit zF (fun s : Int32 × Int32 × Int32 × zM => m_X5_sized_b0 a1 a2 s.1 s.2.1 s.2.2.1 s.2.2.2) (50, (-1), 50, u)) (fun x13 u14 =>
zbind (m_X4_setInches a1 a2 x7 u14) (fun u25 => some (x13, u25)))))))
set_option maxHeartbeats 4000000 in
set_option maxRecDepth 100000 in
theorem c_X5_sized (a1 : Int32) (a2 : Int32)   (u : zM) (r : Int32) (u' : zM) (h : m_X5_sized a1 a2 u = some (r, u')) : zCt 7 yX5_sized cX5_sized 8 (some .int) (fun E => [.ref (zad E 0), .int a1, .int a2]) u (fun _ => some (.int r)) u' := by
  refine zCt.of (by decide +kernel) (fun E => Nat.le_of_ble_eq_true rfl) (fun X hX hR => ?_)
  have hX : zGood X RX5 cX5_sized 8 7 := hX
  show zG X u 0 [(0, .ref (zad X.1 0)), (1, .int a1), (2, .int a2)] []
  unfold m_X5_sized at h
  refine r_aload_n hX dX5_sized_0 0 rfl rfl ?_
  refine r_iload_n hX dX5_sized_1 1 rfl rfl ?_
  refine r_callV (As := [.int a1]) (rest := []) (st1 := [.int (m_X5_isBody a1 u)]) hX dX5_sized_2 lv_RX5_77 (c_X5_isBody a1  u _ rfl) (by decide) rfl rfl (zRecv.of (q := 0) (ci := 5) rfl rfl) rfl (Nat.le_of_ble_eq_true rfl) rfl ?_
  refine r_if_eq (tgt := 15) hX dX5_sized_5 (by decide) (fun c1 => ?_) (fun c1 => ?_)
  · have h := (if_pos c1).symm.trans h
    refine r_aload_n hX dX5_sized_15 0 rfl rfl ?_
    refine r_iconst (v := 0) hX dX5_sized_16 (by decide) ?_
    obtain ⟨x2, u3, e4, h⟩ := zbind2_elim h
    refine r_callV (As := [.int 0]) (rest := []) (st1 := [.int x2]) hX dX5_sized_17 lv_RX5_65 (c_X5_finding 0  u _ _ e4) (by decide) rfl rfl (zRecv.of (q := 0) (ci := 5) rfl rfl) rfl (Nat.le_of_ble_eq_true rfl) rfl ?_
    obtain ⟨rfl, rfl⟩ := zinj2 (Option.some.inj h)
    exact r_iret hX hR dX5_sized_20
  · have h := (if_neg c1).symm.trans h
    refine r_iload_n hX dX5_sized_8 2 rfl rfl ?_
    refine r_callS (As := [.int a2]) (rest := []) (st1 := [.int (m_X5_isMeasure a2)]) hX dX5_sized_9 ls_RX5_122 (c_X5_isMeasure a2  u _ rfl) (by decide) rfl rfl rfl (Nat.le_of_ble_eq_true rfl) rfl ?_
    refine r_if_ne (tgt := 21) hX dX5_sized_12 (by decide) (fun c5 => ?_) (fun c5 => ?_)
    · have h := (if_neg c5).symm.trans h
      refine r_aload_n hX dX5_sized_21 0 rfl rfl ?_
      refine r_getR hX dX5_sized_22 f_RX5_10 zr_0_0 ?_
      refine r_iload_n hX dX5_sized_25 1 rfl rfl ?_
      refine r_callV (As := [.int a1]) (rest := []) (st1 := [.int (m_X4_isHere a1 u)]) hX dX5_sized_26 lv_RX5_108 (c_X4_isHere a1  u _ rfl) (by decide) rfl rfl (zRecv.of (q := 1) (ci := 4) rfl rfl) rfl (Nat.le_of_ble_eq_true rfl) rfl ?_
      refine r_if_ne (tgt := 38) hX dX5_sized_29 (by decide) (fun c6 => ?_) (fun c6 => ?_)
      · have h := (if_neg c6).symm.trans h
        refine r_aload_n hX dX5_sized_38 0 rfl rfl ?_
        refine r_getR hX dX5_sized_39 f_RX5_10 zr_0_0 ?_
        refine r_iload_n hX dX5_sized_42 1 rfl rfl ?_
        refine r_iload_n hX dX5_sized_43 2 rfl rfl ?_
        obtain ⟨x7, e8, h⟩ := zbind_elim h
        refine r_callV (As := [.int a1, .int a2]) (rest := []) (st1 := [.int x7]) hX dX5_sized_44 lv_RX5_111 (c_X4_inchesOf a1 a2  u _ e8) (by decide) rfl rfl (zRecv.of (q := 1) (ci := 4) rfl rfl) rfl (Nat.le_of_ble_eq_true rfl) rfl ?_
        refine r_istore_n (y := x7) (L' := [(3, .int x7), (0, .ref (zad X.1 0)), (1, .int a1), (2, .int a2)]) hX dX5_sized_47 rfl (by decide) rfl rfl ?_
        refine r_bipush (v := 50) hX dX5_sized_48 (by decide) ?_
        refine r_istore (y := 50) (L' := [(4, .int 50), (3, .int x7), (0, .ref (zad X.1 0)), (1, .int a1), (2, .int a2)]) hX dX5_sized_50 (by decide) rfl rfl ?_
        refine r_iconst (v := (-1)) hX dX5_sized_52 (by decide) ?_
        refine r_istore (y := (-1)) (L' := [(5, .int (-1)), (4, .int 50), (3, .int x7), (0, .ref (zad X.1 0)), (1, .int a1), (2, .int a2)]) hX dX5_sized_53 (by decide) rfl rfl ?_
        refine r_bipush (v := 50) hX dX5_sized_55 (by decide) ?_
        refine r_istore (y := 50) (L' := [(6, .int 50), (5, .int (-1)), (4, .int 50), (3, .int x7), (0, .ref (zad X.1 0)), (1, .int a1), (2, .int a2)]) hX dX5_sized_57 (by decide) rfl rfl ?_
        refine r_sub [4, 5, 6, 3, 2, 1, 0] (L' := [(0, .ref (zad X.1 0)), (1, .int a1), (2, .int a2), (3, .int x7), (4, .int 50), (5, .int (-1)), (6, .int 50)]) rfl ?_
        obtain ⟨x13, u14, h15, h⟩ := zbind2_elim h
        have Jh15 : zG X u14 130 [(0, .ref (zad X.1 0)), (1, .int a1), (2, .int a2), (3, .int x7), (4, .int x13)] [] := by
            refine r_aload_n hX dX5_sized_130 0 rfl rfl ?_
            refine r_getR hX dX5_sized_131 f_RX5_10 zr_0_0 ?_
            refine r_iload_n hX dX5_sized_134 1 rfl rfl ?_
            refine r_iload_n hX dX5_sized_135 2 rfl rfl ?_
            refine r_iload_n hX dX5_sized_136 3 rfl rfl ?_
            obtain ⟨u25, e26, h⟩ := zbind_elim h
            refine r_callV (As := [.int a1, .int a2, .int x7]) (rest := []) (st1 := []) hX dX5_sized_137 lv_RX5_119 (c_X4_setInches a1 a2 x7  u14 _ e26) (by decide) rfl rfl (zRecv.of (q := 1) (ci := 4) rfl rfl) rfl (Nat.le_of_ble_eq_true rfl) rfl ?_
            refine r_iload hX dX5_sized_140 4 rfl ?_
            obtain ⟨rfl, rfl⟩ := zinj2 (Option.some.inj h)
            exact r_iret hX hR dX5_sized_142
        clear h
        refine zit_walk (P := fun s0 : Int32 × Int32 × Int32 × zM => zG X s0.2.2.2 59 [(0, .ref (zad X.1 0)), (1, .int a1), (2, .int a2), (3, .int x7), (4, .int (s0.1)), (5, .int (s0.2.1)), (6, .int (s0.2.2.1))] []) ?_ zF _ h15
        clear h15
        intro s0 y0 h0b hin0 hout0
        obtain ⟨x9, x10, x11, u12⟩ := s0
        have h0b : m_X5_sized_b0 a1 a2 x9 x10 x11 u12 = some y0 := h0b
        unfold m_X5_sized_b0 at h0b
        show zG X u12 59 [(0, .ref (zad X.1 0)), (1, .int a1), (2, .int a2), (3, .int x7), (4, .int x9), (5, .int x10), (6, .int x11)] []
        refine r_iload hX dX5_sized_59 6 rfl ?_
        refine r_sipush (v := 250) hX dX5_sized_61 (by decide) ?_
        refine r_icmp_gt (tgt := 130) hX dX5_sized_64 (by decide) (fun c16 => ?_) (fun c16 => ?_)
        · have h0b := (if_pos c16).symm.trans h0b
          refine r_sub [0, 1, 2, 3, 4] (L' := [(0, .ref (zad X.1 0)), (1, .int a1), (2, .int a2), (3, .int x7), (4, .int x9)]) rfl ?_
          have h0b := hout0 _ (Option.some.inj h0b).symm
          obtain ⟨rfl, rfl⟩ := zinj2 h0b
          exact Jh15
        · have h0b := (if_neg c16).symm.trans h0b
          refine r_aload_n hX dX5_sized_67 0 rfl rfl ?_
          refine r_getR hX dX5_sized_68 f_RX5_10 zr_0_0 ?_
          refine r_iload_n hX dX5_sized_71 1 rfl rfl ?_
          refine r_iload_n hX dX5_sized_72 2 rfl rfl ?_
          refine r_iload hX dX5_sized_73 6 rfl ?_
          obtain ⟨u17, e18, h0b⟩ := zbind_elim h0b
          refine r_callV (As := [.int a1, .int a2, .int x11]) (rest := []) (st1 := []) hX dX5_sized_75 lv_RX5_119 (c_X4_setInches a1 a2 x11  u12 _ e18) (by decide) rfl rfl (zRecv.of (q := 1) (ci := 4) rfl rfl) rfl (Nat.le_of_ble_eq_true rfl) rfl ?_
          refine r_aload_n hX dX5_sized_78 0 rfl rfl ?_
          refine r_getR hX dX5_sized_79 f_RX5_22 zr_0_2 ?_
          refine r_aload_n hX dX5_sized_82 0 rfl rfl ?_
          refine r_getR hX dX5_sized_83 f_RX5_10 zr_0_0 ?_
          obtain ⟨u19, e20, h0b⟩ := zbind_elim h0b
          refine r_callV (As := [.ref (zad X.1 1)]) (rest := []) (st1 := []) hX dX5_sized_86 lv_RX5_132 (c_X2_measureAll   u17 _ e20) (by decide) rfl rfl (zRecv.of (q := 15) (ci := 2) rfl rfl) rfl (Nat.le_of_ble_eq_true rfl) rfl ?_
          refine r_aload_n hX dX5_sized_89 0 rfl rfl ?_
          refine r_aload_n hX dX5_sized_90 0 rfl rfl ?_
          refine r_getR hX dX5_sized_91 f_RX5_10 zr_0_0 ?_
          refine r_getI hX dX5_sized_94 f_RX5_99 zi_1_8 ?_
          refine r_aload_n hX dX5_sized_97 0 rfl rfl ?_
          refine r_getR hX dX5_sized_98 f_RX5_10 zr_0_0 ?_
          refine r_getI hX dX5_sized_101 f_RX5_96 zi_1_7 ?_
          obtain ⟨x21, u22, e23, h0b⟩ := zbind2_elim h0b
          refine r_callV (As := [.int (u19 1 8), .int (u19 1 7)]) (rest := []) (st1 := [.int x21]) hX dX5_sized_104 lv_RX5_168 (c_X5_fittingBy (u19 1 8) (u19 1 7)  u19 _ _ e23) (by decide) rfl rfl (zRecv.of (q := 0) (ci := 5) rfl rfl) rfl (Nat.le_of_ble_eq_true rfl) rfl ?_
          refine r_istore (y := x21) (L' := [(7, .int x21), (0, .ref (zad X.1 0)), (1, .int a1), (2, .int a2), (3, .int x7), (4, .int x9), (5, .int x10), (6, .int x11)]) hX dX5_sized_107 (by decide) rfl rfl ?_
          refine r_iload hX dX5_sized_109 0 rfl ?_
          refine r_iload hX dX5_sized_111 6 rfl ?_
          refine r_icmp_le (tgt := 124) hX dX5_sized_113 (by decide) (fun c24 => ?_) (fun c24 => ?_)
          · have h0b := (if_pos c24).symm.trans h0b
            refine r_iinc (v := (x11 + 1)) (L' := [(6, .int (x11 + 1)), (7, .int x21), (0, .ref (zad X.1 0)), (1, .int a1), (2, .int a2), (3, .int x7), (4, .int x9), (5, .int x10)]) hX dX5_sized_124 (by decide) 7 rfl rfl rfl ?_
            refine r_goto (tgt := 59) hX dX5_sized_127 (by decide) ?_
            refine r_sub [2, 3, 4, 5, 6, 7, 0] (L' := [(0, .ref (zad X.1 0)), (1, .int a1), (2, .int a2), (3, .int x7), (4, .int x9), (5, .int x10), (6, .int (x11 + 1))]) rfl ?_
            exact hin0 _ (Option.some.inj h0b).symm
          · have h0b := (if_neg c24).symm.trans h0b
            refine r_iload hX dX5_sized_116 0 rfl ?_
            refine r_istore (y := x21) (L' := [(5, .int x21), (7, .int x21), (0, .ref (zad X.1 0)), (1, .int a1), (2, .int a2), (3, .int x7), (4, .int x9), (6, .int x11)]) hX dX5_sized_118 (by decide) rfl rfl ?_
            refine r_iload hX dX5_sized_120 7 rfl ?_
            refine r_istore (y := x11) (L' := [(4, .int x11), (5, .int x21), (7, .int x21), (0, .ref (zad X.1 0)), (1, .int a1), (2, .int a2), (3, .int x7), (6, .int x11)]) hX dX5_sized_122 (by decide) rfl rfl ?_
            refine r_iinc (v := (x11 + 1)) (L' := [(6, .int (x11 + 1)), (4, .int x11), (5, .int x21), (7, .int x21), (0, .ref (zad X.1 0)), (1, .int a1), (2, .int a2), (3, .int x7)]) hX dX5_sized_124 (by decide) 7 rfl rfl rfl ?_
            refine r_goto (tgt := 59) hX dX5_sized_127 (by decide) ?_
            refine r_sub [4, 5, 6, 7, 1, 2, 0] (L' := [(0, .ref (zad X.1 0)), (1, .int a1), (2, .int a2), (3, .int x7), (4, .int x11), (5, .int x21), (6, .int (x11 + 1))]) rfl ?_
            exact hin0 _ (Option.some.inj h0b).symm
      · have h := (if_pos c6).symm.trans h
        refine r_aload_n hX dX5_sized_32 0 rfl rfl ?_
        refine r_iconst (v := 4) hX dX5_sized_33 (by decide) ?_
        obtain ⟨x27, u28, e29, h⟩ := zbind2_elim h
        refine r_callV (As := [.int 4]) (rest := []) (st1 := [.int x27]) hX dX5_sized_34 lv_RX5_65 (c_X5_finding 4  u _ _ e29) (by decide) rfl rfl (zRecv.of (q := 0) (ci := 5) rfl rfl) rfl (Nat.le_of_ble_eq_true rfl) rfl ?_
        obtain ⟨rfl, rfl⟩ := zinj2 (Option.some.inj h)
        exact r_iret hX hR dX5_sized_37
    · have h := (if_pos c5).symm.trans h
      refine r_aload_n hX dX5_sized_15 0 rfl rfl ?_
      refine r_iconst (v := 0) hX dX5_sized_16 (by decide) ?_
      obtain ⟨x30, u31, e32, h⟩ := zbind2_elim h
      refine r_callV (As := [.int 0]) (rest := []) (st1 := [.int x30]) hX dX5_sized_17 lv_RX5_65 (c_X5_finding 0  u _ _ e32) (by decide) rfl rfl (zRecv.of (q := 0) (ci := 5) rfl rfl) rfl (Nat.le_of_ble_eq_true rfl) rfl ?_
      obtain ⟨rfl, rfl⟩ := zinj2 (Option.some.inj h)
      exact r_iret hX hR dX5_sized_20
theorem dX4_bribesHere_0 : decode cX4_bribesHere 0 = .ok (.aload_n 0, 1) := by decide +kernel
theorem dX4_bribesHere_1 : decode cX4_bribesHere 1 = .ok (.iload_n 1, 1) := by decide +kernel
theorem dX4_bribesHere_2 : decode cX4_bribesHere 2 = .ok (.invokevirtual 62, 3) := by decide +kernel
theorem dX4_bribesHere_5 : decode cX4_bribesHere 5 = .ok (.ifCond .eq 20, 3) := by decide +kernel
theorem dX4_bribesHere_8 : decode cX4_bribesHere 8 = .ok (.aload_n 0, 1) := by decide +kernel
theorem dX4_bribesHere_9 : decode cX4_bribesHere 9 = .ok (.getfield 9, 3) := by decide +kernel
theorem dX4_bribesHere_12 : decode cX4_bribesHere 12 = .ok (.iload_n 1, 1) := by decide +kernel
theorem dX4_bribesHere_13 : decode cX4_bribesHere 13 = .ok (.iaload, 1) := by decide +kernel
theorem dX4_bribesHere_14 : decode cX4_bribesHere 14 = .ok (.iconst 2, 1) := by decide +kernel
theorem dX4_bribesHere_15 : decode cX4_bribesHere 15 = .ok (.invokestatic 88, 3) := by decide +kernel
theorem dX4_bribesHere_18 : decode cX4_bribesHere 18 = .ok (.ifCond .eq 7, 3) := by decide +kernel
theorem dX4_bribesHere_21 : decode cX4_bribesHere 21 = .ok (.iconst 1, 1) := by decide +kernel
theorem dX4_bribesHere_22 : decode cX4_bribesHere 22 = .ok (.goto 4, 3) := by decide +kernel
theorem dX4_bribesHere_25 : decode cX4_bribesHere 25 = .ok (.iconst 0, 1) := by decide +kernel
theorem dX4_bribesHere_26 : decode cX4_bribesHere 26 = .ok (.ireturn, 1) := by decide +kernel
def m_X4_bribesHere (a1 : Int32) (u : zM) : Option (Int32) :=
  (if (m_X4_isHere a1 u) = 0 then
some 0
else
zbind (zld u 2 12 a1) (fun x2 => zbind (m_X5_isUnder x2 2) (fun x4 => (if x4 = 0 then
some 0
else
some 1))))
set_option maxHeartbeats 4000000 in
set_option maxRecDepth 100000 in
theorem c_X4_bribesHere (a1 : Int32)   (u : zM) (r : Int32) (h : m_X4_bribesHere a1 u = some r) : zCt 4 yX4_bribesHere cX4_bribesHere 2 (some .boolean) (fun E => [.ref (zad E 1), .int a1]) u (fun _ => some (.int r)) u := by
  refine zCt.of (by decide +kernel) (fun E => Nat.le_of_ble_eq_true rfl) (fun X hX hR => ?_)
  have hX : zGood X RX4 cX4_bribesHere 2 4 := hX
  show zG X u 0 [(0, .ref (zad X.1 1)), (1, .int a1)] []
  unfold m_X4_bribesHere at h
  refine r_aload_n hX dX4_bribesHere_0 0 rfl rfl ?_
  refine r_iload_n hX dX4_bribesHere_1 1 rfl rfl ?_
  refine r_callV (As := [.int a1]) (rest := []) (st1 := [.int (m_X4_isHere a1 u)]) hX dX4_bribesHere_2 lv_RX4_62 (c_X4_isHere a1  u _ rfl) (by decide) rfl rfl (zRecv.of (q := 1) (ci := 4) rfl rfl) rfl (Nat.le_of_ble_eq_true rfl) rfl ?_
  refine r_if_eq (tgt := 25) hX dX4_bribesHere_5 (by decide) (fun c1 => ?_) (fun c1 => ?_)
  · have h := (if_pos c1).symm.trans h
    refine r_iconst (v := 0) hX dX4_bribesHere_25 (by decide) ?_
    obtain rfl := Option.some.inj h
    exact r_zret0 hX hR dX4_bribesHere_26
  · have h := (if_neg c1).symm.trans h
    refine r_aload_n hX dX4_bribesHere_8 0 rfl rfl ?_
    refine r_getR hX dX4_bribesHere_9 f_RX4_9 zr_1_0 ?_
    refine r_iload_n hX dX4_bribesHere_12 1 rfl rfl ?_
    obtain ⟨x2, e3, h⟩ := zbind_elim h
    refine r_iald hX dX4_bribesHere_13 rfl e3 ?_
    refine r_iconst (v := 2) hX dX4_bribesHere_14 (by decide) ?_
    obtain ⟨x4, e5, h⟩ := zbind_elim h
    refine r_callS (As := [.int x2, .int 2]) (rest := []) (st1 := [.int x4]) hX dX4_bribesHere_15 ls_RX4_88 (c_X5_isUnder x2 2  u _ e5) (by decide) rfl rfl rfl (Nat.le_of_ble_eq_true rfl) rfl ?_
    refine r_if_eq (tgt := 25) hX dX4_bribesHere_18 (by decide) (fun c6 => ?_) (fun c6 => ?_)
    · have h := (if_pos c6).symm.trans h
      refine r_iconst (v := 0) hX dX4_bribesHere_25 (by decide) ?_
      obtain rfl := Option.some.inj h
      exact r_zret0 hX hR dX4_bribesHere_26
    · have h := (if_neg c6).symm.trans h
      refine r_iconst (v := 1) hX dX4_bribesHere_21 (by decide) ?_
      refine r_goto (tgt := 26) hX dX4_bribesHere_22 (by decide) ?_
      obtain rfl := Option.some.inj h
      exact r_zret1 hX hR dX4_bribesHere_26
theorem dX2_show_0 : decode cX2_show 0 = .ok (.aload_n 0, 1) := by decide +kernel
theorem dX2_show_1 : decode cX2_show 1 = .ok (.getfield 9, 3) := by decide +kernel
theorem dX2_show_4 : decode cX2_show 4 = .ok (.iload_n 1, 1) := by decide +kernel
theorem dX2_show_5 : decode cX2_show 5 = .ok (.bipush 12, 2) := by decide +kernel
theorem dX2_show_7 : decode cX2_show 7 = .ok (.imul, 1) := by decide +kernel
theorem dX2_show_8 : decode cX2_show 8 = .ok (.iload_n 2, 1) := by decide +kernel
theorem dX2_show_9 : decode cX2_show 9 = .ok (.iadd, 1) := by decide +kernel
theorem dX2_show_10 : decode cX2_show 10 = .ok (.iload_n 3, 1) := by decide +kernel
theorem dX2_show_11 : decode cX2_show 11 = .ok (.iastore, 1) := by decide +kernel
theorem dX2_show_12 : decode cX2_show 12 = .ok (.aload_n 0, 1) := by decide +kernel
theorem dX2_show_13 : decode cX2_show 13 = .ok (.iload_n 1, 1) := by decide +kernel
theorem dX2_show_14 : decode cX2_show 14 = .ok (.invokevirtual 39, 3) := by decide +kernel
theorem dX2_show_17 : decode cX2_show 17 = .ok (.return_, 1) := by decide +kernel
def m_X2_show (a1 : Int32) (a2 : Int32) (a3 : Int32) (u : zM) : Option (zM) :=
  zbind (zsv u 16 36 ((a1 * 12) + a2) a3) (fun u1 => zbind (m_X2_arrange a1 u1) (fun u3 => some u3))
set_option maxHeartbeats 4000000 in
set_option maxRecDepth 100000 in
theorem c_X2_show (a1 : Int32) (a2 : Int32) (a3 : Int32)   (u : zM) (u' : zM) (h : m_X2_show a1 a2 a3 u = some (u')) : zCt 2 yX2_show cX2_show 4 none (fun E => [.ref (zad E 15), .int a1, .int a2, .int a3]) u (fun _ => none) u' := by
  refine zCt.of (by decide +kernel) (fun E => Nat.le_of_ble_eq_true rfl) (fun X hX hR => ?_)
  have hX : zGood X RX2 cX2_show 4 2 := hX
  show zG X u 0 [(0, .ref (zad X.1 15)), (1, .int a1), (2, .int a2), (3, .int a3)] []
  unfold m_X2_show at h
  refine r_aload_n hX dX2_show_0 0 rfl rfl ?_
  refine r_getR hX dX2_show_1 f_RX2_9 zr_15_0 ?_
  refine r_iload_n hX dX2_show_4 1 rfl rfl ?_
  refine r_bipush (v := 12) hX dX2_show_5 (by decide) ?_
  refine r_imul hX dX2_show_7 ?_
  refine r_iload_n hX dX2_show_8 2 rfl rfl ?_
  refine r_iadd hX dX2_show_9 ?_
  refine r_iload_n hX dX2_show_10 3 rfl rfl ?_
  obtain ⟨u1, e2, h⟩ := zbind_elim h
  refine r_iast hX dX2_show_11 rfl e2 ?_
  refine r_aload_n hX dX2_show_12 0 rfl rfl ?_
  refine r_iload_n hX dX2_show_13 1 rfl rfl ?_
  obtain ⟨u3, e4, h⟩ := zbind_elim h
  refine r_callV (As := [.int a1]) (rest := []) (st1 := []) hX dX2_show_14 lv_RX2_39 (c_X2_arrange a1  u1 _ e4) (by decide) rfl rfl (zRecv.of (q := 15) (ci := 2) rfl rfl) rfl (Nat.le_of_ble_eq_true rfl) rfl ?_
  obtain rfl := Option.some.inj h
  exact r_vret hX hR dX2_show_17
theorem dX5_costAtBribe_0 : decode cX5_costAtBribe 0 = .ok (.aload_n 0, 1) := by decide +kernel
theorem dX5_costAtBribe_1 : decode cX5_costAtBribe 1 = .ok (.getfield 22, 3) := by decide +kernel
theorem dX5_costAtBribe_4 : decode cX5_costAtBribe 4 = .ok (.iconst 1, 1) := by decide +kernel
theorem dX5_costAtBribe_5 : decode cX5_costAtBribe 5 = .ok (.iload_n 1, 1) := by decide +kernel
theorem dX5_costAtBribe_6 : decode cX5_costAtBribe 6 = .ok (.aload_n 0, 1) := by decide +kernel
theorem dX5_costAtBribe_7 : decode cX5_costAtBribe 7 = .ok (.getfield 10, 3) := by decide +kernel
theorem dX5_costAtBribe_10 : decode cX5_costAtBribe 10 = .ok (.iload_n 1, 1) := by decide +kernel
theorem dX5_costAtBribe_11 : decode cX5_costAtBribe 11 = .ok (.iload_n 2, 1) := by decide +kernel
theorem dX5_costAtBribe_12 : decode cX5_costAtBribe 12 = .ok (.invokevirtual 292, 3) := by decide +kernel
theorem dX5_costAtBribe_15 : decode cX5_costAtBribe 15 = .ok (.invokevirtual 295, 3) := by decide +kernel
theorem dX5_costAtBribe_18 : decode cX5_costAtBribe 18 = .ok (.aload_n 0, 1) := by decide +kernel
theorem dX5_costAtBribe_19 : decode cX5_costAtBribe 19 = .ok (.getfield 22, 3) := by decide +kernel
theorem dX5_costAtBribe_22 : decode cX5_costAtBribe 22 = .ok (.getfield 129, 3) := by decide +kernel
theorem dX5_costAtBribe_25 : decode cX5_costAtBribe 25 = .ok (.iconst 1, 1) := by decide +kernel
theorem dX5_costAtBribe_26 : decode cX5_costAtBribe 26 = .ok (.aload_n 0, 1) := by decide +kernel
theorem dX5_costAtBribe_27 : decode cX5_costAtBribe 27 = .ok (.getfield 22, 3) := by decide +kernel
theorem dX5_costAtBribe_30 : decode cX5_costAtBribe 30 = .ok (.iconst 1, 1) := by decide +kernel
theorem dX5_costAtBribe_31 : decode cX5_costAtBribe 31 = .ok (.aload_n 0, 1) := by decide +kernel
theorem dX5_costAtBribe_32 : decode cX5_costAtBribe 32 = .ok (.getfield 10, 3) := by decide +kernel
theorem dX5_costAtBribe_35 : decode cX5_costAtBribe 35 = .ok (.getfield 96, 3) := by decide +kernel
theorem dX5_costAtBribe_38 : decode cX5_costAtBribe 38 = .ok (.aload_n 0, 1) := by decide +kernel
theorem dX5_costAtBribe_39 : decode cX5_costAtBribe 39 = .ok (.getfield 10, 3) := by decide +kernel
theorem dX5_costAtBribe_42 : decode cX5_costAtBribe 42 = .ok (.getfield 99, 3) := by decide +kernel
theorem dX5_costAtBribe_45 : decode cX5_costAtBribe 45 = .ok (.invokevirtual 283, 3) := by decide +kernel
theorem dX5_costAtBribe_48 : decode cX5_costAtBribe 48 = .ok (.iastore, 1) := by decide +kernel
theorem dX5_costAtBribe_49 : decode cX5_costAtBribe 49 = .ok (.aload_n 0, 1) := by decide +kernel
theorem dX5_costAtBribe_50 : decode cX5_costAtBribe 50 = .ok (.getfield 22, 3) := by decide +kernel
theorem dX5_costAtBribe_53 : decode cX5_costAtBribe 53 = .ok (.aload_n 0, 1) := by decide +kernel
theorem dX5_costAtBribe_54 : decode cX5_costAtBribe 54 = .ok (.getfield 10, 3) := by decide +kernel
theorem dX5_costAtBribe_57 : decode cX5_costAtBribe 57 = .ok (.iload_n 1, 1) := by decide +kernel
theorem dX5_costAtBribe_58 : decode cX5_costAtBribe 58 = .ok (.invokevirtual 145, 3) := by decide +kernel
theorem dX5_costAtBribe_61 : decode cX5_costAtBribe 61 = .ok (.ireturn, 1) := by decide +kernel
def m_X5_costAtBribe (a1 : Int32) (a2 : Int32) (u : zM) : Option (Int32 × zM) :=
  zbind (m_X4_widthAtBribe a1 a2 u) (fun x1 => zbind (m_X2_show 1 a1 x1 u) (fun u3 => zbind (m_X2_cutOne 1 (u3 1 7) (u3 1 8) u3) (fun x5 => zlet (zst u3 19 1 x5) (fun u7 => zbind (m_X2_costOf a1 u7) (fun x9 => some (x9, u7))))))
set_option maxHeartbeats 4000000 in
set_option maxRecDepth 100000 in
theorem c_X5_costAtBribe (a1 : Int32) (a2 : Int32)   (u : zM) (r : Int32) (u' : zM) (h : m_X5_costAtBribe a1 a2 u = some (r, u')) : zCt 5 yX5_costAtBribe cX5_costAtBribe 3 (some .int) (fun E => [.ref (zad E 0), .int a1, .int a2]) u (fun _ => some (.int r)) u' := by
  refine zCt.of (by decide +kernel) (fun E => Nat.le_of_ble_eq_true rfl) (fun X hX hR => ?_)
  have hX : zGood X RX5 cX5_costAtBribe 3 5 := hX
  show zG X u 0 [(0, .ref (zad X.1 0)), (1, .int a1), (2, .int a2)] []
  unfold m_X5_costAtBribe at h
  refine r_aload_n hX dX5_costAtBribe_0 0 rfl rfl ?_
  refine r_getR hX dX5_costAtBribe_1 f_RX5_22 zr_0_2 ?_
  refine r_iconst (v := 1) hX dX5_costAtBribe_4 (by decide) ?_
  refine r_iload_n hX dX5_costAtBribe_5 1 rfl rfl ?_
  refine r_aload_n hX dX5_costAtBribe_6 0 rfl rfl ?_
  refine r_getR hX dX5_costAtBribe_7 f_RX5_10 zr_0_0 ?_
  refine r_iload_n hX dX5_costAtBribe_10 1 rfl rfl ?_
  refine r_iload_n hX dX5_costAtBribe_11 2 rfl rfl ?_
  obtain ⟨x1, e2, h⟩ := zbind_elim h
  refine r_callV (As := [.int a1, .int a2]) (rest := [.int a1, .int 1, .ref (zad X.1 15)]) (st1 := [.int x1, .int a1, .int 1, .ref (zad X.1 15)]) hX dX5_costAtBribe_12 lv_RX5_292 (c_X4_widthAtBribe a1 a2  u _ e2) (by decide) rfl rfl (zRecv.of (q := 1) (ci := 4) rfl rfl) rfl (Nat.le_of_ble_eq_true rfl) rfl ?_
  obtain ⟨u3, e4, h⟩ := zbind_elim h
  refine r_callV (As := [.int 1, .int a1, .int x1]) (rest := []) (st1 := []) hX dX5_costAtBribe_15 lv_RX5_295 (c_X2_show 1 a1 x1  u _ e4) (by decide) rfl rfl (zRecv.of (q := 15) (ci := 2) rfl rfl) rfl (Nat.le_of_ble_eq_true rfl) rfl ?_
  refine r_aload_n hX dX5_costAtBribe_18 0 rfl rfl ?_
  refine r_getR hX dX5_costAtBribe_19 f_RX5_22 zr_0_2 ?_
  refine r_getR hX dX5_costAtBribe_22 f_RX5_129 zr_15_3 ?_
  refine r_iconst (v := 1) hX dX5_costAtBribe_25 (by decide) ?_
  refine r_aload_n hX dX5_costAtBribe_26 0 rfl rfl ?_
  refine r_getR hX dX5_costAtBribe_27 f_RX5_22 zr_0_2 ?_
  refine r_iconst (v := 1) hX dX5_costAtBribe_30 (by decide) ?_
  refine r_aload_n hX dX5_costAtBribe_31 0 rfl rfl ?_
  refine r_getR hX dX5_costAtBribe_32 f_RX5_10 zr_0_0 ?_
  refine r_getI hX dX5_costAtBribe_35 f_RX5_96 zi_1_7 ?_
  refine r_aload_n hX dX5_costAtBribe_38 0 rfl rfl ?_
  refine r_getR hX dX5_costAtBribe_39 f_RX5_10 zr_0_0 ?_
  refine r_getI hX dX5_costAtBribe_42 f_RX5_99 zi_1_8 ?_
  obtain ⟨x5, e6, h⟩ := zbind_elim h
  refine r_callV (As := [.int 1, .int (u3 1 7), .int (u3 1 8)]) (rest := [.int 1, .ref (zad X.1 19)]) (st1 := [.int x5, .int 1, .ref (zad X.1 19)]) hX dX5_costAtBribe_45 lv_RX5_283 (c_X2_cutOne 1 (u3 1 7) (u3 1 8)  u3 _ e6) (by decide) rfl rfl (zRecv.of (q := 15) (ci := 2) rfl rfl) rfl (Nat.le_of_ble_eq_true rfl) rfl ?_
  obtain ⟨u7, e8, h⟩ := zlet_elim h
  refine r_iastC (j := 1) hX dX5_costAtBribe_48 rfl (by decide +kernel) ?_
  rw [e8]
  refine r_aload_n hX dX5_costAtBribe_49 0 rfl rfl ?_
  refine r_getR hX dX5_costAtBribe_50 f_RX5_22 zr_0_2 ?_
  refine r_aload_n hX dX5_costAtBribe_53 0 rfl rfl ?_
  refine r_getR hX dX5_costAtBribe_54 f_RX5_10 zr_0_0 ?_
  refine r_iload_n hX dX5_costAtBribe_57 1 rfl rfl ?_
  obtain ⟨x9, e10, h⟩ := zbind_elim h
  refine r_callV (As := [.ref (zad X.1 1), .int a1]) (rest := []) (st1 := [.int x9]) hX dX5_costAtBribe_58 lv_RX5_145 (c_X2_costOf a1  u7 _ e10) (by decide) rfl rfl (zRecv.of (q := 15) (ci := 2) rfl rfl) rfl (Nat.le_of_ble_eq_true rfl) rfl ?_
  obtain ⟨rfl, rfl⟩ := zinj2 (Option.some.inj h)
  exact r_iret hX hR dX5_costAtBribe_61
theorem dX5_bestBribe_0 : decode cX5_bestBribe 0 = .ok (.iconst 0, 1) := by decide +kernel
theorem dX5_bestBribe_1 : decode cX5_bestBribe 1 = .ok (.istore_n 2, 1) := by decide +kernel
theorem dX5_bestBribe_2 : decode cX5_bestBribe 2 = .ok (.ldc 159, 2) := by decide +kernel
theorem dX5_bestBribe_4 : decode cX5_bestBribe 4 = .ok (.istore_n 3, 1) := by decide +kernel
theorem dX5_bestBribe_5 : decode cX5_bestBribe 5 = .ok (.iconst 0, 1) := by decide +kernel
theorem dX5_bestBribe_6 : decode cX5_bestBribe 6 = .ok (.istore 4, 2) := by decide +kernel
theorem dX5_bestBribe_8 : decode cX5_bestBribe 8 = .ok (.iload 4, 2) := by decide +kernel
theorem dX5_bestBribe_10 : decode cX5_bestBribe 10 = .ok (.bipush 40, 2) := by decide +kernel
theorem dX5_bestBribe_12 : decode cX5_bestBribe 12 = .ok (.if_icmp .gt 53, 3) := by decide +kernel
theorem dX5_bestBribe_15 : decode cX5_bestBribe 15 = .ok (.iload 4, 2) := by decide +kernel
theorem dX5_bestBribe_17 : decode cX5_bestBribe 17 = .ok (.iconst 2, 1) := by decide +kernel
theorem dX5_bestBribe_18 : decode cX5_bestBribe 18 = .ok (.irem, 1) := by decide +kernel
theorem dX5_bestBribe_19 : decode cX5_bestBribe 19 = .ok (.ifCond .ne 10, 3) := by decide +kernel
theorem dX5_bestBribe_22 : decode cX5_bestBribe 22 = .ok (.iload 4, 2) := by decide +kernel
theorem dX5_bestBribe_24 : decode cX5_bestBribe 24 = .ok (.iconst 2, 1) := by decide +kernel
theorem dX5_bestBribe_25 : decode cX5_bestBribe 25 = .ok (.idiv, 1) := by decide +kernel
theorem dX5_bestBribe_26 : decode cX5_bestBribe 26 = .ok (.goto 10, 3) := by decide +kernel
theorem dX5_bestBribe_29 : decode cX5_bestBribe 29 = .ok (.iload 4, 2) := by decide +kernel
theorem dX5_bestBribe_31 : decode cX5_bestBribe 31 = .ok (.iconst 1, 1) := by decide +kernel
theorem dX5_bestBribe_32 : decode cX5_bestBribe 32 = .ok (.iadd, 1) := by decide +kernel
theorem dX5_bestBribe_33 : decode cX5_bestBribe 33 = .ok (.ineg, 1) := by decide +kernel
theorem dX5_bestBribe_34 : decode cX5_bestBribe 34 = .ok (.iconst 2, 1) := by decide +kernel
theorem dX5_bestBribe_35 : decode cX5_bestBribe 35 = .ok (.idiv, 1) := by decide +kernel
theorem dX5_bestBribe_36 : decode cX5_bestBribe 36 = .ok (.istore 5, 2) := by decide +kernel
theorem dX5_bestBribe_38 : decode cX5_bestBribe 38 = .ok (.aload_n 0, 1) := by decide +kernel
theorem dX5_bestBribe_39 : decode cX5_bestBribe 39 = .ok (.iload_n 1, 1) := by decide +kernel
theorem dX5_bestBribe_40 : decode cX5_bestBribe 40 = .ok (.iload 5, 2) := by decide +kernel
theorem dX5_bestBribe_42 : decode cX5_bestBribe 42 = .ok (.invokevirtual 298, 3) := by decide +kernel
theorem dX5_bestBribe_45 : decode cX5_bestBribe 45 = .ok (.istore 6, 2) := by decide +kernel
theorem dX5_bestBribe_47 : decode cX5_bestBribe 47 = .ok (.iload 6, 2) := by decide +kernel
theorem dX5_bestBribe_49 : decode cX5_bestBribe 49 = .ok (.iload_n 3, 1) := by decide +kernel
theorem dX5_bestBribe_50 : decode cX5_bestBribe 50 = .ok (.if_icmp .ge 9, 3) := by decide +kernel
theorem dX5_bestBribe_53 : decode cX5_bestBribe 53 = .ok (.iload 6, 2) := by decide +kernel
theorem dX5_bestBribe_55 : decode cX5_bestBribe 55 = .ok (.istore_n 3, 1) := by decide +kernel
theorem dX5_bestBribe_56 : decode cX5_bestBribe 56 = .ok (.iload 5, 2) := by decide +kernel
theorem dX5_bestBribe_58 : decode cX5_bestBribe 58 = .ok (.istore_n 2, 1) := by decide +kernel
theorem dX5_bestBribe_59 : decode cX5_bestBribe 59 = .ok (.iinc 4 1, 3) := by decide +kernel
theorem dX5_bestBribe_62 : decode cX5_bestBribe 62 = .ok (.goto (-54), 3) := by decide +kernel
theorem dX5_bestBribe_65 : decode cX5_bestBribe 65 = .ok (.iload_n 2, 1) := by decide +kernel
theorem dX5_bestBribe_66 : decode cX5_bestBribe 66 = .ok (.ireturn, 1) := by decide +kernel
def m_X5_bestBribe_b0 (a1 : Int32) (x1 : Int32) (x2 : Int32) (x3 : Int32) (u4 : zM) : Option ((Int32 × Int32 × Int32 × zM) ⊕ (Int32 × zM)) :=
  (if 40 < x3 then
some (.inr (x1, u4))
else
zbind ((if (zrem x3 2) = 0 then
some (x3 / 2)
else
some ((-(x3 + 1)) / 2)) : Option (Int32)) (fun x9 =>
zbind2 (m_X5_costAtBribe a1 x9 u4) (fun x12 u13 => (if x2 ≤ x12 then
some (.inl (x1, x2, (x3 + 1), u13))
else
some (.inl (x9, x12, (x3 + 1), u13))))))
def m_X5_bestBribe (a1 : Int32) (u : zM) : Option (Int32 × zM) :=
  zbind2 (zit zF (fun s : Int32 × Int32 × Int32 × zM => m_X5_bestBribe_b0 a1 s.1 s.2.1 s.2.2.1 s.2.2.2) (0, 1000000, 0, u)) (fun x5 u6 =>
some (x5, u6))
set_option maxHeartbeats 4000000 in
set_option maxRecDepth 100000 in
theorem c_X5_bestBribe (a1 : Int32)   (u : zM) (r : Int32) (u' : zM) (h : m_X5_bestBribe a1 u = some (r, u')) : zCt 6 yX5_bestBribe cX5_bestBribe 7 (some .int) (fun E => [.ref (zad E 0), .int a1]) u (fun _ => some (.int r)) u' := by
  refine zCt.of (by decide +kernel) (fun E => Nat.le_of_ble_eq_true rfl) (fun X hX hR => ?_)
  have hX : zGood X RX5 cX5_bestBribe 7 6 := hX
  show zG X u 0 [(0, .ref (zad X.1 0)), (1, .int a1)] []
  unfold m_X5_bestBribe at h
  refine r_iconst (v := 0) hX dX5_bestBribe_0 (by decide) ?_
  refine r_istore_n (y := 0) (L' := [(2, .int 0), (0, .ref (zad X.1 0)), (1, .int a1)]) hX dX5_bestBribe_1 rfl (by decide) rfl rfl ?_
  refine r_ldc (v := 1000000) hX dX5_bestBribe_2 (zT_in 529 (by decide +kernel) rfl) ?_
  refine r_istore_n (y := 1000000) (L' := [(3, .int 1000000), (2, .int 0), (0, .ref (zad X.1 0)), (1, .int a1)]) hX dX5_bestBribe_4 rfl (by decide) rfl rfl ?_
  refine r_iconst (v := 0) hX dX5_bestBribe_5 (by decide) ?_
  refine r_istore (y := 0) (L' := [(4, .int 0), (3, .int 1000000), (2, .int 0), (0, .ref (zad X.1 0)), (1, .int a1)]) hX dX5_bestBribe_6 (by decide) rfl rfl ?_
  refine r_sub [3, 4, 2, 1, 0] (L' := [(0, .ref (zad X.1 0)), (1, .int a1), (2, .int 0), (3, .int 1000000), (4, .int 0)]) rfl ?_
  obtain ⟨x5, u6, h7, h⟩ := zbind2_elim h
  have Jh7 : zG X u6 65 [(2, .int x5)] [] := by
      refine r_iload_n hX dX5_bestBribe_65 0 rfl rfl ?_
      obtain ⟨rfl, rfl⟩ := zinj2 (Option.some.inj h)
      exact r_iret hX hR dX5_bestBribe_66
  clear h
  refine zit_walk (P := fun s0 : Int32 × Int32 × Int32 × zM => zG X s0.2.2.2 8 [(0, .ref (zad X.1 0)), (1, .int a1), (2, .int (s0.1)), (3, .int (s0.2.1)), (4, .int (s0.2.2.1))] []) ?_ zF _ h7
  clear h7
  intro s0 y0 h0b hin0 hout0
  obtain ⟨x1, x2, x3, u4⟩ := s0
  have h0b : m_X5_bestBribe_b0 a1 x1 x2 x3 u4 = some y0 := h0b
  unfold m_X5_bestBribe_b0 at h0b
  show zG X u4 8 [(0, .ref (zad X.1 0)), (1, .int a1), (2, .int x1), (3, .int x2), (4, .int x3)] []
  refine r_iload hX dX5_bestBribe_8 4 rfl ?_
  refine r_bipush (v := 40) hX dX5_bestBribe_10 (by decide) ?_
  refine r_icmp_gt (tgt := 65) hX dX5_bestBribe_12 (by decide) (fun c8 => ?_) (fun c8 => ?_)
  · have h0b := (if_pos c8).symm.trans h0b
    refine r_sub [2] (L' := [(2, .int x1)]) rfl ?_
    have h0b := hout0 _ (Option.some.inj h0b).symm
    obtain ⟨rfl, rfl⟩ := zinj2 h0b
    exact Jh7
  · have h0b := (if_neg c8).symm.trans h0b
    refine r_iload hX dX5_bestBribe_15 4 rfl ?_
    refine r_iconst (v := 2) hX dX5_bestBribe_17 (by decide) ?_
    refine r_irem hX dX5_bestBribe_18 (by decide) ?_
    obtain ⟨x9, h10, h0b⟩ := zbind_elim h0b
    have Jh10 : zG X u4 36 [(0, .ref (zad X.1 0)), (1, .int a1), (2, .int x1), (3, .int x2), (4, .int x3)] [.int x9] := by
        refine r_istore (y := x9) (L' := [(5, .int x9), (0, .ref (zad X.1 0)), (1, .int a1), (2, .int x1), (3, .int x2), (4, .int x3)]) hX dX5_bestBribe_36 (by decide) rfl rfl ?_
        refine r_aload_n hX dX5_bestBribe_38 1 rfl rfl ?_
        refine r_iload_n hX dX5_bestBribe_39 2 rfl rfl ?_
        refine r_iload hX dX5_bestBribe_40 0 rfl ?_
        obtain ⟨x12, u13, e14, h0b⟩ := zbind2_elim h0b
        refine r_callV (As := [.int a1, .int x9]) (rest := []) (st1 := [.int x12]) hX dX5_bestBribe_42 lv_RX5_298 (c_X5_costAtBribe a1 x9  u4 _ _ e14) (by decide) rfl rfl (zRecv.of (q := 0) (ci := 5) rfl rfl) rfl (Nat.le_of_ble_eq_true rfl) rfl ?_
        refine r_istore (y := x12) (L' := [(6, .int x12), (5, .int x9), (0, .ref (zad X.1 0)), (1, .int a1), (2, .int x1), (3, .int x2), (4, .int x3)]) hX dX5_bestBribe_45 (by decide) rfl rfl ?_
        refine r_iload hX dX5_bestBribe_47 0 rfl ?_
        refine r_iload_n hX dX5_bestBribe_49 5 rfl rfl ?_
        refine r_icmp_ge (tgt := 59) hX dX5_bestBribe_50 (by decide) (fun c15 => ?_) (fun c15 => ?_)
        · have h0b := (if_pos c15).symm.trans h0b
          refine r_iinc (v := (x3 + 1)) (L' := [(4, .int (x3 + 1)), (6, .int x12), (5, .int x9), (0, .ref (zad X.1 0)), (1, .int a1), (2, .int x1), (3, .int x2)]) hX dX5_bestBribe_59 (by decide) 6 rfl rfl rfl ?_
          refine r_goto (tgt := 8) hX dX5_bestBribe_62 (by decide) ?_
          refine r_sub [3, 4, 5, 6, 0] (L' := [(0, .ref (zad X.1 0)), (1, .int a1), (2, .int x1), (3, .int x2), (4, .int (x3 + 1))]) rfl ?_
          exact hin0 _ (Option.some.inj h0b).symm
        · have h0b := (if_neg c15).symm.trans h0b
          refine r_iload hX dX5_bestBribe_53 0 rfl ?_
          refine r_istore_n (y := x12) (L' := [(3, .int x12), (6, .int x12), (5, .int x9), (0, .ref (zad X.1 0)), (1, .int a1), (2, .int x1), (4, .int x3)]) hX dX5_bestBribe_55 rfl (by decide) rfl rfl ?_
          refine r_iload hX dX5_bestBribe_56 2 rfl ?_
          refine r_istore_n (y := x9) (L' := [(2, .int x9), (3, .int x12), (6, .int x12), (5, .int x9), (0, .ref (zad X.1 0)), (1, .int a1), (4, .int x3)]) hX dX5_bestBribe_58 rfl (by decide) rfl rfl ?_
          refine r_iinc (v := (x3 + 1)) (L' := [(4, .int (x3 + 1)), (2, .int x9), (3, .int x12), (6, .int x12), (5, .int x9), (0, .ref (zad X.1 0)), (1, .int a1)]) hX dX5_bestBribe_59 (by decide) 6 rfl rfl rfl ?_
          refine r_goto (tgt := 8) hX dX5_bestBribe_62 (by decide) ?_
          refine r_sub [5, 6, 1, 2, 0] (L' := [(0, .ref (zad X.1 0)), (1, .int a1), (2, .int x9), (3, .int x12), (4, .int (x3 + 1))]) rfl ?_
          exact hin0 _ (Option.some.inj h0b).symm
    clear h0b
    refine r_if_ne (tgt := 29) hX dX5_bestBribe_19 (by decide) (fun c11 => ?_) (fun c11 => ?_)
    · have h10 := (if_neg c11).symm.trans h10
      refine r_iload hX dX5_bestBribe_29 4 rfl ?_
      refine r_iconst (v := 1) hX dX5_bestBribe_31 (by decide) ?_
      refine r_iadd hX dX5_bestBribe_32 ?_
      refine r_ineg hX dX5_bestBribe_33 ?_
      refine r_iconst (v := 2) hX dX5_bestBribe_34 (by decide) ?_
      refine r_idiv hX dX5_bestBribe_35 (by decide) ?_
      obtain rfl := Option.some.inj h10
      exact Jh10
    · have h10 := (if_pos c11).symm.trans h10
      refine r_iload hX dX5_bestBribe_22 4 rfl ?_
      refine r_iconst (v := 2) hX dX5_bestBribe_24 (by decide) ?_
      refine r_idiv hX dX5_bestBribe_25 (by decide) ?_
      refine r_goto (tgt := 36) hX dX5_bestBribe_26 (by decide) ?_
      obtain rfl := Option.some.inj h10
      exact Jh10
theorem dX5_bribe_0 : decode cX5_bribe 0 = .ok (.aload_n 0, 1) := by decide +kernel
theorem dX5_bribe_1 : decode cX5_bribe 1 = .ok (.iload_n 1, 1) := by decide +kernel
theorem dX5_bribe_2 : decode cX5_bribe 2 = .ok (.invokevirtual 77, 3) := by decide +kernel
theorem dX5_bribe_5 : decode cX5_bribe 5 = .ok (.ifCond .ne 9, 3) := by decide +kernel
theorem dX5_bribe_8 : decode cX5_bribe 8 = .ok (.aload_n 0, 1) := by decide +kernel
theorem dX5_bribe_9 : decode cX5_bribe 9 = .ok (.iconst 0, 1) := by decide +kernel
theorem dX5_bribe_10 : decode cX5_bribe 10 = .ok (.invokevirtual 65, 3) := by decide +kernel
theorem dX5_bribe_13 : decode cX5_bribe 13 = .ok (.ireturn, 1) := by decide +kernel
theorem dX5_bribe_14 : decode cX5_bribe 14 = .ok (.aload_n 0, 1) := by decide +kernel
theorem dX5_bribe_15 : decode cX5_bribe 15 = .ok (.getfield 10, 3) := by decide +kernel
theorem dX5_bribe_18 : decode cX5_bribe 18 = .ok (.iload_n 1, 1) := by decide +kernel
theorem dX5_bribe_19 : decode cX5_bribe 19 = .ok (.invokevirtual 175, 3) := by decide +kernel
theorem dX5_bribe_22 : decode cX5_bribe 22 = .ok (.ifCond .ne 9, 3) := by decide +kernel
theorem dX5_bribe_25 : decode cX5_bribe 25 = .ok (.aload_n 0, 1) := by decide +kernel
theorem dX5_bribe_26 : decode cX5_bribe 26 = .ok (.iconst 4, 1) := by decide +kernel
theorem dX5_bribe_27 : decode cX5_bribe 27 = .ok (.invokevirtual 65, 3) := by decide +kernel
theorem dX5_bribe_30 : decode cX5_bribe 30 = .ok (.ireturn, 1) := by decide +kernel
theorem dX5_bribe_31 : decode cX5_bribe 31 = .ok (.aload_n 0, 1) := by decide +kernel
theorem dX5_bribe_32 : decode cX5_bribe 32 = .ok (.invokevirtual 125, 3) := by decide +kernel
theorem dX5_bribe_35 : decode cX5_bribe 35 = .ok (.pop, 1) := by decide +kernel
theorem dX5_bribe_36 : decode cX5_bribe 36 = .ok (.aload_n 0, 1) := by decide +kernel
theorem dX5_bribe_37 : decode cX5_bribe 37 = .ok (.iload_n 1, 1) := by decide +kernel
theorem dX5_bribe_38 : decode cX5_bribe 38 = .ok (.invokevirtual 178, 3) := by decide +kernel
theorem dX5_bribe_41 : decode cX5_bribe 41 = .ok (.ireturn, 1) := by decide +kernel
def m_X5_bribe (a1 : Int32) (u : zM) : Option (Int32 × zM) :=
  (if (m_X5_isBody a1 u) = 0 then
zbind2 (m_X5_finding 0 u) (fun x14 u15 => some (x14, u15))
else
zbind (m_X4_bribesHere a1 u) (fun x2 => (if x2 = 0 then
zbind2 (m_X5_finding 4 u) (fun x11 u12 => some (x11, u12))
else
zbind2 (m_X5_cutForAllHere u) (fun x5 u6 => zbind2 (m_X5_bestBribe a1 u6) (fun x8 u9 => some (x8, u9))))))
set_option maxHeartbeats 4000000 in
set_option maxRecDepth 100000 in
theorem c_X5_bribe (a1 : Int32)   (u : zM) (r : Int32) (u' : zM) (h : m_X5_bribe a1 u = some (r, u')) : zCt 7 yX5_bribe cX5_bribe 2 (some .int) (fun E => [.ref (zad E 0), .int a1]) u (fun _ => some (.int r)) u' := by
  refine zCt.of (by decide +kernel) (fun E => Nat.le_of_ble_eq_true rfl) (fun X hX hR => ?_)
  have hX : zGood X RX5 cX5_bribe 2 7 := hX
  show zG X u 0 [(0, .ref (zad X.1 0)), (1, .int a1)] []
  unfold m_X5_bribe at h
  refine r_aload_n hX dX5_bribe_0 0 rfl rfl ?_
  refine r_iload_n hX dX5_bribe_1 1 rfl rfl ?_
  refine r_callV (As := [.int a1]) (rest := []) (st1 := [.int (m_X5_isBody a1 u)]) hX dX5_bribe_2 lv_RX5_77 (c_X5_isBody a1  u _ rfl) (by decide) rfl rfl (zRecv.of (q := 0) (ci := 5) rfl rfl) rfl (Nat.le_of_ble_eq_true rfl) rfl ?_
  refine r_if_ne (tgt := 14) hX dX5_bribe_5 (by decide) (fun c1 => ?_) (fun c1 => ?_)
  · have h := (if_neg c1).symm.trans h
    refine r_aload_n hX dX5_bribe_14 0 rfl rfl ?_
    refine r_getR hX dX5_bribe_15 f_RX5_10 zr_0_0 ?_
    refine r_iload_n hX dX5_bribe_18 1 rfl rfl ?_
    obtain ⟨x2, e3, h⟩ := zbind_elim h
    refine r_callV (As := [.int a1]) (rest := []) (st1 := [.int x2]) hX dX5_bribe_19 lv_RX5_175 (c_X4_bribesHere a1  u _ e3) (by decide) rfl rfl (zRecv.of (q := 1) (ci := 4) rfl rfl) rfl (Nat.le_of_ble_eq_true rfl) rfl ?_
    refine r_if_ne (tgt := 31) hX dX5_bribe_22 (by decide) (fun c4 => ?_) (fun c4 => ?_)
    · have h := (if_neg c4).symm.trans h
      refine r_aload_n hX dX5_bribe_31 0 rfl rfl ?_
      obtain ⟨x5, u6, e7, h⟩ := zbind2_elim h
      refine r_callV (As := []) (rest := []) (st1 := [.int x5]) hX dX5_bribe_32 lv_RX5_125 (c_X5_cutForAllHere   u _ _ e7) (by decide) rfl rfl (zRecv.of (q := 0) (ci := 5) rfl rfl) rfl (Nat.le_of_ble_eq_true rfl) rfl ?_
      refine r_pop hX dX5_bribe_35 rfl ?_
      refine r_aload_n hX dX5_bribe_36 0 rfl rfl ?_
      refine r_iload_n hX dX5_bribe_37 1 rfl rfl ?_
      obtain ⟨x8, u9, e10, h⟩ := zbind2_elim h
      refine r_callV (As := [.int a1]) (rest := []) (st1 := [.int x8]) hX dX5_bribe_38 lv_RX5_178 (c_X5_bestBribe a1  u6 _ _ e10) (by decide) rfl rfl (zRecv.of (q := 0) (ci := 5) rfl rfl) rfl (Nat.le_of_ble_eq_true rfl) rfl ?_
      obtain ⟨rfl, rfl⟩ := zinj2 (Option.some.inj h)
      exact r_iret hX hR dX5_bribe_41
    · have h := (if_pos c4).symm.trans h
      refine r_aload_n hX dX5_bribe_25 0 rfl rfl ?_
      refine r_iconst (v := 4) hX dX5_bribe_26 (by decide) ?_
      obtain ⟨x11, u12, e13, h⟩ := zbind2_elim h
      refine r_callV (As := [.int 4]) (rest := []) (st1 := [.int x11]) hX dX5_bribe_27 lv_RX5_65 (c_X5_finding 4  u _ _ e13) (by decide) rfl rfl (zRecv.of (q := 0) (ci := 5) rfl rfl) rfl (Nat.le_of_ble_eq_true rfl) rfl ?_
      obtain ⟨rfl, rfl⟩ := zinj2 (Option.some.inj h)
      exact r_iret hX hR dX5_bribe_30
  · have h := (if_pos c1).symm.trans h
    refine r_aload_n hX dX5_bribe_8 0 rfl rfl ?_
    refine r_iconst (v := 0) hX dX5_bribe_9 (by decide) ?_
    obtain ⟨x14, u15, e16, h⟩ := zbind2_elim h
    refine r_callV (As := [.int 0]) (rest := []) (st1 := [.int x14]) hX dX5_bribe_10 lv_RX5_65 (c_X5_finding 0  u _ _ e16) (by decide) rfl rfl (zRecv.of (q := 0) (ci := 5) rfl rfl) rfl (Nat.le_of_ble_eq_true rfl) rfl ?_
    obtain ⟨rfl, rfl⟩ := zinj2 (Option.some.inj h)
    exact r_iret hX hR dX5_bribe_13
theorem dX5_isSettled_0 : decode cX5_isSettled 0 = .ok (.iconst 0, 1) := by decide +kernel
theorem dX5_isSettled_1 : decode cX5_isSettled 1 = .ok (.istore_n 1, 1) := by decide +kernel
theorem dX5_isSettled_2 : decode cX5_isSettled 2 = .ok (.iload_n 1, 1) := by decide +kernel
theorem dX5_isSettled_3 : decode cX5_isSettled 3 = .ok (.aload_n 0, 1) := by decide +kernel
theorem dX5_isSettled_4 : decode cX5_isSettled 4 = .ok (.getfield 10, 3) := by decide +kernel
theorem dX5_isSettled_7 : decode cX5_isSettled 7 = .ok (.getfield 69, 3) := by decide +kernel
theorem dX5_isSettled_10 : decode cX5_isSettled 10 = .ok (.if_icmp .ge 53, 3) := by decide +kernel
theorem dX5_isSettled_13 : decode cX5_isSettled 13 = .ok (.aload_n 0, 1) := by decide +kernel
theorem dX5_isSettled_14 : decode cX5_isSettled 14 = .ok (.getfield 10, 3) := by decide +kernel
theorem dX5_isSettled_17 : decode cX5_isSettled 17 = .ok (.iload_n 1, 1) := by decide +kernel
theorem dX5_isSettled_18 : decode cX5_isSettled 18 = .ok (.invokevirtual 175, 3) := by decide +kernel
theorem dX5_isSettled_21 : decode cX5_isSettled 21 = .ok (.ifCond .eq 36, 3) := by decide +kernel
theorem dX5_isSettled_24 : decode cX5_isSettled 24 = .ok (.aload_n 0, 1) := by decide +kernel
theorem dX5_isSettled_25 : decode cX5_isSettled 25 = .ok (.iload_n 1, 1) := by decide +kernel
theorem dX5_isSettled_26 : decode cX5_isSettled 26 = .ok (.aload_n 0, 1) := by decide +kernel
theorem dX5_isSettled_27 : decode cX5_isSettled 27 = .ok (.iload_n 1, 1) := by decide +kernel
theorem dX5_isSettled_28 : decode cX5_isSettled 28 = .ok (.invokevirtual 178, 3) := by decide +kernel
theorem dX5_isSettled_31 : decode cX5_isSettled 31 = .ok (.invokevirtual 298, 3) := by decide +kernel
theorem dX5_isSettled_34 : decode cX5_isSettled 34 = .ok (.istore_n 2, 1) := by decide +kernel
theorem dX5_isSettled_35 : decode cX5_isSettled 35 = .ok (.aload_n 0, 1) := by decide +kernel
theorem dX5_isSettled_36 : decode cX5_isSettled 36 = .ok (.iload_n 1, 1) := by decide +kernel
theorem dX5_isSettled_37 : decode cX5_isSettled 37 = .ok (.aload_n 0, 1) := by decide +kernel
theorem dX5_isSettled_38 : decode cX5_isSettled 38 = .ok (.getfield 10, 3) := by decide +kernel
theorem dX5_isSettled_41 : decode cX5_isSettled 41 = .ok (.iload_n 1, 1) := by decide +kernel
theorem dX5_isSettled_42 : decode cX5_isSettled 42 = .ok (.iconst 4, 1) := by decide +kernel
theorem dX5_isSettled_43 : decode cX5_isSettled 43 = .ok (.invokevirtual 84, 3) := by decide +kernel
theorem dX5_isSettled_46 : decode cX5_isSettled 46 = .ok (.invokevirtual 298, 3) := by decide +kernel
theorem dX5_isSettled_49 : decode cX5_isSettled 49 = .ok (.istore_n 3, 1) := by decide +kernel
theorem dX5_isSettled_50 : decode cX5_isSettled 50 = .ok (.iload_n 2, 1) := by decide +kernel
theorem dX5_isSettled_51 : decode cX5_isSettled 51 = .ok (.iload_n 3, 1) := by decide +kernel
theorem dX5_isSettled_52 : decode cX5_isSettled 52 = .ok (.if_icmp .ge 5, 3) := by decide +kernel
theorem dX5_isSettled_55 : decode cX5_isSettled 55 = .ok (.iconst 0, 1) := by decide +kernel
theorem dX5_isSettled_56 : decode cX5_isSettled 56 = .ok (.ireturn, 1) := by decide +kernel
theorem dX5_isSettled_57 : decode cX5_isSettled 57 = .ok (.iinc 1 1, 3) := by decide +kernel
theorem dX5_isSettled_60 : decode cX5_isSettled 60 = .ok (.goto (-58), 3) := by decide +kernel
theorem dX5_isSettled_63 : decode cX5_isSettled 63 = .ok (.iconst 1, 1) := by decide +kernel
theorem dX5_isSettled_64 : decode cX5_isSettled 64 = .ok (.ireturn, 1) := by decide +kernel
def m_X5_isSettled_b0  (x1 : Int32) (u2 : zM) : Option ((Int32 × zM) ⊕ (Int32 × zM)) :=
  (if (u2 1 6) ≤ x1 then
some (.inr (1, u2))
else
zbind (m_X4_bribesHere x1 u2) (fun x4 => (if x4 = 0 then
some (.inl ((x1 + 1), u2))
else
zbind2 (m_X5_bestBribe x1 u2) (fun x7 u8 => zbind2 (m_X5_costAtBribe x1 x7 u8) (fun x10 u11 => zbind (m_X4_tell x1 4 u11) (fun x13 => zbind2 (m_X5_costAtBribe x1 x13 u11) (fun x15 u16 => (if x15 ≤ x10 then
some (.inl ((x1 + 1), u16))
else
some (.inr (0, u16))))))))))
def m_X5_isSettled  (u : zM) : Option (Int32 × zM) :=
  zit zF (fun s : Int32 × zM => m_X5_isSettled_b0 s.1 s.2) (0, u)
set_option maxHeartbeats 4000000 in
set_option maxRecDepth 100000 in
theorem c_X5_isSettled    (u : zM) (r : Int32) (u' : zM) (h : m_X5_isSettled u = some (r, u')) : zCt 7 yX5_isSettled cX5_isSettled 4 (some .boolean) (fun E => [.ref (zad E 0)]) u (fun _ => some (.int r)) u' := by
  refine zCt.of (by decide +kernel) (fun E => Nat.le_of_ble_eq_true rfl) (fun X hX hR => ?_)
  have hX : zGood X RX5 cX5_isSettled 4 7 := hX
  show zG X u 0 [(0, .ref (zad X.1 0))] []
  unfold m_X5_isSettled at h
  refine r_iconst (v := 0) hX dX5_isSettled_0 (by decide) ?_
  refine r_istore_n (y := 0) (L' := [(1, .int 0), (0, .ref (zad X.1 0))]) hX dX5_isSettled_1 rfl (by decide) rfl rfl ?_
  refine r_sub [1, 0] (L' := [(0, .ref (zad X.1 0)), (1, .int 0)]) rfl ?_
  refine zit_walk (P := fun s0 : Int32 × zM => zG X s0.2 2 [(0, .ref (zad X.1 0)), (1, .int (s0.1))] []) ?_ zF _ h
  clear h
  intro s0 y0 h0b hin0 hout0
  obtain ⟨x1, u2⟩ := s0
  have h0b : m_X5_isSettled_b0 x1 u2 = some y0 := h0b
  unfold m_X5_isSettled_b0 at h0b
  show zG X u2 2 [(0, .ref (zad X.1 0)), (1, .int x1)] []
  refine r_iload_n hX dX5_isSettled_2 1 rfl rfl ?_
  refine r_aload_n hX dX5_isSettled_3 0 rfl rfl ?_
  refine r_getR hX dX5_isSettled_4 f_RX5_10 zr_0_0 ?_
  refine r_getI hX dX5_isSettled_7 f_RX5_69 zi_1_6 ?_
  refine r_icmp_ge (tgt := 63) hX dX5_isSettled_10 (by decide) (fun c3 => ?_) (fun c3 => ?_)
  · have h0b := (if_pos c3).symm.trans h0b
    refine r_iconst (v := 1) hX dX5_isSettled_63 (by decide) ?_
    have h0b := hout0 _ (Option.some.inj h0b).symm
    obtain ⟨rfl, rfl⟩ := zinj2 h0b
    exact r_zret1 hX hR dX5_isSettled_64
  · have h0b := (if_neg c3).symm.trans h0b
    refine r_aload_n hX dX5_isSettled_13 0 rfl rfl ?_
    refine r_getR hX dX5_isSettled_14 f_RX5_10 zr_0_0 ?_
    refine r_iload_n hX dX5_isSettled_17 1 rfl rfl ?_
    obtain ⟨x4, e5, h0b⟩ := zbind_elim h0b
    refine r_callV (As := [.int x1]) (rest := []) (st1 := [.int x4]) hX dX5_isSettled_18 lv_RX5_175 (c_X4_bribesHere x1  u2 _ e5) (by decide) rfl rfl (zRecv.of (q := 1) (ci := 4) rfl rfl) rfl (Nat.le_of_ble_eq_true rfl) rfl ?_
    refine r_if_eq (tgt := 57) hX dX5_isSettled_21 (by decide) (fun c6 => ?_) (fun c6 => ?_)
    · have h0b := (if_pos c6).symm.trans h0b
      refine r_iinc (v := (x1 + 1)) (L' := [(1, .int (x1 + 1)), (0, .ref (zad X.1 0))]) hX dX5_isSettled_57 (by decide) 1 rfl rfl rfl ?_
      refine r_goto (tgt := 2) hX dX5_isSettled_60 (by decide) ?_
      refine r_sub [1, 0] (L' := [(0, .ref (zad X.1 0)), (1, .int (x1 + 1))]) rfl ?_
      exact hin0 _ (Option.some.inj h0b).symm
    · have h0b := (if_neg c6).symm.trans h0b
      refine r_aload_n hX dX5_isSettled_24 0 rfl rfl ?_
      refine r_iload_n hX dX5_isSettled_25 1 rfl rfl ?_
      refine r_aload_n hX dX5_isSettled_26 0 rfl rfl ?_
      refine r_iload_n hX dX5_isSettled_27 1 rfl rfl ?_
      obtain ⟨x7, u8, e9, h0b⟩ := zbind2_elim h0b
      refine r_callV (As := [.int x1]) (rest := [.int x1, .ref (zad X.1 0)]) (st1 := [.int x7, .int x1, .ref (zad X.1 0)]) hX dX5_isSettled_28 lv_RX5_178 (c_X5_bestBribe x1  u2 _ _ e9) (by decide) rfl rfl (zRecv.of (q := 0) (ci := 5) rfl rfl) rfl (Nat.le_of_ble_eq_true rfl) rfl ?_
      obtain ⟨x10, u11, e12, h0b⟩ := zbind2_elim h0b
      refine r_callV (As := [.int x1, .int x7]) (rest := []) (st1 := [.int x10]) hX dX5_isSettled_31 lv_RX5_298 (c_X5_costAtBribe x1 x7  u8 _ _ e12) (by decide) rfl rfl (zRecv.of (q := 0) (ci := 5) rfl rfl) rfl (Nat.le_of_ble_eq_true rfl) rfl ?_
      refine r_istore_n (y := x10) (L' := [(2, .int x10), (0, .ref (zad X.1 0)), (1, .int x1)]) hX dX5_isSettled_34 rfl (by decide) rfl rfl ?_
      refine r_aload_n hX dX5_isSettled_35 1 rfl rfl ?_
      refine r_iload_n hX dX5_isSettled_36 2 rfl rfl ?_
      refine r_aload_n hX dX5_isSettled_37 1 rfl rfl ?_
      refine r_getR hX dX5_isSettled_38 f_RX5_10 zr_0_0 ?_
      refine r_iload_n hX dX5_isSettled_41 2 rfl rfl ?_
      refine r_iconst (v := 4) hX dX5_isSettled_42 (by decide) ?_
      obtain ⟨x13, e14, h0b⟩ := zbind_elim h0b
      refine r_callV (As := [.int x1, .int 4]) (rest := [.int x1, .ref (zad X.1 0)]) (st1 := [.int x13, .int x1, .ref (zad X.1 0)]) hX dX5_isSettled_43 lv_RX5_84 (c_X4_tell x1 4  u11 _ e14) (by decide) rfl rfl (zRecv.of (q := 1) (ci := 4) rfl rfl) rfl (Nat.le_of_ble_eq_true rfl) rfl ?_
      obtain ⟨x15, u16, e17, h0b⟩ := zbind2_elim h0b
      refine r_callV (As := [.int x1, .int x13]) (rest := []) (st1 := [.int x15]) hX dX5_isSettled_46 lv_RX5_298 (c_X5_costAtBribe x1 x13  u11 _ _ e17) (by decide) rfl rfl (zRecv.of (q := 0) (ci := 5) rfl rfl) rfl (Nat.le_of_ble_eq_true rfl) rfl ?_
      refine r_istore_n (y := x15) (L' := [(3, .int x15), (2, .int x10), (0, .ref (zad X.1 0)), (1, .int x1)]) hX dX5_isSettled_49 rfl (by decide) rfl rfl ?_
      refine r_iload_n hX dX5_isSettled_50 1 rfl rfl ?_
      refine r_iload_n hX dX5_isSettled_51 0 rfl rfl ?_
      refine r_icmp_ge (tgt := 57) hX dX5_isSettled_52 (by decide) (fun c18 => ?_) (fun c18 => ?_)
      · have h0b := (if_pos c18).symm.trans h0b
        refine r_iinc (v := (x1 + 1)) (L' := [(1, .int (x1 + 1)), (3, .int x15), (2, .int x10), (0, .ref (zad X.1 0))]) hX dX5_isSettled_57 (by decide) 3 rfl rfl rfl ?_
        refine r_goto (tgt := 2) hX dX5_isSettled_60 (by decide) ?_
        refine r_sub [3, 0] (L' := [(0, .ref (zad X.1 0)), (1, .int (x1 + 1))]) rfl ?_
        exact hin0 _ (Option.some.inj h0b).symm
      · have h0b := (if_neg c18).symm.trans h0b
        refine r_iconst (v := 0) hX dX5_isSettled_55 (by decide) ?_
        have h0b := hout0 _ (Option.some.inj h0b).symm
        obtain ⟨rfl, rfl⟩ := zinj2 h0b
        exact r_zret0 hX hR dX5_isSettled_56
theorem dX5_settled_0 : decode cX5_settled 0 = .ok (.aload_n 0, 1) := by decide +kernel
theorem dX5_settled_1 : decode cX5_settled 1 = .ok (.invokevirtual 125, 3) := by decide +kernel
theorem dX5_settled_4 : decode cX5_settled 4 = .ok (.pop, 1) := by decide +kernel
theorem dX5_settled_5 : decode cX5_settled 5 = .ok (.aload_n 0, 1) := by decide +kernel
theorem dX5_settled_6 : decode cX5_settled 6 = .ok (.invokevirtual 181, 3) := by decide +kernel
theorem dX5_settled_9 : decode cX5_settled 9 = .ok (.ifCond .eq 7, 3) := by decide +kernel
theorem dX5_settled_12 : decode cX5_settled 12 = .ok (.iconst 1, 1) := by decide +kernel
theorem dX5_settled_13 : decode cX5_settled 13 = .ok (.goto 4, 3) := by decide +kernel
theorem dX5_settled_16 : decode cX5_settled 16 = .ok (.iconst 0, 1) := by decide +kernel
theorem dX5_settled_17 : decode cX5_settled 17 = .ok (.ireturn, 1) := by decide +kernel
def m_X5_settled  (u : zM) : Option (Int32 × zM) :=
  zbind2 (m_X5_cutForAllHere u) (fun x1 u2 => zbind2 (m_X5_isSettled u2) (fun x4 u5 => (if x4 = 0 then
some (0, u5)
else
some (1, u5))))
set_option maxHeartbeats 4000000 in
set_option maxRecDepth 100000 in
theorem c_X5_settled    (u : zM) (r : Int32) (u' : zM) (h : m_X5_settled u = some (r, u')) : zCt 8 yX5_settled cX5_settled 1 (some .int) (fun E => [.ref (zad E 0)]) u (fun _ => some (.int r)) u' := by
  refine zCt.of (by decide +kernel) (fun E => Nat.le_of_ble_eq_true rfl) (fun X hX hR => ?_)
  have hX : zGood X RX5 cX5_settled 1 8 := hX
  show zG X u 0 [(0, .ref (zad X.1 0))] []
  unfold m_X5_settled at h
  refine r_aload_n hX dX5_settled_0 0 rfl rfl ?_
  obtain ⟨x1, u2, e3, h⟩ := zbind2_elim h
  refine r_callV (As := []) (rest := []) (st1 := [.int x1]) hX dX5_settled_1 lv_RX5_125 (c_X5_cutForAllHere   u _ _ e3) (by decide) rfl rfl (zRecv.of (q := 0) (ci := 5) rfl rfl) rfl (Nat.le_of_ble_eq_true rfl) rfl ?_
  refine r_pop hX dX5_settled_4 rfl ?_
  refine r_aload_n hX dX5_settled_5 0 rfl rfl ?_
  obtain ⟨x4, u5, e6, h⟩ := zbind2_elim h
  refine r_callV (As := []) (rest := []) (st1 := [.int x4]) hX dX5_settled_6 lv_RX5_181 (c_X5_isSettled   u2 _ _ e6) (by decide) rfl rfl (zRecv.of (q := 0) (ci := 5) rfl rfl) rfl (Nat.le_of_ble_eq_true rfl) rfl ?_
  refine r_if_eq (tgt := 16) hX dX5_settled_9 (by decide) (fun c7 => ?_) (fun c7 => ?_)
  · have h := (if_pos c7).symm.trans h
    refine r_iconst (v := 0) hX dX5_settled_16 (by decide) ?_
    obtain ⟨rfl, rfl⟩ := zinj2 (Option.some.inj h)
    exact r_iret hX hR dX5_settled_17
  · have h := (if_neg c7).symm.trans h
    refine r_iconst (v := 1) hX dX5_settled_12 (by decide) ?_
    refine r_goto (tgt := 17) hX dX5_settled_13 (by decide) ?_
    obtain ⟨rfl, rfl⟩ := zinj2 (Option.some.inj h)
    exact r_iret hX hR dX5_settled_17
theorem dX4_readBribes_0 : decode cX4_readBribes 0 = .ok (.aload_n 0, 1) := by decide +kernel
theorem dX4_readBribes_1 : decode cX4_readBribes 1 = .ok (.getfield 18, 3) := by decide +kernel
theorem dX4_readBribes_4 : decode cX4_readBribes 4 = .ok (.iconst 0, 1) := by decide +kernel
theorem dX4_readBribes_5 : decode cX4_readBribes 5 = .ok (.aload_n 1, 1) := by decide +kernel
theorem dX4_readBribes_6 : decode cX4_readBribes 6 = .ok (.iconst 0, 1) := by decide +kernel
theorem dX4_readBribes_7 : decode cX4_readBribes 7 = .ok (.bipush 12, 2) := by decide +kernel
theorem dX4_readBribes_9 : decode cX4_readBribes 9 = .ok (.invokestatic 52, 3) := by decide +kernel
theorem dX4_readBribes_12 : decode cX4_readBribes 12 = .ok (.return_, 1) := by decide +kernel
def m_X4_readBribes  (u : zM) : Option (zM) :=
  zbind (zcp u 4 12 0 29 12 0 12) (fun u1 => some u1)
set_option maxHeartbeats 4000000 in
set_option maxRecDepth 100000 in
theorem c_X4_readBribes    (u : zM) (u' : zM) (h : m_X4_readBribes u = some (u')) : zCt 2 yX4_readBribes cX4_readBribes 2 none (fun E => [.ref (zad E 1), .ref (zad E 29)]) u (fun _ => none) u' := by
  refine zCt.of (by decide +kernel) (fun E => Nat.le_of_ble_eq_true rfl) (fun X hX hR => ?_)
  have hX : zGood X RX4 cX4_readBribes 2 2 := hX
  show zG X u 0 [(0, .ref (zad X.1 1)), (1, .ref (zad X.1 29))] []
  unfold m_X4_readBribes at h
  refine r_aload_n hX dX4_readBribes_0 0 rfl rfl ?_
  refine r_getR hX dX4_readBribes_1 f_RX4_18 zr_1_2 ?_
  refine r_iconst (v := 0) hX dX4_readBribes_4 (by decide) ?_
  refine r_aload_n hX dX4_readBribes_5 1 rfl rfl ?_
  refine r_iconst (v := 0) hX dX4_readBribes_6 (by decide) ?_
  refine r_bipush (v := 12) hX dX4_readBribes_7 (by decide) ?_
  obtain ⟨u1, e2, h⟩ := zbind_elim h
  refine r_copy hX dX4_readBribes_9 la_RX4_52 rfl rfl (by decide) (Nat.le_of_ble_eq_true rfl) e2 ?_
  obtain rfl := Option.some.inj h
  exact r_vret hX hR dX4_readBribes_12
