/-! MODELS AND CONTRACTS, by program (wip/whole/gen_all.py): X6_sized, X6_doesBribe, X6_costBy, X6_bribeOf, X6_bribe, X6_isSettled, X6_settled -/
theorem dX6_sized_0 : decode cX6_sized 0 = .ok (.aload_n 0, 1) := by decide +kernel
theorem dX6_sized_1 : decode cX6_sized 1 = .ok (.iload_n 1, 1) := by decide +kernel
theorem dX6_sized_2 : decode cX6_sized 2 = .ok (.invokevirtual 96, 3) := by decide +kernel
theorem dX6_sized_5 : decode cX6_sized 5 = .ok (.ifCond .eq 10, 3) := by decide +kernel
theorem dX6_sized_8 : decode cX6_sized 8 = .ok (.iload_n 2, 1) := by decide +kernel
theorem dX6_sized_9 : decode cX6_sized 9 = .ok (.invokestatic 136, 3) := by decide +kernel
theorem dX6_sized_12 : decode cX6_sized 12 = .ok (.ifCond .ne 10, 3) := by decide +kernel
theorem dX6_sized_15 : decode cX6_sized 15 = .ok (.aload_n 0, 1) := by decide +kernel
theorem dX6_sized_16 : decode cX6_sized 16 = .ok (.ldc 78, 2) := by decide +kernel
theorem dX6_sized_18 : decode cX6_sized 18 = .ok (.invokevirtual 83, 3) := by decide +kernel
theorem dX6_sized_21 : decode cX6_sized 21 = .ok (.ireturn, 1) := by decide +kernel
theorem dX6_sized_22 : decode cX6_sized 22 = .ok (.aload_n 0, 1) := by decide +kernel
theorem dX6_sized_23 : decode cX6_sized 23 = .ok (.iload_n 1, 1) := by decide +kernel
theorem dX6_sized_24 : decode cX6_sized 24 = .ok (.invokevirtual 168, 3) := by decide +kernel
theorem dX6_sized_27 : decode cX6_sized 27 = .ok (.ifCond .eq 10, 3) := by decide +kernel
theorem dX6_sized_30 : decode cX6_sized 30 = .ok (.aload_n 0, 1) := by decide +kernel
theorem dX6_sized_31 : decode cX6_sized 31 = .ok (.ldc 171, 2) := by decide +kernel
theorem dX6_sized_33 : decode cX6_sized 33 = .ok (.invokevirtual 83, 3) := by decide +kernel
theorem dX6_sized_36 : decode cX6_sized 36 = .ok (.ireturn, 1) := by decide +kernel
theorem dX6_sized_37 : decode cX6_sized 37 = .ok (.bipush 6, 2) := by decide +kernel
theorem dX6_sized_39 : decode cX6_sized 39 = .ok (.bipush 7, 2) := by decide +kernel
theorem dX6_sized_41 : decode cX6_sized 41 = .ok (.iload_n 1, 1) := by decide +kernel
theorem dX6_sized_42 : decode cX6_sized 42 = .ok (.imul, 1) := by decide +kernel
theorem dX6_sized_43 : decode cX6_sized 43 = .ok (.iadd, 1) := by decide +kernel
theorem dX6_sized_44 : decode cX6_sized 44 = .ok (.iconst 1, 1) := by decide +kernel
theorem dX6_sized_45 : decode cX6_sized 45 = .ok (.iadd, 1) := by decide +kernel
theorem dX6_sized_46 : decode cX6_sized 46 = .ok (.iload_n 2, 1) := by decide +kernel
theorem dX6_sized_47 : decode cX6_sized 47 = .ok (.iadd, 1) := by decide +kernel
theorem dX6_sized_48 : decode cX6_sized 48 = .ok (.istore_n 3, 1) := by decide +kernel
theorem dX6_sized_49 : decode cX6_sized 49 = .ok (.aload_n 0, 1) := by decide +kernel
theorem dX6_sized_50 : decode cX6_sized 50 = .ok (.getfield 9, 3) := by decide +kernel
theorem dX6_sized_53 : decode cX6_sized 53 = .ok (.iload_n 3, 1) := by decide +kernel
theorem dX6_sized_54 : decode cX6_sized 54 = .ok (.iaload, 1) := by decide +kernel
theorem dX6_sized_55 : decode cX6_sized 55 = .ok (.istore 4, 2) := by decide +kernel
theorem dX6_sized_57 : decode cX6_sized 57 = .ok (.aload_n 0, 1) := by decide +kernel
theorem dX6_sized_58 : decode cX6_sized 58 = .ok (.invokevirtual 139, 3) := by decide +kernel
theorem dX6_sized_61 : decode cX6_sized 61 = .ok (.istore 5, 2) := by decide +kernel
theorem dX6_sized_63 : decode cX6_sized 63 = .ok (.bipush 50, 2) := by decide +kernel
theorem dX6_sized_65 : decode cX6_sized 65 = .ok (.istore 6, 2) := by decide +kernel
theorem dX6_sized_67 : decode cX6_sized 67 = .ok (.iconst (-1), 1) := by decide +kernel
theorem dX6_sized_68 : decode cX6_sized 68 = .ok (.istore 7, 2) := by decide +kernel
theorem dX6_sized_70 : decode cX6_sized 70 = .ok (.bipush 50, 2) := by decide +kernel
theorem dX6_sized_72 : decode cX6_sized 72 = .ok (.istore 8, 2) := by decide +kernel
theorem dX6_sized_74 : decode cX6_sized 74 = .ok (.iload 8, 2) := by decide +kernel
theorem dX6_sized_76 : decode cX6_sized 76 = .ok (.sipush 250, 3) := by decide +kernel
theorem dX6_sized_79 : decode cX6_sized 79 = .ok (.if_icmp .gt 43, 3) := by decide +kernel
theorem dX6_sized_82 : decode cX6_sized 82 = .ok (.aload_n 0, 1) := by decide +kernel
theorem dX6_sized_83 : decode cX6_sized 83 = .ok (.getfield 9, 3) := by decide +kernel
theorem dX6_sized_86 : decode cX6_sized 86 = .ok (.iload_n 3, 1) := by decide +kernel
theorem dX6_sized_87 : decode cX6_sized 87 = .ok (.iload 8, 2) := by decide +kernel
theorem dX6_sized_89 : decode cX6_sized 89 = .ok (.iastore, 1) := by decide +kernel
theorem dX6_sized_90 : decode cX6_sized 90 = .ok (.aload_n 0, 1) := by decide +kernel
theorem dX6_sized_91 : decode cX6_sized 91 = .ok (.iload 5, 2) := by decide +kernel
theorem dX6_sized_93 : decode cX6_sized 93 = .ok (.invokevirtual 159, 3) := by decide +kernel
theorem dX6_sized_96 : decode cX6_sized 96 = .ok (.invokestatic 165, 3) := by decide +kernel
theorem dX6_sized_99 : decode cX6_sized 99 = .ok (.istore 9, 2) := by decide +kernel
theorem dX6_sized_101 : decode cX6_sized 101 = .ok (.iload 9, 2) := by decide +kernel
theorem dX6_sized_103 : decode cX6_sized 103 = .ok (.iload 7, 2) := by decide +kernel
theorem dX6_sized_105 : decode cX6_sized 105 = .ok (.if_icmp .le 11, 3) := by decide +kernel
theorem dX6_sized_108 : decode cX6_sized 108 = .ok (.iload 9, 2) := by decide +kernel
theorem dX6_sized_110 : decode cX6_sized 110 = .ok (.istore 7, 2) := by decide +kernel
theorem dX6_sized_112 : decode cX6_sized 112 = .ok (.iload 8, 2) := by decide +kernel
theorem dX6_sized_114 : decode cX6_sized 114 = .ok (.istore 6, 2) := by decide +kernel
theorem dX6_sized_116 : decode cX6_sized 116 = .ok (.iinc 8 1, 3) := by decide +kernel
theorem dX6_sized_119 : decode cX6_sized 119 = .ok (.goto (-45), 3) := by decide +kernel
theorem dX6_sized_122 : decode cX6_sized 122 = .ok (.aload_n 0, 1) := by decide +kernel
theorem dX6_sized_123 : decode cX6_sized 123 = .ok (.getfield 9, 3) := by decide +kernel
theorem dX6_sized_126 : decode cX6_sized 126 = .ok (.iload_n 3, 1) := by decide +kernel
theorem dX6_sized_127 : decode cX6_sized 127 = .ok (.iload 4, 2) := by decide +kernel
theorem dX6_sized_129 : decode cX6_sized 129 = .ok (.iastore, 1) := by decide +kernel
theorem dX6_sized_130 : decode cX6_sized 130 = .ok (.iload 6, 2) := by decide +kernel
theorem dX6_sized_132 : decode cX6_sized 132 = .ok (.ireturn, 1) := by decide +kernel
def m_X6_sized_b0 (a1 : Int32) (a2 : Int32) (x11 : Int32) (x13 : Int32) (x14 : Int32) (x15 : Int32) (u16 : zM) : Option ((Int32 × Int32 × Int32 × zM) ⊕ (Int32 × zM)) :=
  (if 250 < x15 then
some (.inr (x13, u16))
else
zbind (zsv u16 40 160 (((6 + (7 * a1)) + 1) + a2) x15) (fun u21 => zbind2 (m_X6_fitOf x11 u21) (fun x23 u24 => zbind (m_X6_bits x23) (fun x26 => (if x26 ≤ x14 then
some (.inl (x13, x14, (x15 + 1), u24))
else
some (.inl (x15, x26, (x15 + 1), u24)))))))
def m_X6_sized (a1 : Int32) (a2 : Int32) (u : zM) : Option (Int32 × zM) :=
  (if (m_X6_isBody a1 u) = 0 then
zbind2 (m_X6_finding (-1000001) u) (fun x2 u3 => some (x2, u3))
else
(if (m_X6_isMeasure a2) = 0 then
zbind2 (m_X6_finding (-1000001) u) (fun x34 u35 => some (x34, u35))
else
zbind (m_X6_isAway a1 u) (fun x6 => (if x6 = 0 then
zbind (zld u 40 160 (((6 + (7 * a1)) + 1) + a2)) (fun x9 => zbind (m_X6_hereSet u) (fun x11 => zbind2 (zit zF (fun s : Int32 × Int32 × Int32 × zM => m_X6_sized_b0 a1 a2 x11 s.1 s.2.1 s.2.2.1 s.2.2.2) (50, (-1), 50, u)) (fun x17 u18 =>
zbind (zsv u18 40 160 (((6 + (7 * a1)) + 1) + a2) x9) (fun u29 => some (x17, u29)))))
else
zbind2 (m_X6_finding (-1000005) u) (fun x31 u32 => some (x31, u32))))))
set_option maxHeartbeats 4000000 in
set_option maxRecDepth 100000 in
theorem c_X6_sized (a1 : Int32) (a2 : Int32)   (u : zM) (r : Int32) (u' : zM) (h : m_X6_sized a1 a2 u = some (r, u')) : zCt 7 yX6_sized cX6_sized 10 (some .int) (fun E => [.ref (zad E 39), .int a1, .int a2]) u (fun _ => some (.int r)) u' := by
  refine zCt.of (by decide +kernel) (fun E => Nat.le_of_ble_eq_true rfl) (fun X hX hR => ?_)
  have hX : zGood X RX6 cX6_sized 10 7 := hX
  show zG X u 0 [(0, .ref (zad X.1 39)), (1, .int a1), (2, .int a2)] []
  unfold m_X6_sized at h
  refine r_aload_n hX dX6_sized_0 0 rfl rfl ?_
  refine r_iload_n hX dX6_sized_1 1 rfl rfl ?_
  refine r_callV (As := [.int a1]) (rest := []) (st1 := [.int (m_X6_isBody a1 u)]) hX dX6_sized_2 lv_RX6_96 (c_X6_isBody a1  u _ rfl) (by decide) rfl rfl (zRecv.of (q := 39) (ci := 6) rfl rfl) rfl (Nat.le_of_ble_eq_true rfl) rfl ?_
  refine r_if_eq (tgt := 15) hX dX6_sized_5 (by decide) (fun c1 => ?_) (fun c1 => ?_)
  · have h := (if_pos c1).symm.trans h
    refine r_aload_n hX dX6_sized_15 0 rfl rfl ?_
    refine r_ldc (v := (-1000001)) hX dX6_sized_16 (zT_in 1041 (by decide +kernel) rfl) ?_
    obtain ⟨x2, u3, e4, h⟩ := zbind2_elim h
    refine r_callV (As := [.int (-1000001)]) (rest := []) (st1 := [.int x2]) hX dX6_sized_18 lv_RX6_83 (c_X6_finding (-1000001)  u _ _ e4) (by decide) rfl rfl (zRecv.of (q := 39) (ci := 6) rfl rfl) rfl (Nat.le_of_ble_eq_true rfl) rfl ?_
    obtain ⟨rfl, rfl⟩ := zinj2 (Option.some.inj h)
    exact r_iret hX hR dX6_sized_21
  · have h := (if_neg c1).symm.trans h
    refine r_iload_n hX dX6_sized_8 2 rfl rfl ?_
    refine r_callS (As := [.int a2]) (rest := []) (st1 := [.int (m_X6_isMeasure a2)]) hX dX6_sized_9 ls_RX6_136 (c_X6_isMeasure a2  u _ rfl) (by decide) rfl rfl rfl (Nat.le_of_ble_eq_true rfl) rfl ?_
    refine r_if_ne (tgt := 22) hX dX6_sized_12 (by decide) (fun c5 => ?_) (fun c5 => ?_)
    · have h := (if_neg c5).symm.trans h
      refine r_aload_n hX dX6_sized_22 0 rfl rfl ?_
      refine r_iload_n hX dX6_sized_23 1 rfl rfl ?_
      obtain ⟨x6, e7, h⟩ := zbind_elim h
      refine r_callV (As := [.int a1]) (rest := []) (st1 := [.int x6]) hX dX6_sized_24 lv_RX6_168 (c_X6_isAway a1  u _ e7) (by decide) rfl rfl (zRecv.of (q := 39) (ci := 6) rfl rfl) rfl (Nat.le_of_ble_eq_true rfl) rfl ?_
      refine r_if_eq (tgt := 37) hX dX6_sized_27 (by decide) (fun c8 => ?_) (fun c8 => ?_)
      · have h := (if_pos c8).symm.trans h
        refine r_bipush (v := 6) hX dX6_sized_37 (by decide) ?_
        refine r_bipush (v := 7) hX dX6_sized_39 (by decide) ?_
        refine r_iload_n hX dX6_sized_41 1 rfl rfl ?_
        refine r_imul hX dX6_sized_42 ?_
        refine r_iadd hX dX6_sized_43 ?_
        refine r_iconst (v := 1) hX dX6_sized_44 (by decide) ?_
        refine r_iadd hX dX6_sized_45 ?_
        refine r_iload_n hX dX6_sized_46 2 rfl rfl ?_
        refine r_iadd hX dX6_sized_47 ?_
        refine r_istore_n (y := (((6 + (7 * a1)) + 1) + a2)) (L' := [(3, .int (((6 + (7 * a1)) + 1) + a2)), (0, .ref (zad X.1 39)), (1, .int a1), (2, .int a2)]) hX dX6_sized_48 rfl (by decide) rfl rfl ?_
        refine r_aload_n hX dX6_sized_49 1 rfl rfl ?_
        refine r_getR hX dX6_sized_50 f_RX6_9 zr_39_0 ?_
        refine r_iload_n hX dX6_sized_53 0 rfl rfl ?_
        obtain ⟨x9, e10, h⟩ := zbind_elim h
        refine r_iald hX dX6_sized_54 rfl e10 ?_
        refine r_istore (y := x9) (L' := [(4, .int x9), (3, .int (((6 + (7 * a1)) + 1) + a2)), (0, .ref (zad X.1 39)), (1, .int a1), (2, .int a2)]) hX dX6_sized_55 (by decide) rfl rfl ?_
        refine r_aload_n hX dX6_sized_57 2 rfl rfl ?_
        obtain ⟨x11, e12, h⟩ := zbind_elim h
        refine r_callV (As := []) (rest := []) (st1 := [.int x11]) hX dX6_sized_58 lv_RX6_139 (c_X6_hereSet   u _ e12) (by decide) rfl rfl (zRecv.of (q := 39) (ci := 6) rfl rfl) rfl (Nat.le_of_ble_eq_true rfl) rfl ?_
        refine r_istore (y := x11) (L' := [(5, .int x11), (4, .int x9), (3, .int (((6 + (7 * a1)) + 1) + a2)), (0, .ref (zad X.1 39)), (1, .int a1), (2, .int a2)]) hX dX6_sized_61 (by decide) rfl rfl ?_
        refine r_bipush (v := 50) hX dX6_sized_63 (by decide) ?_
        refine r_istore (y := 50) (L' := [(6, .int 50), (5, .int x11), (4, .int x9), (3, .int (((6 + (7 * a1)) + 1) + a2)), (0, .ref (zad X.1 39)), (1, .int a1), (2, .int a2)]) hX dX6_sized_65 (by decide) rfl rfl ?_
        refine r_iconst (v := (-1)) hX dX6_sized_67 (by decide) ?_
        refine r_istore (y := (-1)) (L' := [(7, .int (-1)), (6, .int 50), (5, .int x11), (4, .int x9), (3, .int (((6 + (7 * a1)) + 1) + a2)), (0, .ref (zad X.1 39)), (1, .int a1), (2, .int a2)]) hX dX6_sized_68 (by decide) rfl rfl ?_
        refine r_bipush (v := 50) hX dX6_sized_70 (by decide) ?_
        refine r_istore (y := 50) (L' := [(8, .int 50), (7, .int (-1)), (6, .int 50), (5, .int x11), (4, .int x9), (3, .int (((6 + (7 * a1)) + 1) + a2)), (0, .ref (zad X.1 39)), (1, .int a1), (2, .int a2)]) hX dX6_sized_72 (by decide) rfl rfl ?_
        refine r_sub [6, 5, 4, 3, 2, 1, 0] (L' := [(0, .ref (zad X.1 39)), (3, .int (((6 + (7 * a1)) + 1) + a2)), (4, .int x9), (5, .int x11), (6, .int 50), (7, .int (-1)), (8, .int 50)]) rfl ?_
        obtain ⟨x17, u18, h19, h⟩ := zbind2_elim h
        have Jh19 : zG X u18 122 [(0, .ref (zad X.1 39)), (3, .int (((6 + (7 * a1)) + 1) + a2)), (4, .int x9), (6, .int x17)] [] := by
            refine r_aload_n hX dX6_sized_122 0 rfl rfl ?_
            refine r_getR hX dX6_sized_123 f_RX6_9 zr_39_0 ?_
            refine r_iload_n hX dX6_sized_126 1 rfl rfl ?_
            refine r_iload hX dX6_sized_127 2 rfl ?_
            obtain ⟨u29, e30, h⟩ := zbind_elim h
            refine r_iast hX dX6_sized_129 rfl e30 ?_
            refine r_iload hX dX6_sized_130 3 rfl ?_
            obtain ⟨rfl, rfl⟩ := zinj2 (Option.some.inj h)
            exact r_iret hX hR dX6_sized_132
        clear h
        refine zit_walk (P := fun s0 : Int32 × Int32 × Int32 × zM => zG X s0.2.2.2 74 [(0, .ref (zad X.1 39)), (3, .int (((6 + (7 * a1)) + 1) + a2)), (4, .int x9), (5, .int x11), (6, .int (s0.1)), (7, .int (s0.2.1)), (8, .int (s0.2.2.1))] []) ?_ zF _ h19
        clear h19
        intro s0 y0 h0b hin0 hout0
        obtain ⟨x13, x14, x15, u16⟩ := s0
        have h0b : m_X6_sized_b0 a1 a2 x11 x13 x14 x15 u16 = some y0 := h0b
        unfold m_X6_sized_b0 at h0b
        show zG X u16 74 [(0, .ref (zad X.1 39)), (3, .int (((6 + (7 * a1)) + 1) + a2)), (4, .int x9), (5, .int x11), (6, .int x13), (7, .int x14), (8, .int x15)] []
        refine r_iload hX dX6_sized_74 6 rfl ?_
        refine r_sipush (v := 250) hX dX6_sized_76 (by decide) ?_
        refine r_icmp_gt (tgt := 122) hX dX6_sized_79 (by decide) (fun c20 => ?_) (fun c20 => ?_)
        · have h0b := (if_pos c20).symm.trans h0b
          refine r_sub [0, 1, 2, 4] (L' := [(0, .ref (zad X.1 39)), (3, .int (((6 + (7 * a1)) + 1) + a2)), (4, .int x9), (6, .int x13)]) rfl ?_
          have h0b := hout0 _ (Option.some.inj h0b).symm
          obtain ⟨rfl, rfl⟩ := zinj2 h0b
          exact Jh19
        · have h0b := (if_neg c20).symm.trans h0b
          refine r_aload_n hX dX6_sized_82 0 rfl rfl ?_
          refine r_getR hX dX6_sized_83 f_RX6_9 zr_39_0 ?_
          refine r_iload_n hX dX6_sized_86 1 rfl rfl ?_
          refine r_iload hX dX6_sized_87 6 rfl ?_
          obtain ⟨u21, e22, h0b⟩ := zbind_elim h0b
          refine r_iast hX dX6_sized_89 rfl e22 ?_
          refine r_aload_n hX dX6_sized_90 0 rfl rfl ?_
          refine r_iload hX dX6_sized_91 3 rfl ?_
          obtain ⟨x23, u24, e25, h0b⟩ := zbind2_elim h0b
          refine r_callV (As := [.int x11]) (rest := []) (st1 := [.int x23]) hX dX6_sized_93 lv_RX6_159 (c_X6_fitOf x11  u21 _ _ e25) (by decide) rfl rfl (zRecv.of (q := 39) (ci := 6) rfl rfl) rfl (Nat.le_of_ble_eq_true rfl) rfl ?_
          obtain ⟨x26, e27, h0b⟩ := zbind_elim h0b
          refine r_callS (As := [.int x23]) (rest := []) (st1 := [.int x26]) hX dX6_sized_96 ls_RX6_165 (c_X6_bits x23  u24 _ e27) (by decide) rfl rfl rfl (Nat.le_of_ble_eq_true rfl) rfl ?_
          refine r_istore (y := x26) (L' := [(9, .int x26), (0, .ref (zad X.1 39)), (3, .int (((6 + (7 * a1)) + 1) + a2)), (4, .int x9), (5, .int x11), (6, .int x13), (7, .int x14), (8, .int x15)]) hX dX6_sized_99 (by decide) rfl rfl ?_
          refine r_iload hX dX6_sized_101 0 rfl ?_
          refine r_iload hX dX6_sized_103 6 rfl ?_
          refine r_icmp_le (tgt := 116) hX dX6_sized_105 (by decide) (fun c28 => ?_) (fun c28 => ?_)
          · have h0b := (if_pos c28).symm.trans h0b
            refine r_iinc (v := (x15 + 1)) (L' := [(8, .int (x15 + 1)), (9, .int x26), (0, .ref (zad X.1 39)), (3, .int (((6 + (7 * a1)) + 1) + a2)), (4, .int x9), (5, .int x11), (6, .int x13), (7, .int x14)]) hX dX6_sized_116 (by decide) 7 rfl rfl rfl ?_
            refine r_goto (tgt := 74) hX dX6_sized_119 (by decide) ?_
            refine r_sub [2, 3, 4, 5, 6, 7, 0] (L' := [(0, .ref (zad X.1 39)), (3, .int (((6 + (7 * a1)) + 1) + a2)), (4, .int x9), (5, .int x11), (6, .int x13), (7, .int x14), (8, .int (x15 + 1))]) rfl ?_
            exact hin0 _ (Option.some.inj h0b).symm
          · have h0b := (if_neg c28).symm.trans h0b
            refine r_iload hX dX6_sized_108 0 rfl ?_
            refine r_istore (y := x26) (L' := [(7, .int x26), (9, .int x26), (0, .ref (zad X.1 39)), (3, .int (((6 + (7 * a1)) + 1) + a2)), (4, .int x9), (5, .int x11), (6, .int x13), (8, .int x15)]) hX dX6_sized_110 (by decide) rfl rfl ?_
            refine r_iload hX dX6_sized_112 7 rfl ?_
            refine r_istore (y := x15) (L' := [(6, .int x15), (7, .int x26), (9, .int x26), (0, .ref (zad X.1 39)), (3, .int (((6 + (7 * a1)) + 1) + a2)), (4, .int x9), (5, .int x11), (8, .int x15)]) hX dX6_sized_114 (by decide) rfl rfl ?_
            refine r_iinc (v := (x15 + 1)) (L' := [(8, .int (x15 + 1)), (6, .int x15), (7, .int x26), (9, .int x26), (0, .ref (zad X.1 39)), (3, .int (((6 + (7 * a1)) + 1) + a2)), (4, .int x9), (5, .int x11)]) hX dX6_sized_116 (by decide) 7 rfl rfl rfl ?_
            refine r_goto (tgt := 74) hX dX6_sized_119 (by decide) ?_
            refine r_sub [4, 5, 6, 7, 1, 2, 0] (L' := [(0, .ref (zad X.1 39)), (3, .int (((6 + (7 * a1)) + 1) + a2)), (4, .int x9), (5, .int x11), (6, .int x15), (7, .int x26), (8, .int (x15 + 1))]) rfl ?_
            exact hin0 _ (Option.some.inj h0b).symm
      · have h := (if_neg c8).symm.trans h
        refine r_aload_n hX dX6_sized_30 0 rfl rfl ?_
        refine r_ldc (v := (-1000005)) hX dX6_sized_31 (zT_in 1213 (by decide +kernel) rfl) ?_
        obtain ⟨x31, u32, e33, h⟩ := zbind2_elim h
        refine r_callV (As := [.int (-1000005)]) (rest := []) (st1 := [.int x31]) hX dX6_sized_33 lv_RX6_83 (c_X6_finding (-1000005)  u _ _ e33) (by decide) rfl rfl (zRecv.of (q := 39) (ci := 6) rfl rfl) rfl (Nat.le_of_ble_eq_true rfl) rfl ?_
        obtain ⟨rfl, rfl⟩ := zinj2 (Option.some.inj h)
        exact r_iret hX hR dX6_sized_36
    · have h := (if_pos c5).symm.trans h
      refine r_aload_n hX dX6_sized_15 0 rfl rfl ?_
      refine r_ldc (v := (-1000001)) hX dX6_sized_16 (zT_in 1041 (by decide +kernel) rfl) ?_
      obtain ⟨x34, u35, e36, h⟩ := zbind2_elim h
      refine r_callV (As := [.int (-1000001)]) (rest := []) (st1 := [.int x34]) hX dX6_sized_18 lv_RX6_83 (c_X6_finding (-1000001)  u _ _ e36) (by decide) rfl rfl (zRecv.of (q := 39) (ci := 6) rfl rfl) rfl (Nat.le_of_ble_eq_true rfl) rfl ?_
      obtain ⟨rfl, rfl⟩ := zinj2 (Option.some.inj h)
      exact r_iret hX hR dX6_sized_21
theorem dX6_doesBribe_0 : decode cX6_doesBribe 0 = .ok (.aload_n 0, 1) := by decide +kernel
theorem dX6_doesBribe_1 : decode cX6_doesBribe 1 = .ok (.iload_n 1, 1) := by decide +kernel
theorem dX6_doesBribe_2 : decode cX6_doesBribe 2 = .ok (.bipush 6, 2) := by decide +kernel
theorem dX6_doesBribe_4 : decode cX6_doesBribe 4 = .ok (.invokevirtual 92, 3) := by decide +kernel
theorem dX6_doesBribe_7 : decode cX6_doesBribe 7 = .ok (.iconst 1, 1) := by decide +kernel
theorem dX6_doesBribe_8 : decode cX6_doesBribe 8 = .ok (.if_icmp .ne 28, 3) := by decide +kernel
theorem dX6_doesBribe_11 : decode cX6_doesBribe 11 = .ok (.aload_n 0, 1) := by decide +kernel
theorem dX6_doesBribe_12 : decode cX6_doesBribe 12 = .ok (.iload_n 1, 1) := by decide +kernel
theorem dX6_doesBribe_13 : decode cX6_doesBribe 13 = .ok (.iconst 0, 1) := by decide +kernel
theorem dX6_doesBribe_14 : decode cX6_doesBribe 14 = .ok (.invokevirtual 92, 3) := by decide +kernel
theorem dX6_doesBribe_17 : decode cX6_doesBribe 17 = .ok (.iconst 2, 1) := by decide +kernel
theorem dX6_doesBribe_18 : decode cX6_doesBribe 18 = .ok (.if_icmp .eq 14, 3) := by decide +kernel
theorem dX6_doesBribe_21 : decode cX6_doesBribe 21 = .ok (.aload_n 0, 1) := by decide +kernel
theorem dX6_doesBribe_22 : decode cX6_doesBribe 22 = .ok (.iload_n 1, 1) := by decide +kernel
theorem dX6_doesBribe_23 : decode cX6_doesBribe 23 = .ok (.iconst 0, 1) := by decide +kernel
theorem dX6_doesBribe_24 : decode cX6_doesBribe 24 = .ok (.invokevirtual 92, 3) := by decide +kernel
theorem dX6_doesBribe_27 : decode cX6_doesBribe 27 = .ok (.bipush 6, 2) := by decide +kernel
theorem dX6_doesBribe_29 : decode cX6_doesBribe 29 = .ok (.if_icmp .ne 7, 3) := by decide +kernel
theorem dX6_doesBribe_32 : decode cX6_doesBribe 32 = .ok (.iconst 1, 1) := by decide +kernel
theorem dX6_doesBribe_33 : decode cX6_doesBribe 33 = .ok (.goto 4, 3) := by decide +kernel
theorem dX6_doesBribe_36 : decode cX6_doesBribe 36 = .ok (.iconst 0, 1) := by decide +kernel
theorem dX6_doesBribe_37 : decode cX6_doesBribe 37 = .ok (.ireturn, 1) := by decide +kernel
def m_X6_doesBribe (a1 : Int32) (u : zM) : Option (Int32) :=
  zbind (m_X6_bodyIs a1 6 u) (fun x1 => (if x1 = 1 then
zbind (m_X6_bodyIs a1 0 u) (fun x4 => (if x4 = 2 then
some 1
else
zbind (m_X6_bodyIs a1 0 u) (fun x7 => (if x7 = 6 then
some 1
else
some 0))))
else
some 0))
set_option maxHeartbeats 4000000 in
set_option maxRecDepth 100000 in
theorem c_X6_doesBribe (a1 : Int32)   (u : zM) (r : Int32) (h : m_X6_doesBribe a1 u = some r) : zCt 2 yX6_doesBribe cX6_doesBribe 2 (some .boolean) (fun E => [.ref (zad E 39), .int a1]) u (fun _ => some (.int r)) u := by
  refine zCt.of (by decide +kernel) (fun E => Nat.le_of_ble_eq_true rfl) (fun X hX hR => ?_)
  have hX : zGood X RX6 cX6_doesBribe 2 2 := hX
  show zG X u 0 [(0, .ref (zad X.1 39)), (1, .int a1)] []
  unfold m_X6_doesBribe at h
  refine r_aload_n hX dX6_doesBribe_0 0 rfl rfl ?_
  refine r_iload_n hX dX6_doesBribe_1 1 rfl rfl ?_
  refine r_bipush (v := 6) hX dX6_doesBribe_2 (by decide) ?_
  obtain ⟨x1, e2, h⟩ := zbind_elim h
  refine r_callV (As := [.int a1, .int 6]) (rest := []) (st1 := [.int x1]) hX dX6_doesBribe_4 lv_RX6_92 (c_X6_bodyIs a1 6  u _ e2) (by decide) rfl rfl (zRecv.of (q := 39) (ci := 6) rfl rfl) rfl (Nat.le_of_ble_eq_true rfl) rfl ?_
  refine r_iconst (v := 1) hX dX6_doesBribe_7 (by decide) ?_
  refine r_icmp_ne (tgt := 36) hX dX6_doesBribe_8 (by decide) (fun c3 => ?_) (fun c3 => ?_)
  · have h := (if_neg c3).symm.trans h
    refine r_iconst (v := 0) hX dX6_doesBribe_36 (by decide) ?_
    obtain rfl := Option.some.inj h
    exact r_zret0 hX hR dX6_doesBribe_37
  · have h := (if_pos c3).symm.trans h
    refine r_aload_n hX dX6_doesBribe_11 0 rfl rfl ?_
    refine r_iload_n hX dX6_doesBribe_12 1 rfl rfl ?_
    refine r_iconst (v := 0) hX dX6_doesBribe_13 (by decide) ?_
    obtain ⟨x4, e5, h⟩ := zbind_elim h
    refine r_callV (As := [.int a1, .int 0]) (rest := []) (st1 := [.int x4]) hX dX6_doesBribe_14 lv_RX6_92 (c_X6_bodyIs a1 0  u _ e5) (by decide) rfl rfl (zRecv.of (q := 39) (ci := 6) rfl rfl) rfl (Nat.le_of_ble_eq_true rfl) rfl ?_
    refine r_iconst (v := 2) hX dX6_doesBribe_17 (by decide) ?_
    refine r_icmp_eq (tgt := 32) hX dX6_doesBribe_18 (by decide) (fun c6 => ?_) (fun c6 => ?_)
    · have h := (if_pos c6).symm.trans h
      refine r_iconst (v := 1) hX dX6_doesBribe_32 (by decide) ?_
      refine r_goto (tgt := 37) hX dX6_doesBribe_33 (by decide) ?_
      obtain rfl := Option.some.inj h
      exact r_zret1 hX hR dX6_doesBribe_37
    · have h := (if_neg c6).symm.trans h
      refine r_aload_n hX dX6_doesBribe_21 0 rfl rfl ?_
      refine r_iload_n hX dX6_doesBribe_22 1 rfl rfl ?_
      refine r_iconst (v := 0) hX dX6_doesBribe_23 (by decide) ?_
      obtain ⟨x7, e8, h⟩ := zbind_elim h
      refine r_callV (As := [.int a1, .int 0]) (rest := []) (st1 := [.int x7]) hX dX6_doesBribe_24 lv_RX6_92 (c_X6_bodyIs a1 0  u _ e8) (by decide) rfl rfl (zRecv.of (q := 39) (ci := 6) rfl rfl) rfl (Nat.le_of_ble_eq_true rfl) rfl ?_
      refine r_bipush (v := 6) hX dX6_doesBribe_27 (by decide) ?_
      refine r_icmp_ne (tgt := 36) hX dX6_doesBribe_29 (by decide) (fun c9 => ?_) (fun c9 => ?_)
      · have h := (if_neg c9).symm.trans h
        refine r_iconst (v := 0) hX dX6_doesBribe_36 (by decide) ?_
        obtain rfl := Option.some.inj h
        exact r_zret0 hX hR dX6_doesBribe_37
      · have h := (if_pos c9).symm.trans h
        refine r_iconst (v := 1) hX dX6_doesBribe_32 (by decide) ?_
        refine r_goto (tgt := 37) hX dX6_doesBribe_33 (by decide) ?_
        obtain rfl := Option.some.inj h
        exact r_zret1 hX hR dX6_doesBribe_37
theorem dX6_costBy_0 : decode cX6_costBy 0 = .ok (.bipush 6, 2) := by decide +kernel
theorem dX6_costBy_2 : decode cX6_costBy 2 = .ok (.bipush 7, 2) := by decide +kernel
theorem dX6_costBy_4 : decode cX6_costBy 4 = .ok (.iload_n 1, 1) := by decide +kernel
theorem dX6_costBy_5 : decode cX6_costBy 5 = .ok (.imul, 1) := by decide +kernel
theorem dX6_costBy_6 : decode cX6_costBy 6 = .ok (.iadd, 1) := by decide +kernel
theorem dX6_costBy_7 : decode cX6_costBy 7 = .ok (.iconst 4, 1) := by decide +kernel
theorem dX6_costBy_8 : decode cX6_costBy 8 = .ok (.iadd, 1) := by decide +kernel
theorem dX6_costBy_9 : decode cX6_costBy 9 = .ok (.istore_n 3, 1) := by decide +kernel
theorem dX6_costBy_10 : decode cX6_costBy 10 = .ok (.aload_n 0, 1) := by decide +kernel
theorem dX6_costBy_11 : decode cX6_costBy 11 = .ok (.iload_n 3, 1) := by decide +kernel
theorem dX6_costBy_12 : decode cX6_costBy 12 = .ok (.iload_n 2, 1) := by decide +kernel
theorem dX6_costBy_13 : decode cX6_costBy 13 = .ok (.invokevirtual 110, 3) := by decide +kernel
theorem dX6_costBy_16 : decode cX6_costBy 16 = .ok (.istore 4, 2) := by decide +kernel
theorem dX6_costBy_18 : decode cX6_costBy 18 = .ok (.aload_n 0, 1) := by decide +kernel
theorem dX6_costBy_19 : decode cX6_costBy 19 = .ok (.aload_n 0, 1) := by decide +kernel
theorem dX6_costBy_20 : decode cX6_costBy 20 = .ok (.invokevirtual 139, 3) := by decide +kernel
theorem dX6_costBy_23 : decode cX6_costBy 23 = .ok (.invokevirtual 152, 3) := by decide +kernel
theorem dX6_costBy_26 : decode cX6_costBy 26 = .ok (.aload_n 0, 1) := by decide +kernel
theorem dX6_costBy_27 : decode cX6_costBy 27 = .ok (.getfield 9, 3) := by decide +kernel
theorem dX6_costBy_30 : decode cX6_costBy 30 = .ok (.iload_n 3, 1) := by decide +kernel
theorem dX6_costBy_31 : decode cX6_costBy 31 = .ok (.iload 4, 2) := by decide +kernel
theorem dX6_costBy_33 : decode cX6_costBy 33 = .ok (.iastore, 1) := by decide +kernel
theorem dX6_costBy_34 : decode cX6_costBy 34 = .ok (.aload_n 0, 1) := by decide +kernel
theorem dX6_costBy_35 : decode cX6_costBy 35 = .ok (.iload_n 1, 1) := by decide +kernel
theorem dX6_costBy_36 : decode cX6_costBy 36 = .ok (.invokevirtual 156, 3) := by decide +kernel
theorem dX6_costBy_39 : decode cX6_costBy 39 = .ok (.ireturn, 1) := by decide +kernel
def m_X6_costBy (a1 : Int32) (a2 : Int32) (u : zM) : Option (Int32 × zM) :=
  zbind2 (m_X6_become ((6 + (7 * a1)) + 4) a2 u) (fun x1 u2 => zbind (m_X6_hereSet u2) (fun x4 => zbind (m_X6_cut x4 u2) (fun u6 => zbind (zsv u6 40 160 ((6 + (7 * a1)) + 4) x1) (fun u8 => zbind (m_X6_costOf a1 u8) (fun x10 => some (x10, u8))))))
set_option maxHeartbeats 4000000 in
set_option maxRecDepth 100000 in
theorem c_X6_costBy (a1 : Int32) (a2 : Int32)   (u : zM) (r : Int32) (u' : zM) (h : m_X6_costBy a1 a2 u = some (r, u')) : zCt 6 yX6_costBy cX6_costBy 5 (some .int) (fun E => [.ref (zad E 39), .int a1, .int a2]) u (fun _ => some (.int r)) u' := by
  refine zCt.of (by decide +kernel) (fun E => Nat.le_of_ble_eq_true rfl) (fun X hX hR => ?_)
  have hX : zGood X RX6 cX6_costBy 5 6 := hX
  show zG X u 0 [(0, .ref (zad X.1 39)), (1, .int a1), (2, .int a2)] []
  unfold m_X6_costBy at h
  refine r_bipush (v := 6) hX dX6_costBy_0 (by decide) ?_
  refine r_bipush (v := 7) hX dX6_costBy_2 (by decide) ?_
  refine r_iload_n hX dX6_costBy_4 1 rfl rfl ?_
  refine r_imul hX dX6_costBy_5 ?_
  refine r_iadd hX dX6_costBy_6 ?_
  refine r_iconst (v := 4) hX dX6_costBy_7 (by decide) ?_
  refine r_iadd hX dX6_costBy_8 ?_
  refine r_istore_n (y := ((6 + (7 * a1)) + 4)) (L' := [(3, .int ((6 + (7 * a1)) + 4)), (0, .ref (zad X.1 39)), (1, .int a1), (2, .int a2)]) hX dX6_costBy_9 rfl (by decide) rfl rfl ?_
  refine r_aload_n hX dX6_costBy_10 1 rfl rfl ?_
  refine r_iload_n hX dX6_costBy_11 0 rfl rfl ?_
  refine r_iload_n hX dX6_costBy_12 3 rfl rfl ?_
  obtain ⟨x1, u2, e3, h⟩ := zbind2_elim h
  refine r_callV (As := [.int ((6 + (7 * a1)) + 4), .int a2]) (rest := []) (st1 := [.int x1]) hX dX6_costBy_13 lv_RX6_110 (c_X6_become ((6 + (7 * a1)) + 4) a2  u _ _ e3) (by decide) rfl rfl (zRecv.of (q := 39) (ci := 6) rfl rfl) rfl (Nat.le_of_ble_eq_true rfl) rfl ?_
  refine r_istore (y := x1) (L' := [(4, .int x1), (3, .int ((6 + (7 * a1)) + 4)), (0, .ref (zad X.1 39)), (1, .int a1), (2, .int a2)]) hX dX6_costBy_16 (by decide) rfl rfl ?_
  refine r_aload_n hX dX6_costBy_18 2 rfl rfl ?_
  refine r_aload_n hX dX6_costBy_19 2 rfl rfl ?_
  obtain ⟨x4, e5, h⟩ := zbind_elim h
  refine r_callV (As := []) (rest := [.ref (zad X.1 39)]) (st1 := [.int x4, .ref (zad X.1 39)]) hX dX6_costBy_20 lv_RX6_139 (c_X6_hereSet   u2 _ e5) (by decide) rfl rfl (zRecv.of (q := 39) (ci := 6) rfl rfl) rfl (Nat.le_of_ble_eq_true rfl) rfl ?_
  obtain ⟨u6, e7, h⟩ := zbind_elim h
  refine r_callV (As := [.int x4]) (rest := []) (st1 := []) hX dX6_costBy_23 lv_RX6_152 (c_X6_cut x4  u2 _ e7) (by decide) rfl rfl (zRecv.of (q := 39) (ci := 6) rfl rfl) rfl (Nat.le_of_ble_eq_true rfl) rfl ?_
  refine r_aload_n hX dX6_costBy_26 2 rfl rfl ?_
  refine r_getR hX dX6_costBy_27 f_RX6_9 zr_39_0 ?_
  refine r_iload_n hX dX6_costBy_30 1 rfl rfl ?_
  refine r_iload hX dX6_costBy_31 0 rfl ?_
  obtain ⟨u8, e9, h⟩ := zbind_elim h
  refine r_iast hX dX6_costBy_33 rfl e9 ?_
  refine r_aload_n hX dX6_costBy_34 2 rfl rfl ?_
  refine r_iload_n hX dX6_costBy_35 3 rfl rfl ?_
  obtain ⟨x10, e11, h⟩ := zbind_elim h
  refine r_callV (As := [.int a1]) (rest := []) (st1 := [.int x10]) hX dX6_costBy_36 lv_RX6_156 (c_X6_costOf a1  u8 _ e11) (by decide) rfl rfl (zRecv.of (q := 39) (ci := 6) rfl rfl) rfl (Nat.le_of_ble_eq_true rfl) rfl ?_
  obtain ⟨rfl, rfl⟩ := zinj2 (Option.some.inj h)
  exact r_iret hX hR dX6_costBy_39
theorem dX6_bribeOf_0 : decode cX6_bribeOf 0 = .ok (.iconst 0, 1) := by decide +kernel
theorem dX6_bribeOf_1 : decode cX6_bribeOf 1 = .ok (.istore_n 2, 1) := by decide +kernel
theorem dX6_bribeOf_2 : decode cX6_bribeOf 2 = .ok (.aload_n 0, 1) := by decide +kernel
theorem dX6_bribeOf_3 : decode cX6_bribeOf 3 = .ok (.iload_n 1, 1) := by decide +kernel
theorem dX6_bribeOf_4 : decode cX6_bribeOf 4 = .ok (.iconst 0, 1) := by decide +kernel
theorem dX6_bribeOf_5 : decode cX6_bribeOf 5 = .ok (.invokevirtual 175, 3) := by decide +kernel
theorem dX6_bribeOf_8 : decode cX6_bribeOf 8 = .ok (.istore_n 3, 1) := by decide +kernel
theorem dX6_bribeOf_9 : decode cX6_bribeOf 9 = .ok (.iconst 1, 1) := by decide +kernel
theorem dX6_bribeOf_10 : decode cX6_bribeOf 10 = .ok (.istore 4, 2) := by decide +kernel
theorem dX6_bribeOf_12 : decode cX6_bribeOf 12 = .ok (.iload 4, 2) := by decide +kernel
theorem dX6_bribeOf_14 : decode cX6_bribeOf 14 = .ok (.bipush 20, 2) := by decide +kernel
theorem dX6_bribeOf_16 : decode cX6_bribeOf 16 = .ok (.if_icmp .gt 54, 3) := by decide +kernel
theorem dX6_bribeOf_19 : decode cX6_bribeOf 19 = .ok (.iload 4, 2) := by decide +kernel
theorem dX6_bribeOf_21 : decode cX6_bribeOf 21 = .ok (.ineg, 1) := by decide +kernel
theorem dX6_bribeOf_22 : decode cX6_bribeOf 22 = .ok (.istore 5, 2) := by decide +kernel
theorem dX6_bribeOf_24 : decode cX6_bribeOf 24 = .ok (.iload 5, 2) := by decide +kernel
theorem dX6_bribeOf_26 : decode cX6_bribeOf 26 = .ok (.iload 4, 2) := by decide +kernel
theorem dX6_bribeOf_28 : decode cX6_bribeOf 28 = .ok (.if_icmp .gt 36, 3) := by decide +kernel
theorem dX6_bribeOf_31 : decode cX6_bribeOf 31 = .ok (.aload_n 0, 1) := by decide +kernel
theorem dX6_bribeOf_32 : decode cX6_bribeOf 32 = .ok (.iload_n 1, 1) := by decide +kernel
theorem dX6_bribeOf_33 : decode cX6_bribeOf 33 = .ok (.iload 5, 2) := by decide +kernel
theorem dX6_bribeOf_35 : decode cX6_bribeOf 35 = .ok (.invokevirtual 175, 3) := by decide +kernel
theorem dX6_bribeOf_38 : decode cX6_bribeOf 38 = .ok (.istore 6, 2) := by decide +kernel
theorem dX6_bribeOf_40 : decode cX6_bribeOf 40 = .ok (.iload 6, 2) := by decide +kernel
theorem dX6_bribeOf_42 : decode cX6_bribeOf 42 = .ok (.iload_n 3, 1) := by decide +kernel
theorem dX6_bribeOf_43 : decode cX6_bribeOf 43 = .ok (.if_icmp .ge 9, 3) := by decide +kernel
theorem dX6_bribeOf_46 : decode cX6_bribeOf 46 = .ok (.iload 6, 2) := by decide +kernel
theorem dX6_bribeOf_48 : decode cX6_bribeOf 48 = .ok (.istore_n 3, 1) := by decide +kernel
theorem dX6_bribeOf_49 : decode cX6_bribeOf 49 = .ok (.iload 5, 2) := by decide +kernel
theorem dX6_bribeOf_51 : decode cX6_bribeOf 51 = .ok (.istore_n 2, 1) := by decide +kernel
theorem dX6_bribeOf_52 : decode cX6_bribeOf 52 = .ok (.iload 5, 2) := by decide +kernel
theorem dX6_bribeOf_54 : decode cX6_bribeOf 54 = .ok (.iconst 2, 1) := by decide +kernel
theorem dX6_bribeOf_55 : decode cX6_bribeOf 55 = .ok (.iload 4, 2) := by decide +kernel
theorem dX6_bribeOf_57 : decode cX6_bribeOf 57 = .ok (.imul, 1) := by decide +kernel
theorem dX6_bribeOf_58 : decode cX6_bribeOf 58 = .ok (.iadd, 1) := by decide +kernel
theorem dX6_bribeOf_59 : decode cX6_bribeOf 59 = .ok (.istore 5, 2) := by decide +kernel
theorem dX6_bribeOf_61 : decode cX6_bribeOf 61 = .ok (.goto (-37), 3) := by decide +kernel
theorem dX6_bribeOf_64 : decode cX6_bribeOf 64 = .ok (.iinc 4 1, 3) := by decide +kernel
theorem dX6_bribeOf_67 : decode cX6_bribeOf 67 = .ok (.goto (-55), 3) := by decide +kernel
theorem dX6_bribeOf_70 : decode cX6_bribeOf 70 = .ok (.iload_n 2, 1) := by decide +kernel
theorem dX6_bribeOf_71 : decode cX6_bribeOf 71 = .ok (.ireturn, 1) := by decide +kernel
def m_X6_bribeOf_b1 (x6 : Int32) (a1 : Int32) (x12 : Int32) (x13 : Int32) (x14 : Int32) (u15 : zM) : Option ((Int32 × Int32 × Int32 × zM) ⊕ (Int32 × Int32 × zM)) :=
  (if x6 < x14 then
some (.inr (x12, x13, u15))
else
zbind2 (m_X6_costBy a1 x14 u15) (fun x21 u22 => (if x13 ≤ x21 then
some (.inl (x12, x13, (x14 + (2 * x6)), u22))
else
some (.inl (x14, x21, (x14 + (2 * x6)), u22)))))
def m_X6_bribeOf_b0 (a1 : Int32) (x4 : Int32) (x5 : Int32) (x6 : Int32) (u7 : zM) : Option ((Int32 × Int32 × Int32 × zM) ⊕ (Int32 × zM)) :=
  (if 20 < x6 then
some (.inr (x4, u7))
else
zbind3 (zit zF (fun s : Int32 × Int32 × Int32 × zM => m_X6_bribeOf_b1 x6 a1 s.1 s.2.1 s.2.2.1 s.2.2.2) (x4, x5, (-x6), u7)) (fun x16 x17 u18 =>
some (.inl (x16, x17, (x6 + 1), u18))))
def m_X6_bribeOf (a1 : Int32) (u : zM) : Option (Int32 × zM) :=
  zbind2 (m_X6_costBy a1 0 u) (fun x1 u2 => zbind2 (zit zF (fun s : Int32 × Int32 × Int32 × zM => m_X6_bribeOf_b0 a1 s.1 s.2.1 s.2.2.1 s.2.2.2) (0, x1, 1, u2)) (fun x8 u9 =>
some (x8, u9)))
set_option maxHeartbeats 4000000 in
set_option maxRecDepth 100000 in
theorem c_X6_bribeOf (a1 : Int32)   (u : zM) (r : Int32) (u' : zM) (h : m_X6_bribeOf a1 u = some (r, u')) : zCt 7 yX6_bribeOf cX6_bribeOf 7 (some .int) (fun E => [.ref (zad E 39), .int a1]) u (fun _ => some (.int r)) u' := by
  refine zCt.of (by decide +kernel) (fun E => Nat.le_of_ble_eq_true rfl) (fun X hX hR => ?_)
  have hX : zGood X RX6 cX6_bribeOf 7 7 := hX
  show zG X u 0 [(0, .ref (zad X.1 39)), (1, .int a1)] []
  unfold m_X6_bribeOf at h
  refine r_iconst (v := 0) hX dX6_bribeOf_0 (by decide) ?_
  refine r_istore_n (y := 0) (L' := [(2, .int 0), (0, .ref (zad X.1 39)), (1, .int a1)]) hX dX6_bribeOf_1 rfl (by decide) rfl rfl ?_
  refine r_aload_n hX dX6_bribeOf_2 1 rfl rfl ?_
  refine r_iload_n hX dX6_bribeOf_3 2 rfl rfl ?_
  refine r_iconst (v := 0) hX dX6_bribeOf_4 (by decide) ?_
  obtain ⟨x1, u2, e3, h⟩ := zbind2_elim h
  refine r_callV (As := [.int a1, .int 0]) (rest := []) (st1 := [.int x1]) hX dX6_bribeOf_5 lv_RX6_175 (c_X6_costBy a1 0  u _ _ e3) (by decide) rfl rfl (zRecv.of (q := 39) (ci := 6) rfl rfl) rfl (Nat.le_of_ble_eq_true rfl) rfl ?_
  refine r_istore_n (y := x1) (L' := [(3, .int x1), (2, .int 0), (0, .ref (zad X.1 39)), (1, .int a1)]) hX dX6_bribeOf_8 rfl (by decide) rfl rfl ?_
  refine r_iconst (v := 1) hX dX6_bribeOf_9 (by decide) ?_
  refine r_istore (y := 1) (L' := [(4, .int 1), (3, .int x1), (2, .int 0), (0, .ref (zad X.1 39)), (1, .int a1)]) hX dX6_bribeOf_10 (by decide) rfl rfl ?_
  refine r_sub [3, 4, 2, 1, 0] (L' := [(0, .ref (zad X.1 39)), (1, .int a1), (2, .int 0), (3, .int x1), (4, .int 1)]) rfl ?_
  obtain ⟨x8, u9, h10, h⟩ := zbind2_elim h
  have Jh10 : zG X u9 70 [(2, .int x8)] [] := by
      refine r_iload_n hX dX6_bribeOf_70 0 rfl rfl ?_
      obtain ⟨rfl, rfl⟩ := zinj2 (Option.some.inj h)
      exact r_iret hX hR dX6_bribeOf_71
  clear h
  refine zit_walk (P := fun s0 : Int32 × Int32 × Int32 × zM => zG X s0.2.2.2 12 [(0, .ref (zad X.1 39)), (1, .int a1), (2, .int (s0.1)), (3, .int (s0.2.1)), (4, .int (s0.2.2.1))] []) ?_ zF _ h10
  clear h10
  intro s0 y0 h0b hin0 hout0
  obtain ⟨x4, x5, x6, u7⟩ := s0
  have h0b : m_X6_bribeOf_b0 a1 x4 x5 x6 u7 = some y0 := h0b
  unfold m_X6_bribeOf_b0 at h0b
  show zG X u7 12 [(0, .ref (zad X.1 39)), (1, .int a1), (2, .int x4), (3, .int x5), (4, .int x6)] []
  refine r_iload hX dX6_bribeOf_12 4 rfl ?_
  refine r_bipush (v := 20) hX dX6_bribeOf_14 (by decide) ?_
  refine r_icmp_gt (tgt := 70) hX dX6_bribeOf_16 (by decide) (fun c11 => ?_) (fun c11 => ?_)
  · have h0b := (if_pos c11).symm.trans h0b
    refine r_sub [2] (L' := [(2, .int x4)]) rfl ?_
    have h0b := hout0 _ (Option.some.inj h0b).symm
    obtain ⟨rfl, rfl⟩ := zinj2 h0b
    exact Jh10
  · have h0b := (if_neg c11).symm.trans h0b
    refine r_iload hX dX6_bribeOf_19 4 rfl ?_
    refine r_ineg hX dX6_bribeOf_21 ?_
    refine r_istore (y := (-x6)) (L' := [(5, .int (-x6)), (0, .ref (zad X.1 39)), (1, .int a1), (2, .int x4), (3, .int x5), (4, .int x6)]) hX dX6_bribeOf_22 (by decide) rfl rfl ?_
    refine r_sub [1, 2, 3, 4, 5, 0] (L' := [(0, .ref (zad X.1 39)), (1, .int a1), (2, .int x4), (3, .int x5), (4, .int x6), (5, .int (-x6))]) rfl ?_
    obtain ⟨x16, x17, u18, h19, h0b⟩ := zbind3_elim h0b
    have Jh19 : zG X u18 64 [(0, .ref (zad X.1 39)), (1, .int a1), (2, .int x16), (3, .int x17), (4, .int x6)] [] := by
        refine r_iinc (v := (x6 + 1)) (L' := [(4, .int (x6 + 1)), (0, .ref (zad X.1 39)), (1, .int a1), (2, .int x16), (3, .int x17)]) hX dX6_bribeOf_64 (by decide) 4 rfl rfl rfl ?_
        refine r_goto (tgt := 12) hX dX6_bribeOf_67 (by decide) ?_
        refine r_sub [1, 2, 3, 4, 0] (L' := [(0, .ref (zad X.1 39)), (1, .int a1), (2, .int x16), (3, .int x17), (4, .int (x6 + 1))]) rfl ?_
        exact hin0 _ (Option.some.inj h0b).symm
    clear h0b
    refine zit_walk (P := fun s1 : Int32 × Int32 × Int32 × zM => zG X s1.2.2.2 24 [(0, .ref (zad X.1 39)), (1, .int a1), (2, .int (s1.1)), (3, .int (s1.2.1)), (4, .int x6), (5, .int (s1.2.2.1))] []) ?_ zF _ h19
    clear h19
    intro s1 y1 h1b hin1 hout1
    obtain ⟨x12, x13, x14, u15⟩ := s1
    have h1b : m_X6_bribeOf_b1 x6 a1 x12 x13 x14 u15 = some y1 := h1b
    unfold m_X6_bribeOf_b1 at h1b
    show zG X u15 24 [(0, .ref (zad X.1 39)), (1, .int a1), (2, .int x12), (3, .int x13), (4, .int x6), (5, .int x14)] []
    refine r_iload hX dX6_bribeOf_24 5 rfl ?_
    refine r_iload hX dX6_bribeOf_26 4 rfl ?_
    refine r_icmp_gt (tgt := 64) hX dX6_bribeOf_28 (by decide) (fun c20 => ?_) (fun c20 => ?_)
    · have h1b := (if_pos c20).symm.trans h1b
      refine r_sub [0, 1, 2, 3, 4] (L' := [(0, .ref (zad X.1 39)), (1, .int a1), (2, .int x12), (3, .int x13), (4, .int x6)]) rfl ?_
      have h1b := hout1 _ (Option.some.inj h1b).symm
      obtain ⟨rfl, rfl, rfl⟩ := zinj3 h1b
      exact Jh19
    · have h1b := (if_neg c20).symm.trans h1b
      refine r_aload_n hX dX6_bribeOf_31 0 rfl rfl ?_
      refine r_iload_n hX dX6_bribeOf_32 1 rfl rfl ?_
      refine r_iload hX dX6_bribeOf_33 5 rfl ?_
      obtain ⟨x21, u22, e23, h1b⟩ := zbind2_elim h1b
      refine r_callV (As := [.int a1, .int x14]) (rest := []) (st1 := [.int x21]) hX dX6_bribeOf_35 lv_RX6_175 (c_X6_costBy a1 x14  u15 _ _ e23) (by decide) rfl rfl (zRecv.of (q := 39) (ci := 6) rfl rfl) rfl (Nat.le_of_ble_eq_true rfl) rfl ?_
      refine r_istore (y := x21) (L' := [(6, .int x21), (0, .ref (zad X.1 39)), (1, .int a1), (2, .int x12), (3, .int x13), (4, .int x6), (5, .int x14)]) hX dX6_bribeOf_38 (by decide) rfl rfl ?_
      refine r_iload hX dX6_bribeOf_40 0 rfl ?_
      refine r_iload_n hX dX6_bribeOf_42 4 rfl rfl ?_
      refine r_icmp_ge (tgt := 52) hX dX6_bribeOf_43 (by decide) (fun c24 => ?_) (fun c24 => ?_)
      · have h1b := (if_pos c24).symm.trans h1b
        refine r_iload hX dX6_bribeOf_52 6 rfl ?_
        refine r_iconst (v := 2) hX dX6_bribeOf_54 (by decide) ?_
        refine r_iload hX dX6_bribeOf_55 5 rfl ?_
        refine r_imul hX dX6_bribeOf_57 ?_
        refine r_iadd hX dX6_bribeOf_58 ?_
        refine r_istore (y := (x14 + (2 * x6))) (L' := [(5, .int (x14 + (2 * x6))), (6, .int x21), (0, .ref (zad X.1 39)), (1, .int a1), (2, .int x12), (3, .int x13), (4, .int x6)]) hX dX6_bribeOf_59 (by decide) rfl rfl ?_
        refine r_goto (tgt := 24) hX dX6_bribeOf_61 (by decide) ?_
        refine r_sub [2, 3, 4, 5, 6, 0] (L' := [(0, .ref (zad X.1 39)), (1, .int a1), (2, .int x12), (3, .int x13), (4, .int x6), (5, .int (x14 + (2 * x6)))]) rfl ?_
        exact hin1 _ (Option.some.inj h1b).symm
      · have h1b := (if_neg c24).symm.trans h1b
        refine r_iload hX dX6_bribeOf_46 0 rfl ?_
        refine r_istore_n (y := x21) (L' := [(3, .int x21), (6, .int x21), (0, .ref (zad X.1 39)), (1, .int a1), (2, .int x12), (4, .int x6), (5, .int x14)]) hX dX6_bribeOf_48 rfl (by decide) rfl rfl ?_
        refine r_iload hX dX6_bribeOf_49 6 rfl ?_
        refine r_istore_n (y := x14) (L' := [(2, .int x14), (3, .int x21), (6, .int x21), (0, .ref (zad X.1 39)), (1, .int a1), (4, .int x6), (5, .int x14)]) hX dX6_bribeOf_51 rfl (by decide) rfl rfl ?_
        refine r_iload hX dX6_bribeOf_52 6 rfl ?_
        refine r_iconst (v := 2) hX dX6_bribeOf_54 (by decide) ?_
        refine r_iload hX dX6_bribeOf_55 5 rfl ?_
        refine r_imul hX dX6_bribeOf_57 ?_
        refine r_iadd hX dX6_bribeOf_58 ?_
        refine r_istore (y := (x14 + (2 * x6))) (L' := [(5, .int (x14 + (2 * x6))), (2, .int x14), (3, .int x21), (6, .int x21), (0, .ref (zad X.1 39)), (1, .int a1), (4, .int x6)]) hX dX6_bribeOf_59 (by decide) rfl rfl ?_
        refine r_goto (tgt := 24) hX dX6_bribeOf_61 (by decide) ?_
        refine r_sub [4, 5, 1, 2, 6, 0] (L' := [(0, .ref (zad X.1 39)), (1, .int a1), (2, .int x14), (3, .int x21), (4, .int x6), (5, .int (x14 + (2 * x6)))]) rfl ?_
        exact hin1 _ (Option.some.inj h1b).symm
theorem dX6_bribe_0 : decode cX6_bribe 0 = .ok (.aload_n 0, 1) := by decide +kernel
theorem dX6_bribe_1 : decode cX6_bribe 1 = .ok (.iload_n 1, 1) := by decide +kernel
theorem dX6_bribe_2 : decode cX6_bribe 2 = .ok (.invokevirtual 96, 3) := by decide +kernel
theorem dX6_bribe_5 : decode cX6_bribe 5 = .ok (.ifCond .ne 10, 3) := by decide +kernel
theorem dX6_bribe_8 : decode cX6_bribe 8 = .ok (.aload_n 0, 1) := by decide +kernel
theorem dX6_bribe_9 : decode cX6_bribe 9 = .ok (.ldc 78, 2) := by decide +kernel
theorem dX6_bribe_11 : decode cX6_bribe 11 = .ok (.invokevirtual 83, 3) := by decide +kernel
theorem dX6_bribe_14 : decode cX6_bribe 14 = .ok (.ireturn, 1) := by decide +kernel
theorem dX6_bribe_15 : decode cX6_bribe 15 = .ok (.aload_n 0, 1) := by decide +kernel
theorem dX6_bribe_16 : decode cX6_bribe 16 = .ok (.iload_n 1, 1) := by decide +kernel
theorem dX6_bribe_17 : decode cX6_bribe 17 = .ok (.invokevirtual 178, 3) := by decide +kernel
theorem dX6_bribe_20 : decode cX6_bribe 20 = .ok (.ifCond .eq 11, 3) := by decide +kernel
theorem dX6_bribe_23 : decode cX6_bribe 23 = .ok (.aload_n 0, 1) := by decide +kernel
theorem dX6_bribe_24 : decode cX6_bribe 24 = .ok (.iload_n 1, 1) := by decide +kernel
theorem dX6_bribe_25 : decode cX6_bribe 25 = .ok (.invokevirtual 181, 3) := by decide +kernel
theorem dX6_bribe_28 : decode cX6_bribe 28 = .ok (.goto 9, 3) := by decide +kernel
theorem dX6_bribe_31 : decode cX6_bribe 31 = .ok (.aload_n 0, 1) := by decide +kernel
theorem dX6_bribe_32 : decode cX6_bribe 32 = .ok (.ldc 171, 2) := by decide +kernel
theorem dX6_bribe_34 : decode cX6_bribe 34 = .ok (.invokevirtual 83, 3) := by decide +kernel
theorem dX6_bribe_37 : decode cX6_bribe 37 = .ok (.ireturn, 1) := by decide +kernel
def m_X6_bribe (a1 : Int32) (u : zM) : Option (Int32 × zM) :=
  (if (m_X6_isBody a1 u) = 0 then
zbind2 (m_X6_finding (-1000001) u) (fun x11 u12 => some (x11, u12))
else
zbind (m_X6_doesBribe a1 u) (fun x2 => (if x2 = 0 then
zbind2 (m_X6_finding (-1000005) u) (fun x5 u6 => some (x5, u6))
else
zbind2 (m_X6_bribeOf a1 u) (fun x8 u9 => some (x8, u9)))))
set_option maxHeartbeats 4000000 in
set_option maxRecDepth 100000 in
theorem c_X6_bribe (a1 : Int32)   (u : zM) (r : Int32) (u' : zM) (h : m_X6_bribe a1 u = some (r, u')) : zCt 8 yX6_bribe cX6_bribe 2 (some .int) (fun E => [.ref (zad E 39), .int a1]) u (fun _ => some (.int r)) u' := by
  refine zCt.of (by decide +kernel) (fun E => Nat.le_of_ble_eq_true rfl) (fun X hX hR => ?_)
  have hX : zGood X RX6 cX6_bribe 2 8 := hX
  show zG X u 0 [(0, .ref (zad X.1 39)), (1, .int a1)] []
  unfold m_X6_bribe at h
  refine r_aload_n hX dX6_bribe_0 0 rfl rfl ?_
  refine r_iload_n hX dX6_bribe_1 1 rfl rfl ?_
  refine r_callV (As := [.int a1]) (rest := []) (st1 := [.int (m_X6_isBody a1 u)]) hX dX6_bribe_2 lv_RX6_96 (c_X6_isBody a1  u _ rfl) (by decide) rfl rfl (zRecv.of (q := 39) (ci := 6) rfl rfl) rfl (Nat.le_of_ble_eq_true rfl) rfl ?_
  refine r_if_ne (tgt := 15) hX dX6_bribe_5 (by decide) (fun c1 => ?_) (fun c1 => ?_)
  · have h := (if_neg c1).symm.trans h
    refine r_aload_n hX dX6_bribe_15 0 rfl rfl ?_
    refine r_iload_n hX dX6_bribe_16 1 rfl rfl ?_
    obtain ⟨x2, e3, h⟩ := zbind_elim h
    refine r_callV (As := [.int a1]) (rest := []) (st1 := [.int x2]) hX dX6_bribe_17 lv_RX6_178 (c_X6_doesBribe a1  u _ e3) (by decide) rfl rfl (zRecv.of (q := 39) (ci := 6) rfl rfl) rfl (Nat.le_of_ble_eq_true rfl) rfl ?_
    refine r_if_eq (tgt := 31) hX dX6_bribe_20 (by decide) (fun c4 => ?_) (fun c4 => ?_)
    · have h := (if_pos c4).symm.trans h
      refine r_aload_n hX dX6_bribe_31 0 rfl rfl ?_
      refine r_ldc (v := (-1000005)) hX dX6_bribe_32 (zT_in 1213 (by decide +kernel) rfl) ?_
      obtain ⟨x5, u6, e7, h⟩ := zbind2_elim h
      refine r_callV (As := [.int (-1000005)]) (rest := []) (st1 := [.int x5]) hX dX6_bribe_34 lv_RX6_83 (c_X6_finding (-1000005)  u _ _ e7) (by decide) rfl rfl (zRecv.of (q := 39) (ci := 6) rfl rfl) rfl (Nat.le_of_ble_eq_true rfl) rfl ?_
      obtain ⟨rfl, rfl⟩ := zinj2 (Option.some.inj h)
      exact r_iret hX hR dX6_bribe_37
    · have h := (if_neg c4).symm.trans h
      refine r_aload_n hX dX6_bribe_23 0 rfl rfl ?_
      refine r_iload_n hX dX6_bribe_24 1 rfl rfl ?_
      obtain ⟨x8, u9, e10, h⟩ := zbind2_elim h
      refine r_callV (As := [.int a1]) (rest := []) (st1 := [.int x8]) hX dX6_bribe_25 lv_RX6_181 (c_X6_bribeOf a1  u _ _ e10) (by decide) rfl rfl (zRecv.of (q := 39) (ci := 6) rfl rfl) rfl (Nat.le_of_ble_eq_true rfl) rfl ?_
      refine r_goto (tgt := 37) hX dX6_bribe_28 (by decide) ?_
      obtain ⟨rfl, rfl⟩ := zinj2 (Option.some.inj h)
      exact r_iret hX hR dX6_bribe_37
  · have h := (if_pos c1).symm.trans h
    refine r_aload_n hX dX6_bribe_8 0 rfl rfl ?_
    refine r_ldc (v := (-1000001)) hX dX6_bribe_9 (zT_in 1041 (by decide +kernel) rfl) ?_
    obtain ⟨x11, u12, e13, h⟩ := zbind2_elim h
    refine r_callV (As := [.int (-1000001)]) (rest := []) (st1 := [.int x11]) hX dX6_bribe_11 lv_RX6_83 (c_X6_finding (-1000001)  u _ _ e13) (by decide) rfl rfl (zRecv.of (q := 39) (ci := 6) rfl rfl) rfl (Nat.le_of_ble_eq_true rfl) rfl ?_
    obtain ⟨rfl, rfl⟩ := zinj2 (Option.some.inj h)
    exact r_iret hX hR dX6_bribe_14
theorem dX6_isSettled_0 : decode cX6_isSettled 0 = .ok (.iconst 1, 1) := by decide +kernel
theorem dX6_isSettled_1 : decode cX6_isSettled 1 = .ok (.istore_n 1, 1) := by decide +kernel
theorem dX6_isSettled_2 : decode cX6_isSettled 2 = .ok (.iconst 0, 1) := by decide +kernel
theorem dX6_isSettled_3 : decode cX6_isSettled 3 = .ok (.istore_n 2, 1) := by decide +kernel
theorem dX6_isSettled_4 : decode cX6_isSettled 4 = .ok (.iload_n 2, 1) := by decide +kernel
theorem dX6_isSettled_5 : decode cX6_isSettled 5 = .ok (.aload_n 0, 1) := by decide +kernel
theorem dX6_isSettled_6 : decode cX6_isSettled 6 = .ok (.getfield 9, 3) := by decide +kernel
theorem dX6_isSettled_9 : decode cX6_isSettled 9 = .ok (.iconst 0, 1) := by decide +kernel
theorem dX6_isSettled_10 : decode cX6_isSettled 10 = .ok (.iaload, 1) := by decide +kernel
theorem dX6_isSettled_11 : decode cX6_isSettled 11 = .ok (.if_icmp .ge 51, 3) := by decide +kernel
theorem dX6_isSettled_14 : decode cX6_isSettled 14 = .ok (.iload_n 1, 1) := by decide +kernel
theorem dX6_isSettled_15 : decode cX6_isSettled 15 = .ok (.ifCond .eq 47, 3) := by decide +kernel
theorem dX6_isSettled_18 : decode cX6_isSettled 18 = .ok (.aload_n 0, 1) := by decide +kernel
theorem dX6_isSettled_19 : decode cX6_isSettled 19 = .ok (.iload_n 2, 1) := by decide +kernel
theorem dX6_isSettled_20 : decode cX6_isSettled 20 = .ok (.invokevirtual 178, 3) := by decide +kernel
theorem dX6_isSettled_23 : decode cX6_isSettled 23 = .ok (.ifCond .eq 27, 3) := by decide +kernel
theorem dX6_isSettled_26 : decode cX6_isSettled 26 = .ok (.aload_n 0, 1) := by decide +kernel
theorem dX6_isSettled_27 : decode cX6_isSettled 27 = .ok (.iload_n 2, 1) := by decide +kernel
theorem dX6_isSettled_28 : decode cX6_isSettled 28 = .ok (.aload_n 0, 1) := by decide +kernel
theorem dX6_isSettled_29 : decode cX6_isSettled 29 = .ok (.iload_n 2, 1) := by decide +kernel
theorem dX6_isSettled_30 : decode cX6_isSettled 30 = .ok (.invokevirtual 181, 3) := by decide +kernel
theorem dX6_isSettled_33 : decode cX6_isSettled 33 = .ok (.invokevirtual 175, 3) := by decide +kernel
theorem dX6_isSettled_36 : decode cX6_isSettled 36 = .ok (.aload_n 0, 1) := by decide +kernel
theorem dX6_isSettled_37 : decode cX6_isSettled 37 = .ok (.iload_n 2, 1) := by decide +kernel
theorem dX6_isSettled_38 : decode cX6_isSettled 38 = .ok (.aload_n 0, 1) := by decide +kernel
theorem dX6_isSettled_39 : decode cX6_isSettled 39 = .ok (.iload_n 2, 1) := by decide +kernel
theorem dX6_isSettled_40 : decode cX6_isSettled 40 = .ok (.iconst 4, 1) := by decide +kernel
theorem dX6_isSettled_41 : decode cX6_isSettled 41 = .ok (.invokevirtual 92, 3) := by decide +kernel
theorem dX6_isSettled_44 : decode cX6_isSettled 44 = .ok (.invokevirtual 175, 3) := by decide +kernel
theorem dX6_isSettled_47 : decode cX6_isSettled 47 = .ok (.if_icmp .ne 7, 3) := by decide +kernel
theorem dX6_isSettled_50 : decode cX6_isSettled 50 = .ok (.iconst 1, 1) := by decide +kernel
theorem dX6_isSettled_51 : decode cX6_isSettled 51 = .ok (.goto 4, 3) := by decide +kernel
theorem dX6_isSettled_54 : decode cX6_isSettled 54 = .ok (.iconst 0, 1) := by decide +kernel
theorem dX6_isSettled_55 : decode cX6_isSettled 55 = .ok (.istore_n 1, 1) := by decide +kernel
theorem dX6_isSettled_56 : decode cX6_isSettled 56 = .ok (.iinc 2 1, 3) := by decide +kernel
theorem dX6_isSettled_59 : decode cX6_isSettled 59 = .ok (.goto (-55), 3) := by decide +kernel
theorem dX6_isSettled_62 : decode cX6_isSettled 62 = .ok (.iload_n 1, 1) := by decide +kernel
theorem dX6_isSettled_63 : decode cX6_isSettled 63 = .ok (.ireturn, 1) := by decide +kernel
def m_X6_isSettled_b0  (x1 : Int32) (x2 : Int32) (u3 : zM) : Option ((Int32 × Int32 × zM) ⊕ (Int32 × zM)) :=
  (if (u3 40 0) ≤ x2 then
some (.inr (x1, u3))
else
(if x1 = 0 then
some (.inr (x1, u3))
else
zbind (m_X6_doesBribe x2 u3) (fun x9 => (if x9 = 0 then
some (.inl (1, (x2 + 1), u3))
else
zbind2 (m_X6_bribeOf x2 u3) (fun x12 u13 => zbind2 (m_X6_costBy x2 x12 u13) (fun x15 u16 => zbind (m_X6_bodyIs x2 4 u16) (fun x18 => zbind2 (m_X6_costBy x2 x18 u16) (fun x20 u21 => (if x15 = x20 then
some (.inl (1, (x2 + 1), u21))
else
some (.inl (0, (x2 + 1), u21)))))))))))
def m_X6_isSettled  (u : zM) : Option (Int32 × zM) :=
  zbind2 (zit zF (fun s : Int32 × Int32 × zM => m_X6_isSettled_b0 s.1 s.2.1 s.2.2) (1, 0, u)) (fun x4 u5 =>
some ((zb x4), u5))
set_option maxHeartbeats 4000000 in
set_option maxRecDepth 100000 in
theorem c_X6_isSettled    (u : zM) (r : Int32) (u' : zM) (h : m_X6_isSettled u = some (r, u')) : zCt 8 yX6_isSettled cX6_isSettled 3 (some .boolean) (fun E => [.ref (zad E 39)]) u (fun _ => some (.int r)) u' := by
  refine zCt.of (by decide +kernel) (fun E => Nat.le_of_ble_eq_true rfl) (fun X hX hR => ?_)
  have hX : zGood X RX6 cX6_isSettled 3 8 := hX
  show zG X u 0 [(0, .ref (zad X.1 39))] []
  unfold m_X6_isSettled at h
  refine r_iconst (v := 1) hX dX6_isSettled_0 (by decide) ?_
  refine r_istore_n (y := 1) (L' := [(1, .int 1), (0, .ref (zad X.1 39))]) hX dX6_isSettled_1 rfl (by decide) rfl rfl ?_
  refine r_iconst (v := 0) hX dX6_isSettled_2 (by decide) ?_
  refine r_istore_n (y := 0) (L' := [(2, .int 0), (1, .int 1), (0, .ref (zad X.1 39))]) hX dX6_isSettled_3 rfl (by decide) rfl rfl ?_
  refine r_sub [2, 1, 0] (L' := [(0, .ref (zad X.1 39)), (1, .int 1), (2, .int 0)]) rfl ?_
  obtain ⟨x4, u5, h6, h⟩ := zbind2_elim h
  have Jh6 : zG X u5 62 [(1, .int x4)] [] := by
      refine r_iload_n hX dX6_isSettled_62 0 rfl rfl ?_
      obtain ⟨rfl, rfl⟩ := zinj2 (Option.some.inj h)
      exact r_zret hX hR dX6_isSettled_63
  clear h
  refine zit_walk (P := fun s0 : Int32 × Int32 × zM => zG X s0.2.2 4 [(0, .ref (zad X.1 39)), (1, .int (s0.1)), (2, .int (s0.2.1))] []) ?_ zF _ h6
  clear h6
  intro s0 y0 h0b hin0 hout0
  obtain ⟨x1, x2, u3⟩ := s0
  have h0b : m_X6_isSettled_b0 x1 x2 u3 = some y0 := h0b
  unfold m_X6_isSettled_b0 at h0b
  show zG X u3 4 [(0, .ref (zad X.1 39)), (1, .int x1), (2, .int x2)] []
  refine r_iload_n hX dX6_isSettled_4 2 rfl rfl ?_
  refine r_aload_n hX dX6_isSettled_5 0 rfl rfl ?_
  refine r_getR hX dX6_isSettled_6 f_RX6_9 zr_39_0 ?_
  refine r_iconst (v := 0) hX dX6_isSettled_9 (by decide) ?_
  refine r_ialdC (j := 0) hX dX6_isSettled_10 rfl (by decide +kernel) ?_
  refine r_icmp_ge (tgt := 62) hX dX6_isSettled_11 (by decide) (fun c7 => ?_) (fun c7 => ?_)
  · have h0b := (if_pos c7).symm.trans h0b
    refine r_sub [1] (L' := [(1, .int x1)]) rfl ?_
    have h0b := hout0 _ (Option.some.inj h0b).symm
    obtain ⟨rfl, rfl⟩ := zinj2 h0b
    exact Jh6
  · have h0b := (if_neg c7).symm.trans h0b
    refine r_iload_n hX dX6_isSettled_14 1 rfl rfl ?_
    refine r_if_eq (tgt := 62) hX dX6_isSettled_15 (by decide) (fun c8 => ?_) (fun c8 => ?_)
    · have h0b := (if_pos c8).symm.trans h0b
      refine r_sub [1] (L' := [(1, .int x1)]) rfl ?_
      have h0b := hout0 _ (Option.some.inj h0b).symm
      obtain ⟨rfl, rfl⟩ := zinj2 h0b
      exact Jh6
    · have h0b := (if_neg c8).symm.trans h0b
      refine r_aload_n hX dX6_isSettled_18 0 rfl rfl ?_
      refine r_iload_n hX dX6_isSettled_19 2 rfl rfl ?_
      obtain ⟨x9, e10, h0b⟩ := zbind_elim h0b
      refine r_callV (As := [.int x2]) (rest := []) (st1 := [.int x9]) hX dX6_isSettled_20 lv_RX6_178 (c_X6_doesBribe x2  u3 _ e10) (by decide) rfl rfl (zRecv.of (q := 39) (ci := 6) rfl rfl) rfl (Nat.le_of_ble_eq_true rfl) rfl ?_
      refine r_if_eq (tgt := 50) hX dX6_isSettled_23 (by decide) (fun c11 => ?_) (fun c11 => ?_)
      · have h0b := (if_pos c11).symm.trans h0b
        refine r_iconst (v := 1) hX dX6_isSettled_50 (by decide) ?_
        refine r_goto (tgt := 55) hX dX6_isSettled_51 (by decide) ?_
        refine r_istore_n (y := 1) (L' := [(1, .int 1), (0, .ref (zad X.1 39)), (2, .int x2)]) hX dX6_isSettled_55 rfl (by decide) rfl rfl ?_
        refine r_iinc (v := (x2 + 1)) (L' := [(2, .int (x2 + 1)), (1, .int 1), (0, .ref (zad X.1 39))]) hX dX6_isSettled_56 (by decide) 2 rfl rfl rfl ?_
        refine r_goto (tgt := 4) hX dX6_isSettled_59 (by decide) ?_
        refine r_sub [2, 1, 0] (L' := [(0, .ref (zad X.1 39)), (1, .int 1), (2, .int (x2 + 1))]) rfl ?_
        exact hin0 _ (Option.some.inj h0b).symm
      · have h0b := (if_neg c11).symm.trans h0b
        refine r_aload_n hX dX6_isSettled_26 0 rfl rfl ?_
        refine r_iload_n hX dX6_isSettled_27 2 rfl rfl ?_
        refine r_aload_n hX dX6_isSettled_28 0 rfl rfl ?_
        refine r_iload_n hX dX6_isSettled_29 2 rfl rfl ?_
        obtain ⟨x12, u13, e14, h0b⟩ := zbind2_elim h0b
        refine r_callV (As := [.int x2]) (rest := [.int x2, .ref (zad X.1 39)]) (st1 := [.int x12, .int x2, .ref (zad X.1 39)]) hX dX6_isSettled_30 lv_RX6_181 (c_X6_bribeOf x2  u3 _ _ e14) (by decide) rfl rfl (zRecv.of (q := 39) (ci := 6) rfl rfl) rfl (Nat.le_of_ble_eq_true rfl) rfl ?_
        obtain ⟨x15, u16, e17, h0b⟩ := zbind2_elim h0b
        refine r_callV (As := [.int x2, .int x12]) (rest := []) (st1 := [.int x15]) hX dX6_isSettled_33 lv_RX6_175 (c_X6_costBy x2 x12  u13 _ _ e17) (by decide) rfl rfl (zRecv.of (q := 39) (ci := 6) rfl rfl) rfl (Nat.le_of_ble_eq_true rfl) rfl ?_
        refine r_aload_n hX dX6_isSettled_36 0 rfl rfl ?_
        refine r_iload_n hX dX6_isSettled_37 2 rfl rfl ?_
        refine r_aload_n hX dX6_isSettled_38 0 rfl rfl ?_
        refine r_iload_n hX dX6_isSettled_39 2 rfl rfl ?_
        refine r_iconst (v := 4) hX dX6_isSettled_40 (by decide) ?_
        obtain ⟨x18, e19, h0b⟩ := zbind_elim h0b
        refine r_callV (As := [.int x2, .int 4]) (rest := [.int x2, .ref (zad X.1 39), .int x15]) (st1 := [.int x18, .int x2, .ref (zad X.1 39), .int x15]) hX dX6_isSettled_41 lv_RX6_92 (c_X6_bodyIs x2 4  u16 _ e19) (by decide) rfl rfl (zRecv.of (q := 39) (ci := 6) rfl rfl) rfl (Nat.le_of_ble_eq_true rfl) rfl ?_
        obtain ⟨x20, u21, e22, h0b⟩ := zbind2_elim h0b
        refine r_callV (As := [.int x2, .int x18]) (rest := [.int x15]) (st1 := [.int x20, .int x15]) hX dX6_isSettled_44 lv_RX6_175 (c_X6_costBy x2 x18  u16 _ _ e22) (by decide) rfl rfl (zRecv.of (q := 39) (ci := 6) rfl rfl) rfl (Nat.le_of_ble_eq_true rfl) rfl ?_
        refine r_icmp_ne (tgt := 54) hX dX6_isSettled_47 (by decide) (fun c23 => ?_) (fun c23 => ?_)
        · have h0b := (if_neg c23).symm.trans h0b
          refine r_iconst (v := 0) hX dX6_isSettled_54 (by decide) ?_
          refine r_istore_n (y := 0) (L' := [(1, .int 0), (0, .ref (zad X.1 39)), (2, .int x2)]) hX dX6_isSettled_55 rfl (by decide) rfl rfl ?_
          refine r_iinc (v := (x2 + 1)) (L' := [(2, .int (x2 + 1)), (1, .int 0), (0, .ref (zad X.1 39))]) hX dX6_isSettled_56 (by decide) 2 rfl rfl rfl ?_
          refine r_goto (tgt := 4) hX dX6_isSettled_59 (by decide) ?_
          refine r_sub [2, 1, 0] (L' := [(0, .ref (zad X.1 39)), (1, .int 0), (2, .int (x2 + 1))]) rfl ?_
          exact hin0 _ (Option.some.inj h0b).symm
        · have h0b := (if_pos c23).symm.trans h0b
          refine r_iconst (v := 1) hX dX6_isSettled_50 (by decide) ?_
          refine r_goto (tgt := 55) hX dX6_isSettled_51 (by decide) ?_
          refine r_istore_n (y := 1) (L' := [(1, .int 1), (0, .ref (zad X.1 39)), (2, .int x2)]) hX dX6_isSettled_55 rfl (by decide) rfl rfl ?_
          refine r_iinc (v := (x2 + 1)) (L' := [(2, .int (x2 + 1)), (1, .int 1), (0, .ref (zad X.1 39))]) hX dX6_isSettled_56 (by decide) 2 rfl rfl rfl ?_
          refine r_goto (tgt := 4) hX dX6_isSettled_59 (by decide) ?_
          refine r_sub [2, 1, 0] (L' := [(0, .ref (zad X.1 39)), (1, .int 1), (2, .int (x2 + 1))]) rfl ?_
          exact hin0 _ (Option.some.inj h0b).symm
theorem dX6_settled_0 : decode cX6_settled 0 = .ok (.aload_n 0, 1) := by decide +kernel
theorem dX6_settled_1 : decode cX6_settled 1 = .ok (.invokevirtual 184, 3) := by decide +kernel
theorem dX6_settled_4 : decode cX6_settled 4 = .ok (.ifCond .eq 7, 3) := by decide +kernel
theorem dX6_settled_7 : decode cX6_settled 7 = .ok (.iconst 1, 1) := by decide +kernel
theorem dX6_settled_8 : decode cX6_settled 8 = .ok (.goto 4, 3) := by decide +kernel
theorem dX6_settled_11 : decode cX6_settled 11 = .ok (.iconst 0, 1) := by decide +kernel
theorem dX6_settled_12 : decode cX6_settled 12 = .ok (.ireturn, 1) := by decide +kernel
def m_X6_settled  (u : zM) : Option (Int32 × zM) :=
  zbind2 (m_X6_isSettled u) (fun x1 u2 => (if x1 = 0 then
some (0, u2)
else
some (1, u2)))
set_option maxHeartbeats 4000000 in
set_option maxRecDepth 100000 in
theorem c_X6_settled    (u : zM) (r : Int32) (u' : zM) (h : m_X6_settled u = some (r, u')) : zCt 9 yX6_settled cX6_settled 1 (some .int) (fun E => [.ref (zad E 39)]) u (fun _ => some (.int r)) u' := by
  refine zCt.of (by decide +kernel) (fun E => Nat.le_of_ble_eq_true rfl) (fun X hX hR => ?_)
  have hX : zGood X RX6 cX6_settled 1 9 := hX
  show zG X u 0 [(0, .ref (zad X.1 39))] []
  unfold m_X6_settled at h
  refine r_aload_n hX dX6_settled_0 0 rfl rfl ?_
  obtain ⟨x1, u2, e3, h⟩ := zbind2_elim h
  refine r_callV (As := []) (rest := []) (st1 := [.int x1]) hX dX6_settled_1 lv_RX6_184 (c_X6_isSettled   u _ _ e3) (by decide) rfl rfl (zRecv.of (q := 39) (ci := 6) rfl rfl) rfl (Nat.le_of_ble_eq_true rfl) rfl ?_
  refine r_if_eq (tgt := 11) hX dX6_settled_4 (by decide) (fun c4 => ?_) (fun c4 => ?_)
  · have h := (if_pos c4).symm.trans h
    refine r_iconst (v := 0) hX dX6_settled_11 (by decide) ?_
    obtain ⟨rfl, rfl⟩ := zinj2 (Option.some.inj h)
    exact r_iret hX hR dX6_settled_12
  · have h := (if_neg c4).symm.trans h
    refine r_iconst (v := 1) hX dX6_settled_7 (by decide) ?_
    refine r_goto (tgt := 12) hX dX6_settled_8 (by decide) ?_
    obtain ⟨rfl, rfl⟩ := zinj2 (Option.some.inj h)
    exact r_iret hX hR dX6_settled_12
