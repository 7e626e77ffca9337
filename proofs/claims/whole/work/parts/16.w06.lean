/-! MODELS AND CONTRACTS, by program (wip/whole/gen_all.py): X5_send, X5_best, X5_easeFor, X5_coatIfSized, X5_sways -/
theorem dX5_send_0 : decode cX5_send 0 = .ok (.iload_n 1, 1) := by decide +kernel
theorem dX5_send_1 : decode cX5_send 1 = .ok (.iconst 0, 1) := by decide +kernel
theorem dX5_send_2 : decode cX5_send 2 = .ok (.bipush 12, 2) := by decide +kernel
theorem dX5_send_4 : decode cX5_send 4 = .ok (.invokestatic 80, 3) := by decide +kernel
theorem dX5_send_7 : decode cX5_send 7 = .ok (.ifCond .ne 9, 3) := by decide +kernel
theorem dX5_send_10 : decode cX5_send 10 = .ok (.aload_n 0, 1) := by decide +kernel
theorem dX5_send_11 : decode cX5_send 11 = .ok (.iconst 0, 1) := by decide +kernel
theorem dX5_send_12 : decode cX5_send 12 = .ok (.invokevirtual 65, 3) := by decide +kernel
theorem dX5_send_15 : decode cX5_send 15 = .ok (.ireturn, 1) := by decide +kernel
theorem dX5_send_16 : decode cX5_send 16 = .ok (.aload_n 0, 1) := by decide +kernel
theorem dX5_send_17 : decode cX5_send 17 = .ok (.getfield 22, 3) := by decide +kernel
theorem dX5_send_20 : decode cX5_send 20 = .ok (.aload_n 0, 1) := by decide +kernel
theorem dX5_send_21 : decode cX5_send 21 = .ok (.getfield 10, 3) := by decide +kernel
theorem dX5_send_24 : decode cX5_send 24 = .ok (.invokevirtual 132, 3) := by decide +kernel
theorem dX5_send_27 : decode cX5_send 27 = .ok (.iconst 0, 1) := by decide +kernel
theorem dX5_send_28 : decode cX5_send 28 = .ok (.istore_n 2, 1) := by decide +kernel
theorem dX5_send_29 : decode cX5_send 29 = .ok (.aload_n 0, 1) := by decide +kernel
theorem dX5_send_30 : decode cX5_send 30 = .ok (.iconst 0, 1) := by decide +kernel
theorem dX5_send_31 : decode cX5_send 31 = .ok (.invokevirtual 160, 3) := by decide +kernel
theorem dX5_send_34 : decode cX5_send 34 = .ok (.istore_n 3, 1) := by decide +kernel
theorem dX5_send_35 : decode cX5_send 35 = .ok (.aload_n 0, 1) := by decide +kernel
theorem dX5_send_36 : decode cX5_send 36 = .ok (.getfield 10, 3) := by decide +kernel
theorem dX5_send_39 : decode cX5_send 39 = .ok (.getfield 96, 3) := by decide +kernel
theorem dX5_send_42 : decode cX5_send 42 = .ok (.invokestatic 163, 3) := by decide +kernel
theorem dX5_send_45 : decode cX5_send 45 = .ok (.istore 4, 2) := by decide +kernel
theorem dX5_send_47 : decode cX5_send 47 = .ok (.iconst 1, 1) := by decide +kernel
theorem dX5_send_48 : decode cX5_send 48 = .ok (.istore 5, 2) := by decide +kernel
theorem dX5_send_50 : decode cX5_send 50 = .ok (.iload 5, 2) := by decide +kernel
theorem dX5_send_52 : decode cX5_send 52 = .ok (.iload_n 1, 1) := by decide +kernel
theorem dX5_send_53 : decode cX5_send 53 = .ok (.if_icmp .gt 84, 3) := by decide +kernel
theorem dX5_send_56 : decode cX5_send 56 = .ok (.iload 4, 2) := by decide +kernel
theorem dX5_send_58 : decode cX5_send 58 = .ok (.iload 5, 2) := by decide +kernel
theorem dX5_send_60 : decode cX5_send 60 = .ok (.isub, 1) := by decide +kernel
theorem dX5_send_61 : decode cX5_send 61 = .ok (.iload_n 3, 1) := by decide +kernel
theorem dX5_send_62 : decode cX5_send 62 = .ok (.if_icmp .le 75, 3) := by decide +kernel
theorem dX5_send_65 : decode cX5_send 65 = .ok (.iconst 1, 1) := by decide +kernel
theorem dX5_send_66 : decode cX5_send 66 = .ok (.istore 6, 2) := by decide +kernel
theorem dX5_send_68 : decode cX5_send 68 = .ok (.iload 6, 2) := by decide +kernel
theorem dX5_send_70 : decode cX5_send 70 = .ok (.aload_n 0, 1) := by decide +kernel
theorem dX5_send_71 : decode cX5_send 71 = .ok (.getfield 10, 3) := by decide +kernel
theorem dX5_send_74 : decode cX5_send 74 = .ok (.getfield 96, 3) := by decide +kernel
theorem dX5_send_77 : decode cX5_send 77 = .ok (.if_icmp .gt 54, 3) := by decide +kernel
theorem dX5_send_80 : decode cX5_send 80 = .ok (.iload 6, 2) := by decide +kernel
theorem dX5_send_82 : decode cX5_send 82 = .ok (.aload_n 0, 1) := by decide +kernel
theorem dX5_send_83 : decode cX5_send 83 = .ok (.getfield 10, 3) := by decide +kernel
theorem dX5_send_86 : decode cX5_send 86 = .ok (.getfield 96, 3) := by decide +kernel
theorem dX5_send_89 : decode cX5_send 89 = .ok (.iconst (-1), 1) := by decide +kernel
theorem dX5_send_90 : decode cX5_send 90 = .ok (.ixor, 1) := by decide +kernel
theorem dX5_send_91 : decode cX5_send 91 = .ok (.iand, 1) := by decide +kernel
theorem dX5_send_92 : decode cX5_send 92 = .ok (.ifCond .ne 33, 3) := by decide +kernel
theorem dX5_send_95 : decode cX5_send 95 = .ok (.iload 6, 2) := by decide +kernel
theorem dX5_send_97 : decode cX5_send 97 = .ok (.invokestatic 163, 3) := by decide +kernel
theorem dX5_send_100 : decode cX5_send 100 = .ok (.iload 5, 2) := by decide +kernel
theorem dX5_send_102 : decode cX5_send 102 = .ok (.if_icmp .ne 23, 3) := by decide +kernel
theorem dX5_send_105 : decode cX5_send 105 = .ok (.aload_n 0, 1) := by decide +kernel
theorem dX5_send_106 : decode cX5_send 106 = .ok (.iload 6, 2) := by decide +kernel
theorem dX5_send_108 : decode cX5_send 108 = .ok (.invokevirtual 160, 3) := by decide +kernel
theorem dX5_send_111 : decode cX5_send 111 = .ok (.iload_n 3, 1) := by decide +kernel
theorem dX5_send_112 : decode cX5_send 112 = .ok (.if_icmp .le 13, 3) := by decide +kernel
theorem dX5_send_115 : decode cX5_send 115 = .ok (.aload_n 0, 1) := by decide +kernel
theorem dX5_send_116 : decode cX5_send 116 = .ok (.iload 6, 2) := by decide +kernel
theorem dX5_send_118 : decode cX5_send 118 = .ok (.invokevirtual 160, 3) := by decide +kernel
theorem dX5_send_121 : decode cX5_send 121 = .ok (.istore_n 3, 1) := by decide +kernel
theorem dX5_send_122 : decode cX5_send 122 = .ok (.iload 6, 2) := by decide +kernel
theorem dX5_send_124 : decode cX5_send 124 = .ok (.istore_n 2, 1) := by decide +kernel
theorem dX5_send_125 : decode cX5_send 125 = .ok (.iinc 6 1, 3) := by decide +kernel
theorem dX5_send_128 : decode cX5_send 128 = .ok (.goto (-60), 3) := by decide +kernel
theorem dX5_send_131 : decode cX5_send 131 = .ok (.iinc 5 1, 3) := by decide +kernel
theorem dX5_send_134 : decode cX5_send 134 = .ok (.goto (-84), 3) := by decide +kernel
theorem dX5_send_137 : decode cX5_send 137 = .ok (.iload_n 2, 1) := by decide +kernel
theorem dX5_send_138 : decode cX5_send 138 = .ok (.ireturn, 1) := by decide +kernel
def m_X5_send_b1 (x9 : Int32) (x16 : Int32) (x17 : Int32) (x18 : Int32) (u19 : zM) : Option ((Int32 × Int32 × Int32 × zM) ⊕ (Int32 × Int32 × zM)) :=
  (if (u19 1 7) < x18 then
some (.inr (x16, x17, u19))
else
(if (x18 &&& ((u19 1 7) ^^^ (-1))) = 0 then
(if (m_J6_bitCount_0f7a4 x18) = x9 then
zbind2 (m_X5_fittingIfSent x18 u19) (fun x27 u28 => (if x27 ≤ x17 then
some (.inl (x16, x17, (x18 + 1), u28))
else
zbind2 (m_X5_fittingIfSent x18 u28) (fun x31 u32 => some (.inl (x18, x31, (x18 + 1), u32)))))
else
some (.inl (x16, x17, (x18 + 1), u19)))
else
some (.inl (x16, x17, (x18 + 1), u19))))
def m_X5_send_b0 (a1 : Int32) (u5 : zM) (x7 : Int32) (x8 : Int32) (x9 : Int32) (u10 : zM) : Option ((Int32 × Int32 × Int32 × zM) ⊕ (Int32 × zM)) :=
  (if a1 < x9 then
some (.inr (x7, u10))
else
(if ((m_J6_bitCount_0f7a4 (u5 1 7)) - x9) ≤ x8 then
some (.inr (x7, u10))
else
zbind3 (zit zF (fun s : Int32 × Int32 × Int32 × zM => m_X5_send_b1 x9 s.1 s.2.1 s.2.2.1 s.2.2.2) (x7, x8, 1, u10)) (fun x20 x21 u22 =>
some (.inl (x20, x21, (x9 + 1), u22)))))
def m_X5_send (a1 : Int32) (u : zM) : Option (Int32 × zM) :=
  (if (m_X5_within a1 0 12) = 0 then
zbind2 (m_X5_finding 0 u) (fun x34 u35 => some (x34, u35))
else
zbind (m_X2_measureAll u) (fun u2 => zbind2 (m_X5_fittingIfSent 0 u2) (fun x4 u5 => zbind2 (zit zF (fun s : Int32 × Int32 × Int32 × zM => m_X5_send_b0 a1 u5 s.1 s.2.1 s.2.2.1 s.2.2.2) (0, x4, 1, u5)) (fun x11 u12 =>
some (x11, u12)))))
set_option maxHeartbeats 4000000 in
set_option maxRecDepth 100000 in
theorem c_X5_send (a1 : Int32)   (u : zM) (r : Int32) (u' : zM) (h : m_X5_send a1 u = some (r, u')) : zCt 8 yX5_send cX5_send 7 (some .int) (fun E => [.ref (zad E 0), .int a1]) u (fun _ => some (.int r)) u' := by
  refine zCt.of (by decide +kernel) (fun E => Nat.le_of_ble_eq_true rfl) (fun X hX hR => ?_)
  have hX : zGood X RX5 cX5_send 7 8 := hX
  show zG X u 0 [(0, .ref (zad X.1 0)), (1, .int a1)] []
  unfold m_X5_send at h
  refine r_iload_n hX dX5_send_0 1 rfl rfl ?_
  refine r_iconst (v := 0) hX dX5_send_1 (by decide) ?_
  refine r_bipush (v := 12) hX dX5_send_2 (by decide) ?_
  refine r_callS (As := [.int a1, .int 0, .int 12]) (rest := []) (st1 := [.int (m_X5_within a1 0 12)]) hX dX5_send_4 ls_RX5_80 (c_X5_within a1 0 12  u _ rfl) (by decide) rfl rfl rfl (Nat.le_of_ble_eq_true rfl) rfl ?_
  refine r_if_ne (tgt := 16) hX dX5_send_7 (by decide) (fun c1 => ?_) (fun c1 => ?_)
  · have h := (if_neg c1).symm.trans h
    refine r_aload_n hX dX5_send_16 0 rfl rfl ?_
    refine r_getR hX dX5_send_17 f_RX5_22 zr_0_2 ?_
    refine r_aload_n hX dX5_send_20 0 rfl rfl ?_
    refine r_getR hX dX5_send_21 f_RX5_10 zr_0_0 ?_
    obtain ⟨u2, e3, h⟩ := zbind_elim h
    refine r_callV (As := [.ref (zad X.1 1)]) (rest := []) (st1 := []) hX dX5_send_24 lv_RX5_132 (c_X2_measureAll   u _ e3) (by decide) rfl rfl (zRecv.of (q := 15) (ci := 2) rfl rfl) rfl (Nat.le_of_ble_eq_true rfl) rfl ?_
    refine r_iconst (v := 0) hX dX5_send_27 (by decide) ?_
    refine r_istore_n (y := 0) (L' := [(2, .int 0), (0, .ref (zad X.1 0)), (1, .int a1)]) hX dX5_send_28 rfl (by decide) rfl rfl ?_
    refine r_aload_n hX dX5_send_29 1 rfl rfl ?_
    refine r_iconst (v := 0) hX dX5_send_30 (by decide) ?_
    obtain ⟨x4, u5, e6, h⟩ := zbind2_elim h
    refine r_callV (As := [.int 0]) (rest := []) (st1 := [.int x4]) hX dX5_send_31 lv_RX5_160 (c_X5_fittingIfSent 0  u2 _ _ e6) (by decide) rfl rfl (zRecv.of (q := 0) (ci := 5) rfl rfl) rfl (Nat.le_of_ble_eq_true rfl) rfl ?_
    refine r_istore_n (y := x4) (L' := [(3, .int x4), (2, .int 0), (0, .ref (zad X.1 0)), (1, .int a1)]) hX dX5_send_34 rfl (by decide) rfl rfl ?_
    refine r_aload_n hX dX5_send_35 2 rfl rfl ?_
    refine r_getR hX dX5_send_36 f_RX5_10 zr_0_0 ?_
    refine r_getI hX dX5_send_39 f_RX5_96 zi_1_7 ?_
    refine r_callS (As := [.int (u5 1 7)]) (rest := []) (st1 := [.int (m_J6_bitCount_0f7a4 (u5 1 7))]) hX dX5_send_42 ls_RX5_163 (c_J6_bitCount_0f7a4 (u5 1 7)  u5 _ rfl) (by decide) rfl rfl rfl (Nat.le_of_ble_eq_true rfl) rfl ?_
    refine r_istore (y := (m_J6_bitCount_0f7a4 (u5 1 7))) (L' := [(4, .int (m_J6_bitCount_0f7a4 (u5 1 7))), (3, .int x4), (2, .int 0), (0, .ref (zad X.1 0)), (1, .int a1)]) hX dX5_send_45 (by decide) rfl rfl ?_
    refine r_iconst (v := 1) hX dX5_send_47 (by decide) ?_
    refine r_istore (y := 1) (L' := [(5, .int 1), (4, .int (m_J6_bitCount_0f7a4 (u5 1 7))), (3, .int x4), (2, .int 0), (0, .ref (zad X.1 0)), (1, .int a1)]) hX dX5_send_48 (by decide) rfl rfl ?_
    refine r_sub [4, 5, 3, 2, 1, 0] (L' := [(0, .ref (zad X.1 0)), (1, .int a1), (2, .int 0), (3, .int x4), (4, .int (m_J6_bitCount_0f7a4 (u5 1 7))), (5, .int 1)]) rfl ?_
    obtain ⟨x11, u12, h13, h⟩ := zbind2_elim h
    have Jh13 : zG X u12 137 [(2, .int x11)] [] := by
        refine r_iload_n hX dX5_send_137 0 rfl rfl ?_
        obtain ⟨rfl, rfl⟩ := zinj2 (Option.some.inj h)
        exact r_iret hX hR dX5_send_138
    clear h
    refine zit_walk (P := fun s0 : Int32 × Int32 × Int32 × zM => zG X s0.2.2.2 50 [(0, .ref (zad X.1 0)), (1, .int a1), (2, .int (s0.1)), (3, .int (s0.2.1)), (4, .int (m_J6_bitCount_0f7a4 (u5 1 7))), (5, .int (s0.2.2.1))] []) ?_ zF _ h13
    clear h13
    intro s0 y0 h0b hin0 hout0
    obtain ⟨x7, x8, x9, u10⟩ := s0
    have h0b : m_X5_send_b0 a1 u5 x7 x8 x9 u10 = some y0 := h0b
    unfold m_X5_send_b0 at h0b
    show zG X u10 50 [(0, .ref (zad X.1 0)), (1, .int a1), (2, .int x7), (3, .int x8), (4, .int (m_J6_bitCount_0f7a4 (u5 1 7))), (5, .int x9)] []
    refine r_iload hX dX5_send_50 5 rfl ?_
    refine r_iload_n hX dX5_send_52 1 rfl rfl ?_
    refine r_icmp_gt (tgt := 137) hX dX5_send_53 (by decide) (fun c14 => ?_) (fun c14 => ?_)
    · have h0b := (if_pos c14).symm.trans h0b
      refine r_sub [2] (L' := [(2, .int x7)]) rfl ?_
      have h0b := hout0 _ (Option.some.inj h0b).symm
      obtain ⟨rfl, rfl⟩ := zinj2 h0b
      exact Jh13
    · have h0b := (if_neg c14).symm.trans h0b
      refine r_iload hX dX5_send_56 4 rfl ?_
      refine r_iload hX dX5_send_58 5 rfl ?_
      refine r_isub hX dX5_send_60 ?_
      refine r_iload_n hX dX5_send_61 3 rfl rfl ?_
      refine r_icmp_le (tgt := 137) hX dX5_send_62 (by decide) (fun c15 => ?_) (fun c15 => ?_)
      · have h0b := (if_pos c15).symm.trans h0b
        refine r_sub [2] (L' := [(2, .int x7)]) rfl ?_
        have h0b := hout0 _ (Option.some.inj h0b).symm
        obtain ⟨rfl, rfl⟩ := zinj2 h0b
        exact Jh13
      · have h0b := (if_neg c15).symm.trans h0b
        refine r_iconst (v := 1) hX dX5_send_65 (by decide) ?_
        refine r_istore (y := 1) (L' := [(6, .int 1), (0, .ref (zad X.1 0)), (1, .int a1), (2, .int x7), (3, .int x8), (4, .int (m_J6_bitCount_0f7a4 (u5 1 7))), (5, .int x9)]) hX dX5_send_66 (by decide) rfl rfl ?_
        refine r_sub [1, 2, 3, 4, 5, 6, 0] (L' := [(0, .ref (zad X.1 0)), (1, .int a1), (2, .int x7), (3, .int x8), (4, .int (m_J6_bitCount_0f7a4 (u5 1 7))), (5, .int x9), (6, .int 1)]) rfl ?_
        obtain ⟨x20, x21, u22, h23, h0b⟩ := zbind3_elim h0b
        have Jh23 : zG X u22 131 [(0, .ref (zad X.1 0)), (1, .int a1), (2, .int x20), (3, .int x21), (4, .int (m_J6_bitCount_0f7a4 (u5 1 7))), (5, .int x9)] [] := by
            refine r_iinc (v := (x9 + 1)) (L' := [(5, .int (x9 + 1)), (0, .ref (zad X.1 0)), (1, .int a1), (2, .int x20), (3, .int x21), (4, .int (m_J6_bitCount_0f7a4 (u5 1 7)))]) hX dX5_send_131 (by decide) 5 rfl rfl rfl ?_
            refine r_goto (tgt := 50) hX dX5_send_134 (by decide) ?_
            refine r_sub [1, 2, 3, 4, 5, 0] (L' := [(0, .ref (zad X.1 0)), (1, .int a1), (2, .int x20), (3, .int x21), (4, .int (m_J6_bitCount_0f7a4 (u5 1 7))), (5, .int (x9 + 1))]) rfl ?_
            exact hin0 _ (Option.some.inj h0b).symm
        clear h0b
        refine zit_walk (P := fun s1 : Int32 × Int32 × Int32 × zM => zG X s1.2.2.2 68 [(0, .ref (zad X.1 0)), (1, .int a1), (2, .int (s1.1)), (3, .int (s1.2.1)), (4, .int (m_J6_bitCount_0f7a4 (u5 1 7))), (5, .int x9), (6, .int (s1.2.2.1))] []) ?_ zF _ h23
        clear h23
        intro s1 y1 h1b hin1 hout1
        obtain ⟨x16, x17, x18, u19⟩ := s1
        have h1b : m_X5_send_b1 x9 x16 x17 x18 u19 = some y1 := h1b
        unfold m_X5_send_b1 at h1b
        show zG X u19 68 [(0, .ref (zad X.1 0)), (1, .int a1), (2, .int x16), (3, .int x17), (4, .int (m_J6_bitCount_0f7a4 (u5 1 7))), (5, .int x9), (6, .int x18)] []
        refine r_iload hX dX5_send_68 6 rfl ?_
        refine r_aload_n hX dX5_send_70 0 rfl rfl ?_
        refine r_getR hX dX5_send_71 f_RX5_10 zr_0_0 ?_
        refine r_getI hX dX5_send_74 f_RX5_96 zi_1_7 ?_
        refine r_icmp_gt (tgt := 131) hX dX5_send_77 (by decide) (fun c24 => ?_) (fun c24 => ?_)
        · have h1b := (if_pos c24).symm.trans h1b
          refine r_sub [0, 1, 2, 3, 4, 5] (L' := [(0, .ref (zad X.1 0)), (1, .int a1), (2, .int x16), (3, .int x17), (4, .int (m_J6_bitCount_0f7a4 (u5 1 7))), (5, .int x9)]) rfl ?_
          have h1b := hout1 _ (Option.some.inj h1b).symm
          obtain ⟨rfl, rfl, rfl⟩ := zinj3 h1b
          exact Jh23
        · have h1b := (if_neg c24).symm.trans h1b
          refine r_iload hX dX5_send_80 6 rfl ?_
          refine r_aload_n hX dX5_send_82 0 rfl rfl ?_
          refine r_getR hX dX5_send_83 f_RX5_10 zr_0_0 ?_
          refine r_getI hX dX5_send_86 f_RX5_96 zi_1_7 ?_
          refine r_iconst (v := (-1)) hX dX5_send_89 (by decide) ?_
          refine r_ixor hX dX5_send_90 ?_
          refine r_iand hX dX5_send_91 ?_
          refine r_if_ne (tgt := 125) hX dX5_send_92 (by decide) (fun c25 => ?_) (fun c25 => ?_)
          · have h1b := (if_neg c25).symm.trans h1b
            refine r_iinc (v := (x18 + 1)) (L' := [(6, .int (x18 + 1)), (0, .ref (zad X.1 0)), (1, .int a1), (2, .int x16), (3, .int x17), (4, .int (m_J6_bitCount_0f7a4 (u5 1 7))), (5, .int x9)]) hX dX5_send_125 (by decide) 6 rfl rfl rfl ?_
            refine r_goto (tgt := 68) hX dX5_send_128 (by decide) ?_
            refine r_sub [1, 2, 3, 4, 5, 6, 0] (L' := [(0, .ref (zad X.1 0)), (1, .int a1), (2, .int x16), (3, .int x17), (4, .int (m_J6_bitCount_0f7a4 (u5 1 7))), (5, .int x9), (6, .int (x18 + 1))]) rfl ?_
            exact hin1 _ (Option.some.inj h1b).symm
          · have h1b := (if_pos c25).symm.trans h1b
            refine r_iload hX dX5_send_95 6 rfl ?_
            refine r_callS (As := [.int x18]) (rest := []) (st1 := [.int (m_J6_bitCount_0f7a4 x18)]) hX dX5_send_97 ls_RX5_163 (c_J6_bitCount_0f7a4 x18  u19 _ rfl) (by decide) rfl rfl rfl (Nat.le_of_ble_eq_true rfl) rfl ?_
            refine r_iload hX dX5_send_100 5 rfl ?_
            refine r_icmp_ne (tgt := 125) hX dX5_send_102 (by decide) (fun c26 => ?_) (fun c26 => ?_)
            · have h1b := (if_neg c26).symm.trans h1b
              refine r_iinc (v := (x18 + 1)) (L' := [(6, .int (x18 + 1)), (0, .ref (zad X.1 0)), (1, .int a1), (2, .int x16), (3, .int x17), (4, .int (m_J6_bitCount_0f7a4 (u5 1 7))), (5, .int x9)]) hX dX5_send_125 (by decide) 6 rfl rfl rfl ?_
              refine r_goto (tgt := 68) hX dX5_send_128 (by decide) ?_
              refine r_sub [1, 2, 3, 4, 5, 6, 0] (L' := [(0, .ref (zad X.1 0)), (1, .int a1), (2, .int x16), (3, .int x17), (4, .int (m_J6_bitCount_0f7a4 (u5 1 7))), (5, .int x9), (6, .int (x18 + 1))]) rfl ?_
              exact hin1 _ (Option.some.inj h1b).symm
            · have h1b := (if_pos c26).symm.trans h1b
              refine r_aload_n hX dX5_send_105 0 rfl rfl ?_
              refine r_iload hX dX5_send_106 6 rfl ?_
              obtain ⟨x27, u28, e29, h1b⟩ := zbind2_elim h1b
              refine r_callV (As := [.int x18]) (rest := []) (st1 := [.int x27]) hX dX5_send_108 lv_RX5_160 (c_X5_fittingIfSent x18  u19 _ _ e29) (by decide) rfl rfl (zRecv.of (q := 0) (ci := 5) rfl rfl) rfl (Nat.le_of_ble_eq_true rfl) rfl ?_
              refine r_iload_n hX dX5_send_111 3 rfl rfl ?_
              refine r_icmp_le (tgt := 125) hX dX5_send_112 (by decide) (fun c30 => ?_) (fun c30 => ?_)
              · have h1b := (if_pos c30).symm.trans h1b
                refine r_iinc (v := (x18 + 1)) (L' := [(6, .int (x18 + 1)), (0, .ref (zad X.1 0)), (1, .int a1), (2, .int x16), (3, .int x17), (4, .int (m_J6_bitCount_0f7a4 (u5 1 7))), (5, .int x9)]) hX dX5_send_125 (by decide) 6 rfl rfl rfl ?_
                refine r_goto (tgt := 68) hX dX5_send_128 (by decide) ?_
                refine r_sub [1, 2, 3, 4, 5, 6, 0] (L' := [(0, .ref (zad X.1 0)), (1, .int a1), (2, .int x16), (3, .int x17), (4, .int (m_J6_bitCount_0f7a4 (u5 1 7))), (5, .int x9), (6, .int (x18 + 1))]) rfl ?_
                exact hin1 _ (Option.some.inj h1b).symm
              · have h1b := (if_neg c30).symm.trans h1b
                refine r_aload_n hX dX5_send_115 0 rfl rfl ?_
                refine r_iload hX dX5_send_116 6 rfl ?_
                obtain ⟨x31, u32, e33, h1b⟩ := zbind2_elim h1b
                refine r_callV (As := [.int x18]) (rest := []) (st1 := [.int x31]) hX dX5_send_118 lv_RX5_160 (c_X5_fittingIfSent x18  u28 _ _ e33) (by decide) rfl rfl (zRecv.of (q := 0) (ci := 5) rfl rfl) rfl (Nat.le_of_ble_eq_true rfl) rfl ?_
                refine r_istore_n (y := x31) (L' := [(3, .int x31), (0, .ref (zad X.1 0)), (1, .int a1), (2, .int x16), (4, .int (m_J6_bitCount_0f7a4 (u5 1 7))), (5, .int x9), (6, .int x18)]) hX dX5_send_121 rfl (by decide) rfl rfl ?_
                refine r_iload hX dX5_send_122 6 rfl ?_
                refine r_istore_n (y := x18) (L' := [(2, .int x18), (3, .int x31), (0, .ref (zad X.1 0)), (1, .int a1), (4, .int (m_J6_bitCount_0f7a4 (u5 1 7))), (5, .int x9), (6, .int x18)]) hX dX5_send_124 rfl (by decide) rfl rfl ?_
                refine r_iinc (v := (x18 + 1)) (L' := [(6, .int (x18 + 1)), (2, .int x18), (3, .int x31), (0, .ref (zad X.1 0)), (1, .int a1), (4, .int (m_J6_bitCount_0f7a4 (u5 1 7))), (5, .int x9)]) hX dX5_send_125 (by decide) 6 rfl rfl rfl ?_
                refine r_goto (tgt := 68) hX dX5_send_128 (by decide) ?_
                refine r_sub [3, 4, 1, 2, 5, 6, 0] (L' := [(0, .ref (zad X.1 0)), (1, .int a1), (2, .int x18), (3, .int x31), (4, .int (m_J6_bitCount_0f7a4 (u5 1 7))), (5, .int x9), (6, .int (x18 + 1))]) rfl ?_
                exact hin1 _ (Option.some.inj h1b).symm
  · have h := (if_pos c1).symm.trans h
    refine r_aload_n hX dX5_send_10 0 rfl rfl ?_
    refine r_iconst (v := 0) hX dX5_send_11 (by decide) ?_
    obtain ⟨x34, u35, e36, h⟩ := zbind2_elim h
    refine r_callV (As := [.int 0]) (rest := []) (st1 := [.int x34]) hX dX5_send_12 lv_RX5_65 (c_X5_finding 0  u _ _ e36) (by decide) rfl rfl (zRecv.of (q := 0) (ci := 5) rfl rfl) rfl (Nat.le_of_ble_eq_true rfl) rfl ?_
    obtain ⟨rfl, rfl⟩ := zinj2 (Option.some.inj h)
    exact r_iret hX hR dX5_send_15
theorem dX5_best_0 : decode cX5_best 0 = .ok (.aload_n 0, 1) := by decide +kernel
theorem dX5_best_1 : decode cX5_best 1 = .ok (.getfield 22, 3) := by decide +kernel
theorem dX5_best_4 : decode cX5_best 4 = .ok (.aload_n 0, 1) := by decide +kernel
theorem dX5_best_5 : decode cX5_best 5 = .ok (.getfield 10, 3) := by decide +kernel
theorem dX5_best_8 : decode cX5_best 8 = .ok (.invokevirtual 132, 3) := by decide +kernel
theorem dX5_best_11 : decode cX5_best 11 = .ok (.iconst 0, 1) := by decide +kernel
theorem dX5_best_12 : decode cX5_best 12 = .ok (.istore_n 1, 1) := by decide +kernel
theorem dX5_best_13 : decode cX5_best 13 = .ok (.iconst (-1), 1) := by decide +kernel
theorem dX5_best_14 : decode cX5_best 14 = .ok (.istore_n 2, 1) := by decide +kernel
theorem dX5_best_15 : decode cX5_best 15 = .ok (.iconst 0, 1) := by decide +kernel
theorem dX5_best_16 : decode cX5_best 16 = .ok (.istore_n 3, 1) := by decide +kernel
theorem dX5_best_17 : decode cX5_best 17 = .ok (.iload_n 3, 1) := by decide +kernel
theorem dX5_best_18 : decode cX5_best 18 = .ok (.iconst 2, 1) := by decide +kernel
theorem dX5_best_19 : decode cX5_best 19 = .ok (.if_icmp .gt 34, 3) := by decide +kernel
theorem dX5_best_22 : decode cX5_best 22 = .ok (.aload_n 0, 1) := by decide +kernel
theorem dX5_best_23 : decode cX5_best 23 = .ok (.iload_n 3, 1) := by decide +kernel
theorem dX5_best_24 : decode cX5_best 24 = .ok (.aload_n 0, 1) := by decide +kernel
theorem dX5_best_25 : decode cX5_best 25 = .ok (.getfield 10, 3) := by decide +kernel
theorem dX5_best_28 : decode cX5_best 28 = .ok (.getfield 96, 3) := by decide +kernel
theorem dX5_best_31 : decode cX5_best 31 = .ok (.invokevirtual 168, 3) := by decide +kernel
theorem dX5_best_34 : decode cX5_best 34 = .ok (.istore 4, 2) := by decide +kernel
theorem dX5_best_36 : decode cX5_best 36 = .ok (.iload 4, 2) := by decide +kernel
theorem dX5_best_38 : decode cX5_best 38 = .ok (.iload_n 2, 1) := by decide +kernel
theorem dX5_best_39 : decode cX5_best 39 = .ok (.if_icmp .le 8, 3) := by decide +kernel
theorem dX5_best_42 : decode cX5_best 42 = .ok (.iload 4, 2) := by decide +kernel
theorem dX5_best_44 : decode cX5_best 44 = .ok (.istore_n 2, 1) := by decide +kernel
theorem dX5_best_45 : decode cX5_best 45 = .ok (.iload_n 3, 1) := by decide +kernel
theorem dX5_best_46 : decode cX5_best 46 = .ok (.istore_n 1, 1) := by decide +kernel
theorem dX5_best_47 : decode cX5_best 47 = .ok (.iinc 3 1, 3) := by decide +kernel
theorem dX5_best_50 : decode cX5_best 50 = .ok (.goto (-33), 3) := by decide +kernel
theorem dX5_best_53 : decode cX5_best 53 = .ok (.iload_n 1, 1) := by decide +kernel
theorem dX5_best_54 : decode cX5_best 54 = .ok (.ireturn, 1) := by decide +kernel
def m_X5_best_b0  (x3 : Int32) (x4 : Int32) (x5 : Int32) (u6 : zM) : Option ((Int32 × Int32 × Int32 × zM) ⊕ (Int32 × zM)) :=
  (if 2 < x5 then
some (.inr (x3, u6))
else
zbind2 (m_X5_fittingBy x5 (u6 1 7) u6) (fun x11 u12 => (if x11 ≤ x4 then
some (.inl (x3, x4, (x5 + 1), u12))
else
some (.inl (x5, x11, (x5 + 1), u12)))))
def m_X5_best  (u : zM) : Option (Int32 × zM) :=
  zbind (m_X2_measureAll u) (fun u1 => zbind2 (zit zF (fun s : Int32 × Int32 × Int32 × zM => m_X5_best_b0 s.1 s.2.1 s.2.2.1 s.2.2.2) (0, (-1), 0, u1)) (fun x7 u8 =>
some (x7, u8)))
set_option maxHeartbeats 4000000 in
set_option maxRecDepth 100000 in
theorem c_X5_best    (u : zM) (r : Int32) (u' : zM) (h : m_X5_best u = some (r, u')) : zCt 7 yX5_best cX5_best 5 (some .int) (fun E => [.ref (zad E 0)]) u (fun _ => some (.int r)) u' := by
  refine zCt.of (by decide +kernel) (fun E => Nat.le_of_ble_eq_true rfl) (fun X hX hR => ?_)
  have hX : zGood X RX5 cX5_best 5 7 := hX
  show zG X u 0 [(0, .ref (zad X.1 0))] []
  unfold m_X5_best at h
  refine r_aload_n hX dX5_best_0 0 rfl rfl ?_
  refine r_getR hX dX5_best_1 f_RX5_22 zr_0_2 ?_
  refine r_aload_n hX dX5_best_4 0 rfl rfl ?_
  refine r_getR hX dX5_best_5 f_RX5_10 zr_0_0 ?_
  obtain ⟨u1, e2, h⟩ := zbind_elim h
  refine r_callV (As := [.ref (zad X.1 1)]) (rest := []) (st1 := []) hX dX5_best_8 lv_RX5_132 (c_X2_measureAll   u _ e2) (by decide) rfl rfl (zRecv.of (q := 15) (ci := 2) rfl rfl) rfl (Nat.le_of_ble_eq_true rfl) rfl ?_
  refine r_iconst (v := 0) hX dX5_best_11 (by decide) ?_
  refine r_istore_n (y := 0) (L' := [(1, .int 0), (0, .ref (zad X.1 0))]) hX dX5_best_12 rfl (by decide) rfl rfl ?_
  refine r_iconst (v := (-1)) hX dX5_best_13 (by decide) ?_
  refine r_istore_n (y := (-1)) (L' := [(2, .int (-1)), (1, .int 0), (0, .ref (zad X.1 0))]) hX dX5_best_14 rfl (by decide) rfl rfl ?_
  refine r_iconst (v := 0) hX dX5_best_15 (by decide) ?_
  refine r_istore_n (y := 0) (L' := [(3, .int 0), (2, .int (-1)), (1, .int 0), (0, .ref (zad X.1 0))]) hX dX5_best_16 rfl (by decide) rfl rfl ?_
  refine r_sub [3, 2, 1, 0] (L' := [(0, .ref (zad X.1 0)), (1, .int 0), (2, .int (-1)), (3, .int 0)]) rfl ?_
  obtain ⟨x7, u8, h9, h⟩ := zbind2_elim h
  have Jh9 : zG X u8 53 [(1, .int x7)] [] := by
      refine r_iload_n hX dX5_best_53 0 rfl rfl ?_
      obtain ⟨rfl, rfl⟩ := zinj2 (Option.some.inj h)
      exact r_iret hX hR dX5_best_54
  clear h
  refine zit_walk (P := fun s0 : Int32 × Int32 × Int32 × zM => zG X s0.2.2.2 17 [(0, .ref (zad X.1 0)), (1, .int (s0.1)), (2, .int (s0.2.1)), (3, .int (s0.2.2.1))] []) ?_ zF _ h9
  clear h9
  intro s0 y0 h0b hin0 hout0
  obtain ⟨x3, x4, x5, u6⟩ := s0
  have h0b : m_X5_best_b0 x3 x4 x5 u6 = some y0 := h0b
  unfold m_X5_best_b0 at h0b
  show zG X u6 17 [(0, .ref (zad X.1 0)), (1, .int x3), (2, .int x4), (3, .int x5)] []
  refine r_iload_n hX dX5_best_17 3 rfl rfl ?_
  refine r_iconst (v := 2) hX dX5_best_18 (by decide) ?_
  refine r_icmp_gt (tgt := 53) hX dX5_best_19 (by decide) (fun c10 => ?_) (fun c10 => ?_)
  · have h0b := (if_pos c10).symm.trans h0b
    refine r_sub [1] (L' := [(1, .int x3)]) rfl ?_
    have h0b := hout0 _ (Option.some.inj h0b).symm
    obtain ⟨rfl, rfl⟩ := zinj2 h0b
    exact Jh9
  · have h0b := (if_neg c10).symm.trans h0b
    refine r_aload_n hX dX5_best_22 0 rfl rfl ?_
    refine r_iload_n hX dX5_best_23 3 rfl rfl ?_
    refine r_aload_n hX dX5_best_24 0 rfl rfl ?_
    refine r_getR hX dX5_best_25 f_RX5_10 zr_0_0 ?_
    refine r_getI hX dX5_best_28 f_RX5_96 zi_1_7 ?_
    obtain ⟨x11, u12, e13, h0b⟩ := zbind2_elim h0b
    refine r_callV (As := [.int x5, .int (u6 1 7)]) (rest := []) (st1 := [.int x11]) hX dX5_best_31 lv_RX5_168 (c_X5_fittingBy x5 (u6 1 7)  u6 _ _ e13) (by decide) rfl rfl (zRecv.of (q := 0) (ci := 5) rfl rfl) rfl (Nat.le_of_ble_eq_true rfl) rfl ?_
    refine r_istore (y := x11) (L' := [(4, .int x11), (0, .ref (zad X.1 0)), (1, .int x3), (2, .int x4), (3, .int x5)]) hX dX5_best_34 (by decide) rfl rfl ?_
    refine r_iload hX dX5_best_36 0 rfl ?_
    refine r_iload_n hX dX5_best_38 3 rfl rfl ?_
    refine r_icmp_le (tgt := 47) hX dX5_best_39 (by decide) (fun c14 => ?_) (fun c14 => ?_)
    · have h0b := (if_pos c14).symm.trans h0b
      refine r_iinc (v := (x5 + 1)) (L' := [(3, .int (x5 + 1)), (4, .int x11), (0, .ref (zad X.1 0)), (1, .int x3), (2, .int x4)]) hX dX5_best_47 (by decide) 4 rfl rfl rfl ?_
      refine r_goto (tgt := 17) hX dX5_best_50 (by decide) ?_
      refine r_sub [2, 3, 4, 0] (L' := [(0, .ref (zad X.1 0)), (1, .int x3), (2, .int x4), (3, .int (x5 + 1))]) rfl ?_
      exact hin0 _ (Option.some.inj h0b).symm
    · have h0b := (if_neg c14).symm.trans h0b
      refine r_iload hX dX5_best_42 0 rfl ?_
      refine r_istore_n (y := x11) (L' := [(2, .int x11), (4, .int x11), (0, .ref (zad X.1 0)), (1, .int x3), (3, .int x5)]) hX dX5_best_44 rfl (by decide) rfl rfl ?_
      refine r_iload_n hX dX5_best_45 4 rfl rfl ?_
      refine r_istore_n (y := x5) (L' := [(1, .int x5), (2, .int x11), (4, .int x11), (0, .ref (zad X.1 0)), (3, .int x5)]) hX dX5_best_46 rfl (by decide) rfl rfl ?_
      refine r_iinc (v := (x5 + 1)) (L' := [(3, .int (x5 + 1)), (1, .int x5), (2, .int x11), (4, .int x11), (0, .ref (zad X.1 0))]) hX dX5_best_47 (by decide) 4 rfl rfl rfl ?_
      refine r_goto (tgt := 17) hX dX5_best_50 (by decide) ?_
      refine r_sub [4, 1, 2, 0] (L' := [(0, .ref (zad X.1 0)), (1, .int x5), (2, .int x11), (3, .int (x5 + 1))]) rfl ?_
      exact hin0 _ (Option.some.inj h0b).symm
theorem dX5_easeFor_0 : decode cX5_easeFor 0 = .ok (.iconst 0, 1) := by decide +kernel
theorem dX5_easeFor_1 : decode cX5_easeFor 1 = .ok (.istore_n 1, 1) := by decide +kernel
theorem dX5_easeFor_2 : decode cX5_easeFor 2 = .ok (.aload_n 0, 1) := by decide +kernel
theorem dX5_easeFor_3 : decode cX5_easeFor 3 = .ok (.invokevirtual 125, 3) := by decide +kernel
theorem dX5_easeFor_6 : decode cX5_easeFor 6 = .ok (.ifCond .eq 54, 3) := by decide +kernel
theorem dX5_easeFor_9 : decode cX5_easeFor 9 = .ok (.iconst 0, 1) := by decide +kernel
theorem dX5_easeFor_10 : decode cX5_easeFor 10 = .ok (.istore_n 2, 1) := by decide +kernel
theorem dX5_easeFor_11 : decode cX5_easeFor 11 = .ok (.iload_n 2, 1) := by decide +kernel
theorem dX5_easeFor_12 : decode cX5_easeFor 12 = .ok (.aload_n 0, 1) := by decide +kernel
theorem dX5_easeFor_13 : decode cX5_easeFor 13 = .ok (.getfield 10, 3) := by decide +kernel
theorem dX5_easeFor_16 : decode cX5_easeFor 16 = .ok (.getfield 69, 3) := by decide +kernel
theorem dX5_easeFor_19 : decode cX5_easeFor 19 = .ok (.if_icmp .ge 41, 3) := by decide +kernel
theorem dX5_easeFor_22 : decode cX5_easeFor 22 = .ok (.aload_n 0, 1) := by decide +kernel
theorem dX5_easeFor_23 : decode cX5_easeFor 23 = .ok (.getfield 10, 3) := by decide +kernel
theorem dX5_easeFor_26 : decode cX5_easeFor 26 = .ok (.iload_n 2, 1) := by decide +kernel
theorem dX5_easeFor_27 : decode cX5_easeFor 27 = .ok (.invokevirtual 108, 3) := by decide +kernel
theorem dX5_easeFor_30 : decode cX5_easeFor 30 = .ok (.ifCond .eq 22, 3) := by decide +kernel
theorem dX5_easeFor_33 : decode cX5_easeFor 33 = .ok (.iload_n 1, 1) := by decide +kernel
theorem dX5_easeFor_34 : decode cX5_easeFor 34 = .ok (.aload_n 0, 1) := by decide +kernel
theorem dX5_easeFor_35 : decode cX5_easeFor 35 = .ok (.getfield 22, 3) := by decide +kernel
theorem dX5_easeFor_38 : decode cX5_easeFor 38 = .ok (.aload_n 0, 1) := by decide +kernel
theorem dX5_easeFor_39 : decode cX5_easeFor 39 = .ok (.getfield 10, 3) := by decide +kernel
theorem dX5_easeFor_42 : decode cX5_easeFor 42 = .ok (.iload_n 2, 1) := by decide +kernel
theorem dX5_easeFor_43 : decode cX5_easeFor 43 = .ok (.invokevirtual 145, 3) := by decide +kernel
theorem dX5_easeFor_46 : decode cX5_easeFor 46 = .ok (.invokestatic 114, 3) := by decide +kernel
theorem dX5_easeFor_49 : decode cX5_easeFor 49 = .ok (.goto 4, 3) := by decide +kernel
theorem dX5_easeFor_52 : decode cX5_easeFor 52 = .ok (.iload_n 1, 1) := by decide +kernel
theorem dX5_easeFor_53 : decode cX5_easeFor 53 = .ok (.istore_n 1, 1) := by decide +kernel
theorem dX5_easeFor_54 : decode cX5_easeFor 54 = .ok (.iinc 2 1, 3) := by decide +kernel
theorem dX5_easeFor_57 : decode cX5_easeFor 57 = .ok (.goto (-46), 3) := by decide +kernel
theorem dX5_easeFor_60 : decode cX5_easeFor 60 = .ok (.iload_n 1, 1) := by decide +kernel
theorem dX5_easeFor_61 : decode cX5_easeFor 61 = .ok (.ireturn, 1) := by decide +kernel
def m_X5_easeFor_b0 (u2 : zM) (x5 : Int32) (x6 : Int32) : Option ((Int32 × Int32) ⊕ (Int32)) :=
  (if (u2 1 6) ≤ x6 then
some (.inr x5)
else
(if (m_X4_isHere x6 u2) = 0 then
some (.inl (x5, (x6 + 1)))
else
zbind (m_X2_costOf x6 u2) (fun x11 => some (.inl ((zmax x5 x11), (x6 + 1))))))
def m_X5_easeFor  (u : zM) : Option (Int32 × zM) :=
  zbind2 (m_X5_cutForAllHere u) (fun x1 u2 => (if x1 = 0 then
some (0, u2)
else
zbind (zit zF (fun s : Int32 × Int32 => m_X5_easeFor_b0 u2 s.1 s.2) (0, 0)) (fun x7 =>
some (x7, u2))))
set_option maxHeartbeats 4000000 in
set_option maxRecDepth 100000 in
theorem c_X5_easeFor    (u : zM) (r : Int32) (u' : zM) (h : m_X5_easeFor u = some (r, u')) : zCt 7 yX5_easeFor cX5_easeFor 3 (some .int) (fun E => [.ref (zad E 0)]) u (fun _ => some (.int r)) u' := by
  refine zCt.of (by decide +kernel) (fun E => Nat.le_of_ble_eq_true rfl) (fun X hX hR => ?_)
  have hX : zGood X RX5 cX5_easeFor 3 7 := hX
  show zG X u 0 [(0, .ref (zad X.1 0))] []
  unfold m_X5_easeFor at h
  refine r_iconst (v := 0) hX dX5_easeFor_0 (by decide) ?_
  refine r_istore_n (y := 0) (L' := [(1, .int 0), (0, .ref (zad X.1 0))]) hX dX5_easeFor_1 rfl (by decide) rfl rfl ?_
  refine r_aload_n hX dX5_easeFor_2 1 rfl rfl ?_
  obtain ⟨x1, u2, e3, h⟩ := zbind2_elim h
  refine r_callV (As := []) (rest := []) (st1 := [.int x1]) hX dX5_easeFor_3 lv_RX5_125 (c_X5_cutForAllHere   u _ _ e3) (by decide) rfl rfl (zRecv.of (q := 0) (ci := 5) rfl rfl) rfl (Nat.le_of_ble_eq_true rfl) rfl ?_
  refine r_if_eq (tgt := 60) hX dX5_easeFor_6 (by decide) (fun c4 => ?_) (fun c4 => ?_)
  · have h := (if_pos c4).symm.trans h
    refine r_iload_n hX dX5_easeFor_60 0 rfl rfl ?_
    obtain ⟨rfl, rfl⟩ := zinj2 (Option.some.inj h)
    exact r_iret hX hR dX5_easeFor_61
  · have h := (if_neg c4).symm.trans h
    refine r_iconst (v := 0) hX dX5_easeFor_9 (by decide) ?_
    refine r_istore_n (y := 0) (L' := [(2, .int 0), (1, .int 0), (0, .ref (zad X.1 0))]) hX dX5_easeFor_10 rfl (by decide) rfl rfl ?_
    refine r_sub [2, 1, 0] (L' := [(0, .ref (zad X.1 0)), (1, .int 0), (2, .int 0)]) rfl ?_
    obtain ⟨x7, h8, h⟩ := zbind_elim h
    have Jh8 : zG X u2 60 [(1, .int x7)] [] := by
        refine r_iload_n hX dX5_easeFor_60 0 rfl rfl ?_
        obtain ⟨rfl, rfl⟩ := zinj2 (Option.some.inj h)
        exact r_iret hX hR dX5_easeFor_61
    clear h
    refine zit_walk (P := fun s0 : Int32 × Int32 => zG X u2 11 [(0, .ref (zad X.1 0)), (1, .int (s0.1)), (2, .int (s0.2))] []) ?_ zF _ h8
    clear h8
    intro s0 y0 h0b hin0 hout0
    obtain ⟨x5, x6⟩ := s0
    have h0b : m_X5_easeFor_b0 u2 x5 x6 = some y0 := h0b
    unfold m_X5_easeFor_b0 at h0b
    show zG X u2 11 [(0, .ref (zad X.1 0)), (1, .int x5), (2, .int x6)] []
    refine r_iload_n hX dX5_easeFor_11 2 rfl rfl ?_
    refine r_aload_n hX dX5_easeFor_12 0 rfl rfl ?_
    refine r_getR hX dX5_easeFor_13 f_RX5_10 zr_0_0 ?_
    refine r_getI hX dX5_easeFor_16 f_RX5_69 zi_1_6 ?_
    refine r_icmp_ge (tgt := 60) hX dX5_easeFor_19 (by decide) (fun c9 => ?_) (fun c9 => ?_)
    · have h0b := (if_pos c9).symm.trans h0b
      refine r_sub [1] (L' := [(1, .int x5)]) rfl ?_
      have h0b := hout0 _ (Option.some.inj h0b).symm
      obtain rfl := h0b
      exact Jh8
    · have h0b := (if_neg c9).symm.trans h0b
      refine r_aload_n hX dX5_easeFor_22 0 rfl rfl ?_
      refine r_getR hX dX5_easeFor_23 f_RX5_10 zr_0_0 ?_
      refine r_iload_n hX dX5_easeFor_26 2 rfl rfl ?_
      refine r_callV (As := [.int x6]) (rest := []) (st1 := [.int (m_X4_isHere x6 u2)]) hX dX5_easeFor_27 lv_RX5_108 (c_X4_isHere x6  u2 _ rfl) (by decide) rfl rfl (zRecv.of (q := 1) (ci := 4) rfl rfl) rfl (Nat.le_of_ble_eq_true rfl) rfl ?_
      refine r_if_eq (tgt := 52) hX dX5_easeFor_30 (by decide) (fun c10 => ?_) (fun c10 => ?_)
      · have h0b := (if_pos c10).symm.trans h0b
        refine r_iload_n hX dX5_easeFor_52 1 rfl rfl ?_
        refine r_istore_n (y := x5) (L' := [(1, .int x5), (0, .ref (zad X.1 0)), (2, .int x6)]) hX dX5_easeFor_53 rfl (by decide) rfl rfl ?_
        refine r_iinc (v := (x6 + 1)) (L' := [(2, .int (x6 + 1)), (1, .int x5), (0, .ref (zad X.1 0))]) hX dX5_easeFor_54 (by decide) 2 rfl rfl rfl ?_
        refine r_goto (tgt := 11) hX dX5_easeFor_57 (by decide) ?_
        refine r_sub [2, 1, 0] (L' := [(0, .ref (zad X.1 0)), (1, .int x5), (2, .int (x6 + 1))]) rfl ?_
        exact hin0 _ (Option.some.inj h0b).symm
      · have h0b := (if_neg c10).symm.trans h0b
        refine r_iload_n hX dX5_easeFor_33 1 rfl rfl ?_
        refine r_aload_n hX dX5_easeFor_34 0 rfl rfl ?_
        refine r_getR hX dX5_easeFor_35 f_RX5_22 zr_0_2 ?_
        refine r_aload_n hX dX5_easeFor_38 0 rfl rfl ?_
        refine r_getR hX dX5_easeFor_39 f_RX5_10 zr_0_0 ?_
        refine r_iload_n hX dX5_easeFor_42 2 rfl rfl ?_
        obtain ⟨x11, e12, h0b⟩ := zbind_elim h0b
        refine r_callV (As := [.ref (zad X.1 1), .int x6]) (rest := [.int x5]) (st1 := [.int x11, .int x5]) hX dX5_easeFor_43 lv_RX5_145 (c_X2_costOf x6  u2 _ e12) (by decide) rfl rfl (zRecv.of (q := 15) (ci := 2) rfl rfl) rfl (Nat.le_of_ble_eq_true rfl) rfl ?_
        refine r_max hX dX5_easeFor_46 lm_RX5_114 (by decide) (Nat.le_of_ble_eq_true rfl) ?_
        refine r_goto (tgt := 53) hX dX5_easeFor_49 (by decide) ?_
        refine r_istore_n (y := (zmax x5 x11)) (L' := [(1, .int (zmax x5 x11)), (0, .ref (zad X.1 0)), (2, .int x6)]) hX dX5_easeFor_53 rfl (by decide) rfl rfl ?_
        refine r_iinc (v := (x6 + 1)) (L' := [(2, .int (x6 + 1)), (1, .int (zmax x5 x11)), (0, .ref (zad X.1 0))]) hX dX5_easeFor_54 (by decide) 2 rfl rfl rfl ?_
        refine r_goto (tgt := 11) hX dX5_easeFor_57 (by decide) ?_
        refine r_sub [2, 1, 0] (L' := [(0, .ref (zad X.1 0)), (1, .int (zmax x5 x11)), (2, .int (x6 + 1))]) rfl ?_
        exact hin0 _ (Option.some.inj h0b).symm
theorem dX5_coatIfSized_0 : decode cX5_coatIfSized 0 = .ok (.aload_n 0, 1) := by decide +kernel
theorem dX5_coatIfSized_1 : decode cX5_coatIfSized 1 = .ok (.getfield 10, 3) := by decide +kernel
theorem dX5_coatIfSized_4 : decode cX5_coatIfSized 4 = .ok (.iload_n 1, 1) := by decide +kernel
theorem dX5_coatIfSized_5 : decode cX5_coatIfSized 5 = .ok (.iload_n 2, 1) := by decide +kernel
theorem dX5_coatIfSized_6 : decode cX5_coatIfSized 6 = .ok (.iload_n 3, 1) := by decide +kernel
theorem dX5_coatIfSized_7 : decode cX5_coatIfSized 7 = .ok (.invokevirtual 119, 3) := by decide +kernel
theorem dX5_coatIfSized_10 : decode cX5_coatIfSized 10 = .ok (.aload_n 0, 1) := by decide +kernel
theorem dX5_coatIfSized_11 : decode cX5_coatIfSized 11 = .ok (.getfield 22, 3) := by decide +kernel
theorem dX5_coatIfSized_14 : decode cX5_coatIfSized 14 = .ok (.aload_n 0, 1) := by decide +kernel
theorem dX5_coatIfSized_15 : decode cX5_coatIfSized 15 = .ok (.getfield 10, 3) := by decide +kernel
theorem dX5_coatIfSized_18 : decode cX5_coatIfSized 18 = .ok (.invokevirtual 132, 3) := by decide +kernel
theorem dX5_coatIfSized_21 : decode cX5_coatIfSized 21 = .ok (.aload_n 0, 1) := by decide +kernel
theorem dX5_coatIfSized_22 : decode cX5_coatIfSized 22 = .ok (.getfield 22, 3) := by decide +kernel
theorem dX5_coatIfSized_25 : decode cX5_coatIfSized 25 = .ok (.iload_n 2, 1) := by decide +kernel
theorem dX5_coatIfSized_26 : decode cX5_coatIfSized 26 = .ok (.aload_n 0, 1) := by decide +kernel
theorem dX5_coatIfSized_27 : decode cX5_coatIfSized 27 = .ok (.getfield 10, 3) := by decide +kernel
theorem dX5_coatIfSized_30 : decode cX5_coatIfSized 30 = .ok (.getfield 96, 3) := by decide +kernel
theorem dX5_coatIfSized_33 : decode cX5_coatIfSized 33 = .ok (.aload_n 0, 1) := by decide +kernel
theorem dX5_coatIfSized_34 : decode cX5_coatIfSized 34 = .ok (.getfield 10, 3) := by decide +kernel
theorem dX5_coatIfSized_37 : decode cX5_coatIfSized 37 = .ok (.getfield 99, 3) := by decide +kernel
theorem dX5_coatIfSized_40 : decode cX5_coatIfSized 40 = .ok (.invokevirtual 283, 3) := by decide +kernel
theorem dX5_coatIfSized_43 : decode cX5_coatIfSized 43 = .ok (.ireturn, 1) := by decide +kernel
def m_X5_coatIfSized (a1 : Int32) (a2 : Int32) (a3 : Int32) (u : zM) : Option (Int32 × zM) :=
  zbind (m_X4_setInches a1 a2 a3 u) (fun u1 => zbind (m_X2_measureAll u1) (fun u3 => zbind (m_X2_cutOne a2 (u3 1 7) (u3 1 8) u3) (fun x5 => some (x5, u3))))
set_option maxHeartbeats 4000000 in
set_option maxRecDepth 100000 in
theorem c_X5_coatIfSized (a1 : Int32) (a2 : Int32) (a3 : Int32)   (u : zM) (r : Int32) (u' : zM) (h : m_X5_coatIfSized a1 a2 a3 u = some (r, u')) : zCt 6 yX5_coatIfSized cX5_coatIfSized 4 (some .int) (fun E => [.ref (zad E 0), .int a1, .int a2, .int a3]) u (fun _ => some (.int r)) u' := by
  refine zCt.of (by decide +kernel) (fun E => Nat.le_of_ble_eq_true rfl) (fun X hX hR => ?_)
  have hX : zGood X RX5 cX5_coatIfSized 4 6 := hX
  show zG X u 0 [(0, .ref (zad X.1 0)), (1, .int a1), (2, .int a2), (3, .int a3)] []
  unfold m_X5_coatIfSized at h
  refine r_aload_n hX dX5_coatIfSized_0 0 rfl rfl ?_
  refine r_getR hX dX5_coatIfSized_1 f_RX5_10 zr_0_0 ?_
  refine r_iload_n hX dX5_coatIfSized_4 1 rfl rfl ?_
  refine r_iload_n hX dX5_coatIfSized_5 2 rfl rfl ?_
  refine r_iload_n hX dX5_coatIfSized_6 3 rfl rfl ?_
  obtain ⟨u1, e2, h⟩ := zbind_elim h
  refine r_callV (As := [.int a1, .int a2, .int a3]) (rest := []) (st1 := []) hX dX5_coatIfSized_7 lv_RX5_119 (c_X4_setInches a1 a2 a3  u _ e2) (by decide) rfl rfl (zRecv.of (q := 1) (ci := 4) rfl rfl) rfl (Nat.le_of_ble_eq_true rfl) rfl ?_
  refine r_aload_n hX dX5_coatIfSized_10 0 rfl rfl ?_
  refine r_getR hX dX5_coatIfSized_11 f_RX5_22 zr_0_2 ?_
  refine r_aload_n hX dX5_coatIfSized_14 0 rfl rfl ?_
  refine r_getR hX dX5_coatIfSized_15 f_RX5_10 zr_0_0 ?_
  obtain ⟨u3, e4, h⟩ := zbind_elim h
  refine r_callV (As := [.ref (zad X.1 1)]) (rest := []) (st1 := []) hX dX5_coatIfSized_18 lv_RX5_132 (c_X2_measureAll   u1 _ e4) (by decide) rfl rfl (zRecv.of (q := 15) (ci := 2) rfl rfl) rfl (Nat.le_of_ble_eq_true rfl) rfl ?_
  refine r_aload_n hX dX5_coatIfSized_21 0 rfl rfl ?_
  refine r_getR hX dX5_coatIfSized_22 f_RX5_22 zr_0_2 ?_
  refine r_iload_n hX dX5_coatIfSized_25 2 rfl rfl ?_
  refine r_aload_n hX dX5_coatIfSized_26 0 rfl rfl ?_
  refine r_getR hX dX5_coatIfSized_27 f_RX5_10 zr_0_0 ?_
  refine r_getI hX dX5_coatIfSized_30 f_RX5_96 zi_1_7 ?_
  refine r_aload_n hX dX5_coatIfSized_33 0 rfl rfl ?_
  refine r_getR hX dX5_coatIfSized_34 f_RX5_10 zr_0_0 ?_
  refine r_getI hX dX5_coatIfSized_37 f_RX5_99 zi_1_8 ?_
  obtain ⟨x5, e6, h⟩ := zbind_elim h
  refine r_callV (As := [.int a2, .int (u3 1 7), .int (u3 1 8)]) (rest := []) (st1 := [.int x5]) hX dX5_coatIfSized_40 lv_RX5_283 (c_X2_cutOne a2 (u3 1 7) (u3 1 8)  u3 _ e6) (by decide) rfl rfl (zRecv.of (q := 15) (ci := 2) rfl rfl) rfl (Nat.le_of_ble_eq_true rfl) rfl ?_
  obtain ⟨rfl, rfl⟩ := zinj2 (Option.some.inj h)
  exact r_iret hX hR dX5_coatIfSized_43
theorem dX5_sways_0 : decode cX5_sways 0 = .ok (.aload_n 0, 1) := by decide +kernel
theorem dX5_sways_1 : decode cX5_sways 1 = .ok (.iload_n 1, 1) := by decide +kernel
theorem dX5_sways_2 : decode cX5_sways 2 = .ok (.invokevirtual 77, 3) := by decide +kernel
theorem dX5_sways_5 : decode cX5_sways 5 = .ok (.ifCond .eq 10, 3) := by decide +kernel
theorem dX5_sways_8 : decode cX5_sways 8 = .ok (.iload_n 2, 1) := by decide +kernel
theorem dX5_sways_9 : decode cX5_sways 9 = .ok (.invokestatic 122, 3) := by decide +kernel
theorem dX5_sways_12 : decode cX5_sways 12 = .ok (.ifCond .ne 9, 3) := by decide +kernel
theorem dX5_sways_15 : decode cX5_sways 15 = .ok (.aload_n 0, 1) := by decide +kernel
theorem dX5_sways_16 : decode cX5_sways 16 = .ok (.iconst 0, 1) := by decide +kernel
theorem dX5_sways_17 : decode cX5_sways 17 = .ok (.invokevirtual 65, 3) := by decide +kernel
theorem dX5_sways_20 : decode cX5_sways 20 = .ok (.ireturn, 1) := by decide +kernel
theorem dX5_sways_21 : decode cX5_sways 21 = .ok (.aload_n 0, 1) := by decide +kernel
theorem dX5_sways_22 : decode cX5_sways 22 = .ok (.getfield 10, 3) := by decide +kernel
theorem dX5_sways_25 : decode cX5_sways 25 = .ok (.iload_n 1, 1) := by decide +kernel
theorem dX5_sways_26 : decode cX5_sways 26 = .ok (.invokevirtual 108, 3) := by decide +kernel
theorem dX5_sways_29 : decode cX5_sways 29 = .ok (.ifCond .ne 9, 3) := by decide +kernel
theorem dX5_sways_32 : decode cX5_sways 32 = .ok (.aload_n 0, 1) := by decide +kernel
theorem dX5_sways_33 : decode cX5_sways 33 = .ok (.iconst 4, 1) := by decide +kernel
theorem dX5_sways_34 : decode cX5_sways 34 = .ok (.invokevirtual 65, 3) := by decide +kernel
theorem dX5_sways_37 : decode cX5_sways 37 = .ok (.ireturn, 1) := by decide +kernel
theorem dX5_sways_38 : decode cX5_sways 38 = .ok (.aload_n 0, 1) := by decide +kernel
theorem dX5_sways_39 : decode cX5_sways 39 = .ok (.getfield 10, 3) := by decide +kernel
theorem dX5_sways_42 : decode cX5_sways 42 = .ok (.iload_n 1, 1) := by decide +kernel
theorem dX5_sways_43 : decode cX5_sways 43 = .ok (.iload_n 2, 1) := by decide +kernel
theorem dX5_sways_44 : decode cX5_sways 44 = .ok (.invokevirtual 111, 3) := by decide +kernel
theorem dX5_sways_47 : decode cX5_sways 47 = .ok (.istore_n 3, 1) := by decide +kernel
theorem dX5_sways_48 : decode cX5_sways 48 = .ok (.aload_n 0, 1) := by decide +kernel
theorem dX5_sways_49 : decode cX5_sways 49 = .ok (.iload_n 1, 1) := by decide +kernel
theorem dX5_sways_50 : decode cX5_sways 50 = .ok (.iload_n 2, 1) := by decide +kernel
theorem dX5_sways_51 : decode cX5_sways 51 = .ok (.sipush 250, 3) := by decide +kernel
theorem dX5_sways_54 : decode cX5_sways 54 = .ok (.invokevirtual 171, 3) := by decide +kernel
theorem dX5_sways_57 : decode cX5_sways 57 = .ok (.istore 4, 2) := by decide +kernel
theorem dX5_sways_59 : decode cX5_sways 59 = .ok (.aload_n 0, 1) := by decide +kernel
theorem dX5_sways_60 : decode cX5_sways 60 = .ok (.iload_n 1, 1) := by decide +kernel
theorem dX5_sways_61 : decode cX5_sways 61 = .ok (.iload_n 2, 1) := by decide +kernel
theorem dX5_sways_62 : decode cX5_sways 62 = .ok (.bipush 50, 2) := by decide +kernel
theorem dX5_sways_64 : decode cX5_sways 64 = .ok (.invokevirtual 171, 3) := by decide +kernel
theorem dX5_sways_67 : decode cX5_sways 67 = .ok (.istore 5, 2) := by decide +kernel
theorem dX5_sways_69 : decode cX5_sways 69 = .ok (.aload_n 0, 1) := by decide +kernel
theorem dX5_sways_70 : decode cX5_sways 70 = .ok (.getfield 10, 3) := by decide +kernel
theorem dX5_sways_73 : decode cX5_sways 73 = .ok (.iload_n 1, 1) := by decide +kernel
theorem dX5_sways_74 : decode cX5_sways 74 = .ok (.iload_n 2, 1) := by decide +kernel
theorem dX5_sways_75 : decode cX5_sways 75 = .ok (.iload_n 3, 1) := by decide +kernel
theorem dX5_sways_76 : decode cX5_sways 76 = .ok (.invokevirtual 119, 3) := by decide +kernel
theorem dX5_sways_79 : decode cX5_sways 79 = .ok (.iload 4, 2) := by decide +kernel
theorem dX5_sways_81 : decode cX5_sways 81 = .ok (.iload 5, 2) := by decide +kernel
theorem dX5_sways_83 : decode cX5_sways 83 = .ok (.isub, 1) := by decide +kernel
theorem dX5_sways_84 : decode cX5_sways 84 = .ok (.ireturn, 1) := by decide +kernel
def m_X5_sways (a1 : Int32) (a2 : Int32) (u : zM) : Option (Int32 × zM) :=
  (if (m_X5_isBody a1 u) = 0 then
zbind2 (m_X5_finding 0 u) (fun x2 u3 => some (x2, u3))
else
(if (m_X5_isMeasure a2) = 0 then
zbind2 (m_X5_finding 0 u) (fun x20 u21 => some (x20, u21))
else
(if (m_X4_isHere a1 u) = 0 then
zbind2 (m_X5_finding 4 u) (fun x17 u18 => some (x17, u18))
else
zbind (m_X4_inchesOf a1 a2 u) (fun x7 => zbind2 (m_X5_coatIfSized a1 a2 250 u) (fun x9 u10 => zbind2 (m_X5_coatIfSized a1 a2 50 u10) (fun x12 u13 => zbind (m_X4_setInches a1 a2 x7 u13) (fun u15 => some ((x9 - x12), u15))))))))
set_option maxHeartbeats 4000000 in
set_option maxRecDepth 100000 in
theorem c_X5_sways (a1 : Int32) (a2 : Int32)   (u : zM) (r : Int32) (u' : zM) (h : m_X5_sways a1 a2 u = some (r, u')) : zCt 7 yX5_sways cX5_sways 6 (some .int) (fun E => [.ref (zad E 0), .int a1, .int a2]) u (fun _ => some (.int r)) u' := by
  refine zCt.of (by decide +kernel) (fun E => Nat.le_of_ble_eq_true rfl) (fun X hX hR => ?_)
  have hX : zGood X RX5 cX5_sways 6 7 := hX
  show zG X u 0 [(0, .ref (zad X.1 0)), (1, .int a1), (2, .int a2)] []
  unfold m_X5_sways at h
  refine r_aload_n hX dX5_sways_0 0 rfl rfl ?_
  refine r_iload_n hX dX5_sways_1 1 rfl rfl ?_
  refine r_callV (As := [.int a1]) (rest := []) (st1 := [.int (m_X5_isBody a1 u)]) hX dX5_sways_2 lv_RX5_77 (c_X5_isBody a1  u _ rfl) (by decide) rfl rfl (zRecv.of (q := 0) (ci := 5) rfl rfl) rfl (Nat.le_of_ble_eq_true rfl) rfl ?_
  refine r_if_eq (tgt := 15) hX dX5_sways_5 (by decide) (fun c1 => ?_) (fun c1 => ?_)
  · have h := (if_pos c1).symm.trans h
    refine r_aload_n hX dX5_sways_15 0 rfl rfl ?_
    refine r_iconst (v := 0) hX dX5_sways_16 (by decide) ?_
    obtain ⟨x2, u3, e4, h⟩ := zbind2_elim h
    refine r_callV (As := [.int 0]) (rest := []) (st1 := [.int x2]) hX dX5_sways_17 lv_RX5_65 (c_X5_finding 0  u _ _ e4) (by decide) rfl rfl (zRecv.of (q := 0) (ci := 5) rfl rfl) rfl (Nat.le_of_ble_eq_true rfl) rfl ?_
    obtain ⟨rfl, rfl⟩ := zinj2 (Option.some.inj h)
    exact r_iret hX hR dX5_sways_20
  · have h := (if_neg c1).symm.trans h
    refine r_iload_n hX dX5_sways_8 2 rfl rfl ?_
    refine r_callS (As := [.int a2]) (rest := []) (st1 := [.int (m_X5_isMeasure a2)]) hX dX5_sways_9 ls_RX5_122 (c_X5_isMeasure a2  u _ rfl) (by decide) rfl rfl rfl (Nat.le_of_ble_eq_true rfl) rfl ?_
    refine r_if_ne (tgt := 21) hX dX5_sways_12 (by decide) (fun c5 => ?_) (fun c5 => ?_)
    · have h := (if_neg c5).symm.trans h
      refine r_aload_n hX dX5_sways_21 0 rfl rfl ?_
      refine r_getR hX dX5_sways_22 f_RX5_10 zr_0_0 ?_
      refine r_iload_n hX dX5_sways_25 1 rfl rfl ?_
      refine r_callV (As := [.int a1]) (rest := []) (st1 := [.int (m_X4_isHere a1 u)]) hX dX5_sways_26 lv_RX5_108 (c_X4_isHere a1  u _ rfl) (by decide) rfl rfl (zRecv.of (q := 1) (ci := 4) rfl rfl) rfl (Nat.le_of_ble_eq_true rfl) rfl ?_
      refine r_if_ne (tgt := 38) hX dX5_sways_29 (by decide) (fun c6 => ?_) (fun c6 => ?_)
      · have h := (if_neg c6).symm.trans h
        refine r_aload_n hX dX5_sways_38 0 rfl rfl ?_
        refine r_getR hX dX5_sways_39 f_RX5_10 zr_0_0 ?_
        refine r_iload_n hX dX5_sways_42 1 rfl rfl ?_
        refine r_iload_n hX dX5_sways_43 2 rfl rfl ?_
        obtain ⟨x7, e8, h⟩ := zbind_elim h
        refine r_callV (As := [.int a1, .int a2]) (rest := []) (st1 := [.int x7]) hX dX5_sways_44 lv_RX5_111 (c_X4_inchesOf a1 a2  u _ e8) (by decide) rfl rfl (zRecv.of (q := 1) (ci := 4) rfl rfl) rfl (Nat.le_of_ble_eq_true rfl) rfl ?_
        refine r_istore_n (y := x7) (L' := [(3, .int x7), (0, .ref (zad X.1 0)), (1, .int a1), (2, .int a2)]) hX dX5_sways_47 rfl (by decide) rfl rfl ?_
        refine r_aload_n hX dX5_sways_48 1 rfl rfl ?_
        refine r_iload_n hX dX5_sways_49 2 rfl rfl ?_
        refine r_iload_n hX dX5_sways_50 3 rfl rfl ?_
        refine r_sipush (v := 250) hX dX5_sways_51 (by decide) ?_
        obtain ⟨x9, u10, e11, h⟩ := zbind2_elim h
        refine r_callV (As := [.int a1, .int a2, .int 250]) (rest := []) (st1 := [.int x9]) hX dX5_sways_54 lv_RX5_171 (c_X5_coatIfSized a1 a2 250  u _ _ e11) (by decide) rfl rfl (zRecv.of (q := 0) (ci := 5) rfl rfl) rfl (Nat.le_of_ble_eq_true rfl) rfl ?_
        refine r_istore (y := x9) (L' := [(4, .int x9), (3, .int x7), (0, .ref (zad X.1 0)), (1, .int a1), (2, .int a2)]) hX dX5_sways_57 (by decide) rfl rfl ?_
        refine r_aload_n hX dX5_sways_59 2 rfl rfl ?_
        refine r_iload_n hX dX5_sways_60 3 rfl rfl ?_
        refine r_iload_n hX dX5_sways_61 4 rfl rfl ?_
        refine r_bipush (v := 50) hX dX5_sways_62 (by decide) ?_
        obtain ⟨x12, u13, e14, h⟩ := zbind2_elim h
        refine r_callV (As := [.int a1, .int a2, .int 50]) (rest := []) (st1 := [.int x12]) hX dX5_sways_64 lv_RX5_171 (c_X5_coatIfSized a1 a2 50  u10 _ _ e14) (by decide) rfl rfl (zRecv.of (q := 0) (ci := 5) rfl rfl) rfl (Nat.le_of_ble_eq_true rfl) rfl ?_
        refine r_istore (y := x12) (L' := [(5, .int x12), (4, .int x9), (3, .int x7), (0, .ref (zad X.1 0)), (1, .int a1), (2, .int a2)]) hX dX5_sways_67 (by decide) rfl rfl ?_
        refine r_aload_n hX dX5_sways_69 3 rfl rfl ?_
        refine r_getR hX dX5_sways_70 f_RX5_10 zr_0_0 ?_
        refine r_iload_n hX dX5_sways_73 4 rfl rfl ?_
        refine r_iload_n hX dX5_sways_74 5 rfl rfl ?_
        refine r_iload_n hX dX5_sways_75 2 rfl rfl ?_
        obtain ⟨u15, e16, h⟩ := zbind_elim h
        refine r_callV (As := [.int a1, .int a2, .int x7]) (rest := []) (st1 := []) hX dX5_sways_76 lv_RX5_119 (c_X4_setInches a1 a2 x7  u13 _ e16) (by decide) rfl rfl (zRecv.of (q := 1) (ci := 4) rfl rfl) rfl (Nat.le_of_ble_eq_true rfl) rfl ?_
        refine r_iload hX dX5_sways_79 1 rfl ?_
        refine r_iload hX dX5_sways_81 0 rfl ?_
        refine r_isub hX dX5_sways_83 ?_
        obtain ⟨rfl, rfl⟩ := zinj2 (Option.some.inj h)
        exact r_iret hX hR dX5_sways_84
      · have h := (if_pos c6).symm.trans h
        refine r_aload_n hX dX5_sways_32 0 rfl rfl ?_
        refine r_iconst (v := 4) hX dX5_sways_33 (by decide) ?_
        obtain ⟨x17, u18, e19, h⟩ := zbind2_elim h
        refine r_callV (As := [.int 4]) (rest := []) (st1 := [.int x17]) hX dX5_sways_34 lv_RX5_65 (c_X5_finding 4  u _ _ e19) (by decide) rfl rfl (zRecv.of (q := 0) (ci := 5) rfl rfl) rfl (Nat.le_of_ble_eq_true rfl) rfl ?_
        obtain ⟨rfl, rfl⟩ := zinj2 (Option.some.inj h)
        exact r_iret hX hR dX5_sways_37
    · have h := (if_pos c5).symm.trans h
      refine r_aload_n hX dX5_sways_15 0 rfl rfl ?_
      refine r_iconst (v := 0) hX dX5_sways_16 (by decide) ?_
      obtain ⟨x20, u21, e22, h⟩ := zbind2_elim h
      refine r_callV (As := [.int 0]) (rest := []) (st1 := [.int x20]) hX dX5_sways_17 lv_RX5_65 (c_X5_finding 0  u _ _ e22) (by decide) rfl rfl (zRecv.of (q := 0) (ci := 5) rfl rfl) rfl (Nat.le_of_ble_eq_true rfl) rfl ?_
      obtain ⟨rfl, rfl⟩ := zinj2 (Option.some.inj h)
      exact r_iret hX hR dX5_sways_20
