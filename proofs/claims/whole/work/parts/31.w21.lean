/-! MODELS AND CONTRACTS, by program (wip/whole/gen_all.py): X6_send, X6_best, X6_easeFor, X6_isAway, X6_sways -/
theorem dX6_send_0 : decode cX6_send 0 = .ok (.iload_n 1, 1) := by decide +kernel
theorem dX6_send_1 : decode cX6_send 1 = .ok (.iconst 0, 1) := by decide +kernel
theorem dX6_send_2 : decode cX6_send 2 = .ok (.bipush 12, 2) := by decide +kernel
theorem dX6_send_4 : decode cX6_send 4 = .ok (.invokestatic 79, 3) := by decide +kernel
theorem dX6_send_7 : decode cX6_send 7 = .ok (.ifCond .ne 10, 3) := by decide +kernel
theorem dX6_send_10 : decode cX6_send 10 = .ok (.aload_n 0, 1) := by decide +kernel
theorem dX6_send_11 : decode cX6_send 11 = .ok (.ldc 78, 2) := by decide +kernel
theorem dX6_send_13 : decode cX6_send 13 = .ok (.invokevirtual 83, 3) := by decide +kernel
theorem dX6_send_16 : decode cX6_send 16 = .ok (.ireturn, 1) := by decide +kernel
theorem dX6_send_17 : decode cX6_send 17 = .ok (.aload_n 0, 1) := by decide +kernel
theorem dX6_send_18 : decode cX6_send 18 = .ok (.invokevirtual 139, 3) := by decide +kernel
theorem dX6_send_21 : decode cX6_send 21 = .ok (.istore_n 2, 1) := by decide +kernel
theorem dX6_send_22 : decode cX6_send 22 = .ok (.iconst 0, 1) := by decide +kernel
theorem dX6_send_23 : decode cX6_send 23 = .ok (.istore_n 3, 1) := by decide +kernel
theorem dX6_send_24 : decode cX6_send 24 = .ok (.iconst (-1), 1) := by decide +kernel
theorem dX6_send_25 : decode cX6_send 25 = .ok (.istore 4, 2) := by decide +kernel
theorem dX6_send_27 : decode cX6_send 27 = .ok (.iconst 0, 1) := by decide +kernel
theorem dX6_send_28 : decode cX6_send 28 = .ok (.istore 5, 2) := by decide +kernel
theorem dX6_send_30 : decode cX6_send 30 = .ok (.iload 5, 2) := by decide +kernel
theorem dX6_send_32 : decode cX6_send 32 = .ok (.iconst 1, 1) := by decide +kernel
theorem dX6_send_33 : decode cX6_send 33 = .ok (.aload_n 0, 1) := by decide +kernel
theorem dX6_send_34 : decode cX6_send 34 = .ok (.getfield 9, 3) := by decide +kernel
theorem dX6_send_37 : decode cX6_send 37 = .ok (.iconst 0, 1) := by decide +kernel
theorem dX6_send_38 : decode cX6_send 38 = .ok (.iaload, 1) := by decide +kernel
theorem dX6_send_39 : decode cX6_send 39 = .ok (.ishl, 1) := by decide +kernel
theorem dX6_send_40 : decode cX6_send 40 = .ok (.if_icmp .ge 75, 3) := by decide +kernel
theorem dX6_send_43 : decode cX6_send 43 = .ok (.iload 5, 2) := by decide +kernel
theorem dX6_send_45 : decode cX6_send 45 = .ok (.iload_n 2, 1) := by decide +kernel
theorem dX6_send_46 : decode cX6_send 46 = .ok (.iconst (-1), 1) := by decide +kernel
theorem dX6_send_47 : decode cX6_send 47 = .ok (.ixor, 1) := by decide +kernel
theorem dX6_send_48 : decode cX6_send 48 = .ok (.iand, 1) := by decide +kernel
theorem dX6_send_49 : decode cX6_send 49 = .ok (.ifCond .ne 60, 3) := by decide +kernel
theorem dX6_send_52 : decode cX6_send 52 = .ok (.iload 5, 2) := by decide +kernel
theorem dX6_send_54 : decode cX6_send 54 = .ok (.invokestatic 165, 3) := by decide +kernel
theorem dX6_send_57 : decode cX6_send 57 = .ok (.iload_n 1, 1) := by decide +kernel
theorem dX6_send_58 : decode cX6_send 58 = .ok (.if_icmp .gt 51, 3) := by decide +kernel
theorem dX6_send_61 : decode cX6_send 61 = .ok (.aload_n 0, 1) := by decide +kernel
theorem dX6_send_62 : decode cX6_send 62 = .ok (.iload_n 2, 1) := by decide +kernel
theorem dX6_send_63 : decode cX6_send 63 = .ok (.iload 5, 2) := by decide +kernel
theorem dX6_send_65 : decode cX6_send 65 = .ok (.iconst (-1), 1) := by decide +kernel
theorem dX6_send_66 : decode cX6_send 66 = .ok (.ixor, 1) := by decide +kernel
theorem dX6_send_67 : decode cX6_send 67 = .ok (.iand, 1) := by decide +kernel
theorem dX6_send_68 : decode cX6_send 68 = .ok (.invokevirtual 159, 3) := by decide +kernel
theorem dX6_send_71 : decode cX6_send 71 = .ok (.invokestatic 165, 3) := by decide +kernel
theorem dX6_send_74 : decode cX6_send 74 = .ok (.istore 6, 2) := by decide +kernel
theorem dX6_send_76 : decode cX6_send 76 = .ok (.iload 6, 2) := by decide +kernel
theorem dX6_send_78 : decode cX6_send 78 = .ok (.iload 4, 2) := by decide +kernel
theorem dX6_send_80 : decode cX6_send 80 = .ok (.if_icmp .gt 22, 3) := by decide +kernel
theorem dX6_send_83 : decode cX6_send 83 = .ok (.iload 6, 2) := by decide +kernel
theorem dX6_send_85 : decode cX6_send 85 = .ok (.iload 4, 2) := by decide +kernel
theorem dX6_send_87 : decode cX6_send 87 = .ok (.if_icmp .ne 22, 3) := by decide +kernel
theorem dX6_send_90 : decode cX6_send 90 = .ok (.iload 5, 2) := by decide +kernel
theorem dX6_send_92 : decode cX6_send 92 = .ok (.invokestatic 165, 3) := by decide +kernel
theorem dX6_send_95 : decode cX6_send 95 = .ok (.iload_n 3, 1) := by decide +kernel
theorem dX6_send_96 : decode cX6_send 96 = .ok (.invokestatic 165, 3) := by decide +kernel
theorem dX6_send_99 : decode cX6_send 99 = .ok (.if_icmp .ge 10, 3) := by decide +kernel
theorem dX6_send_102 : decode cX6_send 102 = .ok (.iload 6, 2) := by decide +kernel
theorem dX6_send_104 : decode cX6_send 104 = .ok (.istore 4, 2) := by decide +kernel
theorem dX6_send_106 : decode cX6_send 106 = .ok (.iload 5, 2) := by decide +kernel
theorem dX6_send_108 : decode cX6_send 108 = .ok (.istore_n 3, 1) := by decide +kernel
theorem dX6_send_109 : decode cX6_send 109 = .ok (.iinc 5 1, 3) := by decide +kernel
theorem dX6_send_112 : decode cX6_send 112 = .ok (.goto (-82), 3) := by decide +kernel
theorem dX6_send_115 : decode cX6_send 115 = .ok (.iload_n 3, 1) := by decide +kernel
theorem dX6_send_116 : decode cX6_send 116 = .ok (.ireturn, 1) := by decide +kernel
def m_X6_send_b0 (x2 : Int32) (a1 : Int32) (x4 : Int32) (x5 : Int32) (x6 : Int32) (u7 : zM) : Option ((Int32 × Int32 × Int32 × zM) ⊕ (Int32 × zM)) :=
  (if (zshl 1 (u7 40 0)) ≤ x6 then
some (.inr (x4, u7))
else
(if (x6 &&& (x2 ^^^ (-1))) = 0 then
zbind (m_X6_bits x6) (fun x13 => (if a1 < x13 then
some (.inl (x4, x5, (x6 + 1), u7))
else
zbind2 (m_X6_fitOf (x2 &&& (x6 ^^^ (-1))) u7) (fun x16 u17 => zbind (m_X6_bits x16) (fun x19 => (if x5 < x19 then
some (.inl (x6, x19, (x6 + 1), u17))
else
(if x19 = x5 then
zbind (m_X6_bits x6) (fun x23 => zbind (m_X6_bits x4) (fun x25 => (if x25 ≤ x23 then
some (.inl (x4, x5, (x6 + 1), u17))
else
some (.inl (x6, x19, (x6 + 1), u17)))))
else
some (.inl (x4, x5, (x6 + 1), u17))))))))
else
some (.inl (x4, x5, (x6 + 1), u7))))
def m_X6_send (a1 : Int32) (u : zM) : Option (Int32 × zM) :=
  (if (m_X6_within a1 0 12) = 0 then
zbind2 (m_X6_finding (-1000001) u) (fun x28 u29 => some (x28, u29))
else
zbind (m_X6_hereSet u) (fun x2 => zbind2 (zit zF (fun s : Int32 × Int32 × Int32 × zM => m_X6_send_b0 x2 a1 s.1 s.2.1 s.2.2.1 s.2.2.2) (0, (-1), 0, u)) (fun x8 u9 =>
some (x8, u9))))
set_option maxHeartbeats 4000000 in
set_option maxRecDepth 100000 in
theorem c_X6_send (a1 : Int32)   (u : zM) (r : Int32) (u' : zM) (h : m_X6_send a1 u = some (r, u')) : zCt 7 yX6_send cX6_send 7 (some .int) (fun E => [.ref (zad E 39), .int a1]) u (fun _ => some (.int r)) u' := by
  refine zCt.of (by decide +kernel) (fun E => Nat.le_of_ble_eq_true rfl) (fun X hX hR => ?_)
  have hX : zGood X RX6 cX6_send 7 7 := hX
  show zG X u 0 [(0, .ref (zad X.1 39)), (1, .int a1)] []
  unfold m_X6_send at h
  refine r_iload_n hX dX6_send_0 1 rfl rfl ?_
  refine r_iconst (v := 0) hX dX6_send_1 (by decide) ?_
  refine r_bipush (v := 12) hX dX6_send_2 (by decide) ?_
  refine r_callS (As := [.int a1, .int 0, .int 12]) (rest := []) (st1 := [.int (m_X6_within a1 0 12)]) hX dX6_send_4 ls_RX6_79 (c_X6_within a1 0 12  u _ rfl) (by decide) rfl rfl rfl (Nat.le_of_ble_eq_true rfl) rfl ?_
  refine r_if_ne (tgt := 17) hX dX6_send_7 (by decide) (fun c1 => ?_) (fun c1 => ?_)
  · have h := (if_neg c1).symm.trans h
    refine r_aload_n hX dX6_send_17 0 rfl rfl ?_
    obtain ⟨x2, e3, h⟩ := zbind_elim h
    refine r_callV (As := []) (rest := []) (st1 := [.int x2]) hX dX6_send_18 lv_RX6_139 (c_X6_hereSet   u _ e3) (by decide) rfl rfl (zRecv.of (q := 39) (ci := 6) rfl rfl) rfl (Nat.le_of_ble_eq_true rfl) rfl ?_
    refine r_istore_n (y := x2) (L' := [(2, .int x2), (0, .ref (zad X.1 39)), (1, .int a1)]) hX dX6_send_21 rfl (by decide) rfl rfl ?_
    refine r_iconst (v := 0) hX dX6_send_22 (by decide) ?_
    refine r_istore_n (y := 0) (L' := [(3, .int 0), (2, .int x2), (0, .ref (zad X.1 39)), (1, .int a1)]) hX dX6_send_23 rfl (by decide) rfl rfl ?_
    refine r_iconst (v := (-1)) hX dX6_send_24 (by decide) ?_
    refine r_istore (y := (-1)) (L' := [(4, .int (-1)), (3, .int 0), (2, .int x2), (0, .ref (zad X.1 39)), (1, .int a1)]) hX dX6_send_25 (by decide) rfl rfl ?_
    refine r_iconst (v := 0) hX dX6_send_27 (by decide) ?_
    refine r_istore (y := 0) (L' := [(5, .int 0), (4, .int (-1)), (3, .int 0), (2, .int x2), (0, .ref (zad X.1 39)), (1, .int a1)]) hX dX6_send_28 (by decide) rfl rfl ?_
    refine r_sub [4, 5, 3, 2, 1, 0] (L' := [(0, .ref (zad X.1 39)), (1, .int a1), (2, .int x2), (3, .int 0), (4, .int (-1)), (5, .int 0)]) rfl ?_
    obtain ⟨x8, u9, h10, h⟩ := zbind2_elim h
    have Jh10 : zG X u9 115 [(3, .int x8)] [] := by
        refine r_iload_n hX dX6_send_115 0 rfl rfl ?_
        obtain ⟨rfl, rfl⟩ := zinj2 (Option.some.inj h)
        exact r_iret hX hR dX6_send_116
    clear h
    refine zit_walk (P := fun s0 : Int32 × Int32 × Int32 × zM => zG X s0.2.2.2 30 [(0, .ref (zad X.1 39)), (1, .int a1), (2, .int x2), (3, .int (s0.1)), (4, .int (s0.2.1)), (5, .int (s0.2.2.1))] []) ?_ zF _ h10
    clear h10
    intro s0 y0 h0b hin0 hout0
    obtain ⟨x4, x5, x6, u7⟩ := s0
    have h0b : m_X6_send_b0 x2 a1 x4 x5 x6 u7 = some y0 := h0b
    unfold m_X6_send_b0 at h0b
    show zG X u7 30 [(0, .ref (zad X.1 39)), (1, .int a1), (2, .int x2), (3, .int x4), (4, .int x5), (5, .int x6)] []
    refine r_iload hX dX6_send_30 5 rfl ?_
    refine r_iconst (v := 1) hX dX6_send_32 (by decide) ?_
    refine r_aload_n hX dX6_send_33 0 rfl rfl ?_
    refine r_getR hX dX6_send_34 f_RX6_9 zr_39_0 ?_
    refine r_iconst (v := 0) hX dX6_send_37 (by decide) ?_
    refine r_ialdC (j := 0) hX dX6_send_38 rfl (by decide +kernel) ?_
    refine r_ishl hX dX6_send_39 ?_
    refine r_icmp_ge (tgt := 115) hX dX6_send_40 (by decide) (fun c11 => ?_) (fun c11 => ?_)
    · have h0b := (if_pos c11).symm.trans h0b
      refine r_sub [3] (L' := [(3, .int x4)]) rfl ?_
      have h0b := hout0 _ (Option.some.inj h0b).symm
      obtain ⟨rfl, rfl⟩ := zinj2 h0b
      exact Jh10
    · have h0b := (if_neg c11).symm.trans h0b
      refine r_iload hX dX6_send_43 5 rfl ?_
      refine r_iload_n hX dX6_send_45 2 rfl rfl ?_
      refine r_iconst (v := (-1)) hX dX6_send_46 (by decide) ?_
      refine r_ixor hX dX6_send_47 ?_
      refine r_iand hX dX6_send_48 ?_
      refine r_if_ne (tgt := 109) hX dX6_send_49 (by decide) (fun c12 => ?_) (fun c12 => ?_)
      · have h0b := (if_neg c12).symm.trans h0b
        refine r_iinc (v := (x6 + 1)) (L' := [(5, .int (x6 + 1)), (0, .ref (zad X.1 39)), (1, .int a1), (2, .int x2), (3, .int x4), (4, .int x5)]) hX dX6_send_109 (by decide) 5 rfl rfl rfl ?_
        refine r_goto (tgt := 30) hX dX6_send_112 (by decide) ?_
        refine r_sub [1, 2, 3, 4, 5, 0] (L' := [(0, .ref (zad X.1 39)), (1, .int a1), (2, .int x2), (3, .int x4), (4, .int x5), (5, .int (x6 + 1))]) rfl ?_
        exact hin0 _ (Option.some.inj h0b).symm
      · have h0b := (if_pos c12).symm.trans h0b
        refine r_iload hX dX6_send_52 5 rfl ?_
        obtain ⟨x13, e14, h0b⟩ := zbind_elim h0b
        refine r_callS (As := [.int x6]) (rest := []) (st1 := [.int x13]) hX dX6_send_54 ls_RX6_165 (c_X6_bits x6  u7 _ e14) (by decide) rfl rfl rfl (Nat.le_of_ble_eq_true rfl) rfl ?_
        refine r_iload_n hX dX6_send_57 1 rfl rfl ?_
        refine r_icmp_gt (tgt := 109) hX dX6_send_58 (by decide) (fun c15 => ?_) (fun c15 => ?_)
        · have h0b := (if_pos c15).symm.trans h0b
          refine r_iinc (v := (x6 + 1)) (L' := [(5, .int (x6 + 1)), (0, .ref (zad X.1 39)), (1, .int a1), (2, .int x2), (3, .int x4), (4, .int x5)]) hX dX6_send_109 (by decide) 5 rfl rfl rfl ?_
          refine r_goto (tgt := 30) hX dX6_send_112 (by decide) ?_
          refine r_sub [1, 2, 3, 4, 5, 0] (L' := [(0, .ref (zad X.1 39)), (1, .int a1), (2, .int x2), (3, .int x4), (4, .int x5), (5, .int (x6 + 1))]) rfl ?_
          exact hin0 _ (Option.some.inj h0b).symm
        · have h0b := (if_neg c15).symm.trans h0b
          refine r_aload_n hX dX6_send_61 0 rfl rfl ?_
          refine r_iload_n hX dX6_send_62 2 rfl rfl ?_
          refine r_iload hX dX6_send_63 5 rfl ?_
          refine r_iconst (v := (-1)) hX dX6_send_65 (by decide) ?_
          refine r_ixor hX dX6_send_66 ?_
          refine r_iand hX dX6_send_67 ?_
          obtain ⟨x16, u17, e18, h0b⟩ := zbind2_elim h0b
          refine r_callV (As := [.int (x2 &&& (x6 ^^^ (-1)))]) (rest := []) (st1 := [.int x16]) hX dX6_send_68 lv_RX6_159 (c_X6_fitOf (x2 &&& (x6 ^^^ (-1)))  u7 _ _ e18) (by decide) rfl rfl (zRecv.of (q := 39) (ci := 6) rfl rfl) rfl (Nat.le_of_ble_eq_true rfl) rfl ?_
          obtain ⟨x19, e20, h0b⟩ := zbind_elim h0b
          refine r_callS (As := [.int x16]) (rest := []) (st1 := [.int x19]) hX dX6_send_71 ls_RX6_165 (c_X6_bits x16  u17 _ e20) (by decide) rfl rfl rfl (Nat.le_of_ble_eq_true rfl) rfl ?_
          refine r_istore (y := x19) (L' := [(6, .int x19), (0, .ref (zad X.1 39)), (1, .int a1), (2, .int x2), (3, .int x4), (4, .int x5), (5, .int x6)]) hX dX6_send_74 (by decide) rfl rfl ?_
          refine r_iload hX dX6_send_76 0 rfl ?_
          refine r_iload hX dX6_send_78 5 rfl ?_
          refine r_icmp_gt (tgt := 102) hX dX6_send_80 (by decide) (fun c21 => ?_) (fun c21 => ?_)
          · have h0b := (if_pos c21).symm.trans h0b
            refine r_iload hX dX6_send_102 0 rfl ?_
            refine r_istore (y := x19) (L' := [(4, .int x19), (6, .int x19), (0, .ref (zad X.1 39)), (1, .int a1), (2, .int x2), (3, .int x4), (5, .int x6)]) hX dX6_send_104 (by decide) rfl rfl ?_
            refine r_iload hX dX6_send_106 6 rfl ?_
            refine r_istore_n (y := x6) (L' := [(3, .int x6), (4, .int x19), (6, .int x19), (0, .ref (zad X.1 39)), (1, .int a1), (2, .int x2), (5, .int x6)]) hX dX6_send_108 rfl (by decide) rfl rfl ?_
            refine r_iinc (v := (x6 + 1)) (L' := [(5, .int (x6 + 1)), (3, .int x6), (4, .int x19), (6, .int x19), (0, .ref (zad X.1 39)), (1, .int a1), (2, .int x2)]) hX dX6_send_109 (by decide) 6 rfl rfl rfl ?_
            refine r_goto (tgt := 30) hX dX6_send_112 (by decide) ?_
            refine r_sub [4, 5, 6, 1, 2, 0] (L' := [(0, .ref (zad X.1 39)), (1, .int a1), (2, .int x2), (3, .int x6), (4, .int x19), (5, .int (x6 + 1))]) rfl ?_
            exact hin0 _ (Option.some.inj h0b).symm
          · have h0b := (if_neg c21).symm.trans h0b
            refine r_iload hX dX6_send_83 0 rfl ?_
            refine r_iload hX dX6_send_85 5 rfl ?_
            refine r_icmp_ne (tgt := 109) hX dX6_send_87 (by decide) (fun c22 => ?_) (fun c22 => ?_)
            · have h0b := (if_neg c22).symm.trans h0b
              refine r_iinc (v := (x6 + 1)) (L' := [(5, .int (x6 + 1)), (6, .int x19), (0, .ref (zad X.1 39)), (1, .int a1), (2, .int x2), (3, .int x4), (4, .int x5)]) hX dX6_send_109 (by decide) 6 rfl rfl rfl ?_
              refine r_goto (tgt := 30) hX dX6_send_112 (by decide) ?_
              refine r_sub [2, 3, 4, 5, 6, 0] (L' := [(0, .ref (zad X.1 39)), (1, .int a1), (2, .int x2), (3, .int x4), (4, .int x5), (5, .int (x6 + 1))]) rfl ?_
              exact hin0 _ (Option.some.inj h0b).symm
            · have h0b := (if_pos c22).symm.trans h0b
              refine r_iload hX dX6_send_90 6 rfl ?_
              obtain ⟨x23, e24, h0b⟩ := zbind_elim h0b
              refine r_callS (As := [.int x6]) (rest := []) (st1 := [.int x23]) hX dX6_send_92 ls_RX6_165 (c_X6_bits x6  u17 _ e24) (by decide) rfl rfl rfl (Nat.le_of_ble_eq_true rfl) rfl ?_
              refine r_iload_n hX dX6_send_95 4 rfl rfl ?_
              obtain ⟨x25, e26, h0b⟩ := zbind_elim h0b
              refine r_callS (As := [.int x4]) (rest := [.int x23]) (st1 := [.int x25, .int x23]) hX dX6_send_96 ls_RX6_165 (c_X6_bits x4  u17 _ e26) (by decide) rfl rfl rfl (Nat.le_of_ble_eq_true rfl) rfl ?_
              refine r_icmp_ge (tgt := 109) hX dX6_send_99 (by decide) (fun c27 => ?_) (fun c27 => ?_)
              · have h0b := (if_pos c27).symm.trans h0b
                refine r_iinc (v := (x6 + 1)) (L' := [(5, .int (x6 + 1)), (6, .int x19), (0, .ref (zad X.1 39)), (1, .int a1), (2, .int x2), (3, .int x4), (4, .int x5)]) hX dX6_send_109 (by decide) 6 rfl rfl rfl ?_
                refine r_goto (tgt := 30) hX dX6_send_112 (by decide) ?_
                refine r_sub [2, 3, 4, 5, 6, 0] (L' := [(0, .ref (zad X.1 39)), (1, .int a1), (2, .int x2), (3, .int x4), (4, .int x5), (5, .int (x6 + 1))]) rfl ?_
                exact hin0 _ (Option.some.inj h0b).symm
              · have h0b := (if_neg c27).symm.trans h0b
                refine r_iload hX dX6_send_102 0 rfl ?_
                refine r_istore (y := x19) (L' := [(4, .int x19), (6, .int x19), (0, .ref (zad X.1 39)), (1, .int a1), (2, .int x2), (3, .int x4), (5, .int x6)]) hX dX6_send_104 (by decide) rfl rfl ?_
                refine r_iload hX dX6_send_106 6 rfl ?_
                refine r_istore_n (y := x6) (L' := [(3, .int x6), (4, .int x19), (6, .int x19), (0, .ref (zad X.1 39)), (1, .int a1), (2, .int x2), (5, .int x6)]) hX dX6_send_108 rfl (by decide) rfl rfl ?_
                refine r_iinc (v := (x6 + 1)) (L' := [(5, .int (x6 + 1)), (3, .int x6), (4, .int x19), (6, .int x19), (0, .ref (zad X.1 39)), (1, .int a1), (2, .int x2)]) hX dX6_send_109 (by decide) 6 rfl rfl rfl ?_
                refine r_goto (tgt := 30) hX dX6_send_112 (by decide) ?_
                refine r_sub [4, 5, 6, 1, 2, 0] (L' := [(0, .ref (zad X.1 39)), (1, .int a1), (2, .int x2), (3, .int x6), (4, .int x19), (5, .int (x6 + 1))]) rfl ?_
                exact hin0 _ (Option.some.inj h0b).symm
  · have h := (if_pos c1).symm.trans h
    refine r_aload_n hX dX6_send_10 0 rfl rfl ?_
    refine r_ldc (v := (-1000001)) hX dX6_send_11 (zT_in 1041 (by decide +kernel) rfl) ?_
    obtain ⟨x28, u29, e30, h⟩ := zbind2_elim h
    refine r_callV (As := [.int (-1000001)]) (rest := []) (st1 := [.int x28]) hX dX6_send_13 lv_RX6_83 (c_X6_finding (-1000001)  u _ _ e30) (by decide) rfl rfl (zRecv.of (q := 39) (ci := 6) rfl rfl) rfl (Nat.le_of_ble_eq_true rfl) rfl ?_
    obtain ⟨rfl, rfl⟩ := zinj2 (Option.some.inj h)
    exact r_iret hX hR dX6_send_16
theorem dX6_best_0 : decode cX6_best 0 = .ok (.aload_n 0, 1) := by decide +kernel
theorem dX6_best_1 : decode cX6_best 1 = .ok (.invokevirtual 139, 3) := by decide +kernel
theorem dX6_best_4 : decode cX6_best 4 = .ok (.istore_n 1, 1) := by decide +kernel
theorem dX6_best_5 : decode cX6_best 5 = .ok (.aload_n 0, 1) := by decide +kernel
theorem dX6_best_6 : decode cX6_best 6 = .ok (.getfield 9, 3) := by decide +kernel
theorem dX6_best_9 : decode cX6_best 9 = .ok (.iconst 1, 1) := by decide +kernel
theorem dX6_best_10 : decode cX6_best 10 = .ok (.iaload, 1) := by decide +kernel
theorem dX6_best_11 : decode cX6_best 11 = .ok (.istore_n 2, 1) := by decide +kernel
theorem dX6_best_12 : decode cX6_best 12 = .ok (.iconst 0, 1) := by decide +kernel
theorem dX6_best_13 : decode cX6_best 13 = .ok (.istore_n 3, 1) := by decide +kernel
theorem dX6_best_14 : decode cX6_best 14 = .ok (.iconst (-1), 1) := by decide +kernel
theorem dX6_best_15 : decode cX6_best 15 = .ok (.istore 4, 2) := by decide +kernel
theorem dX6_best_17 : decode cX6_best 17 = .ok (.iconst 0, 1) := by decide +kernel
theorem dX6_best_18 : decode cX6_best 18 = .ok (.istore 5, 2) := by decide +kernel
theorem dX6_best_20 : decode cX6_best 20 = .ok (.iload 5, 2) := by decide +kernel
theorem dX6_best_22 : decode cX6_best 22 = .ok (.iconst 3, 1) := by decide +kernel
theorem dX6_best_23 : decode cX6_best 23 = .ok (.if_icmp .ge 41, 3) := by decide +kernel
theorem dX6_best_26 : decode cX6_best 26 = .ok (.aload_n 0, 1) := by decide +kernel
theorem dX6_best_27 : decode cX6_best 27 = .ok (.getfield 9, 3) := by decide +kernel
theorem dX6_best_30 : decode cX6_best 30 = .ok (.iconst 1, 1) := by decide +kernel
theorem dX6_best_31 : decode cX6_best 31 = .ok (.iload 5, 2) := by decide +kernel
theorem dX6_best_33 : decode cX6_best 33 = .ok (.iastore, 1) := by decide +kernel
theorem dX6_best_34 : decode cX6_best 34 = .ok (.aload_n 0, 1) := by decide +kernel
theorem dX6_best_35 : decode cX6_best 35 = .ok (.iload_n 1, 1) := by decide +kernel
theorem dX6_best_36 : decode cX6_best 36 = .ok (.invokevirtual 159, 3) := by decide +kernel
theorem dX6_best_39 : decode cX6_best 39 = .ok (.invokestatic 165, 3) := by decide +kernel
theorem dX6_best_42 : decode cX6_best 42 = .ok (.istore 6, 2) := by decide +kernel
theorem dX6_best_44 : decode cX6_best 44 = .ok (.iload 6, 2) := by decide +kernel
theorem dX6_best_46 : decode cX6_best 46 = .ok (.iload 4, 2) := by decide +kernel
theorem dX6_best_48 : decode cX6_best 48 = .ok (.if_icmp .le 10, 3) := by decide +kernel
theorem dX6_best_51 : decode cX6_best 51 = .ok (.iload 6, 2) := by decide +kernel
theorem dX6_best_53 : decode cX6_best 53 = .ok (.istore 4, 2) := by decide +kernel
theorem dX6_best_55 : decode cX6_best 55 = .ok (.iload 5, 2) := by decide +kernel
theorem dX6_best_57 : decode cX6_best 57 = .ok (.istore_n 3, 1) := by decide +kernel
theorem dX6_best_58 : decode cX6_best 58 = .ok (.iinc 5 1, 3) := by decide +kernel
theorem dX6_best_61 : decode cX6_best 61 = .ok (.goto (-41), 3) := by decide +kernel
theorem dX6_best_64 : decode cX6_best 64 = .ok (.aload_n 0, 1) := by decide +kernel
theorem dX6_best_65 : decode cX6_best 65 = .ok (.getfield 9, 3) := by decide +kernel
theorem dX6_best_68 : decode cX6_best 68 = .ok (.iconst 1, 1) := by decide +kernel
theorem dX6_best_69 : decode cX6_best 69 = .ok (.iload_n 2, 1) := by decide +kernel
theorem dX6_best_70 : decode cX6_best 70 = .ok (.iastore, 1) := by decide +kernel
theorem dX6_best_71 : decode cX6_best 71 = .ok (.iload_n 3, 1) := by decide +kernel
theorem dX6_best_72 : decode cX6_best 72 = .ok (.ireturn, 1) := by decide +kernel
def m_X6_best_b0 (x1 : Int32) (x3 : Int32) (x4 : Int32) (x5 : Int32) (u6 : zM) : Option ((Int32 × Int32 × Int32 × zM) ⊕ (Int32 × zM)) :=
  (if 3 ≤ x5 then
some (.inr (x3, u6))
else
zlet (zst u6 40 1 x5) (fun u11 => zbind2 (m_X6_fitOf x1 u11) (fun x13 u14 => zbind (m_X6_bits x13) (fun x16 => (if x16 ≤ x4 then
some (.inl (x3, x4, (x5 + 1), u14))
else
some (.inl (x5, x16, (x5 + 1), u14)))))))
def m_X6_best  (u : zM) : Option (Int32 × zM) :=
  zbind (m_X6_hereSet u) (fun x1 => zbind2 (zit zF (fun s : Int32 × Int32 × Int32 × zM => m_X6_best_b0 x1 s.1 s.2.1 s.2.2.1 s.2.2.2) (0, (-1), 0, u)) (fun x7 u8 =>
zlet (zst u8 40 1 (u 40 1)) (fun u19 => some (x7, u19))))
set_option maxHeartbeats 4000000 in
set_option maxRecDepth 100000 in
theorem c_X6_best    (u : zM) (r : Int32) (u' : zM) (h : m_X6_best u = some (r, u')) : zCt 7 yX6_best cX6_best 7 (some .int) (fun E => [.ref (zad E 39)]) u (fun _ => some (.int r)) u' := by
  refine zCt.of (by decide +kernel) (fun E => Nat.le_of_ble_eq_true rfl) (fun X hX hR => ?_)
  have hX : zGood X RX6 cX6_best 7 7 := hX
  show zG X u 0 [(0, .ref (zad X.1 39))] []
  unfold m_X6_best at h
  refine r_aload_n hX dX6_best_0 0 rfl rfl ?_
  obtain ⟨x1, e2, h⟩ := zbind_elim h
  refine r_callV (As := []) (rest := []) (st1 := [.int x1]) hX dX6_best_1 lv_RX6_139 (c_X6_hereSet   u _ e2) (by decide) rfl rfl (zRecv.of (q := 39) (ci := 6) rfl rfl) rfl (Nat.le_of_ble_eq_true rfl) rfl ?_
  refine r_istore_n (y := x1) (L' := [(1, .int x1), (0, .ref (zad X.1 39))]) hX dX6_best_4 rfl (by decide) rfl rfl ?_
  refine r_aload_n hX dX6_best_5 1 rfl rfl ?_
  refine r_getR hX dX6_best_6 f_RX6_9 zr_39_0 ?_
  refine r_iconst (v := 1) hX dX6_best_9 (by decide) ?_
  refine r_ialdC (j := 1) hX dX6_best_10 rfl (by decide +kernel) ?_
  refine r_istore_n (y := (u 40 1)) (L' := [(2, .int (u 40 1)), (1, .int x1), (0, .ref (zad X.1 39))]) hX dX6_best_11 rfl (by decide) rfl rfl ?_
  refine r_iconst (v := 0) hX dX6_best_12 (by decide) ?_
  refine r_istore_n (y := 0) (L' := [(3, .int 0), (2, .int (u 40 1)), (1, .int x1), (0, .ref (zad X.1 39))]) hX dX6_best_13 rfl (by decide) rfl rfl ?_
  refine r_iconst (v := (-1)) hX dX6_best_14 (by decide) ?_
  refine r_istore (y := (-1)) (L' := [(4, .int (-1)), (3, .int 0), (2, .int (u 40 1)), (1, .int x1), (0, .ref (zad X.1 39))]) hX dX6_best_15 (by decide) rfl rfl ?_
  refine r_iconst (v := 0) hX dX6_best_17 (by decide) ?_
  refine r_istore (y := 0) (L' := [(5, .int 0), (4, .int (-1)), (3, .int 0), (2, .int (u 40 1)), (1, .int x1), (0, .ref (zad X.1 39))]) hX dX6_best_18 (by decide) rfl rfl ?_
  refine r_sub [5, 4, 3, 2, 1, 0] (L' := [(0, .ref (zad X.1 39)), (1, .int x1), (2, .int (u 40 1)), (3, .int 0), (4, .int (-1)), (5, .int 0)]) rfl ?_
  obtain ⟨x7, u8, h9, h⟩ := zbind2_elim h
  have Jh9 : zG X u8 64 [(0, .ref (zad X.1 39)), (2, .int (u 40 1)), (3, .int x7)] [] := by
      refine r_aload_n hX dX6_best_64 0 rfl rfl ?_
      refine r_getR hX dX6_best_65 f_RX6_9 zr_39_0 ?_
      refine r_iconst (v := 1) hX dX6_best_68 (by decide) ?_
      refine r_iload_n hX dX6_best_69 1 rfl rfl ?_
      obtain ⟨u19, e20, h⟩ := zlet_elim h
      refine r_iastC (j := 1) hX dX6_best_70 rfl (by decide +kernel) ?_
      rw [e20]
      refine r_iload_n hX dX6_best_71 2 rfl rfl ?_
      obtain ⟨rfl, rfl⟩ := zinj2 (Option.some.inj h)
      exact r_iret hX hR dX6_best_72
  clear h
  refine zit_walk (P := fun s0 : Int32 × Int32 × Int32 × zM => zG X s0.2.2.2 20 [(0, .ref (zad X.1 39)), (1, .int x1), (2, .int (u 40 1)), (3, .int (s0.1)), (4, .int (s0.2.1)), (5, .int (s0.2.2.1))] []) ?_ zF _ h9
  clear h9
  intro s0 y0 h0b hin0 hout0
  obtain ⟨x3, x4, x5, u6⟩ := s0
  have h0b : m_X6_best_b0 x1 x3 x4 x5 u6 = some y0 := h0b
  unfold m_X6_best_b0 at h0b
  show zG X u6 20 [(0, .ref (zad X.1 39)), (1, .int x1), (2, .int (u 40 1)), (3, .int x3), (4, .int x4), (5, .int x5)] []
  refine r_iload hX dX6_best_20 5 rfl ?_
  refine r_iconst (v := 3) hX dX6_best_22 (by decide) ?_
  refine r_icmp_ge (tgt := 64) hX dX6_best_23 (by decide) (fun c10 => ?_) (fun c10 => ?_)
  · have h0b := (if_pos c10).symm.trans h0b
    refine r_sub [0, 2, 3] (L' := [(0, .ref (zad X.1 39)), (2, .int (u 40 1)), (3, .int x3)]) rfl ?_
    have h0b := hout0 _ (Option.some.inj h0b).symm
    obtain ⟨rfl, rfl⟩ := zinj2 h0b
    exact Jh9
  · have h0b := (if_neg c10).symm.trans h0b
    refine r_aload_n hX dX6_best_26 0 rfl rfl ?_
    refine r_getR hX dX6_best_27 f_RX6_9 zr_39_0 ?_
    refine r_iconst (v := 1) hX dX6_best_30 (by decide) ?_
    refine r_iload hX dX6_best_31 5 rfl ?_
    obtain ⟨u11, e12, h0b⟩ := zlet_elim h0b
    refine r_iastC (j := 1) hX dX6_best_33 rfl (by decide +kernel) ?_
    rw [e12]
    refine r_aload_n hX dX6_best_34 0 rfl rfl ?_
    refine r_iload_n hX dX6_best_35 1 rfl rfl ?_
    obtain ⟨x13, u14, e15, h0b⟩ := zbind2_elim h0b
    refine r_callV (As := [.int x1]) (rest := []) (st1 := [.int x13]) hX dX6_best_36 lv_RX6_159 (c_X6_fitOf x1  u11 _ _ e15) (by decide) rfl rfl (zRecv.of (q := 39) (ci := 6) rfl rfl) rfl (Nat.le_of_ble_eq_true rfl) rfl ?_
    obtain ⟨x16, e17, h0b⟩ := zbind_elim h0b
    refine r_callS (As := [.int x13]) (rest := []) (st1 := [.int x16]) hX dX6_best_39 ls_RX6_165 (c_X6_bits x13  u14 _ e17) (by decide) rfl rfl rfl (Nat.le_of_ble_eq_true rfl) rfl ?_
    refine r_istore (y := x16) (L' := [(6, .int x16), (0, .ref (zad X.1 39)), (1, .int x1), (2, .int (u 40 1)), (3, .int x3), (4, .int x4), (5, .int x5)]) hX dX6_best_42 (by decide) rfl rfl ?_
    refine r_iload hX dX6_best_44 0 rfl ?_
    refine r_iload hX dX6_best_46 5 rfl ?_
    refine r_icmp_le (tgt := 58) hX dX6_best_48 (by decide) (fun c18 => ?_) (fun c18 => ?_)
    · have h0b := (if_pos c18).symm.trans h0b
      refine r_iinc (v := (x5 + 1)) (L' := [(5, .int (x5 + 1)), (6, .int x16), (0, .ref (zad X.1 39)), (1, .int x1), (2, .int (u 40 1)), (3, .int x3), (4, .int x4)]) hX dX6_best_58 (by decide) 6 rfl rfl rfl ?_
      refine r_goto (tgt := 20) hX dX6_best_61 (by decide) ?_
      refine r_sub [2, 3, 4, 5, 6, 0] (L' := [(0, .ref (zad X.1 39)), (1, .int x1), (2, .int (u 40 1)), (3, .int x3), (4, .int x4), (5, .int (x5 + 1))]) rfl ?_
      exact hin0 _ (Option.some.inj h0b).symm
    · have h0b := (if_neg c18).symm.trans h0b
      refine r_iload hX dX6_best_51 0 rfl ?_
      refine r_istore (y := x16) (L' := [(4, .int x16), (6, .int x16), (0, .ref (zad X.1 39)), (1, .int x1), (2, .int (u 40 1)), (3, .int x3), (5, .int x5)]) hX dX6_best_53 (by decide) rfl rfl ?_
      refine r_iload hX dX6_best_55 6 rfl ?_
      refine r_istore_n (y := x5) (L' := [(3, .int x5), (4, .int x16), (6, .int x16), (0, .ref (zad X.1 39)), (1, .int x1), (2, .int (u 40 1)), (5, .int x5)]) hX dX6_best_57 rfl (by decide) rfl rfl ?_
      refine r_iinc (v := (x5 + 1)) (L' := [(5, .int (x5 + 1)), (3, .int x5), (4, .int x16), (6, .int x16), (0, .ref (zad X.1 39)), (1, .int x1), (2, .int (u 40 1))]) hX dX6_best_58 (by decide) 6 rfl rfl rfl ?_
      refine r_goto (tgt := 20) hX dX6_best_61 (by decide) ?_
      refine r_sub [4, 5, 6, 1, 2, 0] (L' := [(0, .ref (zad X.1 39)), (1, .int x1), (2, .int (u 40 1)), (3, .int x5), (4, .int x16), (5, .int (x5 + 1))]) rfl ?_
      exact hin0 _ (Option.some.inj h0b).symm
theorem dX6_easeFor_0 : decode cX6_easeFor 0 = .ok (.aload_n 0, 1) := by decide +kernel
theorem dX6_easeFor_1 : decode cX6_easeFor 1 = .ok (.invokevirtual 139, 3) := by decide +kernel
theorem dX6_easeFor_4 : decode cX6_easeFor 4 = .ok (.istore_n 1, 1) := by decide +kernel
theorem dX6_easeFor_5 : decode cX6_easeFor 5 = .ok (.iconst 0, 1) := by decide +kernel
theorem dX6_easeFor_6 : decode cX6_easeFor 6 = .ok (.istore_n 2, 1) := by decide +kernel
theorem dX6_easeFor_7 : decode cX6_easeFor 7 = .ok (.iload_n 1, 1) := by decide +kernel
theorem dX6_easeFor_8 : decode cX6_easeFor 8 = .ok (.ifCond .eq 8, 3) := by decide +kernel
theorem dX6_easeFor_11 : decode cX6_easeFor 11 = .ok (.aload_n 0, 1) := by decide +kernel
theorem dX6_easeFor_12 : decode cX6_easeFor 12 = .ok (.iload_n 1, 1) := by decide +kernel
theorem dX6_easeFor_13 : decode cX6_easeFor 13 = .ok (.invokevirtual 152, 3) := by decide +kernel
theorem dX6_easeFor_16 : decode cX6_easeFor 16 = .ok (.iconst 0, 1) := by decide +kernel
theorem dX6_easeFor_17 : decode cX6_easeFor 17 = .ok (.istore_n 3, 1) := by decide +kernel
theorem dX6_easeFor_18 : decode cX6_easeFor 18 = .ok (.iload_n 3, 1) := by decide +kernel
theorem dX6_easeFor_19 : decode cX6_easeFor 19 = .ok (.aload_n 0, 1) := by decide +kernel
theorem dX6_easeFor_20 : decode cX6_easeFor 20 = .ok (.getfield 9, 3) := by decide +kernel
theorem dX6_easeFor_23 : decode cX6_easeFor 23 = .ok (.iconst 0, 1) := by decide +kernel
theorem dX6_easeFor_24 : decode cX6_easeFor 24 = .ok (.iaload, 1) := by decide +kernel
theorem dX6_easeFor_25 : decode cX6_easeFor 25 = .ok (.if_icmp .ge 31, 3) := by decide +kernel
theorem dX6_easeFor_28 : decode cX6_easeFor 28 = .ok (.iload_n 1, 1) := by decide +kernel
theorem dX6_easeFor_29 : decode cX6_easeFor 29 = .ok (.iload_n 3, 1) := by decide +kernel
theorem dX6_easeFor_30 : decode cX6_easeFor 30 = .ok (.invokestatic 122, 3) := by decide +kernel
theorem dX6_easeFor_33 : decode cX6_easeFor 33 = .ok (.ifCond .eq 15, 3) := by decide +kernel
theorem dX6_easeFor_36 : decode cX6_easeFor 36 = .ok (.iload_n 2, 1) := by decide +kernel
theorem dX6_easeFor_37 : decode cX6_easeFor 37 = .ok (.aload_n 0, 1) := by decide +kernel
theorem dX6_easeFor_38 : decode cX6_easeFor 38 = .ok (.iload_n 3, 1) := by decide +kernel
theorem dX6_easeFor_39 : decode cX6_easeFor 39 = .ok (.invokevirtual 156, 3) := by decide +kernel
theorem dX6_easeFor_42 : decode cX6_easeFor 42 = .ok (.invokestatic 113, 3) := by decide +kernel
theorem dX6_easeFor_45 : decode cX6_easeFor 45 = .ok (.goto 4, 3) := by decide +kernel
theorem dX6_easeFor_48 : decode cX6_easeFor 48 = .ok (.iload_n 2, 1) := by decide +kernel
theorem dX6_easeFor_49 : decode cX6_easeFor 49 = .ok (.istore_n 2, 1) := by decide +kernel
theorem dX6_easeFor_50 : decode cX6_easeFor 50 = .ok (.iinc 3 1, 3) := by decide +kernel
theorem dX6_easeFor_53 : decode cX6_easeFor 53 = .ok (.goto (-35), 3) := by decide +kernel
theorem dX6_easeFor_56 : decode cX6_easeFor 56 = .ok (.iload_n 2, 1) := by decide +kernel
theorem dX6_easeFor_57 : decode cX6_easeFor 57 = .ok (.ireturn, 1) := by decide +kernel
def m_X6_easeFor_b0 (u3 : zM) (x1 : Int32) (x8 : Int32) (x9 : Int32) : Option ((Int32 × Int32) ⊕ (Int32)) :=
  (if (u3 40 0) ≤ x9 then
some (.inr x8)
else
(if (m_X6_has x1 x9) = 0 then
some (.inl (x8, (x9 + 1)))
else
zbind (m_X6_costOf x9 u3) (fun x14 => some (.inl ((zmax x8 x14), (x9 + 1))))))
def m_X6_easeFor  (u : zM) : Option (Int32 × zM) :=
  zbind (m_X6_hereSet u) (fun x1 => zbind ((if x1 = 0 then
some u
else
zbind (m_X6_cut x1 u) (fun u6 => some u6)) : Option (zM)) (fun u3 =>
zbind (zit zF (fun s : Int32 × Int32 => m_X6_easeFor_b0 u3 x1 s.1 s.2) (0, 0)) (fun x10 =>
some (x10, u3))))
set_option maxHeartbeats 4000000 in
set_option maxRecDepth 100000 in
theorem c_X6_easeFor    (u : zM) (r : Int32) (u' : zM) (h : m_X6_easeFor u = some (r, u')) : zCt 6 yX6_easeFor cX6_easeFor 4 (some .int) (fun E => [.ref (zad E 39)]) u (fun _ => some (.int r)) u' := by
  refine zCt.of (by decide +kernel) (fun E => Nat.le_of_ble_eq_true rfl) (fun X hX hR => ?_)
  have hX : zGood X RX6 cX6_easeFor 4 6 := hX
  show zG X u 0 [(0, .ref (zad X.1 39))] []
  unfold m_X6_easeFor at h
  refine r_aload_n hX dX6_easeFor_0 0 rfl rfl ?_
  obtain ⟨x1, e2, h⟩ := zbind_elim h
  refine r_callV (As := []) (rest := []) (st1 := [.int x1]) hX dX6_easeFor_1 lv_RX6_139 (c_X6_hereSet   u _ e2) (by decide) rfl rfl (zRecv.of (q := 39) (ci := 6) rfl rfl) rfl (Nat.le_of_ble_eq_true rfl) rfl ?_
  refine r_istore_n (y := x1) (L' := [(1, .int x1), (0, .ref (zad X.1 39))]) hX dX6_easeFor_4 rfl (by decide) rfl rfl ?_
  refine r_iconst (v := 0) hX dX6_easeFor_5 (by decide) ?_
  refine r_istore_n (y := 0) (L' := [(2, .int 0), (1, .int x1), (0, .ref (zad X.1 39))]) hX dX6_easeFor_6 rfl (by decide) rfl rfl ?_
  refine r_iload_n hX dX6_easeFor_7 1 rfl rfl ?_
  obtain ⟨u3, h4, h⟩ := zbind_elim h
  have Jh4 : zG X u3 16 [(0, .ref (zad X.1 39)), (1, .int x1), (2, .int 0)] [] := by
      refine r_iconst (v := 0) hX dX6_easeFor_16 (by decide) ?_
      refine r_istore_n (y := 0) (L' := [(3, .int 0), (0, .ref (zad X.1 39)), (1, .int x1), (2, .int 0)]) hX dX6_easeFor_17 rfl (by decide) rfl rfl ?_
      refine r_sub [1, 2, 3, 0] (L' := [(0, .ref (zad X.1 39)), (1, .int x1), (2, .int 0), (3, .int 0)]) rfl ?_
      obtain ⟨x10, h11, h⟩ := zbind_elim h
      have Jh11 : zG X u3 56 [(2, .int x10)] [] := by
          refine r_iload_n hX dX6_easeFor_56 0 rfl rfl ?_
          obtain ⟨rfl, rfl⟩ := zinj2 (Option.some.inj h)
          exact r_iret hX hR dX6_easeFor_57
      clear h
      refine zit_walk (P := fun s0 : Int32 × Int32 => zG X u3 18 [(0, .ref (zad X.1 39)), (1, .int x1), (2, .int (s0.1)), (3, .int (s0.2))] []) ?_ zF _ h11
      clear h11
      intro s0 y0 h0b hin0 hout0
      obtain ⟨x8, x9⟩ := s0
      have h0b : m_X6_easeFor_b0 u3 x1 x8 x9 = some y0 := h0b
      unfold m_X6_easeFor_b0 at h0b
      show zG X u3 18 [(0, .ref (zad X.1 39)), (1, .int x1), (2, .int x8), (3, .int x9)] []
      refine r_iload_n hX dX6_easeFor_18 3 rfl rfl ?_
      refine r_aload_n hX dX6_easeFor_19 0 rfl rfl ?_
      refine r_getR hX dX6_easeFor_20 f_RX6_9 zr_39_0 ?_
      refine r_iconst (v := 0) hX dX6_easeFor_23 (by decide) ?_
      refine r_ialdC (j := 0) hX dX6_easeFor_24 rfl (by decide +kernel) ?_
      refine r_icmp_ge (tgt := 56) hX dX6_easeFor_25 (by decide) (fun c12 => ?_) (fun c12 => ?_)
      · have h0b := (if_pos c12).symm.trans h0b
        refine r_sub [2] (L' := [(2, .int x8)]) rfl ?_
        have h0b := hout0 _ (Option.some.inj h0b).symm
        obtain rfl := h0b
        exact Jh11
      · have h0b := (if_neg c12).symm.trans h0b
        refine r_iload_n hX dX6_easeFor_28 1 rfl rfl ?_
        refine r_iload_n hX dX6_easeFor_29 3 rfl rfl ?_
        refine r_callS (As := [.int x1, .int x9]) (rest := []) (st1 := [.int (m_X6_has x1 x9)]) hX dX6_easeFor_30 ls_RX6_122 (c_X6_has x1 x9  u3 _ rfl) (by decide) rfl rfl rfl (Nat.le_of_ble_eq_true rfl) rfl ?_
        refine r_if_eq (tgt := 48) hX dX6_easeFor_33 (by decide) (fun c13 => ?_) (fun c13 => ?_)
        · have h0b := (if_pos c13).symm.trans h0b
          refine r_iload_n hX dX6_easeFor_48 2 rfl rfl ?_
          refine r_istore_n (y := x8) (L' := [(2, .int x8), (0, .ref (zad X.1 39)), (1, .int x1), (3, .int x9)]) hX dX6_easeFor_49 rfl (by decide) rfl rfl ?_
          refine r_iinc (v := (x9 + 1)) (L' := [(3, .int (x9 + 1)), (2, .int x8), (0, .ref (zad X.1 39)), (1, .int x1)]) hX dX6_easeFor_50 (by decide) 3 rfl rfl rfl ?_
          refine r_goto (tgt := 18) hX dX6_easeFor_53 (by decide) ?_
          refine r_sub [2, 3, 1, 0] (L' := [(0, .ref (zad X.1 39)), (1, .int x1), (2, .int x8), (3, .int (x9 + 1))]) rfl ?_
          exact hin0 _ (Option.some.inj h0b).symm
        · have h0b := (if_neg c13).symm.trans h0b
          refine r_iload_n hX dX6_easeFor_36 2 rfl rfl ?_
          refine r_aload_n hX dX6_easeFor_37 0 rfl rfl ?_
          refine r_iload_n hX dX6_easeFor_38 3 rfl rfl ?_
          obtain ⟨x14, e15, h0b⟩ := zbind_elim h0b
          refine r_callV (As := [.int x9]) (rest := [.int x8]) (st1 := [.int x14, .int x8]) hX dX6_easeFor_39 lv_RX6_156 (c_X6_costOf x9  u3 _ e15) (by decide) rfl rfl (zRecv.of (q := 39) (ci := 6) rfl rfl) rfl (Nat.le_of_ble_eq_true rfl) rfl ?_
          refine r_max hX dX6_easeFor_42 lm_RX6_113 (by decide) (Nat.le_of_ble_eq_true rfl) ?_
          refine r_goto (tgt := 49) hX dX6_easeFor_45 (by decide) ?_
          refine r_istore_n (y := (zmax x8 x14)) (L' := [(2, .int (zmax x8 x14)), (0, .ref (zad X.1 39)), (1, .int x1), (3, .int x9)]) hX dX6_easeFor_49 rfl (by decide) rfl rfl ?_
          refine r_iinc (v := (x9 + 1)) (L' := [(3, .int (x9 + 1)), (2, .int (zmax x8 x14)), (0, .ref (zad X.1 39)), (1, .int x1)]) hX dX6_easeFor_50 (by decide) 3 rfl rfl rfl ?_
          refine r_goto (tgt := 18) hX dX6_easeFor_53 (by decide) ?_
          refine r_sub [2, 3, 1, 0] (L' := [(0, .ref (zad X.1 39)), (1, .int x1), (2, .int (zmax x8 x14)), (3, .int (x9 + 1))]) rfl ?_
          exact hin0 _ (Option.some.inj h0b).symm
  clear h
  refine r_if_eq (tgt := 16) hX dX6_easeFor_8 (by decide) (fun c5 => ?_) (fun c5 => ?_)
  · have h4 := (if_pos c5).symm.trans h4
    refine r_sub [2, 1, 0] (L' := [(0, .ref (zad X.1 39)), (1, .int x1), (2, .int 0)]) rfl ?_
    obtain rfl := Option.some.inj h4
    exact Jh4
  · have h4 := (if_neg c5).symm.trans h4
    refine r_aload_n hX dX6_easeFor_11 2 rfl rfl ?_
    refine r_iload_n hX dX6_easeFor_12 1 rfl rfl ?_
    obtain ⟨u6, e7, h4⟩ := zbind_elim h4
    refine r_callV (As := [.int x1]) (rest := []) (st1 := []) hX dX6_easeFor_13 lv_RX6_152 (c_X6_cut x1  u _ e7) (by decide) rfl rfl (zRecv.of (q := 39) (ci := 6) rfl rfl) rfl (Nat.le_of_ble_eq_true rfl) rfl ?_
    refine r_sub [2, 1, 0] (L' := [(0, .ref (zad X.1 39)), (1, .int x1), (2, .int 0)]) rfl ?_
    obtain rfl := Option.some.inj h4
    exact Jh4
theorem dX6_isAway_0 : decode cX6_isAway 0 = .ok (.aload_n 0, 1) := by decide +kernel
theorem dX6_isAway_1 : decode cX6_isAway 1 = .ok (.iload_n 1, 1) := by decide +kernel
theorem dX6_isAway_2 : decode cX6_isAway 2 = .ok (.bipush 6, 2) := by decide +kernel
theorem dX6_isAway_4 : decode cX6_isAway 4 = .ok (.invokevirtual 92, 3) := by decide +kernel
theorem dX6_isAway_7 : decode cX6_isAway 7 = .ok (.ifCond .ne 7, 3) := by decide +kernel
theorem dX6_isAway_10 : decode cX6_isAway 10 = .ok (.iconst 1, 1) := by decide +kernel
theorem dX6_isAway_11 : decode cX6_isAway 11 = .ok (.goto 4, 3) := by decide +kernel
theorem dX6_isAway_14 : decode cX6_isAway 14 = .ok (.iconst 0, 1) := by decide +kernel
theorem dX6_isAway_15 : decode cX6_isAway 15 = .ok (.ireturn, 1) := by decide +kernel
def m_X6_isAway (a1 : Int32) (u : zM) : Option (Int32) :=
  zbind (m_X6_bodyIs a1 6 u) (fun x1 => (if x1 = 0 then
some 1
else
some 0))
set_option maxHeartbeats 4000000 in
set_option maxRecDepth 100000 in
theorem c_X6_isAway (a1 : Int32)   (u : zM) (r : Int32) (h : m_X6_isAway a1 u = some r) : zCt 2 yX6_isAway cX6_isAway 2 (some .boolean) (fun E => [.ref (zad E 39), .int a1]) u (fun _ => some (.int r)) u := by
  refine zCt.of (by decide +kernel) (fun E => Nat.le_of_ble_eq_true rfl) (fun X hX hR => ?_)
  have hX : zGood X RX6 cX6_isAway 2 2 := hX
  show zG X u 0 [(0, .ref (zad X.1 39)), (1, .int a1)] []
  unfold m_X6_isAway at h
  refine r_aload_n hX dX6_isAway_0 0 rfl rfl ?_
  refine r_iload_n hX dX6_isAway_1 1 rfl rfl ?_
  refine r_bipush (v := 6) hX dX6_isAway_2 (by decide) ?_
  obtain ⟨x1, e2, h⟩ := zbind_elim h
  refine r_callV (As := [.int a1, .int 6]) (rest := []) (st1 := [.int x1]) hX dX6_isAway_4 lv_RX6_92 (c_X6_bodyIs a1 6  u _ e2) (by decide) rfl rfl (zRecv.of (q := 39) (ci := 6) rfl rfl) rfl (Nat.le_of_ble_eq_true rfl) rfl ?_
  refine r_if_ne (tgt := 14) hX dX6_isAway_7 (by decide) (fun c3 => ?_) (fun c3 => ?_)
  · have h := (if_neg c3).symm.trans h
    refine r_iconst (v := 0) hX dX6_isAway_14 (by decide) ?_
    obtain rfl := Option.some.inj h
    exact r_zret0 hX hR dX6_isAway_15
  · have h := (if_pos c3).symm.trans h
    refine r_iconst (v := 1) hX dX6_isAway_10 (by decide) ?_
    refine r_goto (tgt := 15) hX dX6_isAway_11 (by decide) ?_
    obtain rfl := Option.some.inj h
    exact r_zret1 hX hR dX6_isAway_15
theorem dX6_sways_0 : decode cX6_sways 0 = .ok (.aload_n 0, 1) := by decide +kernel
theorem dX6_sways_1 : decode cX6_sways 1 = .ok (.iload_n 1, 1) := by decide +kernel
theorem dX6_sways_2 : decode cX6_sways 2 = .ok (.invokevirtual 96, 3) := by decide +kernel
theorem dX6_sways_5 : decode cX6_sways 5 = .ok (.ifCond .eq 10, 3) := by decide +kernel
theorem dX6_sways_8 : decode cX6_sways 8 = .ok (.iload_n 2, 1) := by decide +kernel
theorem dX6_sways_9 : decode cX6_sways 9 = .ok (.invokestatic 136, 3) := by decide +kernel
theorem dX6_sways_12 : decode cX6_sways 12 = .ok (.ifCond .ne 10, 3) := by decide +kernel
theorem dX6_sways_15 : decode cX6_sways 15 = .ok (.aload_n 0, 1) := by decide +kernel
theorem dX6_sways_16 : decode cX6_sways 16 = .ok (.ldc 78, 2) := by decide +kernel
theorem dX6_sways_18 : decode cX6_sways 18 = .ok (.invokevirtual 83, 3) := by decide +kernel
theorem dX6_sways_21 : decode cX6_sways 21 = .ok (.ireturn, 1) := by decide +kernel
theorem dX6_sways_22 : decode cX6_sways 22 = .ok (.aload_n 0, 1) := by decide +kernel
theorem dX6_sways_23 : decode cX6_sways 23 = .ok (.iload_n 1, 1) := by decide +kernel
theorem dX6_sways_24 : decode cX6_sways 24 = .ok (.invokevirtual 168, 3) := by decide +kernel
theorem dX6_sways_27 : decode cX6_sways 27 = .ok (.ifCond .eq 10, 3) := by decide +kernel
theorem dX6_sways_30 : decode cX6_sways 30 = .ok (.aload_n 0, 1) := by decide +kernel
theorem dX6_sways_31 : decode cX6_sways 31 = .ok (.ldc 171, 2) := by decide +kernel
theorem dX6_sways_33 : decode cX6_sways 33 = .ok (.invokevirtual 83, 3) := by decide +kernel
theorem dX6_sways_36 : decode cX6_sways 36 = .ok (.ireturn, 1) := by decide +kernel
theorem dX6_sways_37 : decode cX6_sways 37 = .ok (.bipush 6, 2) := by decide +kernel
theorem dX6_sways_39 : decode cX6_sways 39 = .ok (.bipush 7, 2) := by decide +kernel
theorem dX6_sways_41 : decode cX6_sways 41 = .ok (.iload_n 1, 1) := by decide +kernel
theorem dX6_sways_42 : decode cX6_sways 42 = .ok (.imul, 1) := by decide +kernel
theorem dX6_sways_43 : decode cX6_sways 43 = .ok (.iadd, 1) := by decide +kernel
theorem dX6_sways_44 : decode cX6_sways 44 = .ok (.iconst 1, 1) := by decide +kernel
theorem dX6_sways_45 : decode cX6_sways 45 = .ok (.iadd, 1) := by decide +kernel
theorem dX6_sways_46 : decode cX6_sways 46 = .ok (.iload_n 2, 1) := by decide +kernel
theorem dX6_sways_47 : decode cX6_sways 47 = .ok (.iadd, 1) := by decide +kernel
theorem dX6_sways_48 : decode cX6_sways 48 = .ok (.istore_n 3, 1) := by decide +kernel
theorem dX6_sways_49 : decode cX6_sways 49 = .ok (.aload_n 0, 1) := by decide +kernel
theorem dX6_sways_50 : decode cX6_sways 50 = .ok (.getfield 9, 3) := by decide +kernel
theorem dX6_sways_53 : decode cX6_sways 53 = .ok (.iload_n 3, 1) := by decide +kernel
theorem dX6_sways_54 : decode cX6_sways 54 = .ok (.iaload, 1) := by decide +kernel
theorem dX6_sways_55 : decode cX6_sways 55 = .ok (.istore 4, 2) := by decide +kernel
theorem dX6_sways_57 : decode cX6_sways 57 = .ok (.aload_n 0, 1) := by decide +kernel
theorem dX6_sways_58 : decode cX6_sways 58 = .ok (.invokevirtual 139, 3) := by decide +kernel
theorem dX6_sways_61 : decode cX6_sways 61 = .ok (.istore 5, 2) := by decide +kernel
theorem dX6_sways_63 : decode cX6_sways 63 = .ok (.sipush 9999, 3) := by decide +kernel
theorem dX6_sways_66 : decode cX6_sways 66 = .ok (.istore 6, 2) := by decide +kernel
theorem dX6_sways_68 : decode cX6_sways 68 = .ok (.sipush (-9999), 3) := by decide +kernel
theorem dX6_sways_71 : decode cX6_sways 71 = .ok (.istore 7, 2) := by decide +kernel
theorem dX6_sways_73 : decode cX6_sways 73 = .ok (.bipush 50, 2) := by decide +kernel
theorem dX6_sways_75 : decode cX6_sways 75 = .ok (.istore 8, 2) := by decide +kernel
theorem dX6_sways_77 : decode cX6_sways 77 = .ok (.iload 8, 2) := by decide +kernel
theorem dX6_sways_79 : decode cX6_sways 79 = .ok (.sipush 250, 3) := by decide +kernel
theorem dX6_sways_82 : decode cX6_sways 82 = .ok (.if_icmp .gt 44, 3) := by decide +kernel
theorem dX6_sways_85 : decode cX6_sways 85 = .ok (.aload_n 0, 1) := by decide +kernel
theorem dX6_sways_86 : decode cX6_sways 86 = .ok (.getfield 9, 3) := by decide +kernel
theorem dX6_sways_89 : decode cX6_sways 89 = .ok (.iload_n 3, 1) := by decide +kernel
theorem dX6_sways_90 : decode cX6_sways 90 = .ok (.iload 8, 2) := by decide +kernel
theorem dX6_sways_92 : decode cX6_sways 92 = .ok (.iastore, 1) := by decide +kernel
theorem dX6_sways_93 : decode cX6_sways 93 = .ok (.aload_n 0, 1) := by decide +kernel
theorem dX6_sways_94 : decode cX6_sways 94 = .ok (.iload 5, 2) := by decide +kernel
theorem dX6_sways_96 : decode cX6_sways 96 = .ok (.iload_n 2, 1) := by decide +kernel
theorem dX6_sways_97 : decode cX6_sways 97 = .ok (.invokevirtual 133, 3) := by decide +kernel
theorem dX6_sways_100 : decode cX6_sways 100 = .ok (.istore 9, 2) := by decide +kernel
theorem dX6_sways_102 : decode cX6_sways 102 = .ok (.iload 6, 2) := by decide +kernel
theorem dX6_sways_104 : decode cX6_sways 104 = .ok (.iload 9, 2) := by decide +kernel
theorem dX6_sways_106 : decode cX6_sways 106 = .ok (.invokestatic 172, 3) := by decide +kernel
theorem dX6_sways_109 : decode cX6_sways 109 = .ok (.istore 6, 2) := by decide +kernel
theorem dX6_sways_111 : decode cX6_sways 111 = .ok (.iload 7, 2) := by decide +kernel
theorem dX6_sways_113 : decode cX6_sways 113 = .ok (.iload 9, 2) := by decide +kernel
theorem dX6_sways_115 : decode cX6_sways 115 = .ok (.invokestatic 113, 3) := by decide +kernel
theorem dX6_sways_118 : decode cX6_sways 118 = .ok (.istore 7, 2) := by decide +kernel
theorem dX6_sways_120 : decode cX6_sways 120 = .ok (.iinc 8 1, 3) := by decide +kernel
theorem dX6_sways_123 : decode cX6_sways 123 = .ok (.goto (-46), 3) := by decide +kernel
theorem dX6_sways_126 : decode cX6_sways 126 = .ok (.aload_n 0, 1) := by decide +kernel
theorem dX6_sways_127 : decode cX6_sways 127 = .ok (.getfield 9, 3) := by decide +kernel
theorem dX6_sways_130 : decode cX6_sways 130 = .ok (.iload_n 3, 1) := by decide +kernel
theorem dX6_sways_131 : decode cX6_sways 131 = .ok (.iload 4, 2) := by decide +kernel
theorem dX6_sways_133 : decode cX6_sways 133 = .ok (.iastore, 1) := by decide +kernel
theorem dX6_sways_134 : decode cX6_sways 134 = .ok (.iload 7, 2) := by decide +kernel
theorem dX6_sways_136 : decode cX6_sways 136 = .ok (.iload 6, 2) := by decide +kernel
theorem dX6_sways_138 : decode cX6_sways 138 = .ok (.isub, 1) := by decide +kernel
theorem dX6_sways_139 : decode cX6_sways 139 = .ok (.ireturn, 1) := by decide +kernel
def m_X6_sways_b0 (a1 : Int32) (a2 : Int32) (x11 : Int32) (x13 : Int32) (x14 : Int32) (x15 : Int32) (u16 : zM) : Option ((Int32 × Int32 × Int32 × zM) ⊕ (Int32 × Int32 × zM)) :=
  (if 250 < x15 then
some (.inr (x13, x14, u16))
else
zbind (zsv u16 40 160 (((6 + (7 * a1)) + 1) + a2) x15) (fun u22 => zbind2 (m_X6_cutFor x11 a2 u22) (fun x24 u25 => some (.inl ((zmin x13 x24), (zmax x14 x24), (x15 + 1), u25)))))
def m_X6_sways (a1 : Int32) (a2 : Int32) (u : zM) : Option (Int32 × zM) :=
  (if (m_X6_isBody a1 u) = 0 then
zbind2 (m_X6_finding (-1000001) u) (fun x2 u3 => some (x2, u3))
else
(if (m_X6_isMeasure a2) = 0 then
zbind2 (m_X6_finding (-1000001) u) (fun x32 u33 => some (x32, u33))
else
zbind (m_X6_isAway a1 u) (fun x6 => (if x6 = 0 then
zbind (zld u 40 160 (((6 + (7 * a1)) + 1) + a2)) (fun x9 => zbind (m_X6_hereSet u) (fun x11 => zbind3 (zit zF (fun s : Int32 × Int32 × Int32 × zM => m_X6_sways_b0 a1 a2 x11 s.1 s.2.1 s.2.2.1 s.2.2.2) (9999, (-9999), 50, u)) (fun x17 x18 u19 =>
zbind (zsv u19 40 160 (((6 + (7 * a1)) + 1) + a2) x9) (fun u27 => some ((x18 - x17), u27)))))
else
zbind2 (m_X6_finding (-1000005) u) (fun x29 u30 => some (x29, u30))))))
set_option maxHeartbeats 4000000 in
set_option maxRecDepth 100000 in
theorem c_X6_sways (a1 : Int32) (a2 : Int32)   (u : zM) (r : Int32) (u' : zM) (h : m_X6_sways a1 a2 u = some (r, u')) : zCt 5 yX6_sways cX6_sways 10 (some .int) (fun E => [.ref (zad E 39), .int a1, .int a2]) u (fun _ => some (.int r)) u' := by
  refine zCt.of (by decide +kernel) (fun E => Nat.le_of_ble_eq_true rfl) (fun X hX hR => ?_)
  have hX : zGood X RX6 cX6_sways 10 5 := hX
  show zG X u 0 [(0, .ref (zad X.1 39)), (1, .int a1), (2, .int a2)] []
  unfold m_X6_sways at h
  refine r_aload_n hX dX6_sways_0 0 rfl rfl ?_
  refine r_iload_n hX dX6_sways_1 1 rfl rfl ?_
  refine r_callV (As := [.int a1]) (rest := []) (st1 := [.int (m_X6_isBody a1 u)]) hX dX6_sways_2 lv_RX6_96 (c_X6_isBody a1  u _ rfl) (by decide) rfl rfl (zRecv.of (q := 39) (ci := 6) rfl rfl) rfl (Nat.le_of_ble_eq_true rfl) rfl ?_
  refine r_if_eq (tgt := 15) hX dX6_sways_5 (by decide) (fun c1 => ?_) (fun c1 => ?_)
  · have h := (if_pos c1).symm.trans h
    refine r_aload_n hX dX6_sways_15 0 rfl rfl ?_
    refine r_ldc (v := (-1000001)) hX dX6_sways_16 (zT_in 1041 (by decide +kernel) rfl) ?_
    obtain ⟨x2, u3, e4, h⟩ := zbind2_elim h
    refine r_callV (As := [.int (-1000001)]) (rest := []) (st1 := [.int x2]) hX dX6_sways_18 lv_RX6_83 (c_X6_finding (-1000001)  u _ _ e4) (by decide) rfl rfl (zRecv.of (q := 39) (ci := 6) rfl rfl) rfl (Nat.le_of_ble_eq_true rfl) rfl ?_
    obtain ⟨rfl, rfl⟩ := zinj2 (Option.some.inj h)
    exact r_iret hX hR dX6_sways_21
  · have h := (if_neg c1).symm.trans h
    refine r_iload_n hX dX6_sways_8 2 rfl rfl ?_
    refine r_callS (As := [.int a2]) (rest := []) (st1 := [.int (m_X6_isMeasure a2)]) hX dX6_sways_9 ls_RX6_136 (c_X6_isMeasure a2  u _ rfl) (by decide) rfl rfl rfl (Nat.le_of_ble_eq_true rfl) rfl ?_
    refine r_if_ne (tgt := 22) hX dX6_sways_12 (by decide) (fun c5 => ?_) (fun c5 => ?_)
    · have h := (if_neg c5).symm.trans h
      refine r_aload_n hX dX6_sways_22 0 rfl rfl ?_
      refine r_iload_n hX dX6_sways_23 1 rfl rfl ?_
      obtain ⟨x6, e7, h⟩ := zbind_elim h
      refine r_callV (As := [.int a1]) (rest := []) (st1 := [.int x6]) hX dX6_sways_24 lv_RX6_168 (c_X6_isAway a1  u _ e7) (by decide) rfl rfl (zRecv.of (q := 39) (ci := 6) rfl rfl) rfl (Nat.le_of_ble_eq_true rfl) rfl ?_
      refine r_if_eq (tgt := 37) hX dX6_sways_27 (by decide) (fun c8 => ?_) (fun c8 => ?_)
      · have h := (if_pos c8).symm.trans h
        refine r_bipush (v := 6) hX dX6_sways_37 (by decide) ?_
        refine r_bipush (v := 7) hX dX6_sways_39 (by decide) ?_
        refine r_iload_n hX dX6_sways_41 1 rfl rfl ?_
        refine r_imul hX dX6_sways_42 ?_
        refine r_iadd hX dX6_sways_43 ?_
        refine r_iconst (v := 1) hX dX6_sways_44 (by decide) ?_
        refine r_iadd hX dX6_sways_45 ?_
        refine r_iload_n hX dX6_sways_46 2 rfl rfl ?_
        refine r_iadd hX dX6_sways_47 ?_
        refine r_istore_n (y := (((6 + (7 * a1)) + 1) + a2)) (L' := [(3, .int (((6 + (7 * a1)) + 1) + a2)), (0, .ref (zad X.1 39)), (1, .int a1), (2, .int a2)]) hX dX6_sways_48 rfl (by decide) rfl rfl ?_
        refine r_aload_n hX dX6_sways_49 1 rfl rfl ?_
        refine r_getR hX dX6_sways_50 f_RX6_9 zr_39_0 ?_
        refine r_iload_n hX dX6_sways_53 0 rfl rfl ?_
        obtain ⟨x9, e10, h⟩ := zbind_elim h
        refine r_iald hX dX6_sways_54 rfl e10 ?_
        refine r_istore (y := x9) (L' := [(4, .int x9), (3, .int (((6 + (7 * a1)) + 1) + a2)), (0, .ref (zad X.1 39)), (1, .int a1), (2, .int a2)]) hX dX6_sways_55 (by decide) rfl rfl ?_
        refine r_aload_n hX dX6_sways_57 2 rfl rfl ?_
        obtain ⟨x11, e12, h⟩ := zbind_elim h
        refine r_callV (As := []) (rest := []) (st1 := [.int x11]) hX dX6_sways_58 lv_RX6_139 (c_X6_hereSet   u _ e12) (by decide) rfl rfl (zRecv.of (q := 39) (ci := 6) rfl rfl) rfl (Nat.le_of_ble_eq_true rfl) rfl ?_
        refine r_istore (y := x11) (L' := [(5, .int x11), (4, .int x9), (3, .int (((6 + (7 * a1)) + 1) + a2)), (0, .ref (zad X.1 39)), (1, .int a1), (2, .int a2)]) hX dX6_sways_61 (by decide) rfl rfl ?_
        refine r_sipush (v := 9999) hX dX6_sways_63 (by decide) ?_
        refine r_istore (y := 9999) (L' := [(6, .int 9999), (5, .int x11), (4, .int x9), (3, .int (((6 + (7 * a1)) + 1) + a2)), (0, .ref (zad X.1 39)), (1, .int a1), (2, .int a2)]) hX dX6_sways_66 (by decide) rfl rfl ?_
        refine r_sipush (v := (-9999)) hX dX6_sways_68 (by decide) ?_
        refine r_istore (y := (-9999)) (L' := [(7, .int (-9999)), (6, .int 9999), (5, .int x11), (4, .int x9), (3, .int (((6 + (7 * a1)) + 1) + a2)), (0, .ref (zad X.1 39)), (1, .int a1), (2, .int a2)]) hX dX6_sways_71 (by decide) rfl rfl ?_
        refine r_bipush (v := 50) hX dX6_sways_73 (by decide) ?_
        refine r_istore (y := 50) (L' := [(8, .int 50), (7, .int (-9999)), (6, .int 9999), (5, .int x11), (4, .int x9), (3, .int (((6 + (7 * a1)) + 1) + a2)), (0, .ref (zad X.1 39)), (1, .int a1), (2, .int a2)]) hX dX6_sways_75 (by decide) rfl rfl ?_
        refine r_sub [6, 8, 5, 4, 3, 2, 1, 0] (L' := [(0, .ref (zad X.1 39)), (2, .int a2), (3, .int (((6 + (7 * a1)) + 1) + a2)), (4, .int x9), (5, .int x11), (6, .int 9999), (7, .int (-9999)), (8, .int 50)]) rfl ?_
        obtain ⟨x17, x18, u19, h20, h⟩ := zbind3_elim h
        have Jh20 : zG X u19 126 [(0, .ref (zad X.1 39)), (3, .int (((6 + (7 * a1)) + 1) + a2)), (4, .int x9), (6, .int x17), (7, .int x18)] [] := by
            refine r_aload_n hX dX6_sways_126 0 rfl rfl ?_
            refine r_getR hX dX6_sways_127 f_RX6_9 zr_39_0 ?_
            refine r_iload_n hX dX6_sways_130 1 rfl rfl ?_
            refine r_iload hX dX6_sways_131 2 rfl ?_
            obtain ⟨u27, e28, h⟩ := zbind_elim h
            refine r_iast hX dX6_sways_133 rfl e28 ?_
            refine r_iload hX dX6_sways_134 4 rfl ?_
            refine r_iload hX dX6_sways_136 3 rfl ?_
            refine r_isub hX dX6_sways_138 ?_
            obtain ⟨rfl, rfl⟩ := zinj2 (Option.some.inj h)
            exact r_iret hX hR dX6_sways_139
        clear h
        refine zit_walk (P := fun s0 : Int32 × Int32 × Int32 × zM => zG X s0.2.2.2 77 [(0, .ref (zad X.1 39)), (2, .int a2), (3, .int (((6 + (7 * a1)) + 1) + a2)), (4, .int x9), (5, .int x11), (6, .int (s0.1)), (7, .int (s0.2.1)), (8, .int (s0.2.2.1))] []) ?_ zF _ h20
        clear h20
        intro s0 y0 h0b hin0 hout0
        obtain ⟨x13, x14, x15, u16⟩ := s0
        have h0b : m_X6_sways_b0 a1 a2 x11 x13 x14 x15 u16 = some y0 := h0b
        unfold m_X6_sways_b0 at h0b
        show zG X u16 77 [(0, .ref (zad X.1 39)), (2, .int a2), (3, .int (((6 + (7 * a1)) + 1) + a2)), (4, .int x9), (5, .int x11), (6, .int x13), (7, .int x14), (8, .int x15)] []
        refine r_iload hX dX6_sways_77 7 rfl ?_
        refine r_sipush (v := 250) hX dX6_sways_79 (by decide) ?_
        refine r_icmp_gt (tgt := 126) hX dX6_sways_82 (by decide) (fun c21 => ?_) (fun c21 => ?_)
        · have h0b := (if_pos c21).symm.trans h0b
          refine r_sub [0, 2, 3, 5, 6] (L' := [(0, .ref (zad X.1 39)), (3, .int (((6 + (7 * a1)) + 1) + a2)), (4, .int x9), (6, .int x13), (7, .int x14)]) rfl ?_
          have h0b := hout0 _ (Option.some.inj h0b).symm
          obtain ⟨rfl, rfl, rfl⟩ := zinj3 h0b
          exact Jh20
        · have h0b := (if_neg c21).symm.trans h0b
          refine r_aload_n hX dX6_sways_85 0 rfl rfl ?_
          refine r_getR hX dX6_sways_86 f_RX6_9 zr_39_0 ?_
          refine r_iload_n hX dX6_sways_89 2 rfl rfl ?_
          refine r_iload hX dX6_sways_90 7 rfl ?_
          obtain ⟨u22, e23, h0b⟩ := zbind_elim h0b
          refine r_iast hX dX6_sways_92 rfl e23 ?_
          refine r_aload_n hX dX6_sways_93 0 rfl rfl ?_
          refine r_iload hX dX6_sways_94 4 rfl ?_
          refine r_iload_n hX dX6_sways_96 1 rfl rfl ?_
          obtain ⟨x24, u25, e26, h0b⟩ := zbind2_elim h0b
          refine r_callV (As := [.int x11, .int a2]) (rest := []) (st1 := [.int x24]) hX dX6_sways_97 lv_RX6_133 (c_X6_cutFor x11 a2  u22 _ _ e26) (by decide) rfl rfl (zRecv.of (q := 39) (ci := 6) rfl rfl) rfl (Nat.le_of_ble_eq_true rfl) rfl ?_
          refine r_istore (y := x24) (L' := [(9, .int x24), (0, .ref (zad X.1 39)), (2, .int a2), (3, .int (((6 + (7 * a1)) + 1) + a2)), (4, .int x9), (5, .int x11), (6, .int x13), (7, .int x14), (8, .int x15)]) hX dX6_sways_100 (by decide) rfl rfl ?_
          refine r_iload hX dX6_sways_102 6 rfl ?_
          refine r_iload hX dX6_sways_104 0 rfl ?_
          refine r_min hX dX6_sways_106 lm_RX6_172 (by decide) (Nat.le_of_ble_eq_true rfl) ?_
          refine r_istore (y := (zmin x13 x24)) (L' := [(6, .int (zmin x13 x24)), (9, .int x24), (0, .ref (zad X.1 39)), (2, .int a2), (3, .int (((6 + (7 * a1)) + 1) + a2)), (4, .int x9), (5, .int x11), (7, .int x14), (8, .int x15)]) hX dX6_sways_109 (by decide) rfl rfl ?_
          refine r_iload hX dX6_sways_111 7 rfl ?_
          refine r_iload hX dX6_sways_113 1 rfl ?_
          refine r_max hX dX6_sways_115 lm_RX6_113 (by decide) (Nat.le_of_ble_eq_true rfl) ?_
          refine r_istore (y := (zmax x14 x24)) (L' := [(7, .int (zmax x14 x24)), (6, .int (zmin x13 x24)), (9, .int x24), (0, .ref (zad X.1 39)), (2, .int a2), (3, .int (((6 + (7 * a1)) + 1) + a2)), (4, .int x9), (5, .int x11), (8, .int x15)]) hX dX6_sways_118 (by decide) rfl rfl ?_
          refine r_iinc (v := (x15 + 1)) (L' := [(8, .int (x15 + 1)), (7, .int (zmax x14 x24)), (6, .int (zmin x13 x24)), (9, .int x24), (0, .ref (zad X.1 39)), (2, .int a2), (3, .int (((6 + (7 * a1)) + 1) + a2)), (4, .int x9), (5, .int x11)]) hX dX6_sways_120 (by decide) 8 rfl rfl rfl ?_
          refine r_goto (tgt := 77) hX dX6_sways_123 (by decide) ?_
          refine r_sub [4, 5, 6, 7, 8, 2, 1, 0] (L' := [(0, .ref (zad X.1 39)), (2, .int a2), (3, .int (((6 + (7 * a1)) + 1) + a2)), (4, .int x9), (5, .int x11), (6, .int (zmin x13 x24)), (7, .int (zmax x14 x24)), (8, .int (x15 + 1))]) rfl ?_
          exact hin0 _ (Option.some.inj h0b).symm
      · have h := (if_neg c8).symm.trans h
        refine r_aload_n hX dX6_sways_30 0 rfl rfl ?_
        refine r_ldc (v := (-1000005)) hX dX6_sways_31 (zT_in 1213 (by decide +kernel) rfl) ?_
        obtain ⟨x29, u30, e31, h⟩ := zbind2_elim h
        refine r_callV (As := [.int (-1000005)]) (rest := []) (st1 := [.int x29]) hX dX6_sways_33 lv_RX6_83 (c_X6_finding (-1000005)  u _ _ e31) (by decide) rfl rfl (zRecv.of (q := 39) (ci := 6) rfl rfl) rfl (Nat.le_of_ble_eq_true rfl) rfl ?_
        obtain ⟨rfl, rfl⟩ := zinj2 (Option.some.inj h)
        exact r_iret hX hR dX6_sways_36
    · have h := (if_pos c5).symm.trans h
      refine r_aload_n hX dX6_sways_15 0 rfl rfl ?_
      refine r_ldc (v := (-1000001)) hX dX6_sways_16 (zT_in 1041 (by decide +kernel) rfl) ?_
      obtain ⟨x32, u33, e34, h⟩ := zbind2_elim h
      refine r_callV (As := [.int (-1000001)]) (rest := []) (st1 := [.int x32]) hX dX6_sways_18 lv_RX6_83 (c_X6_finding (-1000001)  u _ _ e34) (by decide) rfl rfl (zRecv.of (q := 39) (ci := 6) rfl rfl) rfl (Nat.le_of_ble_eq_true rfl) rfl ?_
      obtain ⟨rfl, rfl⟩ := zinj2 (Option.some.inj h)
      exact r_iret hX hR dX6_sways_21
