/-! MODELS AND CONTRACTS, by program (wip/whole/gen_all.py): X6_keepBribes, X6_round, X6_rounds, X6_settles, X6_spring, X6_isSpring, X6_old -/
theorem dX6_keepBribes_0 : decode cX6_keepBribes 0 = .ok (.iconst 0, 1) := by decide +kernel
theorem dX6_keepBribes_1 : decode cX6_keepBribes 1 = .ok (.istore_n 1, 1) := by decide +kernel
theorem dX6_keepBribes_2 : decode cX6_keepBribes 2 = .ok (.iload_n 1, 1) := by decide +kernel
theorem dX6_keepBribes_3 : decode cX6_keepBribes 3 = .ok (.bipush 12, 2) := by decide +kernel
theorem dX6_keepBribes_5 : decode cX6_keepBribes 5 = .ok (.if_icmp .ge 21, 3) := by decide +kernel
theorem dX6_keepBribes_8 : decode cX6_keepBribes 8 = .ok (.aload_n 0, 1) := by decide +kernel
theorem dX6_keepBribes_9 : decode cX6_keepBribes 9 = .ok (.getfield 28, 3) := by decide +kernel
theorem dX6_keepBribes_12 : decode cX6_keepBribes 12 = .ok (.iload_n 1, 1) := by decide +kernel
theorem dX6_keepBribes_13 : decode cX6_keepBribes 13 = .ok (.aload_n 0, 1) := by decide +kernel
theorem dX6_keepBribes_14 : decode cX6_keepBribes 14 = .ok (.iload_n 1, 1) := by decide +kernel
theorem dX6_keepBribes_15 : decode cX6_keepBribes 15 = .ok (.iconst 4, 1) := by decide +kernel
theorem dX6_keepBribes_16 : decode cX6_keepBribes 16 = .ok (.invokevirtual 92, 3) := by decide +kernel
theorem dX6_keepBribes_19 : decode cX6_keepBribes 19 = .ok (.iastore, 1) := by decide +kernel
theorem dX6_keepBribes_20 : decode cX6_keepBribes 20 = .ok (.iinc 1 1, 3) := by decide +kernel
theorem dX6_keepBribes_23 : decode cX6_keepBribes 23 = .ok (.goto (-21), 3) := by decide +kernel
theorem dX6_keepBribes_26 : decode cX6_keepBribes 26 = .ok (.return_, 1) := by decide +kernel
def m_X6_keepBribes_b0  (x1 : Int32) (u2 : zM) : Option ((Int32 × zM) ⊕ (zM)) :=
  (if 12 ≤ x1 then
some (.inr u2)
else
zbind (m_X6_bodyIs x1 4 u2) (fun x6 => zbind (zsv u2 46 12 x1 x6) (fun u8 => some (.inl ((x1 + 1), u8)))))
def m_X6_keepBribes  (u : zM) : Option (zM) :=
  zbind (zit zF (fun s : Int32 × zM => m_X6_keepBribes_b0 s.1 s.2) (0, u)) (fun u3 =>
some u3)
set_option maxHeartbeats 4000000 in
set_option maxRecDepth 100000 in
theorem c_X6_keepBribes    (u : zM) (u' : zM) (h : m_X6_keepBribes u = some (u')) : zCt 2 yX6_keepBribes cX6_keepBribes 2 none (fun E => [.ref (zad E 39)]) u (fun _ => none) u' := by
  refine zCt.of (by decide +kernel) (fun E => Nat.le_of_ble_eq_true rfl) (fun X hX hR => ?_)
  have hX : zGood X RX6 cX6_keepBribes 2 2 := hX
  show zG X u 0 [(0, .ref (zad X.1 39))] []
  unfold m_X6_keepBribes at h
  refine r_iconst (v := 0) hX dX6_keepBribes_0 (by decide) ?_
  refine r_istore_n (y := 0) (L' := [(1, .int 0), (0, .ref (zad X.1 39))]) hX dX6_keepBribes_1 rfl (by decide) rfl rfl ?_
  refine r_sub [1, 0] (L' := [(0, .ref (zad X.1 39)), (1, .int 0)]) rfl ?_
  obtain ⟨u3, h4, h⟩ := zbind_elim h
  have Jh4 : zG X u3 26 [] [] := by
      obtain rfl := Option.some.inj h
      exact r_vret hX hR dX6_keepBribes_26
  clear h
  refine zit_walk (P := fun s0 : Int32 × zM => zG X s0.2 2 [(0, .ref (zad X.1 39)), (1, .int (s0.1))] []) ?_ zF _ h4
  clear h4
  intro s0 y0 h0b hin0 hout0
  obtain ⟨x1, u2⟩ := s0
  have h0b : m_X6_keepBribes_b0 x1 u2 = some y0 := h0b
  unfold m_X6_keepBribes_b0 at h0b
  show zG X u2 2 [(0, .ref (zad X.1 39)), (1, .int x1)] []
  refine r_iload_n hX dX6_keepBribes_2 1 rfl rfl ?_
  refine r_bipush (v := 12) hX dX6_keepBribes_3 (by decide) ?_
  refine r_icmp_ge (tgt := 26) hX dX6_keepBribes_5 (by decide) (fun c5 => ?_) (fun c5 => ?_)
  · have h0b := (if_pos c5).symm.trans h0b
    refine r_sub [] (L' := []) rfl ?_
    have h0b := hout0 _ (Option.some.inj h0b).symm
    obtain rfl := h0b
    exact Jh4
  · have h0b := (if_neg c5).symm.trans h0b
    refine r_aload_n hX dX6_keepBribes_8 0 rfl rfl ?_
    refine r_getR hX dX6_keepBribes_9 f_RX6_28 zr_39_8 ?_
    refine r_iload_n hX dX6_keepBribes_12 1 rfl rfl ?_
    refine r_aload_n hX dX6_keepBribes_13 0 rfl rfl ?_
    refine r_iload_n hX dX6_keepBribes_14 1 rfl rfl ?_
    refine r_iconst (v := 4) hX dX6_keepBribes_15 (by decide) ?_
    obtain ⟨x6, e7, h0b⟩ := zbind_elim h0b
    refine r_callV (As := [.int x1, .int 4]) (rest := [.int x1, .ref (zad X.1 46)]) (st1 := [.int x6, .int x1, .ref (zad X.1 46)]) hX dX6_keepBribes_16 lv_RX6_92 (c_X6_bodyIs x1 4  u2 _ e7) (by decide) rfl rfl (zRecv.of (q := 39) (ci := 6) rfl rfl) rfl (Nat.le_of_ble_eq_true rfl) rfl ?_
    obtain ⟨u8, e9, h0b⟩ := zbind_elim h0b
    refine r_iast hX dX6_keepBribes_19 rfl e9 ?_
    refine r_iinc (v := (x1 + 1)) (L' := [(1, .int (x1 + 1)), (0, .ref (zad X.1 39))]) hX dX6_keepBribes_20 (by decide) 1 rfl rfl rfl ?_
    refine r_goto (tgt := 2) hX dX6_keepBribes_23 (by decide) ?_
    refine r_sub [1, 0] (L' := [(0, .ref (zad X.1 39)), (1, .int (x1 + 1))]) rfl ?_
    exact hin0 _ (Option.some.inj h0b).symm
theorem dX6_round_0 : decode cX6_round 0 = .ok (.iconst 0, 1) := by decide +kernel
theorem dX6_round_1 : decode cX6_round 1 = .ok (.istore_n 1, 1) := by decide +kernel
theorem dX6_round_2 : decode cX6_round 2 = .ok (.iload_n 1, 1) := by decide +kernel
theorem dX6_round_3 : decode cX6_round 3 = .ok (.aload_n 0, 1) := by decide +kernel
theorem dX6_round_4 : decode cX6_round 4 = .ok (.getfield 9, 3) := by decide +kernel
theorem dX6_round_7 : decode cX6_round 7 = .ok (.iconst 0, 1) := by decide +kernel
theorem dX6_round_8 : decode cX6_round 8 = .ok (.iaload, 1) := by decide +kernel
theorem dX6_round_9 : decode cX6_round 9 = .ok (.if_icmp .ge 36, 3) := by decide +kernel
theorem dX6_round_12 : decode cX6_round 12 = .ok (.aload_n 0, 1) := by decide +kernel
theorem dX6_round_13 : decode cX6_round 13 = .ok (.iload_n 1, 1) := by decide +kernel
theorem dX6_round_14 : decode cX6_round 14 = .ok (.invokevirtual 178, 3) := by decide +kernel
theorem dX6_round_17 : decode cX6_round 17 = .ok (.ifCond .eq 22, 3) := by decide +kernel
theorem dX6_round_20 : decode cX6_round 20 = .ok (.aload_n 0, 1) := by decide +kernel
theorem dX6_round_21 : decode cX6_round 21 = .ok (.getfield 9, 3) := by decide +kernel
theorem dX6_round_24 : decode cX6_round 24 = .ok (.bipush 6, 2) := by decide +kernel
theorem dX6_round_26 : decode cX6_round 26 = .ok (.bipush 7, 2) := by decide +kernel
theorem dX6_round_28 : decode cX6_round 28 = .ok (.iload_n 1, 1) := by decide +kernel
theorem dX6_round_29 : decode cX6_round 29 = .ok (.imul, 1) := by decide +kernel
theorem dX6_round_30 : decode cX6_round 30 = .ok (.iadd, 1) := by decide +kernel
theorem dX6_round_31 : decode cX6_round 31 = .ok (.iconst 4, 1) := by decide +kernel
theorem dX6_round_32 : decode cX6_round 32 = .ok (.iadd, 1) := by decide +kernel
theorem dX6_round_33 : decode cX6_round 33 = .ok (.aload_n 0, 1) := by decide +kernel
theorem dX6_round_34 : decode cX6_round 34 = .ok (.iload_n 1, 1) := by decide +kernel
theorem dX6_round_35 : decode cX6_round 35 = .ok (.invokevirtual 181, 3) := by decide +kernel
theorem dX6_round_38 : decode cX6_round 38 = .ok (.iastore, 1) := by decide +kernel
theorem dX6_round_39 : decode cX6_round 39 = .ok (.iinc 1 1, 3) := by decide +kernel
theorem dX6_round_42 : decode cX6_round 42 = .ok (.goto (-40), 3) := by decide +kernel
theorem dX6_round_45 : decode cX6_round 45 = .ok (.return_, 1) := by decide +kernel
def m_X6_round_b0  (x1 : Int32) (u2 : zM) : Option ((Int32 × zM) ⊕ (zM)) :=
  (if (u2 40 0) ≤ x1 then
some (.inr u2)
else
zbind (m_X6_doesBribe x1 u2) (fun x6 => (if x6 = 0 then
some (.inl ((x1 + 1), u2))
else
zbind2 (m_X6_bribeOf x1 u2) (fun x9 u10 => zbind (zsv u10 40 160 ((6 + (7 * x1)) + 4) x9) (fun u12 => some (.inl ((x1 + 1), u12)))))))
def m_X6_round  (u : zM) : Option (zM) :=
  zbind (zit zF (fun s : Int32 × zM => m_X6_round_b0 s.1 s.2) (0, u)) (fun u3 =>
some u3)
set_option maxHeartbeats 4000000 in
set_option maxRecDepth 100000 in
theorem c_X6_round    (u : zM) (u' : zM) (h : m_X6_round u = some (u')) : zCt 8 yX6_round cX6_round 2 none (fun E => [.ref (zad E 39)]) u (fun _ => none) u' := by
  refine zCt.of (by decide +kernel) (fun E => Nat.le_of_ble_eq_true rfl) (fun X hX hR => ?_)
  have hX : zGood X RX6 cX6_round 2 8 := hX
  show zG X u 0 [(0, .ref (zad X.1 39))] []
  unfold m_X6_round at h
  refine r_iconst (v := 0) hX dX6_round_0 (by decide) ?_
  refine r_istore_n (y := 0) (L' := [(1, .int 0), (0, .ref (zad X.1 39))]) hX dX6_round_1 rfl (by decide) rfl rfl ?_
  refine r_sub [1, 0] (L' := [(0, .ref (zad X.1 39)), (1, .int 0)]) rfl ?_
  obtain ⟨u3, h4, h⟩ := zbind_elim h
  have Jh4 : zG X u3 45 [] [] := by
      obtain rfl := Option.some.inj h
      exact r_vret hX hR dX6_round_45
  clear h
  refine zit_walk (P := fun s0 : Int32 × zM => zG X s0.2 2 [(0, .ref (zad X.1 39)), (1, .int (s0.1))] []) ?_ zF _ h4
  clear h4
  intro s0 y0 h0b hin0 hout0
  obtain ⟨x1, u2⟩ := s0
  have h0b : m_X6_round_b0 x1 u2 = some y0 := h0b
  unfold m_X6_round_b0 at h0b
  show zG X u2 2 [(0, .ref (zad X.1 39)), (1, .int x1)] []
  refine r_iload_n hX dX6_round_2 1 rfl rfl ?_
  refine r_aload_n hX dX6_round_3 0 rfl rfl ?_
  refine r_getR hX dX6_round_4 f_RX6_9 zr_39_0 ?_
  refine r_iconst (v := 0) hX dX6_round_7 (by decide) ?_
  refine r_ialdC (j := 0) hX dX6_round_8 rfl (by decide +kernel) ?_
  refine r_icmp_ge (tgt := 45) hX dX6_round_9 (by decide) (fun c5 => ?_) (fun c5 => ?_)
  · have h0b := (if_pos c5).symm.trans h0b
    refine r_sub [] (L' := []) rfl ?_
    have h0b := hout0 _ (Option.some.inj h0b).symm
    obtain rfl := h0b
    exact Jh4
  · have h0b := (if_neg c5).symm.trans h0b
    refine r_aload_n hX dX6_round_12 0 rfl rfl ?_
    refine r_iload_n hX dX6_round_13 1 rfl rfl ?_
    obtain ⟨x6, e7, h0b⟩ := zbind_elim h0b
    refine r_callV (As := [.int x1]) (rest := []) (st1 := [.int x6]) hX dX6_round_14 lv_RX6_178 (c_X6_doesBribe x1  u2 _ e7) (by decide) rfl rfl (zRecv.of (q := 39) (ci := 6) rfl rfl) rfl (Nat.le_of_ble_eq_true rfl) rfl ?_
    refine r_if_eq (tgt := 39) hX dX6_round_17 (by decide) (fun c8 => ?_) (fun c8 => ?_)
    · have h0b := (if_pos c8).symm.trans h0b
      refine r_iinc (v := (x1 + 1)) (L' := [(1, .int (x1 + 1)), (0, .ref (zad X.1 39))]) hX dX6_round_39 (by decide) 1 rfl rfl rfl ?_
      refine r_goto (tgt := 2) hX dX6_round_42 (by decide) ?_
      refine r_sub [1, 0] (L' := [(0, .ref (zad X.1 39)), (1, .int (x1 + 1))]) rfl ?_
      exact hin0 _ (Option.some.inj h0b).symm
    · have h0b := (if_neg c8).symm.trans h0b
      refine r_aload_n hX dX6_round_20 0 rfl rfl ?_
      refine r_getR hX dX6_round_21 f_RX6_9 zr_39_0 ?_
      refine r_bipush (v := 6) hX dX6_round_24 (by decide) ?_
      refine r_bipush (v := 7) hX dX6_round_26 (by decide) ?_
      refine r_iload_n hX dX6_round_28 1 rfl rfl ?_
      refine r_imul hX dX6_round_29 ?_
      refine r_iadd hX dX6_round_30 ?_
      refine r_iconst (v := 4) hX dX6_round_31 (by decide) ?_
      refine r_iadd hX dX6_round_32 ?_
      refine r_aload_n hX dX6_round_33 0 rfl rfl ?_
      refine r_iload_n hX dX6_round_34 1 rfl rfl ?_
      obtain ⟨x9, u10, e11, h0b⟩ := zbind2_elim h0b
      refine r_callV (As := [.int x1]) (rest := [.int ((6 + (7 * x1)) + 4), .ref (zad X.1 40)]) (st1 := [.int x9, .int ((6 + (7 * x1)) + 4), .ref (zad X.1 40)]) hX dX6_round_35 lv_RX6_181 (c_X6_bribeOf x1  u2 _ _ e11) (by decide) rfl rfl (zRecv.of (q := 39) (ci := 6) rfl rfl) rfl (Nat.le_of_ble_eq_true rfl) rfl ?_
      obtain ⟨u12, e13, h0b⟩ := zbind_elim h0b
      refine r_iast hX dX6_round_38 rfl e13 ?_
      refine r_iinc (v := (x1 + 1)) (L' := [(1, .int (x1 + 1)), (0, .ref (zad X.1 39))]) hX dX6_round_39 (by decide) 1 rfl rfl rfl ?_
      refine r_goto (tgt := 2) hX dX6_round_42 (by decide) ?_
      refine r_sub [1, 0] (L' := [(0, .ref (zad X.1 39)), (1, .int (x1 + 1))]) rfl ?_
      exact hin0 _ (Option.some.inj h0b).symm
theorem dX6_rounds_0 : decode cX6_rounds 0 = .ok (.iload_n 1, 1) := by decide +kernel
theorem dX6_rounds_1 : decode cX6_rounds 1 = .ok (.iconst 1, 1) := by decide +kernel
theorem dX6_rounds_2 : decode cX6_rounds 2 = .ok (.bipush 20, 2) := by decide +kernel
theorem dX6_rounds_4 : decode cX6_rounds 4 = .ok (.invokestatic 79, 3) := by decide +kernel
theorem dX6_rounds_7 : decode cX6_rounds 7 = .ok (.ifCond .ne 10, 3) := by decide +kernel
theorem dX6_rounds_10 : decode cX6_rounds 10 = .ok (.aload_n 0, 1) := by decide +kernel
theorem dX6_rounds_11 : decode cX6_rounds 11 = .ok (.ldc 78, 2) := by decide +kernel
theorem dX6_rounds_13 : decode cX6_rounds 13 = .ok (.invokevirtual 83, 3) := by decide +kernel
theorem dX6_rounds_16 : decode cX6_rounds 16 = .ok (.ireturn, 1) := by decide +kernel
theorem dX6_rounds_17 : decode cX6_rounds 17 = .ok (.aload_n 0, 1) := by decide +kernel
theorem dX6_rounds_18 : decode cX6_rounds 18 = .ok (.invokevirtual 188, 3) := by decide +kernel
theorem dX6_rounds_21 : decode cX6_rounds 21 = .ok (.iconst 0, 1) := by decide +kernel
theorem dX6_rounds_22 : decode cX6_rounds 22 = .ok (.istore_n 2, 1) := by decide +kernel
theorem dX6_rounds_23 : decode cX6_rounds 23 = .ok (.iload_n 2, 1) := by decide +kernel
theorem dX6_rounds_24 : decode cX6_rounds 24 = .ok (.iload_n 1, 1) := by decide +kernel
theorem dX6_rounds_25 : decode cX6_rounds 25 = .ok (.if_icmp .ge 13, 3) := by decide +kernel
theorem dX6_rounds_28 : decode cX6_rounds 28 = .ok (.aload_n 0, 1) := by decide +kernel
theorem dX6_rounds_29 : decode cX6_rounds 29 = .ok (.invokevirtual 191, 3) := by decide +kernel
theorem dX6_rounds_32 : decode cX6_rounds 32 = .ok (.iinc 2 1, 3) := by decide +kernel
theorem dX6_rounds_35 : decode cX6_rounds 35 = .ok (.goto (-12), 3) := by decide +kernel
theorem dX6_rounds_38 : decode cX6_rounds 38 = .ok (.iconst 0, 1) := by decide +kernel
theorem dX6_rounds_39 : decode cX6_rounds 39 = .ok (.istore_n 2, 1) := by decide +kernel
theorem dX6_rounds_40 : decode cX6_rounds 40 = .ok (.iconst 0, 1) := by decide +kernel
theorem dX6_rounds_41 : decode cX6_rounds 41 = .ok (.istore_n 3, 1) := by decide +kernel
theorem dX6_rounds_42 : decode cX6_rounds 42 = .ok (.iload_n 3, 1) := by decide +kernel
theorem dX6_rounds_43 : decode cX6_rounds 43 = .ok (.aload_n 0, 1) := by decide +kernel
theorem dX6_rounds_44 : decode cX6_rounds 44 = .ok (.getfield 9, 3) := by decide +kernel
theorem dX6_rounds_47 : decode cX6_rounds 47 = .ok (.iconst 0, 1) := by decide +kernel
theorem dX6_rounds_48 : decode cX6_rounds 48 = .ok (.iaload, 1) := by decide +kernel
theorem dX6_rounds_49 : decode cX6_rounds 49 = .ok (.if_icmp .ge 32, 3) := by decide +kernel
theorem dX6_rounds_52 : decode cX6_rounds 52 = .ok (.iload_n 2, 1) := by decide +kernel
theorem dX6_rounds_53 : decode cX6_rounds 53 = .ok (.aload_n 0, 1) := by decide +kernel
theorem dX6_rounds_54 : decode cX6_rounds 54 = .ok (.getfield 28, 3) := by decide +kernel
theorem dX6_rounds_57 : decode cX6_rounds 57 = .ok (.iload_n 3, 1) := by decide +kernel
theorem dX6_rounds_58 : decode cX6_rounds 58 = .ok (.iaload, 1) := by decide +kernel
theorem dX6_rounds_59 : decode cX6_rounds 59 = .ok (.aload_n 0, 1) := by decide +kernel
theorem dX6_rounds_60 : decode cX6_rounds 60 = .ok (.iload_n 3, 1) := by decide +kernel
theorem dX6_rounds_61 : decode cX6_rounds 61 = .ok (.iconst 4, 1) := by decide +kernel
theorem dX6_rounds_62 : decode cX6_rounds 62 = .ok (.invokevirtual 92, 3) := by decide +kernel
theorem dX6_rounds_65 : decode cX6_rounds 65 = .ok (.if_icmp .ne 7, 3) := by decide +kernel
theorem dX6_rounds_68 : decode cX6_rounds 68 = .ok (.iconst 0, 1) := by decide +kernel
theorem dX6_rounds_69 : decode cX6_rounds 69 = .ok (.goto 4, 3) := by decide +kernel
theorem dX6_rounds_72 : decode cX6_rounds 72 = .ok (.iconst 1, 1) := by decide +kernel
theorem dX6_rounds_73 : decode cX6_rounds 73 = .ok (.iadd, 1) := by decide +kernel
theorem dX6_rounds_74 : decode cX6_rounds 74 = .ok (.istore_n 2, 1) := by decide +kernel
theorem dX6_rounds_75 : decode cX6_rounds 75 = .ok (.iinc 3 1, 3) := by decide +kernel
theorem dX6_rounds_78 : decode cX6_rounds 78 = .ok (.goto (-36), 3) := by decide +kernel
theorem dX6_rounds_81 : decode cX6_rounds 81 = .ok (.iload_n 2, 1) := by decide +kernel
theorem dX6_rounds_82 : decode cX6_rounds 82 = .ok (.ireturn, 1) := by decide +kernel
def m_X6_rounds_b0 (a1 : Int32) (x4 : Int32) (u5 : zM) : Option ((Int32 × zM) ⊕ (zM)) :=
  (if a1 ≤ x4 then
some (.inr u5)
else
zbind (m_X6_round u5) (fun u9 => some (.inl ((x4 + 1), u9))))
def m_X6_rounds_b1 (u6 : zM) (x11 : Int32) (x12 : Int32) : Option ((Int32 × Int32) ⊕ (Int32)) :=
  (if (u6 40 0) ≤ x12 then
some (.inr x11)
else
zbind (zld u6 46 12 x12) (fun x16 => zbind (m_X6_bodyIs x12 4 u6) (fun x18 => (if x16 = x18 then
some (.inl ((x11 + 0), (x12 + 1)))
else
some (.inl ((x11 + 1), (x12 + 1)))))))
def m_X6_rounds (a1 : Int32) (u : zM) : Option (Int32 × zM) :=
  (if (m_X6_within a1 1 20) = 0 then
zbind2 (m_X6_finding (-1000001) u) (fun x21 u22 => some (x21, u22))
else
zbind (m_X6_keepBribes u) (fun u2 => zbind (zit zF (fun s : Int32 × zM => m_X6_rounds_b0 a1 s.1 s.2) (0, u2)) (fun u6 =>
zbind (zit zF (fun s : Int32 × Int32 => m_X6_rounds_b1 u6 s.1 s.2) (0, 0)) (fun x13 =>
some (x13, u6)))))
set_option maxHeartbeats 4000000 in
set_option maxRecDepth 100000 in
theorem c_X6_rounds (a1 : Int32)   (u : zM) (r : Int32) (u' : zM) (h : m_X6_rounds a1 u = some (r, u')) : zCt 9 yX6_rounds cX6_rounds 4 (some .int) (fun E => [.ref (zad E 39), .int a1]) u (fun _ => some (.int r)) u' := by
  refine zCt.of (by decide +kernel) (fun E => Nat.le_of_ble_eq_true rfl) (fun X hX hR => ?_)
  have hX : zGood X RX6 cX6_rounds 4 9 := hX
  show zG X u 0 [(0, .ref (zad X.1 39)), (1, .int a1)] []
  unfold m_X6_rounds at h
  refine r_iload_n hX dX6_rounds_0 1 rfl rfl ?_
  refine r_iconst (v := 1) hX dX6_rounds_1 (by decide) ?_
  refine r_bipush (v := 20) hX dX6_rounds_2 (by decide) ?_
  refine r_callS (As := [.int a1, .int 1, .int 20]) (rest := []) (st1 := [.int (m_X6_within a1 1 20)]) hX dX6_rounds_4 ls_RX6_79 (c_X6_within a1 1 20  u _ rfl) (by decide) rfl rfl rfl (Nat.le_of_ble_eq_true rfl) rfl ?_
  refine r_if_ne (tgt := 17) hX dX6_rounds_7 (by decide) (fun c1 => ?_) (fun c1 => ?_)
  · have h := (if_neg c1).symm.trans h
    refine r_aload_n hX dX6_rounds_17 0 rfl rfl ?_
    obtain ⟨u2, e3, h⟩ := zbind_elim h
    refine r_callV (As := []) (rest := []) (st1 := []) hX dX6_rounds_18 lv_RX6_188 (c_X6_keepBribes   u _ e3) (by decide) rfl rfl (zRecv.of (q := 39) (ci := 6) rfl rfl) rfl (Nat.le_of_ble_eq_true rfl) rfl ?_
    refine r_iconst (v := 0) hX dX6_rounds_21 (by decide) ?_
    refine r_istore_n (y := 0) (L' := [(2, .int 0), (0, .ref (zad X.1 39)), (1, .int a1)]) hX dX6_rounds_22 rfl (by decide) rfl rfl ?_
    refine r_sub [1, 2, 0] (L' := [(0, .ref (zad X.1 39)), (1, .int a1), (2, .int 0)]) rfl ?_
    obtain ⟨u6, h7, h⟩ := zbind_elim h
    have Jh7 : zG X u6 38 [(0, .ref (zad X.1 39))] [] := by
        refine r_iconst (v := 0) hX dX6_rounds_38 (by decide) ?_
        refine r_istore_n (y := 0) (L' := [(2, .int 0), (0, .ref (zad X.1 39))]) hX dX6_rounds_39 rfl (by decide) rfl rfl ?_
        refine r_iconst (v := 0) hX dX6_rounds_40 (by decide) ?_
        refine r_istore_n (y := 0) (L' := [(3, .int 0), (2, .int 0), (0, .ref (zad X.1 39))]) hX dX6_rounds_41 rfl (by decide) rfl rfl ?_
        refine r_sub [2, 1, 0] (L' := [(0, .ref (zad X.1 39)), (2, .int 0), (3, .int 0)]) rfl ?_
        obtain ⟨x13, h14, h⟩ := zbind_elim h
        have Jh14 : zG X u6 81 [(2, .int x13)] [] := by
            refine r_iload_n hX dX6_rounds_81 0 rfl rfl ?_
            obtain ⟨rfl, rfl⟩ := zinj2 (Option.some.inj h)
            exact r_iret hX hR dX6_rounds_82
        clear h
        refine zit_walk (P := fun s1 : Int32 × Int32 => zG X u6 42 [(0, .ref (zad X.1 39)), (2, .int (s1.1)), (3, .int (s1.2))] []) ?_ zF _ h14
        clear h14
        intro s1 y1 h1b hin1 hout1
        obtain ⟨x11, x12⟩ := s1
        have h1b : m_X6_rounds_b1 u6 x11 x12 = some y1 := h1b
        unfold m_X6_rounds_b1 at h1b
        show zG X u6 42 [(0, .ref (zad X.1 39)), (2, .int x11), (3, .int x12)] []
        refine r_iload_n hX dX6_rounds_42 2 rfl rfl ?_
        refine r_aload_n hX dX6_rounds_43 0 rfl rfl ?_
        refine r_getR hX dX6_rounds_44 f_RX6_9 zr_39_0 ?_
        refine r_iconst (v := 0) hX dX6_rounds_47 (by decide) ?_
        refine r_ialdC (j := 0) hX dX6_rounds_48 rfl (by decide +kernel) ?_
        refine r_icmp_ge (tgt := 81) hX dX6_rounds_49 (by decide) (fun c15 => ?_) (fun c15 => ?_)
        · have h1b := (if_pos c15).symm.trans h1b
          refine r_sub [1] (L' := [(2, .int x11)]) rfl ?_
          have h1b := hout1 _ (Option.some.inj h1b).symm
          obtain rfl := h1b
          exact Jh14
        · have h1b := (if_neg c15).symm.trans h1b
          refine r_iload_n hX dX6_rounds_52 1 rfl rfl ?_
          refine r_aload_n hX dX6_rounds_53 0 rfl rfl ?_
          refine r_getR hX dX6_rounds_54 f_RX6_28 zr_39_8 ?_
          refine r_iload_n hX dX6_rounds_57 2 rfl rfl ?_
          obtain ⟨x16, e17, h1b⟩ := zbind_elim h1b
          refine r_iald hX dX6_rounds_58 rfl e17 ?_
          refine r_aload_n hX dX6_rounds_59 0 rfl rfl ?_
          refine r_iload_n hX dX6_rounds_60 2 rfl rfl ?_
          refine r_iconst (v := 4) hX dX6_rounds_61 (by decide) ?_
          obtain ⟨x18, e19, h1b⟩ := zbind_elim h1b
          refine r_callV (As := [.int x12, .int 4]) (rest := [.int x16, .int x11]) (st1 := [.int x18, .int x16, .int x11]) hX dX6_rounds_62 lv_RX6_92 (c_X6_bodyIs x12 4  u6 _ e19) (by decide) rfl rfl (zRecv.of (q := 39) (ci := 6) rfl rfl) rfl (Nat.le_of_ble_eq_true rfl) rfl ?_
          refine r_icmp_ne (tgt := 72) hX dX6_rounds_65 (by decide) (fun c20 => ?_) (fun c20 => ?_)
          · have h1b := (if_neg c20).symm.trans h1b
            refine r_iconst (v := 1) hX dX6_rounds_72 (by decide) ?_
            refine r_iadd hX dX6_rounds_73 ?_
            refine r_istore_n (y := (x11 + 1)) (L' := [(2, .int (x11 + 1)), (0, .ref (zad X.1 39)), (3, .int x12)]) hX dX6_rounds_74 rfl (by decide) rfl rfl ?_
            refine r_iinc (v := (x12 + 1)) (L' := [(3, .int (x12 + 1)), (2, .int (x11 + 1)), (0, .ref (zad X.1 39))]) hX dX6_rounds_75 (by decide) 2 rfl rfl rfl ?_
            refine r_goto (tgt := 42) hX dX6_rounds_78 (by decide) ?_
            refine r_sub [2, 1, 0] (L' := [(0, .ref (zad X.1 39)), (2, .int (x11 + 1)), (3, .int (x12 + 1))]) rfl ?_
            exact hin1 _ (Option.some.inj h1b).symm
          · have h1b := (if_pos c20).symm.trans h1b
            refine r_iconst (v := 0) hX dX6_rounds_68 (by decide) ?_
            refine r_goto (tgt := 73) hX dX6_rounds_69 (by decide) ?_
            refine r_iadd hX dX6_rounds_73 ?_
            refine r_istore_n (y := (x11 + 0)) (L' := [(2, .int (x11 + 0)), (0, .ref (zad X.1 39)), (3, .int x12)]) hX dX6_rounds_74 rfl (by decide) rfl rfl ?_
            refine r_iinc (v := (x12 + 1)) (L' := [(3, .int (x12 + 1)), (2, .int (x11 + 0)), (0, .ref (zad X.1 39))]) hX dX6_rounds_75 (by decide) 2 rfl rfl rfl ?_
            refine r_goto (tgt := 42) hX dX6_rounds_78 (by decide) ?_
            refine r_sub [2, 1, 0] (L' := [(0, .ref (zad X.1 39)), (2, .int (x11 + 0)), (3, .int (x12 + 1))]) rfl ?_
            exact hin1 _ (Option.some.inj h1b).symm
    clear h
    refine zit_walk (P := fun s0 : Int32 × zM => zG X s0.2 23 [(0, .ref (zad X.1 39)), (1, .int a1), (2, .int (s0.1))] []) ?_ zF _ h7
    clear h7
    intro s0 y0 h0b hin0 hout0
    obtain ⟨x4, u5⟩ := s0
    have h0b : m_X6_rounds_b0 a1 x4 u5 = some y0 := h0b
    unfold m_X6_rounds_b0 at h0b
    show zG X u5 23 [(0, .ref (zad X.1 39)), (1, .int a1), (2, .int x4)] []
    refine r_iload_n hX dX6_rounds_23 2 rfl rfl ?_
    refine r_iload_n hX dX6_rounds_24 1 rfl rfl ?_
    refine r_icmp_ge (tgt := 38) hX dX6_rounds_25 (by decide) (fun c8 => ?_) (fun c8 => ?_)
    · have h0b := (if_pos c8).symm.trans h0b
      refine r_sub [0] (L' := [(0, .ref (zad X.1 39))]) rfl ?_
      have h0b := hout0 _ (Option.some.inj h0b).symm
      obtain rfl := h0b
      exact Jh7
    · have h0b := (if_neg c8).symm.trans h0b
      refine r_aload_n hX dX6_rounds_28 0 rfl rfl ?_
      obtain ⟨u9, e10, h0b⟩ := zbind_elim h0b
      refine r_callV (As := []) (rest := []) (st1 := []) hX dX6_rounds_29 lv_RX6_191 (c_X6_round   u5 _ e10) (by decide) rfl rfl (zRecv.of (q := 39) (ci := 6) rfl rfl) rfl (Nat.le_of_ble_eq_true rfl) rfl ?_
      refine r_iinc (v := (x4 + 1)) (L' := [(2, .int (x4 + 1)), (0, .ref (zad X.1 39)), (1, .int a1)]) hX dX6_rounds_32 (by decide) 2 rfl rfl rfl ?_
      refine r_goto (tgt := 23) hX dX6_rounds_35 (by decide) ?_
      refine r_sub [1, 2, 0] (L' := [(0, .ref (zad X.1 39)), (1, .int a1), (2, .int (x4 + 1))]) rfl ?_
      exact hin0 _ (Option.some.inj h0b).symm
  · have h := (if_pos c1).symm.trans h
    refine r_aload_n hX dX6_rounds_10 0 rfl rfl ?_
    refine r_ldc (v := (-1000001)) hX dX6_rounds_11 (zT_in 1041 (by decide +kernel) rfl) ?_
    obtain ⟨x21, u22, e23, h⟩ := zbind2_elim h
    refine r_callV (As := [.int (-1000001)]) (rest := []) (st1 := [.int x21]) hX dX6_rounds_13 lv_RX6_83 (c_X6_finding (-1000001)  u _ _ e23) (by decide) rfl rfl (zRecv.of (q := 39) (ci := 6) rfl rfl) rfl (Nat.le_of_ble_eq_true rfl) rfl ?_
    obtain ⟨rfl, rfl⟩ := zinj2 (Option.some.inj h)
    exact r_iret hX hR dX6_rounds_16
theorem dX6_settles_0 : decode cX6_settles 0 = .ok (.aload_n 0, 1) := by decide +kernel
theorem dX6_settles_1 : decode cX6_settles 1 = .ok (.invokevirtual 188, 3) := by decide +kernel
theorem dX6_settles_4 : decode cX6_settles 4 = .ok (.iconst 0, 1) := by decide +kernel
theorem dX6_settles_5 : decode cX6_settles 5 = .ok (.istore_n 1, 1) := by decide +kernel
theorem dX6_settles_6 : decode cX6_settles 6 = .ok (.iload_n 1, 1) := by decide +kernel
theorem dX6_settles_7 : decode cX6_settles 7 = .ok (.bipush 50, 2) := by decide +kernel
theorem dX6_settles_9 : decode cX6_settles 9 = .ok (.if_icmp .gt 20, 3) := by decide +kernel
theorem dX6_settles_12 : decode cX6_settles 12 = .ok (.aload_n 0, 1) := by decide +kernel
theorem dX6_settles_13 : decode cX6_settles 13 = .ok (.invokevirtual 184, 3) := by decide +kernel
theorem dX6_settles_16 : decode cX6_settles 16 = .ok (.ifCond .ne 13, 3) := by decide +kernel
theorem dX6_settles_19 : decode cX6_settles 19 = .ok (.aload_n 0, 1) := by decide +kernel
theorem dX6_settles_20 : decode cX6_settles 20 = .ok (.invokevirtual 191, 3) := by decide +kernel
theorem dX6_settles_23 : decode cX6_settles 23 = .ok (.iinc 1 1, 3) := by decide +kernel
theorem dX6_settles_26 : decode cX6_settles 26 = .ok (.goto (-20), 3) := by decide +kernel
theorem dX6_settles_29 : decode cX6_settles 29 = .ok (.iconst 0, 1) := by decide +kernel
theorem dX6_settles_30 : decode cX6_settles 30 = .ok (.istore_n 2, 1) := by decide +kernel
theorem dX6_settles_31 : decode cX6_settles 31 = .ok (.iload_n 2, 1) := by decide +kernel
theorem dX6_settles_32 : decode cX6_settles 32 = .ok (.aload_n 0, 1) := by decide +kernel
theorem dX6_settles_33 : decode cX6_settles 33 = .ok (.getfield 9, 3) := by decide +kernel
theorem dX6_settles_36 : decode cX6_settles 36 = .ok (.iconst 0, 1) := by decide +kernel
theorem dX6_settles_37 : decode cX6_settles 37 = .ok (.iaload, 1) := by decide +kernel
theorem dX6_settles_38 : decode cX6_settles 38 = .ok (.if_icmp .ge 29, 3) := by decide +kernel
theorem dX6_settles_41 : decode cX6_settles 41 = .ok (.aload_n 0, 1) := by decide +kernel
theorem dX6_settles_42 : decode cX6_settles 42 = .ok (.getfield 9, 3) := by decide +kernel
theorem dX6_settles_45 : decode cX6_settles 45 = .ok (.bipush 6, 2) := by decide +kernel
theorem dX6_settles_47 : decode cX6_settles 47 = .ok (.bipush 7, 2) := by decide +kernel
theorem dX6_settles_49 : decode cX6_settles 49 = .ok (.iload_n 2, 1) := by decide +kernel
theorem dX6_settles_50 : decode cX6_settles 50 = .ok (.imul, 1) := by decide +kernel
theorem dX6_settles_51 : decode cX6_settles 51 = .ok (.iadd, 1) := by decide +kernel
theorem dX6_settles_52 : decode cX6_settles 52 = .ok (.iconst 4, 1) := by decide +kernel
theorem dX6_settles_53 : decode cX6_settles 53 = .ok (.iadd, 1) := by decide +kernel
theorem dX6_settles_54 : decode cX6_settles 54 = .ok (.aload_n 0, 1) := by decide +kernel
theorem dX6_settles_55 : decode cX6_settles 55 = .ok (.getfield 28, 3) := by decide +kernel
theorem dX6_settles_58 : decode cX6_settles 58 = .ok (.iload_n 2, 1) := by decide +kernel
theorem dX6_settles_59 : decode cX6_settles 59 = .ok (.iaload, 1) := by decide +kernel
theorem dX6_settles_60 : decode cX6_settles 60 = .ok (.iastore, 1) := by decide +kernel
theorem dX6_settles_61 : decode cX6_settles 61 = .ok (.iinc 2 1, 3) := by decide +kernel
theorem dX6_settles_64 : decode cX6_settles 64 = .ok (.goto (-33), 3) := by decide +kernel
theorem dX6_settles_67 : decode cX6_settles 67 = .ok (.iload_n 1, 1) := by decide +kernel
theorem dX6_settles_68 : decode cX6_settles 68 = .ok (.bipush 50, 2) := by decide +kernel
theorem dX6_settles_70 : decode cX6_settles 70 = .ok (.if_icmp .le 12, 3) := by decide +kernel
theorem dX6_settles_73 : decode cX6_settles 73 = .ok (.aload_n 0, 1) := by decide +kernel
theorem dX6_settles_74 : decode cX6_settles 74 = .ok (.ldc 142, 2) := by decide +kernel
theorem dX6_settles_76 : decode cX6_settles 76 = .ok (.invokevirtual 83, 3) := by decide +kernel
theorem dX6_settles_79 : decode cX6_settles 79 = .ok (.goto 4, 3) := by decide +kernel
theorem dX6_settles_82 : decode cX6_settles 82 = .ok (.iload_n 1, 1) := by decide +kernel
theorem dX6_settles_83 : decode cX6_settles 83 = .ok (.ireturn, 1) := by decide +kernel
def m_X6_settles_b0  (x3 : Int32) (u4 : zM) : Option ((Int32 × zM) ⊕ (Int32 × zM)) :=
  (if 50 < x3 then
some (.inr (x3, u4))
else
zbind2 (m_X6_isSettled u4) (fun x9 u10 => (if x9 = 0 then
zbind (m_X6_round u10) (fun u13 => some (.inl ((x3 + 1), u13)))
else
some (.inr (x3, u10)))))
def m_X6_settles_b1  (x15 : Int32) (u16 : zM) : Option ((Int32 × zM) ⊕ (zM)) :=
  (if (u16 40 0) ≤ x15 then
some (.inr u16)
else
zbind (zld u16 46 12 x15) (fun x20 => zbind (zsv u16 40 160 ((6 + (7 * x15)) + 4) x20) (fun u22 => some (.inl ((x15 + 1), u22)))))
def m_X6_settles  (u : zM) : Option (Int32 × zM) :=
  zbind (m_X6_keepBribes u) (fun u1 => zbind2 (zit zF (fun s : Int32 × zM => m_X6_settles_b0 s.1 s.2) (0, u1)) (fun x5 u6 =>
zbind (zit zF (fun s : Int32 × zM => m_X6_settles_b1 s.1 s.2) (0, u6)) (fun u17 =>
(if x5 ≤ 50 then
some (x5, u17)
else
zbind2 (m_X6_finding (-1000004) u17) (fun x25 u26 => some (x25, u26))))))
set_option maxHeartbeats 4000000 in
set_option maxRecDepth 100000 in
theorem c_X6_settles    (u : zM) (r : Int32) (u' : zM) (h : m_X6_settles u = some (r, u')) : zCt 9 yX6_settles cX6_settles 3 (some .int) (fun E => [.ref (zad E 39)]) u (fun _ => some (.int r)) u' := by
  refine zCt.of (by decide +kernel) (fun E => Nat.le_of_ble_eq_true rfl) (fun X hX hR => ?_)
  have hX : zGood X RX6 cX6_settles 3 9 := hX
  show zG X u 0 [(0, .ref (zad X.1 39))] []
  unfold m_X6_settles at h
  refine r_aload_n hX dX6_settles_0 0 rfl rfl ?_
  obtain ⟨u1, e2, h⟩ := zbind_elim h
  refine r_callV (As := []) (rest := []) (st1 := []) hX dX6_settles_1 lv_RX6_188 (c_X6_keepBribes   u _ e2) (by decide) rfl rfl (zRecv.of (q := 39) (ci := 6) rfl rfl) rfl (Nat.le_of_ble_eq_true rfl) rfl ?_
  refine r_iconst (v := 0) hX dX6_settles_4 (by decide) ?_
  refine r_istore_n (y := 0) (L' := [(1, .int 0), (0, .ref (zad X.1 39))]) hX dX6_settles_5 rfl (by decide) rfl rfl ?_
  refine r_sub [1, 0] (L' := [(0, .ref (zad X.1 39)), (1, .int 0)]) rfl ?_
  obtain ⟨x5, u6, h7, h⟩ := zbind2_elim h
  have Jh7 : zG X u6 29 [(0, .ref (zad X.1 39)), (1, .int x5)] [] := by
      refine r_iconst (v := 0) hX dX6_settles_29 (by decide) ?_
      refine r_istore_n (y := 0) (L' := [(2, .int 0), (0, .ref (zad X.1 39)), (1, .int x5)]) hX dX6_settles_30 rfl (by decide) rfl rfl ?_
      refine r_sub [1, 2, 0] (L' := [(0, .ref (zad X.1 39)), (1, .int x5), (2, .int 0)]) rfl ?_
      obtain ⟨u17, h18, h⟩ := zbind_elim h
      have Jh18 : zG X u17 67 [(0, .ref (zad X.1 39)), (1, .int x5)] [] := by
          refine r_iload_n hX dX6_settles_67 1 rfl rfl ?_
          refine r_bipush (v := 50) hX dX6_settles_68 (by decide) ?_
          refine r_icmp_le (tgt := 82) hX dX6_settles_70 (by decide) (fun c24 => ?_) (fun c24 => ?_)
          · have h := (if_pos c24).symm.trans h
            refine r_iload_n hX dX6_settles_82 1 rfl rfl ?_
            obtain ⟨rfl, rfl⟩ := zinj2 (Option.some.inj h)
            exact r_iret hX hR dX6_settles_83
          · have h := (if_neg c24).symm.trans h
            refine r_aload_n hX dX6_settles_73 0 rfl rfl ?_
            refine r_ldc (v := (-1000004)) hX dX6_settles_74 (zT_in 1114 (by decide +kernel) rfl) ?_
            obtain ⟨x25, u26, e27, h⟩ := zbind2_elim h
            refine r_callV (As := [.int (-1000004)]) (rest := []) (st1 := [.int x25]) hX dX6_settles_76 lv_RX6_83 (c_X6_finding (-1000004)  u17 _ _ e27) (by decide) rfl rfl (zRecv.of (q := 39) (ci := 6) rfl rfl) rfl (Nat.le_of_ble_eq_true rfl) rfl ?_
            refine r_goto (tgt := 83) hX dX6_settles_79 (by decide) ?_
            obtain ⟨rfl, rfl⟩ := zinj2 (Option.some.inj h)
            exact r_iret hX hR dX6_settles_83
      clear h
      refine zit_walk (P := fun s1 : Int32 × zM => zG X s1.2 31 [(0, .ref (zad X.1 39)), (1, .int x5), (2, .int (s1.1))] []) ?_ zF _ h18
      clear h18
      intro s1 y1 h1b hin1 hout1
      obtain ⟨x15, u16⟩ := s1
      have h1b : m_X6_settles_b1 x15 u16 = some y1 := h1b
      unfold m_X6_settles_b1 at h1b
      show zG X u16 31 [(0, .ref (zad X.1 39)), (1, .int x5), (2, .int x15)] []
      refine r_iload_n hX dX6_settles_31 2 rfl rfl ?_
      refine r_aload_n hX dX6_settles_32 0 rfl rfl ?_
      refine r_getR hX dX6_settles_33 f_RX6_9 zr_39_0 ?_
      refine r_iconst (v := 0) hX dX6_settles_36 (by decide) ?_
      refine r_ialdC (j := 0) hX dX6_settles_37 rfl (by decide +kernel) ?_
      refine r_icmp_ge (tgt := 67) hX dX6_settles_38 (by decide) (fun c19 => ?_) (fun c19 => ?_)
      · have h1b := (if_pos c19).symm.trans h1b
        refine r_sub [0, 1] (L' := [(0, .ref (zad X.1 39)), (1, .int x5)]) rfl ?_
        have h1b := hout1 _ (Option.some.inj h1b).symm
        obtain rfl := h1b
        exact Jh18
      · have h1b := (if_neg c19).symm.trans h1b
        refine r_aload_n hX dX6_settles_41 0 rfl rfl ?_
        refine r_getR hX dX6_settles_42 f_RX6_9 zr_39_0 ?_
        refine r_bipush (v := 6) hX dX6_settles_45 (by decide) ?_
        refine r_bipush (v := 7) hX dX6_settles_47 (by decide) ?_
        refine r_iload_n hX dX6_settles_49 2 rfl rfl ?_
        refine r_imul hX dX6_settles_50 ?_
        refine r_iadd hX dX6_settles_51 ?_
        refine r_iconst (v := 4) hX dX6_settles_52 (by decide) ?_
        refine r_iadd hX dX6_settles_53 ?_
        refine r_aload_n hX dX6_settles_54 0 rfl rfl ?_
        refine r_getR hX dX6_settles_55 f_RX6_28 zr_39_8 ?_
        refine r_iload_n hX dX6_settles_58 2 rfl rfl ?_
        obtain ⟨x20, e21, h1b⟩ := zbind_elim h1b
        refine r_iald hX dX6_settles_59 rfl e21 ?_
        obtain ⟨u22, e23, h1b⟩ := zbind_elim h1b
        refine r_iast hX dX6_settles_60 rfl e23 ?_
        refine r_iinc (v := (x15 + 1)) (L' := [(2, .int (x15 + 1)), (0, .ref (zad X.1 39)), (1, .int x5)]) hX dX6_settles_61 (by decide) 2 rfl rfl rfl ?_
        refine r_goto (tgt := 31) hX dX6_settles_64 (by decide) ?_
        refine r_sub [1, 2, 0] (L' := [(0, .ref (zad X.1 39)), (1, .int x5), (2, .int (x15 + 1))]) rfl ?_
        exact hin1 _ (Option.some.inj h1b).symm
  clear h
  refine zit_walk (P := fun s0 : Int32 × zM => zG X s0.2 6 [(0, .ref (zad X.1 39)), (1, .int (s0.1))] []) ?_ zF _ h7
  clear h7
  intro s0 y0 h0b hin0 hout0
  obtain ⟨x3, u4⟩ := s0
  have h0b : m_X6_settles_b0 x3 u4 = some y0 := h0b
  unfold m_X6_settles_b0 at h0b
  show zG X u4 6 [(0, .ref (zad X.1 39)), (1, .int x3)] []
  refine r_iload_n hX dX6_settles_6 1 rfl rfl ?_
  refine r_bipush (v := 50) hX dX6_settles_7 (by decide) ?_
  refine r_icmp_gt (tgt := 29) hX dX6_settles_9 (by decide) (fun c8 => ?_) (fun c8 => ?_)
  · have h0b := (if_pos c8).symm.trans h0b
    have h0b := hout0 _ (Option.some.inj h0b).symm
    obtain ⟨rfl, rfl⟩ := zinj2 h0b
    exact Jh7
  · have h0b := (if_neg c8).symm.trans h0b
    refine r_aload_n hX dX6_settles_12 0 rfl rfl ?_
    obtain ⟨x9, u10, e11, h0b⟩ := zbind2_elim h0b
    refine r_callV (As := []) (rest := []) (st1 := [.int x9]) hX dX6_settles_13 lv_RX6_184 (c_X6_isSettled   u4 _ _ e11) (by decide) rfl rfl (zRecv.of (q := 39) (ci := 6) rfl rfl) rfl (Nat.le_of_ble_eq_true rfl) rfl ?_
    refine r_if_ne (tgt := 29) hX dX6_settles_16 (by decide) (fun c12 => ?_) (fun c12 => ?_)
    · have h0b := (if_neg c12).symm.trans h0b
      have h0b := hout0 _ (Option.some.inj h0b).symm
      obtain ⟨rfl, rfl⟩ := zinj2 h0b
      exact Jh7
    · have h0b := (if_pos c12).symm.trans h0b
      refine r_aload_n hX dX6_settles_19 0 rfl rfl ?_
      obtain ⟨u13, e14, h0b⟩ := zbind_elim h0b
      refine r_callV (As := []) (rest := []) (st1 := []) hX dX6_settles_20 lv_RX6_191 (c_X6_round   u10 _ e14) (by decide) rfl rfl (zRecv.of (q := 39) (ci := 6) rfl rfl) rfl (Nat.le_of_ble_eq_true rfl) rfl ?_
      refine r_iinc (v := (x3 + 1)) (L' := [(1, .int (x3 + 1)), (0, .ref (zad X.1 39))]) hX dX6_settles_23 (by decide) 1 rfl rfl rfl ?_
      refine r_goto (tgt := 6) hX dX6_settles_26 (by decide) ?_
      refine r_sub [1, 0] (L' := [(0, .ref (zad X.1 39)), (1, .int (x3 + 1))]) rfl ?_
      exact hin0 _ (Option.some.inj h0b).symm
theorem dX6_spring_0 : decode cX6_spring 0 = .ok (.aload_n 0, 1) := by decide +kernel
theorem dX6_spring_1 : decode cX6_spring 1 = .ok (.getfield 9, 3) := by decide +kernel
theorem dX6_spring_4 : decode cX6_spring 4 = .ok (.iconst 4, 1) := by decide +kernel
theorem dX6_spring_5 : decode cX6_spring 5 = .ok (.iaload, 1) := by decide +kernel
theorem dX6_spring_6 : decode cX6_spring 6 = .ok (.bipush 20, 2) := by decide +kernel
theorem dX6_spring_8 : decode cX6_spring 8 = .ok (.if_icmp .ne 10, 3) := by decide +kernel
theorem dX6_spring_11 : decode cX6_spring 11 = .ok (.aload_n 0, 1) := by decide +kernel
theorem dX6_spring_12 : decode cX6_spring 12 = .ok (.ldc 87, 2) := by decide +kernel
theorem dX6_spring_14 : decode cX6_spring 14 = .ok (.invokevirtual 83, 3) := by decide +kernel
theorem dX6_spring_17 : decode cX6_spring 17 = .ok (.ireturn, 1) := by decide +kernel
theorem dX6_spring_18 : decode cX6_spring 18 = .ok (.aload_n 0, 1) := by decide +kernel
theorem dX6_spring_19 : decode cX6_spring 19 = .ok (.invokevirtual 139, 3) := by decide +kernel
theorem dX6_spring_22 : decode cX6_spring 22 = .ok (.istore_n 1, 1) := by decide +kernel
theorem dX6_spring_23 : decode cX6_spring 23 = .ok (.iload_n 1, 1) := by decide +kernel
theorem dX6_spring_24 : decode cX6_spring 24 = .ok (.ifCond .ne 10, 3) := by decide +kernel
theorem dX6_spring_27 : decode cX6_spring 27 = .ok (.aload_n 0, 1) := by decide +kernel
theorem dX6_spring_28 : decode cX6_spring 28 = .ok (.ldc 142, 2) := by decide +kernel
theorem dX6_spring_30 : decode cX6_spring 30 = .ok (.invokevirtual 83, 3) := by decide +kernel
theorem dX6_spring_33 : decode cX6_spring 33 = .ok (.ireturn, 1) := by decide +kernel
theorem dX6_spring_34 : decode cX6_spring 34 = .ok (.aload_n 0, 1) := by decide +kernel
theorem dX6_spring_35 : decode cX6_spring 35 = .ok (.iload_n 1, 1) := by decide +kernel
theorem dX6_spring_36 : decode cX6_spring 36 = .ok (.invokevirtual 152, 3) := by decide +kernel
theorem dX6_spring_39 : decode cX6_spring 39 = .ok (.iconst 0, 1) := by decide +kernel
theorem dX6_spring_40 : decode cX6_spring 40 = .ok (.istore_n 2, 1) := by decide +kernel
theorem dX6_spring_41 : decode cX6_spring 41 = .ok (.iload_n 2, 1) := by decide +kernel
theorem dX6_spring_42 : decode cX6_spring 42 = .ok (.iconst 3, 1) := by decide +kernel
theorem dX6_spring_43 : decode cX6_spring 43 = .ok (.if_icmp .ge 33, 3) := by decide +kernel
theorem dX6_spring_46 : decode cX6_spring 46 = .ok (.aload_n 0, 1) := by decide +kernel
theorem dX6_spring_47 : decode cX6_spring 47 = .ok (.getfield 9, 3) := by decide +kernel
theorem dX6_spring_50 : decode cX6_spring 50 = .ok (.bipush 90, 2) := by decide +kernel
theorem dX6_spring_52 : decode cX6_spring 52 = .ok (.iconst 3, 1) := by decide +kernel
theorem dX6_spring_53 : decode cX6_spring 53 = .ok (.aload_n 0, 1) := by decide +kernel
theorem dX6_spring_54 : decode cX6_spring 54 = .ok (.getfield 9, 3) := by decide +kernel
theorem dX6_spring_57 : decode cX6_spring 57 = .ok (.iconst 4, 1) := by decide +kernel
theorem dX6_spring_58 : decode cX6_spring 58 = .ok (.iaload, 1) := by decide +kernel
theorem dX6_spring_59 : decode cX6_spring 59 = .ok (.imul, 1) := by decide +kernel
theorem dX6_spring_60 : decode cX6_spring 60 = .ok (.iadd, 1) := by decide +kernel
theorem dX6_spring_61 : decode cX6_spring 61 = .ok (.iload_n 2, 1) := by decide +kernel
theorem dX6_spring_62 : decode cX6_spring 62 = .ok (.iadd, 1) := by decide +kernel
theorem dX6_spring_63 : decode cX6_spring 63 = .ok (.aload_n 0, 1) := by decide +kernel
theorem dX6_spring_64 : decode cX6_spring 64 = .ok (.getfield 19, 3) := by decide +kernel
theorem dX6_spring_67 : decode cX6_spring 67 = .ok (.iload_n 2, 1) := by decide +kernel
theorem dX6_spring_68 : decode cX6_spring 68 = .ok (.iaload, 1) := by decide +kernel
theorem dX6_spring_69 : decode cX6_spring 69 = .ok (.iastore, 1) := by decide +kernel
theorem dX6_spring_70 : decode cX6_spring 70 = .ok (.iinc 2 1, 3) := by decide +kernel
theorem dX6_spring_73 : decode cX6_spring 73 = .ok (.goto (-32), 3) := by decide +kernel
theorem dX6_spring_76 : decode cX6_spring 76 = .ok (.aload_n 0, 1) := by decide +kernel
theorem dX6_spring_77 : decode cX6_spring 77 = .ok (.getfield 9, 3) := by decide +kernel
theorem dX6_spring_80 : decode cX6_spring 80 = .ok (.iconst 4, 1) := by decide +kernel
theorem dX6_spring_81 : decode cX6_spring 81 = .ok (.dup2, 1) := by decide +kernel
theorem dX6_spring_82 : decode cX6_spring 82 = .ok (.iaload, 1) := by decide +kernel
theorem dX6_spring_83 : decode cX6_spring 83 = .ok (.iconst 1, 1) := by decide +kernel
theorem dX6_spring_84 : decode cX6_spring 84 = .ok (.iadd, 1) := by decide +kernel
theorem dX6_spring_85 : decode cX6_spring 85 = .ok (.iastore, 1) := by decide +kernel
theorem dX6_spring_86 : decode cX6_spring 86 = .ok (.aload_n 0, 1) := by decide +kernel
theorem dX6_spring_87 : decode cX6_spring 87 = .ok (.getfield 9, 3) := by decide +kernel
theorem dX6_spring_90 : decode cX6_spring 90 = .ok (.iconst 4, 1) := by decide +kernel
theorem dX6_spring_91 : decode cX6_spring 91 = .ok (.iaload, 1) := by decide +kernel
theorem dX6_spring_92 : decode cX6_spring 92 = .ok (.ireturn, 1) := by decide +kernel
def m_X6_spring_b0  (x7 : Int32) (u8 : zM) : Option ((Int32 × zM) ⊕ (zM)) :=
  (if 3 ≤ x7 then
some (.inr u8)
else
zbind (zld u8 43 3 x7) (fun x12 => zbind (zsv u8 40 160 ((90 + (3 * (u8 40 4))) + x7) x12) (fun u14 => some (.inl ((x7 + 1), u14)))))
def m_X6_spring  (u : zM) : Option (Int32 × zM) :=
  (if (u 40 4) = 20 then
zbind2 (m_X6_finding (-1000002) u) (fun x21 u22 => some (x21, u22))
else
zbind (m_X6_hereSet u) (fun x2 => (if x2 = 0 then
zbind2 (m_X6_finding (-1000004) u) (fun x18 u19 => some (x18, u19))
else
zbind (m_X6_cut x2 u) (fun u5 => zbind (zit zF (fun s : Int32 × zM => m_X6_spring_b0 s.1 s.2) (0, u5)) (fun u9 =>
zlet (zst u9 40 4 ((u9 40 4) + 1)) (fun u16 => some ((u16 40 4), u16)))))))
set_option maxHeartbeats 4000000 in
set_option maxRecDepth 100000 in
theorem c_X6_spring    (u : zM) (r : Int32) (u' : zM) (h : m_X6_spring u = some (r, u')) : zCt 6 yX6_spring cX6_spring 3 (some .int) (fun E => [.ref (zad E 39)]) u (fun _ => some (.int r)) u' := by
  refine zCt.of (by decide +kernel) (fun E => Nat.le_of_ble_eq_true rfl) (fun X hX hR => ?_)
  have hX : zGood X RX6 cX6_spring 3 6 := hX
  show zG X u 0 [(0, .ref (zad X.1 39))] []
  unfold m_X6_spring at h
  refine r_aload_n hX dX6_spring_0 0 rfl rfl ?_
  refine r_getR hX dX6_spring_1 f_RX6_9 zr_39_0 ?_
  refine r_iconst (v := 4) hX dX6_spring_4 (by decide) ?_
  refine r_ialdC (j := 4) hX dX6_spring_5 rfl (by decide +kernel) ?_
  refine r_bipush (v := 20) hX dX6_spring_6 (by decide) ?_
  refine r_icmp_ne (tgt := 18) hX dX6_spring_8 (by decide) (fun c1 => ?_) (fun c1 => ?_)
  · have h := (if_neg c1).symm.trans h
    refine r_aload_n hX dX6_spring_18 0 rfl rfl ?_
    obtain ⟨x2, e3, h⟩ := zbind_elim h
    refine r_callV (As := []) (rest := []) (st1 := [.int x2]) hX dX6_spring_19 lv_RX6_139 (c_X6_hereSet   u _ e3) (by decide) rfl rfl (zRecv.of (q := 39) (ci := 6) rfl rfl) rfl (Nat.le_of_ble_eq_true rfl) rfl ?_
    refine r_istore_n (y := x2) (L' := [(1, .int x2), (0, .ref (zad X.1 39))]) hX dX6_spring_22 rfl (by decide) rfl rfl ?_
    refine r_iload_n hX dX6_spring_23 0 rfl rfl ?_
    refine r_if_ne (tgt := 34) hX dX6_spring_24 (by decide) (fun c4 => ?_) (fun c4 => ?_)
    · have h := (if_neg c4).symm.trans h
      refine r_aload_n hX dX6_spring_34 1 rfl rfl ?_
      refine r_iload_n hX dX6_spring_35 0 rfl rfl ?_
      obtain ⟨u5, e6, h⟩ := zbind_elim h
      refine r_callV (As := [.int x2]) (rest := []) (st1 := []) hX dX6_spring_36 lv_RX6_152 (c_X6_cut x2  u _ e6) (by decide) rfl rfl (zRecv.of (q := 39) (ci := 6) rfl rfl) rfl (Nat.le_of_ble_eq_true rfl) rfl ?_
      refine r_iconst (v := 0) hX dX6_spring_39 (by decide) ?_
      refine r_istore_n (y := 0) (L' := [(2, .int 0), (1, .int x2), (0, .ref (zad X.1 39))]) hX dX6_spring_40 rfl (by decide) rfl rfl ?_
      refine r_sub [2, 0] (L' := [(0, .ref (zad X.1 39)), (2, .int 0)]) rfl ?_
      obtain ⟨u9, h10, h⟩ := zbind_elim h
      have Jh10 : zG X u9 76 [(0, .ref (zad X.1 39))] [] := by
          refine r_aload_n hX dX6_spring_76 0 rfl rfl ?_
          refine r_getR hX dX6_spring_77 f_RX6_9 zr_39_0 ?_
          refine r_iconst (v := 4) hX dX6_spring_80 (by decide) ?_
          refine r_dup2 hX dX6_spring_81 rfl rfl ?_
          refine r_ialdC (j := 4) hX dX6_spring_82 rfl (by decide +kernel) ?_
          refine r_iconst (v := 1) hX dX6_spring_83 (by decide) ?_
          refine r_iadd hX dX6_spring_84 ?_
          obtain ⟨u16, e17, h⟩ := zlet_elim h
          refine r_iastC (j := 4) hX dX6_spring_85 rfl (by decide +kernel) ?_
          rw [e17]
          refine r_aload_n hX dX6_spring_86 0 rfl rfl ?_
          refine r_getR hX dX6_spring_87 f_RX6_9 zr_39_0 ?_
          refine r_iconst (v := 4) hX dX6_spring_90 (by decide) ?_
          refine r_ialdC (j := 4) hX dX6_spring_91 rfl (by decide +kernel) ?_
          obtain ⟨rfl, rfl⟩ := zinj2 (Option.some.inj h)
          exact r_iret hX hR dX6_spring_92
      clear h
      refine zit_walk (P := fun s0 : Int32 × zM => zG X s0.2 41 [(0, .ref (zad X.1 39)), (2, .int (s0.1))] []) ?_ zF _ h10
      clear h10
      intro s0 y0 h0b hin0 hout0
      obtain ⟨x7, u8⟩ := s0
      have h0b : m_X6_spring_b0 x7 u8 = some y0 := h0b
      unfold m_X6_spring_b0 at h0b
      show zG X u8 41 [(0, .ref (zad X.1 39)), (2, .int x7)] []
      refine r_iload_n hX dX6_spring_41 1 rfl rfl ?_
      refine r_iconst (v := 3) hX dX6_spring_42 (by decide) ?_
      refine r_icmp_ge (tgt := 76) hX dX6_spring_43 (by decide) (fun c11 => ?_) (fun c11 => ?_)
      · have h0b := (if_pos c11).symm.trans h0b
        refine r_sub [0] (L' := [(0, .ref (zad X.1 39))]) rfl ?_
        have h0b := hout0 _ (Option.some.inj h0b).symm
        obtain rfl := h0b
        exact Jh10
      · have h0b := (if_neg c11).symm.trans h0b
        refine r_aload_n hX dX6_spring_46 0 rfl rfl ?_
        refine r_getR hX dX6_spring_47 f_RX6_9 zr_39_0 ?_
        refine r_bipush (v := 90) hX dX6_spring_50 (by decide) ?_
        refine r_iconst (v := 3) hX dX6_spring_52 (by decide) ?_
        refine r_aload_n hX dX6_spring_53 0 rfl rfl ?_
        refine r_getR hX dX6_spring_54 f_RX6_9 zr_39_0 ?_
        refine r_iconst (v := 4) hX dX6_spring_57 (by decide) ?_
        refine r_ialdC (j := 4) hX dX6_spring_58 rfl (by decide +kernel) ?_
        refine r_imul hX dX6_spring_59 ?_
        refine r_iadd hX dX6_spring_60 ?_
        refine r_iload_n hX dX6_spring_61 1 rfl rfl ?_
        refine r_iadd hX dX6_spring_62 ?_
        refine r_aload_n hX dX6_spring_63 0 rfl rfl ?_
        refine r_getR hX dX6_spring_64 f_RX6_19 zr_39_4 ?_
        refine r_iload_n hX dX6_spring_67 1 rfl rfl ?_
        obtain ⟨x12, e13, h0b⟩ := zbind_elim h0b
        refine r_iald hX dX6_spring_68 rfl e13 ?_
        obtain ⟨u14, e15, h0b⟩ := zbind_elim h0b
        refine r_iast hX dX6_spring_69 rfl e15 ?_
        refine r_iinc (v := (x7 + 1)) (L' := [(2, .int (x7 + 1)), (0, .ref (zad X.1 39))]) hX dX6_spring_70 (by decide) 1 rfl rfl rfl ?_
        refine r_goto (tgt := 41) hX dX6_spring_73 (by decide) ?_
        refine r_sub [1, 0] (L' := [(0, .ref (zad X.1 39)), (2, .int (x7 + 1))]) rfl ?_
        exact hin0 _ (Option.some.inj h0b).symm
    · have h := (if_pos c4).symm.trans h
      refine r_aload_n hX dX6_spring_27 1 rfl rfl ?_
      refine r_ldc (v := (-1000004)) hX dX6_spring_28 (zT_in 1114 (by decide +kernel) rfl) ?_
      obtain ⟨x18, u19, e20, h⟩ := zbind2_elim h
      refine r_callV (As := [.int (-1000004)]) (rest := []) (st1 := [.int x18]) hX dX6_spring_30 lv_RX6_83 (c_X6_finding (-1000004)  u _ _ e20) (by decide) rfl rfl (zRecv.of (q := 39) (ci := 6) rfl rfl) rfl (Nat.le_of_ble_eq_true rfl) rfl ?_
      obtain ⟨rfl, rfl⟩ := zinj2 (Option.some.inj h)
      exact r_iret hX hR dX6_spring_33
  · have h := (if_pos c1).symm.trans h
    refine r_aload_n hX dX6_spring_11 0 rfl rfl ?_
    refine r_ldc (v := (-1000002)) hX dX6_spring_12 (zT_in 1046 (by decide +kernel) rfl) ?_
    obtain ⟨x21, u22, e23, h⟩ := zbind2_elim h
    refine r_callV (As := [.int (-1000002)]) (rest := []) (st1 := [.int x21]) hX dX6_spring_14 lv_RX6_83 (c_X6_finding (-1000002)  u _ _ e23) (by decide) rfl rfl (zRecv.of (q := 39) (ci := 6) rfl rfl) rfl (Nat.le_of_ble_eq_true rfl) rfl ?_
    obtain ⟨rfl, rfl⟩ := zinj2 (Option.some.inj h)
    exact r_iret hX hR dX6_spring_17
theorem dX6_isSpring_0 : decode cX6_isSpring 0 = .ok (.iload_n 1, 1) := by decide +kernel
theorem dX6_isSpring_1 : decode cX6_isSpring 1 = .ok (.iconst 0, 1) := by decide +kernel
theorem dX6_isSpring_2 : decode cX6_isSpring 2 = .ok (.aload_n 0, 1) := by decide +kernel
theorem dX6_isSpring_3 : decode cX6_isSpring 3 = .ok (.getfield 9, 3) := by decide +kernel
theorem dX6_isSpring_6 : decode cX6_isSpring 6 = .ok (.iconst 4, 1) := by decide +kernel
theorem dX6_isSpring_7 : decode cX6_isSpring 7 = .ok (.iaload, 1) := by decide +kernel
theorem dX6_isSpring_8 : decode cX6_isSpring 8 = .ok (.iconst 1, 1) := by decide +kernel
theorem dX6_isSpring_9 : decode cX6_isSpring 9 = .ok (.isub, 1) := by decide +kernel
theorem dX6_isSpring_10 : decode cX6_isSpring 10 = .ok (.invokestatic 79, 3) := by decide +kernel
theorem dX6_isSpring_13 : decode cX6_isSpring 13 = .ok (.ireturn, 1) := by decide +kernel
def m_X6_isSpring (a1 : Int32) (u : zM) : Int32 :=
  (zb (m_X6_within a1 0 ((u 40 4) - 1)))
set_option maxHeartbeats 4000000 in
set_option maxRecDepth 100000 in
theorem c_X6_isSpring (a1 : Int32)   (u : zM) (r : Int32) (h : m_X6_isSpring a1 u = r) : zCt 2 yX6_isSpring cX6_isSpring 2 (some .boolean) (fun E => [.ref (zad E 39), .int a1]) u (fun _ => some (.int r)) u := by
  refine zCt.of (by decide +kernel) (fun E => Nat.le_of_ble_eq_true rfl) (fun X hX hR => ?_)
  have hX : zGood X RX6 cX6_isSpring 2 2 := hX
  show zG X u 0 [(0, .ref (zad X.1 39)), (1, .int a1)] []
  unfold m_X6_isSpring at h
  refine r_iload_n hX dX6_isSpring_0 1 rfl rfl ?_
  refine r_iconst (v := 0) hX dX6_isSpring_1 (by decide) ?_
  refine r_aload_n hX dX6_isSpring_2 0 rfl rfl ?_
  refine r_getR hX dX6_isSpring_3 f_RX6_9 zr_39_0 ?_
  refine r_iconst (v := 4) hX dX6_isSpring_6 (by decide) ?_
  refine r_ialdC (j := 4) hX dX6_isSpring_7 rfl (by decide +kernel) ?_
  refine r_iconst (v := 1) hX dX6_isSpring_8 (by decide) ?_
  refine r_isub hX dX6_isSpring_9 ?_
  refine r_callS (As := [.int a1, .int 0, .int ((u 40 4) - 1)]) (rest := []) (st1 := [.int (m_X6_within a1 0 ((u 40 4) - 1))]) hX dX6_isSpring_10 ls_RX6_79 (c_X6_within a1 0 ((u 40 4) - 1)  u _ rfl) (by decide) rfl rfl rfl (Nat.le_of_ble_eq_true rfl) rfl ?_
  obtain rfl := h
  exact r_zret hX hR dX6_isSpring_13
theorem dX6_old_0 : decode cX6_old 0 = .ok (.aload_n 0, 1) := by decide +kernel
theorem dX6_old_1 : decode cX6_old 1 = .ok (.iload_n 1, 1) := by decide +kernel
theorem dX6_old_2 : decode cX6_old 2 = .ok (.invokevirtual 194, 3) := by decide +kernel
theorem dX6_old_5 : decode cX6_old 5 = .ok (.ifCond .eq 26, 3) := by decide +kernel
theorem dX6_old_8 : decode cX6_old 8 = .ok (.iload_n 2, 1) := by decide +kernel
theorem dX6_old_9 : decode cX6_old 9 = .ok (.invokestatic 136, 3) := by decide +kernel
theorem dX6_old_12 : decode cX6_old 12 = .ok (.ifCond .eq 19, 3) := by decide +kernel
theorem dX6_old_15 : decode cX6_old 15 = .ok (.aload_n 0, 1) := by decide +kernel
theorem dX6_old_16 : decode cX6_old 16 = .ok (.getfield 9, 3) := by decide +kernel
theorem dX6_old_19 : decode cX6_old 19 = .ok (.bipush 90, 2) := by decide +kernel
theorem dX6_old_21 : decode cX6_old 21 = .ok (.iconst 3, 1) := by decide +kernel
theorem dX6_old_22 : decode cX6_old 22 = .ok (.iload_n 1, 1) := by decide +kernel
theorem dX6_old_23 : decode cX6_old 23 = .ok (.imul, 1) := by decide +kernel
theorem dX6_old_24 : decode cX6_old 24 = .ok (.iadd, 1) := by decide +kernel
theorem dX6_old_25 : decode cX6_old 25 = .ok (.iload_n 2, 1) := by decide +kernel
theorem dX6_old_26 : decode cX6_old 26 = .ok (.iadd, 1) := by decide +kernel
theorem dX6_old_27 : decode cX6_old 27 = .ok (.iaload, 1) := by decide +kernel
theorem dX6_old_28 : decode cX6_old 28 = .ok (.goto 9, 3) := by decide +kernel
theorem dX6_old_31 : decode cX6_old 31 = .ok (.aload_n 0, 1) := by decide +kernel
theorem dX6_old_32 : decode cX6_old 32 = .ok (.ldc 78, 2) := by decide +kernel
theorem dX6_old_34 : decode cX6_old 34 = .ok (.invokevirtual 83, 3) := by decide +kernel
theorem dX6_old_37 : decode cX6_old 37 = .ok (.ireturn, 1) := by decide +kernel
def m_X6_old (a1 : Int32) (a2 : Int32) (u : zM) : Option (Int32 × zM) :=
  (if (m_X6_isSpring a1 u) = 0 then
zbind2 (m_X6_finding (-1000001) u) (fun x2 u3 => some (x2, u3))
else
(if (m_X6_isMeasure a2) = 0 then
zbind2 (m_X6_finding (-1000001) u) (fun x6 u7 => some (x6, u7))
else
zbind (zld u 40 160 ((90 + (3 * a1)) + a2)) (fun x9 => some (x9, u))))
set_option maxHeartbeats 4000000 in
set_option maxRecDepth 100000 in
theorem c_X6_old (a1 : Int32) (a2 : Int32)   (u : zM) (r : Int32) (u' : zM) (h : m_X6_old a1 a2 u = some (r, u')) : zCt 3 yX6_old cX6_old 3 (some .int) (fun E => [.ref (zad E 39), .int a1, .int a2]) u (fun _ => some (.int r)) u' := by
  refine zCt.of (by decide +kernel) (fun E => Nat.le_of_ble_eq_true rfl) (fun X hX hR => ?_)
  have hX : zGood X RX6 cX6_old 3 3 := hX
  show zG X u 0 [(0, .ref (zad X.1 39)), (1, .int a1), (2, .int a2)] []
  unfold m_X6_old at h
  refine r_aload_n hX dX6_old_0 0 rfl rfl ?_
  refine r_iload_n hX dX6_old_1 1 rfl rfl ?_
  refine r_callV (As := [.int a1]) (rest := []) (st1 := [.int (m_X6_isSpring a1 u)]) hX dX6_old_2 lv_RX6_194 (c_X6_isSpring a1  u _ rfl) (by decide) rfl rfl (zRecv.of (q := 39) (ci := 6) rfl rfl) rfl (Nat.le_of_ble_eq_true rfl) rfl ?_
  refine r_if_eq (tgt := 31) hX dX6_old_5 (by decide) (fun c1 => ?_) (fun c1 => ?_)
  · have h := (if_pos c1).symm.trans h
    refine r_aload_n hX dX6_old_31 0 rfl rfl ?_
    refine r_ldc (v := (-1000001)) hX dX6_old_32 (zT_in 1041 (by decide +kernel) rfl) ?_
    obtain ⟨x2, u3, e4, h⟩ := zbind2_elim h
    refine r_callV (As := [.int (-1000001)]) (rest := []) (st1 := [.int x2]) hX dX6_old_34 lv_RX6_83 (c_X6_finding (-1000001)  u _ _ e4) (by decide) rfl rfl (zRecv.of (q := 39) (ci := 6) rfl rfl) rfl (Nat.le_of_ble_eq_true rfl) rfl ?_
    obtain ⟨rfl, rfl⟩ := zinj2 (Option.some.inj h)
    exact r_iret hX hR dX6_old_37
  · have h := (if_neg c1).symm.trans h
    refine r_iload_n hX dX6_old_8 2 rfl rfl ?_
    refine r_callS (As := [.int a2]) (rest := []) (st1 := [.int (m_X6_isMeasure a2)]) hX dX6_old_9 ls_RX6_136 (c_X6_isMeasure a2  u _ rfl) (by decide) rfl rfl rfl (Nat.le_of_ble_eq_true rfl) rfl ?_
    refine r_if_eq (tgt := 31) hX dX6_old_12 (by decide) (fun c5 => ?_) (fun c5 => ?_)
    · have h := (if_pos c5).symm.trans h
      refine r_aload_n hX dX6_old_31 0 rfl rfl ?_
      refine r_ldc (v := (-1000001)) hX dX6_old_32 (zT_in 1041 (by decide +kernel) rfl) ?_
      obtain ⟨x6, u7, e8, h⟩ := zbind2_elim h
      refine r_callV (As := [.int (-1000001)]) (rest := []) (st1 := [.int x6]) hX dX6_old_34 lv_RX6_83 (c_X6_finding (-1000001)  u _ _ e8) (by decide) rfl rfl (zRecv.of (q := 39) (ci := 6) rfl rfl) rfl (Nat.le_of_ble_eq_true rfl) rfl ?_
      obtain ⟨rfl, rfl⟩ := zinj2 (Option.some.inj h)
      exact r_iret hX hR dX6_old_37
    · have h := (if_neg c5).symm.trans h
      refine r_aload_n hX dX6_old_15 0 rfl rfl ?_
      refine r_getR hX dX6_old_16 f_RX6_9 zr_39_0 ?_
      refine r_bipush (v := 90) hX dX6_old_19 (by decide) ?_
      refine r_iconst (v := 3) hX dX6_old_21 (by decide) ?_
      refine r_iload_n hX dX6_old_22 1 rfl rfl ?_
      refine r_imul hX dX6_old_23 ?_
      refine r_iadd hX dX6_old_24 ?_
      refine r_iload_n hX dX6_old_25 2 rfl rfl ?_
      refine r_iadd hX dX6_old_26 ?_
      obtain ⟨x9, e10, h⟩ := zbind_elim h
      refine r_iald hX dX6_old_27 rfl e10 ?_
      refine r_goto (tgt := 37) hX dX6_old_28 (by decide) ?_
      obtain ⟨rfl, rfl⟩ := zinj2 (Option.some.inj h)
      exact r_iret hX hR dX6_old_37
