/-! MODELS AND CONTRACTS, by program (wip/whole/gen_all.py): X5_doRound, X5_rounds, X4_writeBribes, X5_settles, X4_addSpring, X5_spring, X5_isSpring, X4_oldCoat, X5_old, X5_cutsAsIn -/
theorem dX5_doRound_0 : decode cX5_doRound 0 = .ok (.iconst 0, 1) := by decide +kernel
theorem dX5_doRound_1 : decode cX5_doRound 1 = .ok (.istore_n 1, 1) := by decide +kernel
theorem dX5_doRound_2 : decode cX5_doRound 2 = .ok (.iload_n 1, 1) := by decide +kernel
theorem dX5_doRound_3 : decode cX5_doRound 3 = .ok (.aload_n 0, 1) := by decide +kernel
theorem dX5_doRound_4 : decode cX5_doRound 4 = .ok (.getfield 10, 3) := by decide +kernel
theorem dX5_doRound_7 : decode cX5_doRound 7 = .ok (.getfield 69, 3) := by decide +kernel
theorem dX5_doRound_10 : decode cX5_doRound 10 = .ok (.if_icmp .ge 43, 3) := by decide +kernel
theorem dX5_doRound_13 : decode cX5_doRound 13 = .ok (.aload_n 0, 1) := by decide +kernel
theorem dX5_doRound_14 : decode cX5_doRound 14 = .ok (.getfield 10, 3) := by decide +kernel
theorem dX5_doRound_17 : decode cX5_doRound 17 = .ok (.iload_n 1, 1) := by decide +kernel
theorem dX5_doRound_18 : decode cX5_doRound 18 = .ok (.invokevirtual 175, 3) := by decide +kernel
theorem dX5_doRound_21 : decode cX5_doRound 21 = .ok (.ifCond .eq 26, 3) := by decide +kernel
theorem dX5_doRound_24 : decode cX5_doRound 24 = .ok (.aload_n 0, 1) := by decide +kernel
theorem dX5_doRound_25 : decode cX5_doRound 25 = .ok (.iload_n 1, 1) := by decide +kernel
theorem dX5_doRound_26 : decode cX5_doRound 26 = .ok (.invokevirtual 178, 3) := by decide +kernel
theorem dX5_doRound_29 : decode cX5_doRound 29 = .ok (.istore_n 2, 1) := by decide +kernel
theorem dX5_doRound_30 : decode cX5_doRound 30 = .ok (.aload_n 0, 1) := by decide +kernel
theorem dX5_doRound_31 : decode cX5_doRound 31 = .ok (.getfield 10, 3) := by decide +kernel
theorem dX5_doRound_34 : decode cX5_doRound 34 = .ok (.iload_n 1, 1) := by decide +kernel
theorem dX5_doRound_35 : decode cX5_doRound 35 = .ok (.iconst 4, 1) := by decide +kernel
theorem dX5_doRound_36 : decode cX5_doRound 36 = .ok (.iload_n 2, 1) := by decide +kernel
theorem dX5_doRound_37 : decode cX5_doRound 37 = .ok (.invokevirtual 92, 3) := by decide +kernel
theorem dX5_doRound_40 : decode cX5_doRound 40 = .ok (.aload_n 0, 1) := by decide +kernel
theorem dX5_doRound_41 : decode cX5_doRound 41 = .ok (.iload_n 1, 1) := by decide +kernel
theorem dX5_doRound_42 : decode cX5_doRound 42 = .ok (.iload_n 2, 1) := by decide +kernel
theorem dX5_doRound_43 : decode cX5_doRound 43 = .ok (.invokevirtual 298, 3) := by decide +kernel
theorem dX5_doRound_46 : decode cX5_doRound 46 = .ok (.pop, 1) := by decide +kernel
theorem dX5_doRound_47 : decode cX5_doRound 47 = .ok (.iinc 1 1, 3) := by decide +kernel
theorem dX5_doRound_50 : decode cX5_doRound 50 = .ok (.goto (-48), 3) := by decide +kernel
theorem dX5_doRound_53 : decode cX5_doRound 53 = .ok (.return_, 1) := by decide +kernel
def m_X5_doRound_b0  (x1 : Int32) (u2 : zM) : Option ((Int32 × zM) ⊕ (zM)) :=
  (if (u2 1 6) ≤ x1 then
some (.inr u2)
else
zbind (m_X4_bribesHere x1 u2) (fun x6 => (if x6 = 0 then
some (.inl ((x1 + 1), u2))
else
zbind2 (m_X5_bestBribe x1 u2) (fun x9 u10 => zbind (m_X4_put x1 4 x9 u10) (fun u12 => zbind2 (m_X5_costAtBribe x1 x9 u12) (fun x14 u15 => some (.inl ((x1 + 1), u15))))))))
def m_X5_doRound  (u : zM) : Option (zM) :=
  zbind (zit zF (fun s : Int32 × zM => m_X5_doRound_b0 s.1 s.2) (0, u)) (fun u3 =>
some u3)
set_option maxHeartbeats 4000000 in
set_option maxRecDepth 100000 in
theorem c_X5_doRound    (u : zM) (u' : zM) (h : m_X5_doRound u = some (u')) : zCt 7 yX5_doRound cX5_doRound 3 none (fun E => [.ref (zad E 0)]) u (fun _ => none) u' := by
  refine zCt.of (by decide +kernel) (fun E => Nat.le_of_ble_eq_true rfl) (fun X hX hR => ?_)
  have hX : zGood X RX5 cX5_doRound 3 7 := hX
  show zG X u 0 [(0, .ref (zad X.1 0))] []
  unfold m_X5_doRound at h
  refine r_iconst (v := 0) hX dX5_doRound_0 (by decide) ?_
  refine r_istore_n (y := 0) (L' := [(1, .int 0), (0, .ref (zad X.1 0))]) hX dX5_doRound_1 rfl (by decide) rfl rfl ?_
  refine r_sub [1, 0] (L' := [(0, .ref (zad X.1 0)), (1, .int 0)]) rfl ?_
  obtain ⟨u3, h4, h⟩ := zbind_elim h
  have Jh4 : zG X u3 53 [] [] := by
      obtain rfl := Option.some.inj h
      exact r_vret hX hR dX5_doRound_53
  clear h
  refine zit_walk (P := fun s0 : Int32 × zM => zG X s0.2 2 [(0, .ref (zad X.1 0)), (1, .int (s0.1))] []) ?_ zF _ h4
  clear h4
  intro s0 y0 h0b hin0 hout0
  obtain ⟨x1, u2⟩ := s0
  have h0b : m_X5_doRound_b0 x1 u2 = some y0 := h0b
  unfold m_X5_doRound_b0 at h0b
  show zG X u2 2 [(0, .ref (zad X.1 0)), (1, .int x1)] []
  refine r_iload_n hX dX5_doRound_2 1 rfl rfl ?_
  refine r_aload_n hX dX5_doRound_3 0 rfl rfl ?_
  refine r_getR hX dX5_doRound_4 f_RX5_10 zr_0_0 ?_
  refine r_getI hX dX5_doRound_7 f_RX5_69 zi_1_6 ?_
  refine r_icmp_ge (tgt := 53) hX dX5_doRound_10 (by decide) (fun c5 => ?_) (fun c5 => ?_)
  · have h0b := (if_pos c5).symm.trans h0b
    refine r_sub [] (L' := []) rfl ?_
    have h0b := hout0 _ (Option.some.inj h0b).symm
    obtain rfl := h0b
    exact Jh4
  · have h0b := (if_neg c5).symm.trans h0b
    refine r_aload_n hX dX5_doRound_13 0 rfl rfl ?_
    refine r_getR hX dX5_doRound_14 f_RX5_10 zr_0_0 ?_
    refine r_iload_n hX dX5_doRound_17 1 rfl rfl ?_
    obtain ⟨x6, e7, h0b⟩ := zbind_elim h0b
    refine r_callV (As := [.int x1]) (rest := []) (st1 := [.int x6]) hX dX5_doRound_18 lv_RX5_175 (c_X4_bribesHere x1  u2 _ e7) (by decide) rfl rfl (zRecv.of (q := 1) (ci := 4) rfl rfl) rfl (Nat.le_of_ble_eq_true rfl) rfl ?_
    refine r_if_eq (tgt := 47) hX dX5_doRound_21 (by decide) (fun c8 => ?_) (fun c8 => ?_)
    · have h0b := (if_pos c8).symm.trans h0b
      refine r_iinc (v := (x1 + 1)) (L' := [(1, .int (x1 + 1)), (0, .ref (zad X.1 0))]) hX dX5_doRound_47 (by decide) 1 rfl rfl rfl ?_
      refine r_goto (tgt := 2) hX dX5_doRound_50 (by decide) ?_
      refine r_sub [1, 0] (L' := [(0, .ref (zad X.1 0)), (1, .int (x1 + 1))]) rfl ?_
      exact hin0 _ (Option.some.inj h0b).symm
    · have h0b := (if_neg c8).symm.trans h0b
      refine r_aload_n hX dX5_doRound_24 0 rfl rfl ?_
      refine r_iload_n hX dX5_doRound_25 1 rfl rfl ?_
      obtain ⟨x9, u10, e11, h0b⟩ := zbind2_elim h0b
      refine r_callV (As := [.int x1]) (rest := []) (st1 := [.int x9]) hX dX5_doRound_26 lv_RX5_178 (c_X5_bestBribe x1  u2 _ _ e11) (by decide) rfl rfl (zRecv.of (q := 0) (ci := 5) rfl rfl) rfl (Nat.le_of_ble_eq_true rfl) rfl ?_
      refine r_istore_n (y := x9) (L' := [(2, .int x9), (0, .ref (zad X.1 0)), (1, .int x1)]) hX dX5_doRound_29 rfl (by decide) rfl rfl ?_
      refine r_aload_n hX dX5_doRound_30 1 rfl rfl ?_
      refine r_getR hX dX5_doRound_31 f_RX5_10 zr_0_0 ?_
      refine r_iload_n hX dX5_doRound_34 2 rfl rfl ?_
      refine r_iconst (v := 4) hX dX5_doRound_35 (by decide) ?_
      refine r_iload_n hX dX5_doRound_36 0 rfl rfl ?_
      obtain ⟨u12, e13, h0b⟩ := zbind_elim h0b
      refine r_callV (As := [.int x1, .int 4, .int x9]) (rest := []) (st1 := []) hX dX5_doRound_37 lv_RX5_92 (c_X4_put x1 4 x9  u10 _ e13) (by decide) rfl rfl (zRecv.of (q := 1) (ci := 4) rfl rfl) rfl (Nat.le_of_ble_eq_true rfl) rfl ?_
      refine r_aload_n hX dX5_doRound_40 1 rfl rfl ?_
      refine r_iload_n hX dX5_doRound_41 2 rfl rfl ?_
      refine r_iload_n hX dX5_doRound_42 0 rfl rfl ?_
      obtain ⟨x14, u15, e16, h0b⟩ := zbind2_elim h0b
      refine r_callV (As := [.int x1, .int x9]) (rest := []) (st1 := [.int x14]) hX dX5_doRound_43 lv_RX5_298 (c_X5_costAtBribe x1 x9  u12 _ _ e16) (by decide) rfl rfl (zRecv.of (q := 0) (ci := 5) rfl rfl) rfl (Nat.le_of_ble_eq_true rfl) rfl ?_
      refine r_pop hX dX5_doRound_46 rfl ?_
      refine r_iinc (v := (x1 + 1)) (L' := [(1, .int (x1 + 1)), (2, .int x9), (0, .ref (zad X.1 0))]) hX dX5_doRound_47 (by decide) 2 rfl rfl rfl ?_
      refine r_goto (tgt := 2) hX dX5_doRound_50 (by decide) ?_
      refine r_sub [2, 0] (L' := [(0, .ref (zad X.1 0)), (1, .int (x1 + 1))]) rfl ?_
      exact hin0 _ (Option.some.inj h0b).symm
theorem dX5_rounds_0 : decode cX5_rounds 0 = .ok (.iload_n 1, 1) := by decide +kernel
theorem dX5_rounds_1 : decode cX5_rounds 1 = .ok (.iconst 1, 1) := by decide +kernel
theorem dX5_rounds_2 : decode cX5_rounds 2 = .ok (.bipush 20, 2) := by decide +kernel
theorem dX5_rounds_4 : decode cX5_rounds 4 = .ok (.invokestatic 80, 3) := by decide +kernel
theorem dX5_rounds_7 : decode cX5_rounds 7 = .ok (.ifCond .ne 9, 3) := by decide +kernel
theorem dX5_rounds_10 : decode cX5_rounds 10 = .ok (.aload_n 0, 1) := by decide +kernel
theorem dX5_rounds_11 : decode cX5_rounds 11 = .ok (.iconst 0, 1) := by decide +kernel
theorem dX5_rounds_12 : decode cX5_rounds 12 = .ok (.invokevirtual 65, 3) := by decide +kernel
theorem dX5_rounds_15 : decode cX5_rounds 15 = .ok (.ireturn, 1) := by decide +kernel
theorem dX5_rounds_16 : decode cX5_rounds 16 = .ok (.aload_n 0, 1) := by decide +kernel
theorem dX5_rounds_17 : decode cX5_rounds 17 = .ok (.invokevirtual 125, 3) := by decide +kernel
theorem dX5_rounds_20 : decode cX5_rounds 20 = .ok (.pop, 1) := by decide +kernel
theorem dX5_rounds_21 : decode cX5_rounds 21 = .ok (.aload_n 0, 1) := by decide +kernel
theorem dX5_rounds_22 : decode cX5_rounds 22 = .ok (.getfield 10, 3) := by decide +kernel
theorem dX5_rounds_25 : decode cX5_rounds 25 = .ok (.aload_n 0, 1) := by decide +kernel
theorem dX5_rounds_26 : decode cX5_rounds 26 = .ok (.getfield 50, 3) := by decide +kernel
theorem dX5_rounds_29 : decode cX5_rounds 29 = .ok (.invokevirtual 184, 3) := by decide +kernel
theorem dX5_rounds_32 : decode cX5_rounds 32 = .ok (.iconst 0, 1) := by decide +kernel
theorem dX5_rounds_33 : decode cX5_rounds 33 = .ok (.istore_n 2, 1) := by decide +kernel
theorem dX5_rounds_34 : decode cX5_rounds 34 = .ok (.iload_n 2, 1) := by decide +kernel
theorem dX5_rounds_35 : decode cX5_rounds 35 = .ok (.iload_n 1, 1) := by decide +kernel
theorem dX5_rounds_36 : decode cX5_rounds 36 = .ok (.if_icmp .ge 13, 3) := by decide +kernel
theorem dX5_rounds_39 : decode cX5_rounds 39 = .ok (.aload_n 0, 1) := by decide +kernel
theorem dX5_rounds_40 : decode cX5_rounds 40 = .ok (.invokevirtual 188, 3) := by decide +kernel
theorem dX5_rounds_43 : decode cX5_rounds 43 = .ok (.iinc 2 1, 3) := by decide +kernel
theorem dX5_rounds_46 : decode cX5_rounds 46 = .ok (.goto (-12), 3) := by decide +kernel
theorem dX5_rounds_49 : decode cX5_rounds 49 = .ok (.iconst 0, 1) := by decide +kernel
theorem dX5_rounds_50 : decode cX5_rounds 50 = .ok (.istore_n 2, 1) := by decide +kernel
theorem dX5_rounds_51 : decode cX5_rounds 51 = .ok (.iconst 0, 1) := by decide +kernel
theorem dX5_rounds_52 : decode cX5_rounds 52 = .ok (.istore_n 3, 1) := by decide +kernel
theorem dX5_rounds_53 : decode cX5_rounds 53 = .ok (.iload_n 3, 1) := by decide +kernel
theorem dX5_rounds_54 : decode cX5_rounds 54 = .ok (.aload_n 0, 1) := by decide +kernel
theorem dX5_rounds_55 : decode cX5_rounds 55 = .ok (.getfield 10, 3) := by decide +kernel
theorem dX5_rounds_58 : decode cX5_rounds 58 = .ok (.getfield 69, 3) := by decide +kernel
theorem dX5_rounds_61 : decode cX5_rounds 61 = .ok (.if_icmp .ge 35, 3) := by decide +kernel
theorem dX5_rounds_64 : decode cX5_rounds 64 = .ok (.iload_n 2, 1) := by decide +kernel
theorem dX5_rounds_65 : decode cX5_rounds 65 = .ok (.aload_n 0, 1) := by decide +kernel
theorem dX5_rounds_66 : decode cX5_rounds 66 = .ok (.getfield 10, 3) := by decide +kernel
theorem dX5_rounds_69 : decode cX5_rounds 69 = .ok (.iload_n 3, 1) := by decide +kernel
theorem dX5_rounds_70 : decode cX5_rounds 70 = .ok (.iconst 4, 1) := by decide +kernel
theorem dX5_rounds_71 : decode cX5_rounds 71 = .ok (.invokevirtual 84, 3) := by decide +kernel
theorem dX5_rounds_74 : decode cX5_rounds 74 = .ok (.aload_n 0, 1) := by decide +kernel
theorem dX5_rounds_75 : decode cX5_rounds 75 = .ok (.getfield 50, 3) := by decide +kernel
theorem dX5_rounds_78 : decode cX5_rounds 78 = .ok (.iload_n 3, 1) := by decide +kernel
theorem dX5_rounds_79 : decode cX5_rounds 79 = .ok (.iaload, 1) := by decide +kernel
theorem dX5_rounds_80 : decode cX5_rounds 80 = .ok (.if_icmp .eq 7, 3) := by decide +kernel
theorem dX5_rounds_83 : decode cX5_rounds 83 = .ok (.iconst 1, 1) := by decide +kernel
theorem dX5_rounds_84 : decode cX5_rounds 84 = .ok (.goto 4, 3) := by decide +kernel
theorem dX5_rounds_87 : decode cX5_rounds 87 = .ok (.iconst 0, 1) := by decide +kernel
theorem dX5_rounds_88 : decode cX5_rounds 88 = .ok (.iadd, 1) := by decide +kernel
theorem dX5_rounds_89 : decode cX5_rounds 89 = .ok (.istore_n 2, 1) := by decide +kernel
theorem dX5_rounds_90 : decode cX5_rounds 90 = .ok (.iinc 3 1, 3) := by decide +kernel
theorem dX5_rounds_93 : decode cX5_rounds 93 = .ok (.goto (-40), 3) := by decide +kernel
theorem dX5_rounds_96 : decode cX5_rounds 96 = .ok (.iload_n 2, 1) := by decide +kernel
theorem dX5_rounds_97 : decode cX5_rounds 97 = .ok (.ireturn, 1) := by decide +kernel
def m_X5_rounds_b0 (a1 : Int32) (x7 : Int32) (u8 : zM) : Option ((Int32 × zM) ⊕ (zM)) :=
  (if a1 ≤ x7 then
some (.inr u8)
else
zbind (m_X5_doRound u8) (fun u12 => some (.inl ((x7 + 1), u12))))
def m_X5_rounds_b1 (u9 : zM) (x14 : Int32) (x15 : Int32) : Option ((Int32 × Int32) ⊕ (Int32)) :=
  (if (u9 1 6) ≤ x15 then
some (.inr x14)
else
zbind (m_X4_tell x15 4 u9) (fun x19 => zbind (zld u9 29 12 x15) (fun x21 => (if x19 = x21 then
some (.inl ((x14 + 0), (x15 + 1)))
else
some (.inl ((x14 + 1), (x15 + 1)))))))
def m_X5_rounds (a1 : Int32) (u : zM) : Option (Int32 × zM) :=
  (if (m_X5_within a1 1 20) = 0 then
zbind2 (m_X5_finding 0 u) (fun x24 u25 => some (x24, u25))
else
zbind2 (m_X5_cutForAllHere u) (fun x2 u3 => zbind (m_X4_readBribes u3) (fun u5 => zbind (zit zF (fun s : Int32 × zM => m_X5_rounds_b0 a1 s.1 s.2) (0, u5)) (fun u9 =>
zbind (zit zF (fun s : Int32 × Int32 => m_X5_rounds_b1 u9 s.1 s.2) (0, 0)) (fun x16 =>
some (x16, u9))))))
set_option maxHeartbeats 4000000 in
set_option maxRecDepth 100000 in
theorem c_X5_rounds (a1 : Int32)   (u : zM) (r : Int32) (u' : zM) (h : m_X5_rounds a1 u = some (r, u')) : zCt 8 yX5_rounds cX5_rounds 4 (some .int) (fun E => [.ref (zad E 0), .int a1]) u (fun _ => some (.int r)) u' := by
  refine zCt.of (by decide +kernel) (fun E => Nat.le_of_ble_eq_true rfl) (fun X hX hR => ?_)
  have hX : zGood X RX5 cX5_rounds 4 8 := hX
  show zG X u 0 [(0, .ref (zad X.1 0)), (1, .int a1)] []
  unfold m_X5_rounds at h
  refine r_iload_n hX dX5_rounds_0 1 rfl rfl ?_
  refine r_iconst (v := 1) hX dX5_rounds_1 (by decide) ?_
  refine r_bipush (v := 20) hX dX5_rounds_2 (by decide) ?_
  refine r_callS (As := [.int a1, .int 1, .int 20]) (rest := []) (st1 := [.int (m_X5_within a1 1 20)]) hX dX5_rounds_4 ls_RX5_80 (c_X5_within a1 1 20  u _ rfl) (by decide) rfl rfl rfl (Nat.le_of_ble_eq_true rfl) rfl ?_
  refine r_if_ne (tgt := 16) hX dX5_rounds_7 (by decide) (fun c1 => ?_) (fun c1 => ?_)
  · have h := (if_neg c1).symm.trans h
    refine r_aload_n hX dX5_rounds_16 0 rfl rfl ?_
    obtain ⟨x2, u3, e4, h⟩ := zbind2_elim h
    refine r_callV (As := []) (rest := []) (st1 := [.int x2]) hX dX5_rounds_17 lv_RX5_125 (c_X5_cutForAllHere   u _ _ e4) (by decide) rfl rfl (zRecv.of (q := 0) (ci := 5) rfl rfl) rfl (Nat.le_of_ble_eq_true rfl) rfl ?_
    refine r_pop hX dX5_rounds_20 rfl ?_
    refine r_aload_n hX dX5_rounds_21 0 rfl rfl ?_
    refine r_getR hX dX5_rounds_22 f_RX5_10 zr_0_0 ?_
    refine r_aload_n hX dX5_rounds_25 0 rfl rfl ?_
    refine r_getR hX dX5_rounds_26 f_RX5_50 zr_0_7 ?_
    obtain ⟨u5, e6, h⟩ := zbind_elim h
    refine r_callV (As := [.ref (zad X.1 29)]) (rest := []) (st1 := []) hX dX5_rounds_29 lv_RX5_184 (c_X4_readBribes   u3 _ e6) (by decide) rfl rfl (zRecv.of (q := 1) (ci := 4) rfl rfl) rfl (Nat.le_of_ble_eq_true rfl) rfl ?_
    refine r_iconst (v := 0) hX dX5_rounds_32 (by decide) ?_
    refine r_istore_n (y := 0) (L' := [(2, .int 0), (0, .ref (zad X.1 0)), (1, .int a1)]) hX dX5_rounds_33 rfl (by decide) rfl rfl ?_
    refine r_sub [1, 2, 0] (L' := [(0, .ref (zad X.1 0)), (1, .int a1), (2, .int 0)]) rfl ?_
    obtain ⟨u9, h10, h⟩ := zbind_elim h
    have Jh10 : zG X u9 49 [(0, .ref (zad X.1 0))] [] := by
        refine r_iconst (v := 0) hX dX5_rounds_49 (by decide) ?_
        refine r_istore_n (y := 0) (L' := [(2, .int 0), (0, .ref (zad X.1 0))]) hX dX5_rounds_50 rfl (by decide) rfl rfl ?_
        refine r_iconst (v := 0) hX dX5_rounds_51 (by decide) ?_
        refine r_istore_n (y := 0) (L' := [(3, .int 0), (2, .int 0), (0, .ref (zad X.1 0))]) hX dX5_rounds_52 rfl (by decide) rfl rfl ?_
        refine r_sub [2, 1, 0] (L' := [(0, .ref (zad X.1 0)), (2, .int 0), (3, .int 0)]) rfl ?_
        obtain ⟨x16, h17, h⟩ := zbind_elim h
        have Jh17 : zG X u9 96 [(2, .int x16)] [] := by
            refine r_iload_n hX dX5_rounds_96 0 rfl rfl ?_
            obtain ⟨rfl, rfl⟩ := zinj2 (Option.some.inj h)
            exact r_iret hX hR dX5_rounds_97
        clear h
        refine zit_walk (P := fun s1 : Int32 × Int32 => zG X u9 53 [(0, .ref (zad X.1 0)), (2, .int (s1.1)), (3, .int (s1.2))] []) ?_ zF _ h17
        clear h17
        intro s1 y1 h1b hin1 hout1
        obtain ⟨x14, x15⟩ := s1
        have h1b : m_X5_rounds_b1 u9 x14 x15 = some y1 := h1b
        unfold m_X5_rounds_b1 at h1b
        show zG X u9 53 [(0, .ref (zad X.1 0)), (2, .int x14), (3, .int x15)] []
        refine r_iload_n hX dX5_rounds_53 2 rfl rfl ?_
        refine r_aload_n hX dX5_rounds_54 0 rfl rfl ?_
        refine r_getR hX dX5_rounds_55 f_RX5_10 zr_0_0 ?_
        refine r_getI hX dX5_rounds_58 f_RX5_69 zi_1_6 ?_
        refine r_icmp_ge (tgt := 96) hX dX5_rounds_61 (by decide) (fun c18 => ?_) (fun c18 => ?_)
        · have h1b := (if_pos c18).symm.trans h1b
          refine r_sub [1] (L' := [(2, .int x14)]) rfl ?_
          have h1b := hout1 _ (Option.some.inj h1b).symm
          obtain rfl := h1b
          exact Jh17
        · have h1b := (if_neg c18).symm.trans h1b
          refine r_iload_n hX dX5_rounds_64 1 rfl rfl ?_
          refine r_aload_n hX dX5_rounds_65 0 rfl rfl ?_
          refine r_getR hX dX5_rounds_66 f_RX5_10 zr_0_0 ?_
          refine r_iload_n hX dX5_rounds_69 2 rfl rfl ?_
          refine r_iconst (v := 4) hX dX5_rounds_70 (by decide) ?_
          obtain ⟨x19, e20, h1b⟩ := zbind_elim h1b
          refine r_callV (As := [.int x15, .int 4]) (rest := [.int x14]) (st1 := [.int x19, .int x14]) hX dX5_rounds_71 lv_RX5_84 (c_X4_tell x15 4  u9 _ e20) (by decide) rfl rfl (zRecv.of (q := 1) (ci := 4) rfl rfl) rfl (Nat.le_of_ble_eq_true rfl) rfl ?_
          refine r_aload_n hX dX5_rounds_74 0 rfl rfl ?_
          refine r_getR hX dX5_rounds_75 f_RX5_50 zr_0_7 ?_
          refine r_iload_n hX dX5_rounds_78 2 rfl rfl ?_
          obtain ⟨x21, e22, h1b⟩ := zbind_elim h1b
          refine r_iald hX dX5_rounds_79 rfl e22 ?_
          refine r_icmp_eq (tgt := 87) hX dX5_rounds_80 (by decide) (fun c23 => ?_) (fun c23 => ?_)
          · have h1b := (if_pos c23).symm.trans h1b
            refine r_iconst (v := 0) hX dX5_rounds_87 (by decide) ?_
            refine r_iadd hX dX5_rounds_88 ?_
            refine r_istore_n (y := (x14 + 0)) (L' := [(2, .int (x14 + 0)), (0, .ref (zad X.1 0)), (3, .int x15)]) hX dX5_rounds_89 rfl (by decide) rfl rfl ?_
            refine r_iinc (v := (x15 + 1)) (L' := [(3, .int (x15 + 1)), (2, .int (x14 + 0)), (0, .ref (zad X.1 0))]) hX dX5_rounds_90 (by decide) 2 rfl rfl rfl ?_
            refine r_goto (tgt := 53) hX dX5_rounds_93 (by decide) ?_
            refine r_sub [2, 1, 0] (L' := [(0, .ref (zad X.1 0)), (2, .int (x14 + 0)), (3, .int (x15 + 1))]) rfl ?_
            exact hin1 _ (Option.some.inj h1b).symm
          · have h1b := (if_neg c23).symm.trans h1b
            refine r_iconst (v := 1) hX dX5_rounds_83 (by decide) ?_
            refine r_goto (tgt := 88) hX dX5_rounds_84 (by decide) ?_
            refine r_iadd hX dX5_rounds_88 ?_
            refine r_istore_n (y := (x14 + 1)) (L' := [(2, .int (x14 + 1)), (0, .ref (zad X.1 0)), (3, .int x15)]) hX dX5_rounds_89 rfl (by decide) rfl rfl ?_
            refine r_iinc (v := (x15 + 1)) (L' := [(3, .int (x15 + 1)), (2, .int (x14 + 1)), (0, .ref (zad X.1 0))]) hX dX5_rounds_90 (by decide) 2 rfl rfl rfl ?_
            refine r_goto (tgt := 53) hX dX5_rounds_93 (by decide) ?_
            refine r_sub [2, 1, 0] (L' := [(0, .ref (zad X.1 0)), (2, .int (x14 + 1)), (3, .int (x15 + 1))]) rfl ?_
            exact hin1 _ (Option.some.inj h1b).symm
    clear h
    refine zit_walk (P := fun s0 : Int32 × zM => zG X s0.2 34 [(0, .ref (zad X.1 0)), (1, .int a1), (2, .int (s0.1))] []) ?_ zF _ h10
    clear h10
    intro s0 y0 h0b hin0 hout0
    obtain ⟨x7, u8⟩ := s0
    have h0b : m_X5_rounds_b0 a1 x7 u8 = some y0 := h0b
    unfold m_X5_rounds_b0 at h0b
    show zG X u8 34 [(0, .ref (zad X.1 0)), (1, .int a1), (2, .int x7)] []
    refine r_iload_n hX dX5_rounds_34 2 rfl rfl ?_
    refine r_iload_n hX dX5_rounds_35 1 rfl rfl ?_
    refine r_icmp_ge (tgt := 49) hX dX5_rounds_36 (by decide) (fun c11 => ?_) (fun c11 => ?_)
    · have h0b := (if_pos c11).symm.trans h0b
      refine r_sub [0] (L' := [(0, .ref (zad X.1 0))]) rfl ?_
      have h0b := hout0 _ (Option.some.inj h0b).symm
      obtain rfl := h0b
      exact Jh10
    · have h0b := (if_neg c11).symm.trans h0b
      refine r_aload_n hX dX5_rounds_39 0 rfl rfl ?_
      obtain ⟨u12, e13, h0b⟩ := zbind_elim h0b
      refine r_callV (As := []) (rest := []) (st1 := []) hX dX5_rounds_40 lv_RX5_188 (c_X5_doRound   u8 _ e13) (by decide) rfl rfl (zRecv.of (q := 0) (ci := 5) rfl rfl) rfl (Nat.le_of_ble_eq_true rfl) rfl ?_
      refine r_iinc (v := (x7 + 1)) (L' := [(2, .int (x7 + 1)), (0, .ref (zad X.1 0)), (1, .int a1)]) hX dX5_rounds_43 (by decide) 2 rfl rfl rfl ?_
      refine r_goto (tgt := 34) hX dX5_rounds_46 (by decide) ?_
      refine r_sub [1, 2, 0] (L' := [(0, .ref (zad X.1 0)), (1, .int a1), (2, .int (x7 + 1))]) rfl ?_
      exact hin0 _ (Option.some.inj h0b).symm
  · have h := (if_pos c1).symm.trans h
    refine r_aload_n hX dX5_rounds_10 0 rfl rfl ?_
    refine r_iconst (v := 0) hX dX5_rounds_11 (by decide) ?_
    obtain ⟨x24, u25, e26, h⟩ := zbind2_elim h
    refine r_callV (As := [.int 0]) (rest := []) (st1 := [.int x24]) hX dX5_rounds_12 lv_RX5_65 (c_X5_finding 0  u _ _ e26) (by decide) rfl rfl (zRecv.of (q := 0) (ci := 5) rfl rfl) rfl (Nat.le_of_ble_eq_true rfl) rfl ?_
    obtain ⟨rfl, rfl⟩ := zinj2 (Option.some.inj h)
    exact r_iret hX hR dX5_rounds_15
theorem dX4_writeBribes_0 : decode cX4_writeBribes 0 = .ok (.aload_n 1, 1) := by decide +kernel
theorem dX4_writeBribes_1 : decode cX4_writeBribes 1 = .ok (.iconst 0, 1) := by decide +kernel
theorem dX4_writeBribes_2 : decode cX4_writeBribes 2 = .ok (.aload_n 0, 1) := by decide +kernel
theorem dX4_writeBribes_3 : decode cX4_writeBribes 3 = .ok (.getfield 18, 3) := by decide +kernel
theorem dX4_writeBribes_6 : decode cX4_writeBribes 6 = .ok (.iconst 0, 1) := by decide +kernel
theorem dX4_writeBribes_7 : decode cX4_writeBribes 7 = .ok (.bipush 12, 2) := by decide +kernel
theorem dX4_writeBribes_9 : decode cX4_writeBribes 9 = .ok (.invokestatic 52, 3) := by decide +kernel
theorem dX4_writeBribes_12 : decode cX4_writeBribes 12 = .ok (.return_, 1) := by decide +kernel
def m_X4_writeBribes  (u : zM) : Option (zM) :=
  zbind (zcp u 29 12 0 4 12 0 12) (fun u1 => some u1)
set_option maxHeartbeats 4000000 in
set_option maxRecDepth 100000 in
theorem c_X4_writeBribes    (u : zM) (u' : zM) (h : m_X4_writeBribes u = some (u')) : zCt 2 yX4_writeBribes cX4_writeBribes 2 none (fun E => [.ref (zad E 1), .ref (zad E 29)]) u (fun _ => none) u' := by
  refine zCt.of (by decide +kernel) (fun E => Nat.le_of_ble_eq_true rfl) (fun X hX hR => ?_)
  have hX : zGood X RX4 cX4_writeBribes 2 2 := hX
  show zG X u 0 [(0, .ref (zad X.1 1)), (1, .ref (zad X.1 29))] []
  unfold m_X4_writeBribes at h
  refine r_aload_n hX dX4_writeBribes_0 1 rfl rfl ?_
  refine r_iconst (v := 0) hX dX4_writeBribes_1 (by decide) ?_
  refine r_aload_n hX dX4_writeBribes_2 0 rfl rfl ?_
  refine r_getR hX dX4_writeBribes_3 f_RX4_18 zr_1_2 ?_
  refine r_iconst (v := 0) hX dX4_writeBribes_6 (by decide) ?_
  refine r_bipush (v := 12) hX dX4_writeBribes_7 (by decide) ?_
  obtain ⟨u1, e2, h⟩ := zbind_elim h
  refine r_copy hX dX4_writeBribes_9 la_RX4_52 rfl rfl (by decide) (Nat.le_of_ble_eq_true rfl) e2 ?_
  obtain rfl := Option.some.inj h
  exact r_vret hX hR dX4_writeBribes_12
theorem dX5_settles_0 : decode cX5_settles 0 = .ok (.aload_n 0, 1) := by decide +kernel
theorem dX5_settles_1 : decode cX5_settles 1 = .ok (.invokevirtual 125, 3) := by decide +kernel
theorem dX5_settles_4 : decode cX5_settles 4 = .ok (.pop, 1) := by decide +kernel
theorem dX5_settles_5 : decode cX5_settles 5 = .ok (.aload_n 0, 1) := by decide +kernel
theorem dX5_settles_6 : decode cX5_settles 6 = .ok (.getfield 10, 3) := by decide +kernel
theorem dX5_settles_9 : decode cX5_settles 9 = .ok (.aload_n 0, 1) := by decide +kernel
theorem dX5_settles_10 : decode cX5_settles 10 = .ok (.getfield 50, 3) := by decide +kernel
theorem dX5_settles_13 : decode cX5_settles 13 = .ok (.invokevirtual 184, 3) := by decide +kernel
theorem dX5_settles_16 : decode cX5_settles 16 = .ok (.iconst 0, 1) := by decide +kernel
theorem dX5_settles_17 : decode cX5_settles 17 = .ok (.istore_n 1, 1) := by decide +kernel
theorem dX5_settles_18 : decode cX5_settles 18 = .ok (.aload_n 0, 1) := by decide +kernel
theorem dX5_settles_19 : decode cX5_settles 19 = .ok (.invokevirtual 181, 3) := by decide +kernel
theorem dX5_settles_22 : decode cX5_settles 22 = .ok (.istore_n 2, 1) := by decide +kernel
theorem dX5_settles_23 : decode cX5_settles 23 = .ok (.iload_n 2, 1) := by decide +kernel
theorem dX5_settles_24 : decode cX5_settles 24 = .ok (.ifCond .ne 24, 3) := by decide +kernel
theorem dX5_settles_27 : decode cX5_settles 27 = .ok (.iload_n 1, 1) := by decide +kernel
theorem dX5_settles_28 : decode cX5_settles 28 = .ok (.bipush 50, 2) := by decide +kernel
theorem dX5_settles_30 : decode cX5_settles 30 = .ok (.if_icmp .ge 18, 3) := by decide +kernel
theorem dX5_settles_33 : decode cX5_settles 33 = .ok (.aload_n 0, 1) := by decide +kernel
theorem dX5_settles_34 : decode cX5_settles 34 = .ok (.invokevirtual 188, 3) := by decide +kernel
theorem dX5_settles_37 : decode cX5_settles 37 = .ok (.iinc 1 1, 3) := by decide +kernel
theorem dX5_settles_40 : decode cX5_settles 40 = .ok (.aload_n 0, 1) := by decide +kernel
theorem dX5_settles_41 : decode cX5_settles 41 = .ok (.invokevirtual 181, 3) := by decide +kernel
theorem dX5_settles_44 : decode cX5_settles 44 = .ok (.istore_n 2, 1) := by decide +kernel
theorem dX5_settles_45 : decode cX5_settles 45 = .ok (.goto (-22), 3) := by decide +kernel
theorem dX5_settles_48 : decode cX5_settles 48 = .ok (.aload_n 0, 1) := by decide +kernel
theorem dX5_settles_49 : decode cX5_settles 49 = .ok (.getfield 10, 3) := by decide +kernel
theorem dX5_settles_52 : decode cX5_settles 52 = .ok (.aload_n 0, 1) := by decide +kernel
theorem dX5_settles_53 : decode cX5_settles 53 = .ok (.getfield 50, 3) := by decide +kernel
theorem dX5_settles_56 : decode cX5_settles 56 = .ok (.invokevirtual 191, 3) := by decide +kernel
theorem dX5_settles_59 : decode cX5_settles 59 = .ok (.iload_n 2, 1) := by decide +kernel
theorem dX5_settles_60 : decode cX5_settles 60 = .ok (.ifCond .eq 7, 3) := by decide +kernel
theorem dX5_settles_63 : decode cX5_settles 63 = .ok (.iload_n 1, 1) := by decide +kernel
theorem dX5_settles_64 : decode cX5_settles 64 = .ok (.goto 8, 3) := by decide +kernel
theorem dX5_settles_67 : decode cX5_settles 67 = .ok (.aload_n 0, 1) := by decide +kernel
theorem dX5_settles_68 : decode cX5_settles 68 = .ok (.iconst 3, 1) := by decide +kernel
theorem dX5_settles_69 : decode cX5_settles 69 = .ok (.invokevirtual 65, 3) := by decide +kernel
theorem dX5_settles_72 : decode cX5_settles 72 = .ok (.ireturn, 1) := by decide +kernel
def m_X5_settles_b0  (x9 : Int32) (x10 : Int32) (u11 : zM) : Option ((Int32 × Int32 × zM) ⊕ (Int32 × Int32 × zM)) :=
  (if x10 = 0 then
(if 50 ≤ x9 then
some (.inr (x9, x10, u11))
else
zbind (m_X5_doRound u11) (fun u18 => zbind2 (m_X5_isSettled u18) (fun x20 u21 => some (.inl ((x9 + 1), x20, u21)))))
else
some (.inr (x9, x10, u11)))
def m_X5_settles  (u : zM) : Option (Int32 × zM) :=
  zbind2 (m_X5_cutForAllHere u) (fun x1 u2 => zbind (m_X4_readBribes u2) (fun u4 => zbind2 (m_X5_isSettled u4) (fun x6 u7 => zbind3 (zit zF (fun s : Int32 × Int32 × zM => m_X5_settles_b0 s.1 s.2.1 s.2.2) (0, x6, u7)) (fun x12 x13 u14 =>
zbind (m_X4_writeBribes u14) (fun u23 => (if x13 = 0 then
zbind2 (m_X5_finding 3 u23) (fun x26 u27 => some (x26, u27))
else
some (x12, u23)))))))
set_option maxHeartbeats 4000000 in
set_option maxRecDepth 100000 in
theorem c_X5_settles    (u : zM) (r : Int32) (u' : zM) (h : m_X5_settles u = some (r, u')) : zCt 8 yX5_settles cX5_settles 3 (some .int) (fun E => [.ref (zad E 0)]) u (fun _ => some (.int r)) u' := by
  refine zCt.of (by decide +kernel) (fun E => Nat.le_of_ble_eq_true rfl) (fun X hX hR => ?_)
  have hX : zGood X RX5 cX5_settles 3 8 := hX
  show zG X u 0 [(0, .ref (zad X.1 0))] []
  unfold m_X5_settles at h
  refine r_aload_n hX dX5_settles_0 0 rfl rfl ?_
  obtain ⟨x1, u2, e3, h⟩ := zbind2_elim h
  refine r_callV (As := []) (rest := []) (st1 := [.int x1]) hX dX5_settles_1 lv_RX5_125 (c_X5_cutForAllHere   u _ _ e3) (by decide) rfl rfl (zRecv.of (q := 0) (ci := 5) rfl rfl) rfl (Nat.le_of_ble_eq_true rfl) rfl ?_
  refine r_pop hX dX5_settles_4 rfl ?_
  refine r_aload_n hX dX5_settles_5 0 rfl rfl ?_
  refine r_getR hX dX5_settles_6 f_RX5_10 zr_0_0 ?_
  refine r_aload_n hX dX5_settles_9 0 rfl rfl ?_
  refine r_getR hX dX5_settles_10 f_RX5_50 zr_0_7 ?_
  obtain ⟨u4, e5, h⟩ := zbind_elim h
  refine r_callV (As := [.ref (zad X.1 29)]) (rest := []) (st1 := []) hX dX5_settles_13 lv_RX5_184 (c_X4_readBribes   u2 _ e5) (by decide) rfl rfl (zRecv.of (q := 1) (ci := 4) rfl rfl) rfl (Nat.le_of_ble_eq_true rfl) rfl ?_
  refine r_iconst (v := 0) hX dX5_settles_16 (by decide) ?_
  refine r_istore_n (y := 0) (L' := [(1, .int 0), (0, .ref (zad X.1 0))]) hX dX5_settles_17 rfl (by decide) rfl rfl ?_
  refine r_aload_n hX dX5_settles_18 1 rfl rfl ?_
  obtain ⟨x6, u7, e8, h⟩ := zbind2_elim h
  refine r_callV (As := []) (rest := []) (st1 := [.int x6]) hX dX5_settles_19 lv_RX5_181 (c_X5_isSettled   u4 _ _ e8) (by decide) rfl rfl (zRecv.of (q := 0) (ci := 5) rfl rfl) rfl (Nat.le_of_ble_eq_true rfl) rfl ?_
  refine r_istore_n (y := x6) (L' := [(2, .int x6), (1, .int 0), (0, .ref (zad X.1 0))]) hX dX5_settles_22 rfl (by decide) rfl rfl ?_
  refine r_sub [2, 1, 0] (L' := [(0, .ref (zad X.1 0)), (1, .int 0), (2, .int x6)]) rfl ?_
  obtain ⟨x12, x13, u14, h15, h⟩ := zbind3_elim h
  have Jh15 : zG X u14 48 [(0, .ref (zad X.1 0)), (1, .int x12), (2, .int x13)] [] := by
      refine r_aload_n hX dX5_settles_48 0 rfl rfl ?_
      refine r_getR hX dX5_settles_49 f_RX5_10 zr_0_0 ?_
      refine r_aload_n hX dX5_settles_52 0 rfl rfl ?_
      refine r_getR hX dX5_settles_53 f_RX5_50 zr_0_7 ?_
      obtain ⟨u23, e24, h⟩ := zbind_elim h
      refine r_callV (As := [.ref (zad X.1 29)]) (rest := []) (st1 := []) hX dX5_settles_56 lv_RX5_191 (c_X4_writeBribes   u14 _ e24) (by decide) rfl rfl (zRecv.of (q := 1) (ci := 4) rfl rfl) rfl (Nat.le_of_ble_eq_true rfl) rfl ?_
      refine r_iload_n hX dX5_settles_59 2 rfl rfl ?_
      refine r_if_eq (tgt := 67) hX dX5_settles_60 (by decide) (fun c25 => ?_) (fun c25 => ?_)
      · have h := (if_pos c25).symm.trans h
        refine r_aload_n hX dX5_settles_67 0 rfl rfl ?_
        refine r_iconst (v := 3) hX dX5_settles_68 (by decide) ?_
        obtain ⟨x26, u27, e28, h⟩ := zbind2_elim h
        refine r_callV (As := [.int 3]) (rest := []) (st1 := [.int x26]) hX dX5_settles_69 lv_RX5_65 (c_X5_finding 3  u23 _ _ e28) (by decide) rfl rfl (zRecv.of (q := 0) (ci := 5) rfl rfl) rfl (Nat.le_of_ble_eq_true rfl) rfl ?_
        obtain ⟨rfl, rfl⟩ := zinj2 (Option.some.inj h)
        exact r_iret hX hR dX5_settles_72
      · have h := (if_neg c25).symm.trans h
        refine r_iload_n hX dX5_settles_63 1 rfl rfl ?_
        refine r_goto (tgt := 72) hX dX5_settles_64 (by decide) ?_
        obtain ⟨rfl, rfl⟩ := zinj2 (Option.some.inj h)
        exact r_iret hX hR dX5_settles_72
  clear h
  refine zit_walk (P := fun s0 : Int32 × Int32 × zM => zG X s0.2.2 23 [(0, .ref (zad X.1 0)), (1, .int (s0.1)), (2, .int (s0.2.1))] []) ?_ zF _ h15
  clear h15
  intro s0 y0 h0b hin0 hout0
  obtain ⟨x9, x10, u11⟩ := s0
  have h0b : m_X5_settles_b0 x9 x10 u11 = some y0 := h0b
  unfold m_X5_settles_b0 at h0b
  show zG X u11 23 [(0, .ref (zad X.1 0)), (1, .int x9), (2, .int x10)] []
  refine r_iload_n hX dX5_settles_23 2 rfl rfl ?_
  refine r_if_ne (tgt := 48) hX dX5_settles_24 (by decide) (fun c16 => ?_) (fun c16 => ?_)
  · have h0b := (if_neg c16).symm.trans h0b
    have h0b := hout0 _ (Option.some.inj h0b).symm
    obtain ⟨rfl, rfl, rfl⟩ := zinj3 h0b
    exact Jh15
  · have h0b := (if_pos c16).symm.trans h0b
    refine r_iload_n hX dX5_settles_27 1 rfl rfl ?_
    refine r_bipush (v := 50) hX dX5_settles_28 (by decide) ?_
    refine r_icmp_ge (tgt := 48) hX dX5_settles_30 (by decide) (fun c17 => ?_) (fun c17 => ?_)
    · have h0b := (if_pos c17).symm.trans h0b
      have h0b := hout0 _ (Option.some.inj h0b).symm
      obtain ⟨rfl, rfl, rfl⟩ := zinj3 h0b
      exact Jh15
    · have h0b := (if_neg c17).symm.trans h0b
      refine r_aload_n hX dX5_settles_33 0 rfl rfl ?_
      obtain ⟨u18, e19, h0b⟩ := zbind_elim h0b
      refine r_callV (As := []) (rest := []) (st1 := []) hX dX5_settles_34 lv_RX5_188 (c_X5_doRound   u11 _ e19) (by decide) rfl rfl (zRecv.of (q := 0) (ci := 5) rfl rfl) rfl (Nat.le_of_ble_eq_true rfl) rfl ?_
      refine r_iinc (v := (x9 + 1)) (L' := [(1, .int (x9 + 1)), (0, .ref (zad X.1 0)), (2, .int x10)]) hX dX5_settles_37 (by decide) 1 rfl rfl rfl ?_
      refine r_aload_n hX dX5_settles_40 1 rfl rfl ?_
      obtain ⟨x20, u21, e22, h0b⟩ := zbind2_elim h0b
      refine r_callV (As := []) (rest := []) (st1 := [.int x20]) hX dX5_settles_41 lv_RX5_181 (c_X5_isSettled   u18 _ _ e22) (by decide) rfl rfl (zRecv.of (q := 0) (ci := 5) rfl rfl) rfl (Nat.le_of_ble_eq_true rfl) rfl ?_
      refine r_istore_n (y := x20) (L' := [(2, .int x20), (1, .int (x9 + 1)), (0, .ref (zad X.1 0))]) hX dX5_settles_44 rfl (by decide) rfl rfl ?_
      refine r_goto (tgt := 23) hX dX5_settles_45 (by decide) ?_
      refine r_sub [2, 1, 0] (L' := [(0, .ref (zad X.1 0)), (1, .int (x9 + 1)), (2, .int x20)]) rfl ?_
      exact hin0 _ (Option.some.inj h0b).symm
theorem dX4_addSpring_0 : decode cX4_addSpring 0 = .ok (.aload_n 1, 1) := by decide +kernel
theorem dX4_addSpring_1 : decode cX4_addSpring 1 = .ok (.iconst 0, 1) := by decide +kernel
theorem dX4_addSpring_2 : decode cX4_addSpring 2 = .ok (.aload_n 0, 1) := by decide +kernel
theorem dX4_addSpring_3 : decode cX4_addSpring 3 = .ok (.getfield 24, 3) := by decide +kernel
theorem dX4_addSpring_6 : decode cX4_addSpring 6 = .ok (.aload_n 0, 1) := by decide +kernel
theorem dX4_addSpring_7 : decode cX4_addSpring 7 = .ok (.getfield 46, 3) := by decide +kernel
theorem dX4_addSpring_10 : decode cX4_addSpring 10 = .ok (.iconst 3, 1) := by decide +kernel
theorem dX4_addSpring_11 : decode cX4_addSpring 11 = .ok (.imul, 1) := by decide +kernel
theorem dX4_addSpring_12 : decode cX4_addSpring 12 = .ok (.iconst 3, 1) := by decide +kernel
theorem dX4_addSpring_13 : decode cX4_addSpring 13 = .ok (.invokestatic 52, 3) := by decide +kernel
theorem dX4_addSpring_16 : decode cX4_addSpring 16 = .ok (.aload_n 0, 1) := by decide +kernel
theorem dX4_addSpring_17 : decode cX4_addSpring 17 = .ok (.dup, 1) := by decide +kernel
theorem dX4_addSpring_18 : decode cX4_addSpring 18 = .ok (.getfield 46, 3) := by decide +kernel
theorem dX4_addSpring_21 : decode cX4_addSpring 21 = .ok (.iconst 1, 1) := by decide +kernel
theorem dX4_addSpring_22 : decode cX4_addSpring 22 = .ok (.iadd, 1) := by decide +kernel
theorem dX4_addSpring_23 : decode cX4_addSpring 23 = .ok (.putfield 46, 3) := by decide +kernel
theorem dX4_addSpring_26 : decode cX4_addSpring 26 = .ok (.aload_n 0, 1) := by decide +kernel
theorem dX4_addSpring_27 : decode cX4_addSpring 27 = .ok (.getfield 46, 3) := by decide +kernel
theorem dX4_addSpring_30 : decode cX4_addSpring 30 = .ok (.ireturn, 1) := by decide +kernel
def m_X4_addSpring  (u : zM) : Option (Int32 × zM) :=
  zbind (zcp u 19 3 0 6 60 ((u 1 11) * 3) 3) (fun u1 => zlet (zst u1 1 11 ((u1 1 11) + 1)) (fun u3 => some ((u3 1 11), u3)))
set_option maxHeartbeats 4000000 in
set_option maxRecDepth 100000 in
theorem c_X4_addSpring    (u : zM) (r : Int32) (u' : zM) (h : m_X4_addSpring u = some (r, u')) : zCt 2 yX4_addSpring cX4_addSpring 2 (some .int) (fun E => [.ref (zad E 1), .ref (zad E 19)]) u (fun _ => some (.int r)) u' := by
  refine zCt.of (by decide +kernel) (fun E => Nat.le_of_ble_eq_true rfl) (fun X hX hR => ?_)
  have hX : zGood X RX4 cX4_addSpring 2 2 := hX
  show zG X u 0 [(0, .ref (zad X.1 1)), (1, .ref (zad X.1 19))] []
  unfold m_X4_addSpring at h
  refine r_aload_n hX dX4_addSpring_0 1 rfl rfl ?_
  refine r_iconst (v := 0) hX dX4_addSpring_1 (by decide) ?_
  refine r_aload_n hX dX4_addSpring_2 0 rfl rfl ?_
  refine r_getR hX dX4_addSpring_3 f_RX4_24 zr_1_4 ?_
  refine r_aload_n hX dX4_addSpring_6 0 rfl rfl ?_
  refine r_getI hX dX4_addSpring_7 f_RX4_46 zi_1_11 ?_
  refine r_iconst (v := 3) hX dX4_addSpring_10 (by decide) ?_
  refine r_imul hX dX4_addSpring_11 ?_
  refine r_iconst (v := 3) hX dX4_addSpring_12 (by decide) ?_
  obtain ⟨u1, e2, h⟩ := zbind_elim h
  refine r_copy hX dX4_addSpring_13 la_RX4_52 rfl rfl (by decide) (Nat.le_of_ble_eq_true rfl) e2 ?_
  refine r_aload_n hX dX4_addSpring_16 0 rfl rfl ?_
  refine r_dup hX dX4_addSpring_17 rfl ?_
  refine r_getI hX dX4_addSpring_18 f_RX4_46 zi_1_11 ?_
  refine r_iconst (v := 1) hX dX4_addSpring_21 (by decide) ?_
  refine r_iadd hX dX4_addSpring_22 ?_
  obtain ⟨u3, e4, h⟩ := zlet_elim h
  refine r_putI hX dX4_addSpring_23 f_RX4_46 p_4_11 zi_1_11 ?_
  rw [e4]
  refine r_aload_n hX dX4_addSpring_26 0 rfl rfl ?_
  refine r_getI hX dX4_addSpring_27 f_RX4_46 zi_1_11 ?_
  obtain ⟨rfl, rfl⟩ := zinj2 (Option.some.inj h)
  exact r_iret hX hR dX4_addSpring_30
theorem dX5_spring_0 : decode cX5_spring 0 = .ok (.aload_n 0, 1) := by decide +kernel
theorem dX5_spring_1 : decode cX5_spring 1 = .ok (.getfield 10, 3) := by decide +kernel
theorem dX5_spring_4 : decode cX5_spring 4 = .ok (.getfield 194, 3) := by decide +kernel
theorem dX5_spring_7 : decode cX5_spring 7 = .ok (.bipush 20, 2) := by decide +kernel
theorem dX5_spring_9 : decode cX5_spring 9 = .ok (.if_icmp .lt 9, 3) := by decide +kernel
theorem dX5_spring_12 : decode cX5_spring 12 = .ok (.aload_n 0, 1) := by decide +kernel
theorem dX5_spring_13 : decode cX5_spring 13 = .ok (.iconst 1, 1) := by decide +kernel
theorem dX5_spring_14 : decode cX5_spring 14 = .ok (.invokevirtual 65, 3) := by decide +kernel
theorem dX5_spring_17 : decode cX5_spring 17 = .ok (.ireturn, 1) := by decide +kernel
theorem dX5_spring_18 : decode cX5_spring 18 = .ok (.aload_n 0, 1) := by decide +kernel
theorem dX5_spring_19 : decode cX5_spring 19 = .ok (.invokevirtual 125, 3) := by decide +kernel
theorem dX5_spring_22 : decode cX5_spring 22 = .ok (.ifCond .ne 9, 3) := by decide +kernel
theorem dX5_spring_25 : decode cX5_spring 25 = .ok (.aload_n 0, 1) := by decide +kernel
theorem dX5_spring_26 : decode cX5_spring 26 = .ok (.iconst 3, 1) := by decide +kernel
theorem dX5_spring_27 : decode cX5_spring 27 = .ok (.invokevirtual 65, 3) := by decide +kernel
theorem dX5_spring_30 : decode cX5_spring 30 = .ok (.ireturn, 1) := by decide +kernel
theorem dX5_spring_31 : decode cX5_spring 31 = .ok (.aload_n 0, 1) := by decide +kernel
theorem dX5_spring_32 : decode cX5_spring 32 = .ok (.getfield 10, 3) := by decide +kernel
theorem dX5_spring_35 : decode cX5_spring 35 = .ok (.aload_n 0, 1) := by decide +kernel
theorem dX5_spring_36 : decode cX5_spring 36 = .ok (.getfield 22, 3) := by decide +kernel
theorem dX5_spring_39 : decode cX5_spring 39 = .ok (.getfield 129, 3) := by decide +kernel
theorem dX5_spring_42 : decode cX5_spring 42 = .ok (.invokevirtual 197, 3) := by decide +kernel
theorem dX5_spring_45 : decode cX5_spring 45 = .ok (.ireturn, 1) := by decide +kernel
def m_X5_spring  (u : zM) : Option (Int32 × zM) :=
  (if (u 1 11) < 20 then
zbind2 (m_X5_cutForAllHere u) (fun x2 u3 => (if x2 = 0 then
zbind2 (m_X5_finding 3 u3) (fun x9 u10 => some (x9, u10))
else
zbind2 (m_X4_addSpring u3) (fun x6 u7 => some (x6, u7))))
else
zbind2 (m_X5_finding 1 u) (fun x12 u13 => some (x12, u13)))
set_option maxHeartbeats 4000000 in
set_option maxRecDepth 100000 in
theorem c_X5_spring    (u : zM) (r : Int32) (u' : zM) (h : m_X5_spring u = some (r, u')) : zCt 7 yX5_spring cX5_spring 1 (some .int) (fun E => [.ref (zad E 0)]) u (fun _ => some (.int r)) u' := by
  refine zCt.of (by decide +kernel) (fun E => Nat.le_of_ble_eq_true rfl) (fun X hX hR => ?_)
  have hX : zGood X RX5 cX5_spring 1 7 := hX
  show zG X u 0 [(0, .ref (zad X.1 0))] []
  unfold m_X5_spring at h
  refine r_aload_n hX dX5_spring_0 0 rfl rfl ?_
  refine r_getR hX dX5_spring_1 f_RX5_10 zr_0_0 ?_
  refine r_getI hX dX5_spring_4 f_RX5_194 zi_1_11 ?_
  refine r_bipush (v := 20) hX dX5_spring_7 (by decide) ?_
  refine r_icmp_lt (tgt := 18) hX dX5_spring_9 (by decide) (fun c1 => ?_) (fun c1 => ?_)
  · have h := (if_pos c1).symm.trans h
    refine r_aload_n hX dX5_spring_18 0 rfl rfl ?_
    obtain ⟨x2, u3, e4, h⟩ := zbind2_elim h
    refine r_callV (As := []) (rest := []) (st1 := [.int x2]) hX dX5_spring_19 lv_RX5_125 (c_X5_cutForAllHere   u _ _ e4) (by decide) rfl rfl (zRecv.of (q := 0) (ci := 5) rfl rfl) rfl (Nat.le_of_ble_eq_true rfl) rfl ?_
    refine r_if_ne (tgt := 31) hX dX5_spring_22 (by decide) (fun c5 => ?_) (fun c5 => ?_)
    · have h := (if_neg c5).symm.trans h
      refine r_aload_n hX dX5_spring_31 0 rfl rfl ?_
      refine r_getR hX dX5_spring_32 f_RX5_10 zr_0_0 ?_
      refine r_aload_n hX dX5_spring_35 0 rfl rfl ?_
      refine r_getR hX dX5_spring_36 f_RX5_22 zr_0_2 ?_
      refine r_getR hX dX5_spring_39 f_RX5_129 zr_15_3 ?_
      obtain ⟨x6, u7, e8, h⟩ := zbind2_elim h
      refine r_callV (As := [.ref (zad X.1 19)]) (rest := []) (st1 := [.int x6]) hX dX5_spring_42 lv_RX5_197 (c_X4_addSpring   u3 _ _ e8) (by decide) rfl rfl (zRecv.of (q := 1) (ci := 4) rfl rfl) rfl (Nat.le_of_ble_eq_true rfl) rfl ?_
      obtain ⟨rfl, rfl⟩ := zinj2 (Option.some.inj h)
      exact r_iret hX hR dX5_spring_45
    · have h := (if_pos c5).symm.trans h
      refine r_aload_n hX dX5_spring_25 0 rfl rfl ?_
      refine r_iconst (v := 3) hX dX5_spring_26 (by decide) ?_
      obtain ⟨x9, u10, e11, h⟩ := zbind2_elim h
      refine r_callV (As := [.int 3]) (rest := []) (st1 := [.int x9]) hX dX5_spring_27 lv_RX5_65 (c_X5_finding 3  u3 _ _ e11) (by decide) rfl rfl (zRecv.of (q := 0) (ci := 5) rfl rfl) rfl (Nat.le_of_ble_eq_true rfl) rfl ?_
      obtain ⟨rfl, rfl⟩ := zinj2 (Option.some.inj h)
      exact r_iret hX hR dX5_spring_30
  · have h := (if_neg c1).symm.trans h
    refine r_aload_n hX dX5_spring_12 0 rfl rfl ?_
    refine r_iconst (v := 1) hX dX5_spring_13 (by decide) ?_
    obtain ⟨x12, u13, e14, h⟩ := zbind2_elim h
    refine r_callV (As := [.int 1]) (rest := []) (st1 := [.int x12]) hX dX5_spring_14 lv_RX5_65 (c_X5_finding 1  u _ _ e14) (by decide) rfl rfl (zRecv.of (q := 0) (ci := 5) rfl rfl) rfl (Nat.le_of_ble_eq_true rfl) rfl ?_
    obtain ⟨rfl, rfl⟩ := zinj2 (Option.some.inj h)
    exact r_iret hX hR dX5_spring_17
theorem dX5_isSpring_0 : decode cX5_isSpring 0 = .ok (.iload_n 1, 1) := by decide +kernel
theorem dX5_isSpring_1 : decode cX5_isSpring 1 = .ok (.iconst 0, 1) := by decide +kernel
theorem dX5_isSpring_2 : decode cX5_isSpring 2 = .ok (.aload_n 0, 1) := by decide +kernel
theorem dX5_isSpring_3 : decode cX5_isSpring 3 = .ok (.getfield 10, 3) := by decide +kernel
theorem dX5_isSpring_6 : decode cX5_isSpring 6 = .ok (.getfield 194, 3) := by decide +kernel
theorem dX5_isSpring_9 : decode cX5_isSpring 9 = .ok (.iconst 1, 1) := by decide +kernel
theorem dX5_isSpring_10 : decode cX5_isSpring 10 = .ok (.isub, 1) := by decide +kernel
theorem dX5_isSpring_11 : decode cX5_isSpring 11 = .ok (.invokestatic 80, 3) := by decide +kernel
theorem dX5_isSpring_14 : decode cX5_isSpring 14 = .ok (.ireturn, 1) := by decide +kernel
def m_X5_isSpring (a1 : Int32) (u : zM) : Int32 :=
  (zb (m_X5_within a1 0 ((u 1 11) - 1)))
set_option maxHeartbeats 4000000 in
set_option maxRecDepth 100000 in
theorem c_X5_isSpring (a1 : Int32)   (u : zM) (r : Int32) (h : m_X5_isSpring a1 u = r) : zCt 2 yX5_isSpring cX5_isSpring 2 (some .boolean) (fun E => [.ref (zad E 0), .int a1]) u (fun _ => some (.int r)) u := by
  refine zCt.of (by decide +kernel) (fun E => Nat.le_of_ble_eq_true rfl) (fun X hX hR => ?_)
  have hX : zGood X RX5 cX5_isSpring 2 2 := hX
  show zG X u 0 [(0, .ref (zad X.1 0)), (1, .int a1)] []
  unfold m_X5_isSpring at h
  refine r_iload_n hX dX5_isSpring_0 1 rfl rfl ?_
  refine r_iconst (v := 0) hX dX5_isSpring_1 (by decide) ?_
  refine r_aload_n hX dX5_isSpring_2 0 rfl rfl ?_
  refine r_getR hX dX5_isSpring_3 f_RX5_10 zr_0_0 ?_
  refine r_getI hX dX5_isSpring_6 f_RX5_194 zi_1_11 ?_
  refine r_iconst (v := 1) hX dX5_isSpring_9 (by decide) ?_
  refine r_isub hX dX5_isSpring_10 ?_
  refine r_callS (As := [.int a1, .int 0, .int ((u 1 11) - 1)]) (rest := []) (st1 := [.int (m_X5_within a1 0 ((u 1 11) - 1))]) hX dX5_isSpring_11 ls_RX5_80 (c_X5_within a1 0 ((u 1 11) - 1)  u _ rfl) (by decide) rfl rfl rfl (Nat.le_of_ble_eq_true rfl) rfl ?_
  obtain rfl := h
  exact r_zret hX hR dX5_isSpring_14
theorem dX4_oldCoat_0 : decode cX4_oldCoat 0 = .ok (.aload_n 0, 1) := by decide +kernel
theorem dX4_oldCoat_1 : decode cX4_oldCoat 1 = .ok (.getfield 24, 3) := by decide +kernel
theorem dX4_oldCoat_4 : decode cX4_oldCoat 4 = .ok (.iload_n 1, 1) := by decide +kernel
theorem dX4_oldCoat_5 : decode cX4_oldCoat 5 = .ok (.iconst 3, 1) := by decide +kernel
theorem dX4_oldCoat_6 : decode cX4_oldCoat 6 = .ok (.imul, 1) := by decide +kernel
theorem dX4_oldCoat_7 : decode cX4_oldCoat 7 = .ok (.iload_n 2, 1) := by decide +kernel
theorem dX4_oldCoat_8 : decode cX4_oldCoat 8 = .ok (.iadd, 1) := by decide +kernel
theorem dX4_oldCoat_9 : decode cX4_oldCoat 9 = .ok (.iaload, 1) := by decide +kernel
theorem dX4_oldCoat_10 : decode cX4_oldCoat 10 = .ok (.ireturn, 1) := by decide +kernel
def m_X4_oldCoat (a1 : Int32) (a2 : Int32) (u : zM) : Option (Int32) :=
  zbind (zld u 6 60 ((a1 * 3) + a2)) (fun x1 => some x1)
set_option maxHeartbeats 4000000 in
set_option maxRecDepth 100000 in
theorem c_X4_oldCoat (a1 : Int32) (a2 : Int32)   (u : zM) (r : Int32) (h : m_X4_oldCoat a1 a2 u = some r) : zCt 1 yX4_oldCoat cX4_oldCoat 3 (some .int) (fun E => [.ref (zad E 1), .int a1, .int a2]) u (fun _ => some (.int r)) u := by
  refine zCt.of (by decide +kernel) (fun E => Nat.le_of_ble_eq_true rfl) (fun X hX hR => ?_)
  have hX : zGood X RX4 cX4_oldCoat 3 1 := hX
  show zG X u 0 [(0, .ref (zad X.1 1)), (1, .int a1), (2, .int a2)] []
  unfold m_X4_oldCoat at h
  refine r_aload_n hX dX4_oldCoat_0 0 rfl rfl ?_
  refine r_getR hX dX4_oldCoat_1 f_RX4_24 zr_1_4 ?_
  refine r_iload_n hX dX4_oldCoat_4 1 rfl rfl ?_
  refine r_iconst (v := 3) hX dX4_oldCoat_5 (by decide) ?_
  refine r_imul hX dX4_oldCoat_6 ?_
  refine r_iload_n hX dX4_oldCoat_7 2 rfl rfl ?_
  refine r_iadd hX dX4_oldCoat_8 ?_
  obtain ⟨x1, e2, h⟩ := zbind_elim h
  refine r_iald hX dX4_oldCoat_9 rfl e2 ?_
  obtain rfl := Option.some.inj h
  exact r_iret hX hR dX4_oldCoat_10
theorem dX5_old_0 : decode cX5_old 0 = .ok (.aload_n 0, 1) := by decide +kernel
theorem dX5_old_1 : decode cX5_old 1 = .ok (.iload_n 1, 1) := by decide +kernel
theorem dX5_old_2 : decode cX5_old 2 = .ok (.invokevirtual 201, 3) := by decide +kernel
theorem dX5_old_5 : decode cX5_old 5 = .ok (.ifCond .eq 10, 3) := by decide +kernel
theorem dX5_old_8 : decode cX5_old 8 = .ok (.iload_n 2, 1) := by decide +kernel
theorem dX5_old_9 : decode cX5_old 9 = .ok (.invokestatic 122, 3) := by decide +kernel
theorem dX5_old_12 : decode cX5_old 12 = .ok (.ifCond .ne 9, 3) := by decide +kernel
theorem dX5_old_15 : decode cX5_old 15 = .ok (.aload_n 0, 1) := by decide +kernel
theorem dX5_old_16 : decode cX5_old 16 = .ok (.iconst 0, 1) := by decide +kernel
theorem dX5_old_17 : decode cX5_old 17 = .ok (.invokevirtual 65, 3) := by decide +kernel
theorem dX5_old_20 : decode cX5_old 20 = .ok (.ireturn, 1) := by decide +kernel
theorem dX5_old_21 : decode cX5_old 21 = .ok (.aload_n 0, 1) := by decide +kernel
theorem dX5_old_22 : decode cX5_old 22 = .ok (.getfield 10, 3) := by decide +kernel
theorem dX5_old_25 : decode cX5_old 25 = .ok (.iload_n 1, 1) := by decide +kernel
theorem dX5_old_26 : decode cX5_old 26 = .ok (.iload_n 2, 1) := by decide +kernel
theorem dX5_old_27 : decode cX5_old 27 = .ok (.invokevirtual 204, 3) := by decide +kernel
theorem dX5_old_30 : decode cX5_old 30 = .ok (.ireturn, 1) := by decide +kernel
def m_X5_old (a1 : Int32) (a2 : Int32) (u : zM) : Option (Int32 × zM) :=
  (if (m_X5_isSpring a1 u) = 0 then
zbind2 (m_X5_finding 0 u) (fun x2 u3 => some (x2, u3))
else
(if (m_X5_isMeasure a2) = 0 then
zbind2 (m_X5_finding 0 u) (fun x8 u9 => some (x8, u9))
else
zbind (m_X4_oldCoat a1 a2 u) (fun x6 => some (x6, u))))
set_option maxHeartbeats 4000000 in
set_option maxRecDepth 100000 in
theorem c_X5_old (a1 : Int32) (a2 : Int32)   (u : zM) (r : Int32) (u' : zM) (h : m_X5_old a1 a2 u = some (r, u')) : zCt 3 yX5_old cX5_old 3 (some .int) (fun E => [.ref (zad E 0), .int a1, .int a2]) u (fun _ => some (.int r)) u' := by
  refine zCt.of (by decide +kernel) (fun E => Nat.le_of_ble_eq_true rfl) (fun X hX hR => ?_)
  have hX : zGood X RX5 cX5_old 3 3 := hX
  show zG X u 0 [(0, .ref (zad X.1 0)), (1, .int a1), (2, .int a2)] []
  unfold m_X5_old at h
  refine r_aload_n hX dX5_old_0 0 rfl rfl ?_
  refine r_iload_n hX dX5_old_1 1 rfl rfl ?_
  refine r_callV (As := [.int a1]) (rest := []) (st1 := [.int (m_X5_isSpring a1 u)]) hX dX5_old_2 lv_RX5_201 (c_X5_isSpring a1  u _ rfl) (by decide) rfl rfl (zRecv.of (q := 0) (ci := 5) rfl rfl) rfl (Nat.le_of_ble_eq_true rfl) rfl ?_
  refine r_if_eq (tgt := 15) hX dX5_old_5 (by decide) (fun c1 => ?_) (fun c1 => ?_)
  · have h := (if_pos c1).symm.trans h
    refine r_aload_n hX dX5_old_15 0 rfl rfl ?_
    refine r_iconst (v := 0) hX dX5_old_16 (by decide) ?_
    obtain ⟨x2, u3, e4, h⟩ := zbind2_elim h
    refine r_callV (As := [.int 0]) (rest := []) (st1 := [.int x2]) hX dX5_old_17 lv_RX5_65 (c_X5_finding 0  u _ _ e4) (by decide) rfl rfl (zRecv.of (q := 0) (ci := 5) rfl rfl) rfl (Nat.le_of_ble_eq_true rfl) rfl ?_
    obtain ⟨rfl, rfl⟩ := zinj2 (Option.some.inj h)
    exact r_iret hX hR dX5_old_20
  · have h := (if_neg c1).symm.trans h
    refine r_iload_n hX dX5_old_8 2 rfl rfl ?_
    refine r_callS (As := [.int a2]) (rest := []) (st1 := [.int (m_X5_isMeasure a2)]) hX dX5_old_9 ls_RX5_122 (c_X5_isMeasure a2  u _ rfl) (by decide) rfl rfl rfl (Nat.le_of_ble_eq_true rfl) rfl ?_
    refine r_if_ne (tgt := 21) hX dX5_old_12 (by decide) (fun c5 => ?_) (fun c5 => ?_)
    · have h := (if_neg c5).symm.trans h
      refine r_aload_n hX dX5_old_21 0 rfl rfl ?_
      refine r_getR hX dX5_old_22 f_RX5_10 zr_0_0 ?_
      refine r_iload_n hX dX5_old_25 1 rfl rfl ?_
      refine r_iload_n hX dX5_old_26 2 rfl rfl ?_
      obtain ⟨x6, e7, h⟩ := zbind_elim h
      refine r_callV (As := [.int a1, .int a2]) (rest := []) (st1 := [.int x6]) hX dX5_old_27 lv_RX5_204 (c_X4_oldCoat a1 a2  u _ e7) (by decide) rfl rfl (zRecv.of (q := 1) (ci := 4) rfl rfl) rfl (Nat.le_of_ble_eq_true rfl) rfl ?_
      obtain ⟨rfl, rfl⟩ := zinj2 (Option.some.inj h)
      exact r_iret hX hR dX5_old_30
    · have h := (if_pos c5).symm.trans h
      refine r_aload_n hX dX5_old_15 0 rfl rfl ?_
      refine r_iconst (v := 0) hX dX5_old_16 (by decide) ?_
      obtain ⟨x8, u9, e10, h⟩ := zbind2_elim h
      refine r_callV (As := [.int 0]) (rest := []) (st1 := [.int x8]) hX dX5_old_17 lv_RX5_65 (c_X5_finding 0  u _ _ e10) (by decide) rfl rfl (zRecv.of (q := 0) (ci := 5) rfl rfl) rfl (Nat.le_of_ble_eq_true rfl) rfl ?_
      obtain ⟨rfl, rfl⟩ := zinj2 (Option.some.inj h)
      exact r_iret hX hR dX5_old_20
theorem dX5_cutsAsIn_0 : decode cX5_cutsAsIn 0 = .ok (.iconst 0, 1) := by decide +kernel
theorem dX5_cutsAsIn_1 : decode cX5_cutsAsIn 1 = .ok (.istore_n 3, 1) := by decide +kernel
theorem dX5_cutsAsIn_2 : decode cX5_cutsAsIn 2 = .ok (.iload_n 3, 1) := by decide +kernel
theorem dX5_cutsAsIn_3 : decode cX5_cutsAsIn 3 = .ok (.iconst 3, 1) := by decide +kernel
theorem dX5_cutsAsIn_4 : decode cX5_cutsAsIn 4 = .ok (.if_icmp .ge 39, 3) := by decide +kernel
theorem dX5_cutsAsIn_7 : decode cX5_cutsAsIn 7 = .ok (.aload_n 0, 1) := by decide +kernel
theorem dX5_cutsAsIn_8 : decode cX5_cutsAsIn 8 = .ok (.getfield 22, 3) := by decide +kernel
theorem dX5_cutsAsIn_11 : decode cX5_cutsAsIn 11 = .ok (.iload_n 3, 1) := by decide +kernel
theorem dX5_cutsAsIn_12 : decode cX5_cutsAsIn 12 = .ok (.iload_n 2, 1) := by decide +kernel
theorem dX5_cutsAsIn_13 : decode cX5_cutsAsIn 13 = .ok (.aload_n 0, 1) := by decide +kernel
theorem dX5_cutsAsIn_14 : decode cX5_cutsAsIn 14 = .ok (.getfield 10, 3) := by decide +kernel
theorem dX5_cutsAsIn_17 : decode cX5_cutsAsIn 17 = .ok (.getfield 99, 3) := by decide +kernel
theorem dX5_cutsAsIn_20 : decode cX5_cutsAsIn 20 = .ok (.invokevirtual 283, 3) := by decide +kernel
theorem dX5_cutsAsIn_23 : decode cX5_cutsAsIn 23 = .ok (.aload_n 0, 1) := by decide +kernel
theorem dX5_cutsAsIn_24 : decode cX5_cutsAsIn 24 = .ok (.getfield 10, 3) := by decide +kernel
theorem dX5_cutsAsIn_27 : decode cX5_cutsAsIn 27 = .ok (.iload_n 1, 1) := by decide +kernel
theorem dX5_cutsAsIn_28 : decode cX5_cutsAsIn 28 = .ok (.iload_n 3, 1) := by decide +kernel
theorem dX5_cutsAsIn_29 : decode cX5_cutsAsIn 29 = .ok (.invokevirtual 204, 3) := by decide +kernel
theorem dX5_cutsAsIn_32 : decode cX5_cutsAsIn 32 = .ok (.if_icmp .eq 5, 3) := by decide +kernel
theorem dX5_cutsAsIn_35 : decode cX5_cutsAsIn 35 = .ok (.iconst 0, 1) := by decide +kernel
theorem dX5_cutsAsIn_36 : decode cX5_cutsAsIn 36 = .ok (.ireturn, 1) := by decide +kernel
theorem dX5_cutsAsIn_37 : decode cX5_cutsAsIn 37 = .ok (.iinc 3 1, 3) := by decide +kernel
theorem dX5_cutsAsIn_40 : decode cX5_cutsAsIn 40 = .ok (.goto (-38), 3) := by decide +kernel
theorem dX5_cutsAsIn_43 : decode cX5_cutsAsIn 43 = .ok (.iconst 1, 1) := by decide +kernel
theorem dX5_cutsAsIn_44 : decode cX5_cutsAsIn 44 = .ok (.ireturn, 1) := by decide +kernel
def m_X5_cutsAsIn_b0 (a2 : Int32) (u : zM) (a1 : Int32) (x1 : Int32) : Option ((Int32) ⊕ (Int32)) :=
  (if 3 ≤ x1 then
some (.inr 1)
else
zbind (m_X2_cutOne x1 a2 (u 1 8) u) (fun x3 => zbind (m_X4_oldCoat a1 x1 u) (fun x5 => (if x3 = x5 then
some (.inl (x1 + 1))
else
some (.inr 0)))))
def m_X5_cutsAsIn (a1 : Int32) (a2 : Int32) (u : zM) : Option (Int32) :=
  zit zF (fun s : Int32 => m_X5_cutsAsIn_b0 a2 u a1 s) 0
set_option maxHeartbeats 4000000 in
set_option maxRecDepth 100000 in
theorem c_X5_cutsAsIn (a1 : Int32) (a2 : Int32)   (u : zM) (r : Int32) (h : m_X5_cutsAsIn a1 a2 u = some r) : zCt 5 yX5_cutsAsIn cX5_cutsAsIn 4 (some .boolean) (fun E => [.ref (zad E 0), .int a1, .int a2]) u (fun _ => some (.int r)) u := by
  refine zCt.of (by decide +kernel) (fun E => Nat.le_of_ble_eq_true rfl) (fun X hX hR => ?_)
  have hX : zGood X RX5 cX5_cutsAsIn 4 5 := hX
  show zG X u 0 [(0, .ref (zad X.1 0)), (1, .int a1), (2, .int a2)] []
  unfold m_X5_cutsAsIn at h
  refine r_iconst (v := 0) hX dX5_cutsAsIn_0 (by decide) ?_
  refine r_istore_n (y := 0) (L' := [(3, .int 0), (0, .ref (zad X.1 0)), (1, .int a1), (2, .int a2)]) hX dX5_cutsAsIn_1 rfl (by decide) rfl rfl ?_
  refine r_sub [1, 2, 3, 0] (L' := [(0, .ref (zad X.1 0)), (1, .int a1), (2, .int a2), (3, .int 0)]) rfl ?_
  refine zit_walk (P := fun s0 : Int32 => zG X u 2 [(0, .ref (zad X.1 0)), (1, .int a1), (2, .int a2), (3, .int s0)] []) ?_ zF _ h
  clear h
  intro s0 y0 h0b hin0 hout0
  obtain ⟨x1, es0⟩ : ∃ z, z = s0 := ⟨_, rfl⟩
  subst es0
  have h0b : m_X5_cutsAsIn_b0 a2 u a1 x1 = some y0 := h0b
  unfold m_X5_cutsAsIn_b0 at h0b
  show zG X u 2 [(0, .ref (zad X.1 0)), (1, .int a1), (2, .int a2), (3, .int x1)] []
  refine r_iload_n hX dX5_cutsAsIn_2 3 rfl rfl ?_
  refine r_iconst (v := 3) hX dX5_cutsAsIn_3 (by decide) ?_
  refine r_icmp_ge (tgt := 43) hX dX5_cutsAsIn_4 (by decide) (fun c2 => ?_) (fun c2 => ?_)
  · have h0b := (if_pos c2).symm.trans h0b
    refine r_iconst (v := 1) hX dX5_cutsAsIn_43 (by decide) ?_
    have h0b := hout0 _ (Option.some.inj h0b).symm
    obtain rfl := h0b
    exact r_zret1 hX hR dX5_cutsAsIn_44
  · have h0b := (if_neg c2).symm.trans h0b
    refine r_aload_n hX dX5_cutsAsIn_7 0 rfl rfl ?_
    refine r_getR hX dX5_cutsAsIn_8 f_RX5_22 zr_0_2 ?_
    refine r_iload_n hX dX5_cutsAsIn_11 3 rfl rfl ?_
    refine r_iload_n hX dX5_cutsAsIn_12 2 rfl rfl ?_
    refine r_aload_n hX dX5_cutsAsIn_13 0 rfl rfl ?_
    refine r_getR hX dX5_cutsAsIn_14 f_RX5_10 zr_0_0 ?_
    refine r_getI hX dX5_cutsAsIn_17 f_RX5_99 zi_1_8 ?_
    obtain ⟨x3, e4, h0b⟩ := zbind_elim h0b
    refine r_callV (As := [.int x1, .int a2, .int (u 1 8)]) (rest := []) (st1 := [.int x3]) hX dX5_cutsAsIn_20 lv_RX5_283 (c_X2_cutOne x1 a2 (u 1 8)  u _ e4) (by decide) rfl rfl (zRecv.of (q := 15) (ci := 2) rfl rfl) rfl (Nat.le_of_ble_eq_true rfl) rfl ?_
    refine r_aload_n hX dX5_cutsAsIn_23 0 rfl rfl ?_
    refine r_getR hX dX5_cutsAsIn_24 f_RX5_10 zr_0_0 ?_
    refine r_iload_n hX dX5_cutsAsIn_27 1 rfl rfl ?_
    refine r_iload_n hX dX5_cutsAsIn_28 3 rfl rfl ?_
    obtain ⟨x5, e6, h0b⟩ := zbind_elim h0b
    refine r_callV (As := [.int a1, .int x1]) (rest := [.int x3]) (st1 := [.int x5, .int x3]) hX dX5_cutsAsIn_29 lv_RX5_204 (c_X4_oldCoat a1 x1  u _ e6) (by decide) rfl rfl (zRecv.of (q := 1) (ci := 4) rfl rfl) rfl (Nat.le_of_ble_eq_true rfl) rfl ?_
    refine r_icmp_eq (tgt := 37) hX dX5_cutsAsIn_32 (by decide) (fun c7 => ?_) (fun c7 => ?_)
    · have h0b := (if_pos c7).symm.trans h0b
      refine r_iinc (v := (x1 + 1)) (L' := [(3, .int (x1 + 1)), (0, .ref (zad X.1 0)), (1, .int a1), (2, .int a2)]) hX dX5_cutsAsIn_37 (by decide) 3 rfl rfl rfl ?_
      refine r_goto (tgt := 2) hX dX5_cutsAsIn_40 (by decide) ?_
      refine r_sub [1, 2, 3, 0] (L' := [(0, .ref (zad X.1 0)), (1, .int a1), (2, .int a2), (3, .int (x1 + 1))]) rfl ?_
      exact hin0 _ (Option.some.inj h0b).symm
    · have h0b := (if_neg c7).symm.trans h0b
      refine r_iconst (v := 0) hX dX5_cutsAsIn_35 (by decide) ?_
      have h0b := hout0 _ (Option.some.inj h0b).symm
      obtain rfl := h0b
      exact r_zret0 hX hR dX5_cutsAsIn_36
