/-! MODELS AND CONTRACTS, by program (wip/whole/gen_all.py): X5_undo, X5_tear, X4_spotsHeld, X5_count, X5_status, X6_within, X6_finding, X6_comes, X6_body, X6_isBody, X6_bodyIs -/
theorem dX5_undo_0 : decode cX5_undo 0 = .ok (.aload_n 0, 1) := by decide +kernel
theorem dX5_undo_1 : decode cX5_undo 1 = .ok (.getfield 56, 3) := by decide +kernel
theorem dX5_undo_4 : decode cX5_undo 4 = .ok (.ifCond .ne 9, 3) := by decide +kernel
theorem dX5_undo_7 : decode cX5_undo 7 = .ok (.aload_n 0, 1) := by decide +kernel
theorem dX5_undo_8 : decode cX5_undo 8 = .ok (.iconst 3, 1) := by decide +kernel
theorem dX5_undo_9 : decode cX5_undo 9 = .ok (.invokevirtual 65, 3) := by decide +kernel
theorem dX5_undo_12 : decode cX5_undo 12 = .ok (.ireturn, 1) := by decide +kernel
theorem dX5_undo_13 : decode cX5_undo 13 = .ok (.aload_n 0, 1) := by decide +kernel
theorem dX5_undo_14 : decode cX5_undo 14 = .ok (.getfield 10, 3) := by decide +kernel
theorem dX5_undo_17 : decode cX5_undo 17 = .ok (.aload_n 0, 1) := by decide +kernel
theorem dX5_undo_18 : decode cX5_undo 18 = .ok (.getfield 16, 3) := by decide +kernel
theorem dX5_undo_21 : decode cX5_undo 21 = .ok (.invokevirtual 272, 3) := by decide +kernel
theorem dX5_undo_24 : decode cX5_undo 24 = .ok (.aload_n 0, 1) := by decide +kernel
theorem dX5_undo_25 : decode cX5_undo 25 = .ok (.getfield 10, 3) := by decide +kernel
theorem dX5_undo_28 : decode cX5_undo 28 = .ok (.getfield 69, 3) := by decide +kernel
theorem dX5_undo_31 : decode cX5_undo 31 = .ok (.ireturn, 1) := by decide +kernel
def m_X5_undo  (u : zM) : Option (Int32 × zM) :=
  (if (u 0 9) = 0 then
zbind2 (m_X5_finding 3 u) (fun x4 u5 => some (x4, u5))
else
zbind (m_X4_become_2 u) (fun u2 => some ((u2 1 6), u2)))
set_option maxHeartbeats 4000000 in
set_option maxRecDepth 100000 in
theorem c_X5_undo    (u : zM) (r : Int32) (u' : zM) (h : m_X5_undo u = some (r, u')) : zCt 3 yX5_undo cX5_undo 1 (some .int) (fun E => [.ref (zad E 0)]) u (fun _ => some (.int r)) u' := by
  refine zCt.of (by decide +kernel) (fun E => Nat.le_of_ble_eq_true rfl) (fun X hX hR => ?_)
  have hX : zGood X RX5 cX5_undo 1 3 := hX
  show zG X u 0 [(0, .ref (zad X.1 0))] []
  unfold m_X5_undo at h
  refine r_aload_n hX dX5_undo_0 0 rfl rfl ?_
  refine r_getI hX dX5_undo_1 f_RX5_56 zi_0_9 ?_
  refine r_if_ne (tgt := 13) hX dX5_undo_4 (by decide) (fun c1 => ?_) (fun c1 => ?_)
  · have h := (if_neg c1).symm.trans h
    refine r_aload_n hX dX5_undo_13 0 rfl rfl ?_
    refine r_getR hX dX5_undo_14 f_RX5_10 zr_0_0 ?_
    refine r_aload_n hX dX5_undo_17 0 rfl rfl ?_
    refine r_getR hX dX5_undo_18 f_RX5_16 zr_0_1 ?_
    obtain ⟨u2, e3, h⟩ := zbind_elim h
    refine r_callV (As := [.ref (zad X.1 8)]) (rest := []) (st1 := []) hX dX5_undo_21 lv_RX5_272 (c_X4_become_2   u _ e3) (by decide) rfl rfl (zRecv.of (q := 1) (ci := 4) rfl rfl) rfl (Nat.le_of_ble_eq_true rfl) rfl ?_
    refine r_aload_n hX dX5_undo_24 0 rfl rfl ?_
    refine r_getR hX dX5_undo_25 f_RX5_10 zr_0_0 ?_
    refine r_getI hX dX5_undo_28 f_RX5_69 zi_1_6 ?_
    obtain ⟨rfl, rfl⟩ := zinj2 (Option.some.inj h)
    exact r_iret hX hR dX5_undo_31
  · have h := (if_pos c1).symm.trans h
    refine r_aload_n hX dX5_undo_7 0 rfl rfl ?_
    refine r_iconst (v := 3) hX dX5_undo_8 (by decide) ?_
    obtain ⟨x4, u5, e6, h⟩ := zbind2_elim h
    refine r_callV (As := [.int 3]) (rest := []) (st1 := [.int x4]) hX dX5_undo_9 lv_RX5_65 (c_X5_finding 3  u _ _ e6) (by decide) rfl rfl (zRecv.of (q := 0) (ci := 5) rfl rfl) rfl (Nat.le_of_ble_eq_true rfl) rfl ?_
    obtain ⟨rfl, rfl⟩ := zinj2 (Option.some.inj h)
    exact r_iret hX hR dX5_undo_12
theorem dX5_tear_0 : decode cX5_tear 0 = .ok (.aload_n 0, 1) := by decide +kernel
theorem dX5_tear_1 : decode cX5_tear 1 = .ok (.getfield 56, 3) := by decide +kernel
theorem dX5_tear_4 : decode cX5_tear 4 = .ok (.ifCond .eq 7, 3) := by decide +kernel
theorem dX5_tear_7 : decode cX5_tear 7 = .ok (.iconst 1, 1) := by decide +kernel
theorem dX5_tear_8 : decode cX5_tear 8 = .ok (.goto 4, 3) := by decide +kernel
theorem dX5_tear_11 : decode cX5_tear 11 = .ok (.iconst 0, 1) := by decide +kernel
theorem dX5_tear_12 : decode cX5_tear 12 = .ok (.istore_n 1, 1) := by decide +kernel
theorem dX5_tear_13 : decode cX5_tear 13 = .ok (.aload_n 0, 1) := by decide +kernel
theorem dX5_tear_14 : decode cX5_tear 14 = .ok (.iconst 0, 1) := by decide +kernel
theorem dX5_tear_15 : decode cX5_tear 15 = .ok (.putfield 56, 3) := by decide +kernel
theorem dX5_tear_18 : decode cX5_tear 18 = .ok (.iload_n 1, 1) := by decide +kernel
theorem dX5_tear_19 : decode cX5_tear 19 = .ok (.ireturn, 1) := by decide +kernel
def m_X5_tear  (u : zM) : Int32 × zM :=
  (if (u 0 9) = 0 then
zlet (zst u 0 9 0) (fun u2 => (0, u2))
else
zlet (zst u 0 9 0) (fun u4 => (1, u4)))
set_option maxHeartbeats 4000000 in
set_option maxRecDepth 100000 in
theorem c_X5_tear    (u : zM) (r : Int32) (u' : zM) (h : m_X5_tear u = (r, u')) : zCt 1 yX5_tear cX5_tear 2 (some .int) (fun E => [.ref (zad E 0)]) u (fun _ => some (.int r)) u' := by
  refine zCt.of (by decide +kernel) (fun E => Nat.le_of_ble_eq_true rfl) (fun X hX hR => ?_)
  have hX : zGood X RX5 cX5_tear 2 1 := hX
  show zG X u 0 [(0, .ref (zad X.1 0))] []
  unfold m_X5_tear at h
  refine r_aload_n hX dX5_tear_0 0 rfl rfl ?_
  refine r_getI hX dX5_tear_1 f_RX5_56 zi_0_9 ?_
  refine r_if_eq (tgt := 11) hX dX5_tear_4 (by decide) (fun c1 => ?_) (fun c1 => ?_)
  · have h := (if_pos c1).symm.trans h
    refine r_iconst (v := 0) hX dX5_tear_11 (by decide) ?_
    refine r_istore_n (y := 0) (L' := [(1, .int 0), (0, .ref (zad X.1 0))]) hX dX5_tear_12 rfl (by decide) rfl rfl ?_
    refine r_aload_n hX dX5_tear_13 1 rfl rfl ?_
    refine r_iconst (v := 0) hX dX5_tear_14 (by decide) ?_
    obtain ⟨u2, e3, h⟩ := zlet_elim h
    refine r_putZ hX dX5_tear_15 f_RX5_56 p_5_9 zi_0_9 (by first | exact Or.inl rfl | exact Or.inr rfl | simp) ?_
    rw [e3]
    refine r_iload_n hX dX5_tear_18 0 rfl rfl ?_
    obtain ⟨rfl, rfl⟩ := zinj2 h
    exact r_iret hX hR dX5_tear_19
  · have h := (if_neg c1).symm.trans h
    refine r_iconst (v := 1) hX dX5_tear_7 (by decide) ?_
    refine r_goto (tgt := 12) hX dX5_tear_8 (by decide) ?_
    refine r_istore_n (y := 1) (L' := [(1, .int 1), (0, .ref (zad X.1 0))]) hX dX5_tear_12 rfl (by decide) rfl rfl ?_
    refine r_aload_n hX dX5_tear_13 1 rfl rfl ?_
    refine r_iconst (v := 0) hX dX5_tear_14 (by decide) ?_
    obtain ⟨u4, e5, h⟩ := zlet_elim h
    refine r_putZ hX dX5_tear_15 f_RX5_56 p_5_9 zi_0_9 (by first | exact Or.inl rfl | exact Or.inr rfl | simp) ?_
    rw [e5]
    refine r_iload_n hX dX5_tear_18 0 rfl rfl ?_
    obtain ⟨rfl, rfl⟩ := zinj2 h
    exact r_iret hX hR dX5_tear_19
theorem dX4_spotsHeld_0 : decode cX4_spotsHeld 0 = .ok (.iconst 0, 1) := by decide +kernel
theorem dX4_spotsHeld_1 : decode cX4_spotsHeld 1 = .ok (.istore_n 1, 1) := by decide +kernel
theorem dX4_spotsHeld_2 : decode cX4_spotsHeld 2 = .ok (.iconst 0, 1) := by decide +kernel
theorem dX4_spotsHeld_3 : decode cX4_spotsHeld 3 = .ok (.istore_n 2, 1) := by decide +kernel
theorem dX4_spotsHeld_4 : decode cX4_spotsHeld 4 = .ok (.iload_n 2, 1) := by decide +kernel
theorem dX4_spotsHeld_5 : decode cX4_spotsHeld 5 = .ok (.bipush 10, 2) := by decide +kernel
theorem dX4_spotsHeld_7 : decode cX4_spotsHeld 7 = .ok (.if_icmp .ge 27, 3) := by decide +kernel
theorem dX4_spotsHeld_10 : decode cX4_spotsHeld 10 = .ok (.iload_n 1, 1) := by decide +kernel
theorem dX4_spotsHeld_11 : decode cX4_spotsHeld 11 = .ok (.aload_n 0, 1) := by decide +kernel
theorem dX4_spotsHeld_12 : decode cX4_spotsHeld 12 = .ok (.getfield 27, 3) := by decide +kernel
theorem dX4_spotsHeld_15 : decode cX4_spotsHeld 15 = .ok (.iload_n 2, 1) := by decide +kernel
theorem dX4_spotsHeld_16 : decode cX4_spotsHeld 16 = .ok (.iaload, 1) := by decide +kernel
theorem dX4_spotsHeld_17 : decode cX4_spotsHeld 17 = .ok (.iconst (-1), 1) := by decide +kernel
theorem dX4_spotsHeld_18 : decode cX4_spotsHeld 18 = .ok (.if_icmp .eq 7, 3) := by decide +kernel
theorem dX4_spotsHeld_21 : decode cX4_spotsHeld 21 = .ok (.iconst 1, 1) := by decide +kernel
theorem dX4_spotsHeld_22 : decode cX4_spotsHeld 22 = .ok (.goto 4, 3) := by decide +kernel
theorem dX4_spotsHeld_25 : decode cX4_spotsHeld 25 = .ok (.iconst 0, 1) := by decide +kernel
theorem dX4_spotsHeld_26 : decode cX4_spotsHeld 26 = .ok (.iadd, 1) := by decide +kernel
theorem dX4_spotsHeld_27 : decode cX4_spotsHeld 27 = .ok (.istore_n 1, 1) := by decide +kernel
theorem dX4_spotsHeld_28 : decode cX4_spotsHeld 28 = .ok (.iinc 2 1, 3) := by decide +kernel
theorem dX4_spotsHeld_31 : decode cX4_spotsHeld 31 = .ok (.goto (-27), 3) := by decide +kernel
theorem dX4_spotsHeld_34 : decode cX4_spotsHeld 34 = .ok (.iload_n 1, 1) := by decide +kernel
theorem dX4_spotsHeld_35 : decode cX4_spotsHeld 35 = .ok (.ireturn, 1) := by decide +kernel
def m_X4_spotsHeld_b0 (u : zM) (x1 : Int32) (x2 : Int32) : Option ((Int32 × Int32) ⊕ (Int32)) :=
  (if 10 ≤ x2 then
some (.inr x1)
else
zbind (zld u 7 10 x2) (fun x6 => (if x6 = (-1) then
some (.inl ((x1 + 0), (x2 + 1)))
else
some (.inl ((x1 + 1), (x2 + 1))))))
def m_X4_spotsHeld  (u : zM) : Option (Int32) :=
  zbind (zit zF (fun s : Int32 × Int32 => m_X4_spotsHeld_b0 u s.1 s.2) (0, 0)) (fun x3 =>
some x3)
set_option maxHeartbeats 4000000 in
set_option maxRecDepth 100000 in
theorem c_X4_spotsHeld    (u : zM) (r : Int32) (h : m_X4_spotsHeld u = some r) : zCt 1 yX4_spotsHeld cX4_spotsHeld 3 (some .int) (fun E => [.ref (zad E 1)]) u (fun _ => some (.int r)) u := by
  refine zCt.of (by decide +kernel) (fun E => Nat.le_of_ble_eq_true rfl) (fun X hX hR => ?_)
  have hX : zGood X RX4 cX4_spotsHeld 3 1 := hX
  show zG X u 0 [(0, .ref (zad X.1 1))] []
  unfold m_X4_spotsHeld at h
  refine r_iconst (v := 0) hX dX4_spotsHeld_0 (by decide) ?_
  refine r_istore_n (y := 0) (L' := [(1, .int 0), (0, .ref (zad X.1 1))]) hX dX4_spotsHeld_1 rfl (by decide) rfl rfl ?_
  refine r_iconst (v := 0) hX dX4_spotsHeld_2 (by decide) ?_
  refine r_istore_n (y := 0) (L' := [(2, .int 0), (1, .int 0), (0, .ref (zad X.1 1))]) hX dX4_spotsHeld_3 rfl (by decide) rfl rfl ?_
  refine r_sub [2, 1, 0] (L' := [(0, .ref (zad X.1 1)), (1, .int 0), (2, .int 0)]) rfl ?_
  obtain ⟨x3, h4, h⟩ := zbind_elim h
  have Jh4 : zG X u 34 [(1, .int x3)] [] := by
      refine r_iload_n hX dX4_spotsHeld_34 0 rfl rfl ?_
      obtain rfl := Option.some.inj h
      exact r_iret hX hR dX4_spotsHeld_35
  clear h
  refine zit_walk (P := fun s0 : Int32 × Int32 => zG X u 4 [(0, .ref (zad X.1 1)), (1, .int (s0.1)), (2, .int (s0.2))] []) ?_ zF _ h4
  clear h4
  intro s0 y0 h0b hin0 hout0
  obtain ⟨x1, x2⟩ := s0
  have h0b : m_X4_spotsHeld_b0 u x1 x2 = some y0 := h0b
  unfold m_X4_spotsHeld_b0 at h0b
  show zG X u 4 [(0, .ref (zad X.1 1)), (1, .int x1), (2, .int x2)] []
  refine r_iload_n hX dX4_spotsHeld_4 2 rfl rfl ?_
  refine r_bipush (v := 10) hX dX4_spotsHeld_5 (by decide) ?_
  refine r_icmp_ge (tgt := 34) hX dX4_spotsHeld_7 (by decide) (fun c5 => ?_) (fun c5 => ?_)
  · have h0b := (if_pos c5).symm.trans h0b
    refine r_sub [1] (L' := [(1, .int x1)]) rfl ?_
    have h0b := hout0 _ (Option.some.inj h0b).symm
    obtain rfl := h0b
    exact Jh4
  · have h0b := (if_neg c5).symm.trans h0b
    refine r_iload_n hX dX4_spotsHeld_10 1 rfl rfl ?_
    refine r_aload_n hX dX4_spotsHeld_11 0 rfl rfl ?_
    refine r_getR hX dX4_spotsHeld_12 f_RX4_27 zr_1_5 ?_
    refine r_iload_n hX dX4_spotsHeld_15 2 rfl rfl ?_
    obtain ⟨x6, e7, h0b⟩ := zbind_elim h0b
    refine r_iald hX dX4_spotsHeld_16 rfl e7 ?_
    refine r_iconst (v := (-1)) hX dX4_spotsHeld_17 (by decide) ?_
    refine r_icmp_eq (tgt := 25) hX dX4_spotsHeld_18 (by decide) (fun c8 => ?_) (fun c8 => ?_)
    · have h0b := (if_pos c8).symm.trans h0b
      refine r_iconst (v := 0) hX dX4_spotsHeld_25 (by decide) ?_
      refine r_iadd hX dX4_spotsHeld_26 ?_
      refine r_istore_n (y := (x1 + 0)) (L' := [(1, .int (x1 + 0)), (0, .ref (zad X.1 1)), (2, .int x2)]) hX dX4_spotsHeld_27 rfl (by decide) rfl rfl ?_
      refine r_iinc (v := (x2 + 1)) (L' := [(2, .int (x2 + 1)), (1, .int (x1 + 0)), (0, .ref (zad X.1 1))]) hX dX4_spotsHeld_28 (by decide) 2 rfl rfl rfl ?_
      refine r_goto (tgt := 4) hX dX4_spotsHeld_31 (by decide) ?_
      refine r_sub [2, 1, 0] (L' := [(0, .ref (zad X.1 1)), (1, .int (x1 + 0)), (2, .int (x2 + 1))]) rfl ?_
      exact hin0 _ (Option.some.inj h0b).symm
    · have h0b := (if_neg c8).symm.trans h0b
      refine r_iconst (v := 1) hX dX4_spotsHeld_21 (by decide) ?_
      refine r_goto (tgt := 26) hX dX4_spotsHeld_22 (by decide) ?_
      refine r_iadd hX dX4_spotsHeld_26 ?_
      refine r_istore_n (y := (x1 + 1)) (L' := [(1, .int (x1 + 1)), (0, .ref (zad X.1 1)), (2, .int x2)]) hX dX4_spotsHeld_27 rfl (by decide) rfl rfl ?_
      refine r_iinc (v := (x2 + 1)) (L' := [(2, .int (x2 + 1)), (1, .int (x1 + 1)), (0, .ref (zad X.1 1))]) hX dX4_spotsHeld_28 (by decide) 2 rfl rfl rfl ?_
      refine r_goto (tgt := 4) hX dX4_spotsHeld_31 (by decide) ?_
      refine r_sub [2, 1, 0] (L' := [(0, .ref (zad X.1 1)), (1, .int (x1 + 1)), (2, .int (x2 + 1))]) rfl ?_
      exact hin0 _ (Option.some.inj h0b).symm
theorem dX5_count_0 : decode cX5_count 0 = .ok (.iload_n 1, 1) := by decide +kernel
theorem dX5_count_1 : decode cX5_count 1 = .ok (.tableswitch 127 0 6 #[43, 51, 62, 95, 103, 111, 119], 43) := by decide +kernel
theorem dX5_count_44 : decode cX5_count 44 = .ok (.aload_n 0, 1) := by decide +kernel
theorem dX5_count_45 : decode cX5_count 45 = .ok (.getfield 10, 3) := by decide +kernel
theorem dX5_count_48 : decode cX5_count 48 = .ok (.getfield 69, 3) := by decide +kernel
theorem dX5_count_51 : decode cX5_count 51 = .ok (.ireturn, 1) := by decide +kernel
theorem dX5_count_52 : decode cX5_count 52 = .ok (.aload_n 0, 1) := by decide +kernel
theorem dX5_count_53 : decode cX5_count 53 = .ok (.getfield 10, 3) := by decide +kernel
theorem dX5_count_56 : decode cX5_count 56 = .ok (.getfield 96, 3) := by decide +kernel
theorem dX5_count_59 : decode cX5_count 59 = .ok (.invokestatic 163, 3) := by decide +kernel
theorem dX5_count_62 : decode cX5_count 62 = .ok (.ireturn, 1) := by decide +kernel
theorem dX5_count_63 : decode cX5_count 63 = .ok (.aload_n 0, 1) := by decide +kernel
theorem dX5_count_64 : decode cX5_count 64 = .ok (.invokevirtual 125, 3) := by decide +kernel
theorem dX5_count_67 : decode cX5_count 67 = .ok (.ifCond .eq 27, 3) := by decide +kernel
theorem dX5_count_70 : decode cX5_count 70 = .ok (.aload_n 0, 1) := by decide +kernel
theorem dX5_count_71 : decode cX5_count 71 = .ok (.getfield 22, 3) := by decide +kernel
theorem dX5_count_74 : decode cX5_count 74 = .ok (.aload_n 0, 1) := by decide +kernel
theorem dX5_count_75 : decode cX5_count 75 = .ok (.getfield 10, 3) := by decide +kernel
theorem dX5_count_78 : decode cX5_count 78 = .ok (.aload_n 0, 1) := by decide +kernel
theorem dX5_count_79 : decode cX5_count 79 = .ok (.getfield 10, 3) := by decide +kernel
theorem dX5_count_82 : decode cX5_count 82 = .ok (.getfield 96, 3) := by decide +kernel
theorem dX5_count_85 : decode cX5_count 85 = .ok (.invokevirtual 149, 3) := by decide +kernel
theorem dX5_count_88 : decode cX5_count 88 = .ok (.invokestatic 163, 3) := by decide +kernel
theorem dX5_count_91 : decode cX5_count 91 = .ok (.goto 4, 3) := by decide +kernel
theorem dX5_count_94 : decode cX5_count 94 = .ok (.iconst 0, 1) := by decide +kernel
theorem dX5_count_95 : decode cX5_count 95 = .ok (.ireturn, 1) := by decide +kernel
theorem dX5_count_96 : decode cX5_count 96 = .ok (.aload_n 0, 1) := by decide +kernel
theorem dX5_count_97 : decode cX5_count 97 = .ok (.getfield 10, 3) := by decide +kernel
theorem dX5_count_100 : decode cX5_count 100 = .ok (.getfield 194, 3) := by decide +kernel
theorem dX5_count_103 : decode cX5_count 103 = .ok (.ireturn, 1) := by decide +kernel
theorem dX5_count_104 : decode cX5_count 104 = .ok (.aload_n 0, 1) := by decide +kernel
theorem dX5_count_105 : decode cX5_count 105 = .ok (.getfield 29, 3) := by decide +kernel
theorem dX5_count_108 : decode cX5_count 108 = .ok (.getfield 228, 3) := by decide +kernel
theorem dX5_count_111 : decode cX5_count 111 = .ok (.ireturn, 1) := by decide +kernel
theorem dX5_count_112 : decode cX5_count 112 = .ok (.aload_n 0, 1) := by decide +kernel
theorem dX5_count_113 : decode cX5_count 113 = .ok (.getfield 10, 3) := by decide +kernel
theorem dX5_count_116 : decode cX5_count 116 = .ok (.getfield 225, 3) := by decide +kernel
theorem dX5_count_119 : decode cX5_count 119 = .ok (.ireturn, 1) := by decide +kernel
theorem dX5_count_120 : decode cX5_count 120 = .ok (.aload_n 0, 1) := by decide +kernel
theorem dX5_count_121 : decode cX5_count 121 = .ok (.getfield 10, 3) := by decide +kernel
theorem dX5_count_124 : decode cX5_count 124 = .ok (.invokevirtual 275, 3) := by decide +kernel
theorem dX5_count_127 : decode cX5_count 127 = .ok (.ireturn, 1) := by decide +kernel
theorem dX5_count_128 : decode cX5_count 128 = .ok (.aload_n 0, 1) := by decide +kernel
theorem dX5_count_129 : decode cX5_count 129 = .ok (.iconst 0, 1) := by decide +kernel
theorem dX5_count_130 : decode cX5_count 130 = .ok (.invokevirtual 65, 3) := by decide +kernel
theorem dX5_count_133 : decode cX5_count 133 = .ok (.ireturn, 1) := by decide +kernel
def m_X5_count (a1 : Int32) (u : zM) : Option (Int32 × zM) :=
  (if a1 = 0 then
some ((u 1 6), u)
else
if a1 = 1 then
some ((m_J6_bitCount_0f7a4 (u 1 7)), u)
else
if a1 = 2 then
zbind2 (m_X5_cutForAllHere u) (fun x4 u5 => (if x4 = 0 then
some (0, u5)
else
zbind (m_X2_fitting (u5 1 7) u5) (fun x8 => some ((m_J6_bitCount_0f7a4 x8), u5))))
else
if a1 = 3 then
some ((u 1 11), u)
else
if a1 = 4 then
some ((u 20 4), u)
else
if a1 = 5 then
some ((u 1 12), u)
else
if a1 = 6 then
zbind (m_X4_spotsHeld u) (fun x14 => some (x14, u))
else
zbind2 (m_X5_finding 0 u) (fun x16 u17 => some (x16, u17)))
set_option maxHeartbeats 4000000 in
set_option maxRecDepth 100000 in
theorem c_X5_count (a1 : Int32)   (u : zM) (r : Int32) (u' : zM) (h : m_X5_count a1 u = some (r, u')) : zCt 7 yX5_count cX5_count 2 (some .int) (fun E => [.ref (zad E 0), .int a1]) u (fun _ => some (.int r)) u' := by
  refine zCt.of (by decide +kernel) (fun E => Nat.le_of_ble_eq_true rfl) (fun X hX hR => ?_)
  have hX : zGood X RX5 cX5_count 2 7 := hX
  show zG X u 0 [(0, .ref (zad X.1 0)), (1, .int a1)] []
  unfold m_X5_count at h
  refine r_iload_n hX dX5_count_0 1 rfl rfl ?_
  by_cases c1 : a1 = 0
  · have h := (if_pos c1).symm.trans h
    refine r_tsIn (v := 0) (off := 43) (tgt := 44) hX dX5_count_1 c1 (by decide) (by decide) (by decide +kernel) (by decide) ?_
    refine r_aload_n hX dX5_count_44 0 rfl rfl ?_
    refine r_getR hX dX5_count_45 f_RX5_10 zr_0_0 ?_
    refine r_getI hX dX5_count_48 f_RX5_69 zi_1_6 ?_
    obtain ⟨rfl, rfl⟩ := zinj2 (Option.some.inj h)
    exact r_iret hX hR dX5_count_51
  have h := (if_neg c1).symm.trans h
  by_cases c2 : a1 = 1
  · have h := (if_pos c2).symm.trans h
    refine r_tsIn (v := 1) (off := 51) (tgt := 52) hX dX5_count_1 c2 (by decide) (by decide) (by decide +kernel) (by decide) ?_
    refine r_aload_n hX dX5_count_52 0 rfl rfl ?_
    refine r_getR hX dX5_count_53 f_RX5_10 zr_0_0 ?_
    refine r_getI hX dX5_count_56 f_RX5_96 zi_1_7 ?_
    refine r_callS (As := [.int (u 1 7)]) (rest := []) (st1 := [.int (m_J6_bitCount_0f7a4 (u 1 7))]) hX dX5_count_59 ls_RX5_163 (c_J6_bitCount_0f7a4 (u 1 7)  u _ rfl) (by decide) rfl rfl rfl (Nat.le_of_ble_eq_true rfl) rfl ?_
    obtain ⟨rfl, rfl⟩ := zinj2 (Option.some.inj h)
    exact r_iret hX hR dX5_count_62
  have h := (if_neg c2).symm.trans h
  by_cases c3 : a1 = 2
  · have h := (if_pos c3).symm.trans h
    refine r_tsIn (v := 2) (off := 62) (tgt := 63) hX dX5_count_1 c3 (by decide) (by decide) (by decide +kernel) (by decide) ?_
    refine r_aload_n hX dX5_count_63 0 rfl rfl ?_
    obtain ⟨x4, u5, e6, h⟩ := zbind2_elim h
    refine r_callV (As := []) (rest := []) (st1 := [.int x4]) hX dX5_count_64 lv_RX5_125 (c_X5_cutForAllHere   u _ _ e6) (by decide) rfl rfl (zRecv.of (q := 0) (ci := 5) rfl rfl) rfl (Nat.le_of_ble_eq_true rfl) rfl ?_
    refine r_if_eq (tgt := 94) hX dX5_count_67 (by decide) (fun c7 => ?_) (fun c7 => ?_)
    · have h := (if_pos c7).symm.trans h
      refine r_iconst (v := 0) hX dX5_count_94 (by decide) ?_
      obtain ⟨rfl, rfl⟩ := zinj2 (Option.some.inj h)
      exact r_iret hX hR dX5_count_95
    · have h := (if_neg c7).symm.trans h
      refine r_aload_n hX dX5_count_70 0 rfl rfl ?_
      refine r_getR hX dX5_count_71 f_RX5_22 zr_0_2 ?_
      refine r_aload_n hX dX5_count_74 0 rfl rfl ?_
      refine r_getR hX dX5_count_75 f_RX5_10 zr_0_0 ?_
      refine r_aload_n hX dX5_count_78 0 rfl rfl ?_
      refine r_getR hX dX5_count_79 f_RX5_10 zr_0_0 ?_
      refine r_getI hX dX5_count_82 f_RX5_96 zi_1_7 ?_
      obtain ⟨x8, e9, h⟩ := zbind_elim h
      refine r_callV (As := [.ref (zad X.1 1), .int (u5 1 7)]) (rest := []) (st1 := [.int x8]) hX dX5_count_85 lv_RX5_149 (c_X2_fitting (u5 1 7)  u5 _ e9) (by decide) rfl rfl (zRecv.of (q := 15) (ci := 2) rfl rfl) rfl (Nat.le_of_ble_eq_true rfl) rfl ?_
      refine r_callS (As := [.int x8]) (rest := []) (st1 := [.int (m_J6_bitCount_0f7a4 x8)]) hX dX5_count_88 ls_RX5_163 (c_J6_bitCount_0f7a4 x8  u5 _ rfl) (by decide) rfl rfl rfl (Nat.le_of_ble_eq_true rfl) rfl ?_
      refine r_goto (tgt := 95) hX dX5_count_91 (by decide) ?_
      obtain ⟨rfl, rfl⟩ := zinj2 (Option.some.inj h)
      exact r_iret hX hR dX5_count_95
  have h := (if_neg c3).symm.trans h
  by_cases c10 : a1 = 3
  · have h := (if_pos c10).symm.trans h
    refine r_tsIn (v := 3) (off := 95) (tgt := 96) hX dX5_count_1 c10 (by decide) (by decide) (by decide +kernel) (by decide) ?_
    refine r_aload_n hX dX5_count_96 0 rfl rfl ?_
    refine r_getR hX dX5_count_97 f_RX5_10 zr_0_0 ?_
    refine r_getI hX dX5_count_100 f_RX5_194 zi_1_11 ?_
    obtain ⟨rfl, rfl⟩ := zinj2 (Option.some.inj h)
    exact r_iret hX hR dX5_count_103
  have h := (if_neg c10).symm.trans h
  by_cases c11 : a1 = 4
  · have h := (if_pos c11).symm.trans h
    refine r_tsIn (v := 4) (off := 103) (tgt := 104) hX dX5_count_1 c11 (by decide) (by decide) (by decide +kernel) (by decide) ?_
    refine r_aload_n hX dX5_count_104 0 rfl rfl ?_
    refine r_getR hX dX5_count_105 f_RX5_29 zr_0_3 ?_
    refine r_getI hX dX5_count_108 f_RX5_228 zi_20_4 ?_
    obtain ⟨rfl, rfl⟩ := zinj2 (Option.some.inj h)
    exact r_iret hX hR dX5_count_111
  have h := (if_neg c11).symm.trans h
  by_cases c12 : a1 = 5
  · have h := (if_pos c12).symm.trans h
    refine r_tsIn (v := 5) (off := 111) (tgt := 112) hX dX5_count_1 c12 (by decide) (by decide) (by decide +kernel) (by decide) ?_
    refine r_aload_n hX dX5_count_112 0 rfl rfl ?_
    refine r_getR hX dX5_count_113 f_RX5_10 zr_0_0 ?_
    refine r_getI hX dX5_count_116 f_RX5_225 zi_1_12 ?_
    obtain ⟨rfl, rfl⟩ := zinj2 (Option.some.inj h)
    exact r_iret hX hR dX5_count_119
  have h := (if_neg c12).symm.trans h
  by_cases c13 : a1 = 6
  · have h := (if_pos c13).symm.trans h
    refine r_tsIn (v := 6) (off := 119) (tgt := 120) hX dX5_count_1 c13 (by decide) (by decide) (by decide +kernel) (by decide) ?_
    refine r_aload_n hX dX5_count_120 0 rfl rfl ?_
    refine r_getR hX dX5_count_121 f_RX5_10 zr_0_0 ?_
    obtain ⟨x14, e15, h⟩ := zbind_elim h
    refine r_callV (As := []) (rest := []) (st1 := [.int x14]) hX dX5_count_124 lv_RX5_275 (c_X4_spotsHeld   u _ e15) (by decide) rfl rfl (zRecv.of (q := 1) (ci := 4) rfl rfl) rfl (Nat.le_of_ble_eq_true rfl) rfl ?_
    obtain ⟨rfl, rfl⟩ := zinj2 (Option.some.inj h)
    exact r_iret hX hR dX5_count_127
  have h := (if_neg c13).symm.trans h
  refine r_tsOut (tgt := 128) hX dX5_count_1 (by first | exact zts_out a1 0 (by decide) 7 (by decide) (fun k hk => match k, hk with | 0, _ => c1 | 1, _ => c2 | 2, _ => c3 | 3, _ => c10 | 4, _ => c11 | 5, _ => c12 | 6, _ => c13 | k + 7, hk => absurd hk (by omega))) (by decide) ?_
  refine r_aload_n hX dX5_count_128 0 rfl rfl ?_
  refine r_iconst (v := 0) hX dX5_count_129 (by decide) ?_
  obtain ⟨x16, u17, e18, h⟩ := zbind2_elim h
  refine r_callV (As := [.int 0]) (rest := []) (st1 := [.int x16]) hX dX5_count_130 lv_RX5_65 (c_X5_finding 0  u _ _ e18) (by decide) rfl rfl (zRecv.of (q := 0) (ci := 5) rfl rfl) rfl (Nat.le_of_ble_eq_true rfl) rfl ?_
  obtain ⟨rfl, rfl⟩ := zinj2 (Option.some.inj h)
  exact r_iret hX hR dX5_count_133
theorem dX5_status_0 : decode cX5_status 0 = .ok (.iload_n 1, 1) := by decide +kernel
theorem dX5_status_1 : decode cX5_status 1 = .ok (.iconst (-1), 1) := by decide +kernel
theorem dX5_status_2 : decode cX5_status 2 = .ok (.bipush 6, 2) := by decide +kernel
theorem dX5_status_4 : decode cX5_status 4 = .ok (.invokestatic 80, 3) := by decide +kernel
theorem dX5_status_7 : decode cX5_status 7 = .ok (.ifCond .ne 9, 3) := by decide +kernel
theorem dX5_status_10 : decode cX5_status 10 = .ok (.aload_n 0, 1) := by decide +kernel
theorem dX5_status_11 : decode cX5_status 11 = .ok (.iconst 0, 1) := by decide +kernel
theorem dX5_status_12 : decode cX5_status 12 = .ok (.invokevirtual 65, 3) := by decide +kernel
theorem dX5_status_15 : decode cX5_status 15 = .ok (.ireturn, 1) := by decide +kernel
theorem dX5_status_16 : decode cX5_status 16 = .ok (.iload_n 1, 1) := by decide +kernel
theorem dX5_status_17 : decode cX5_status 17 = .ok (.ifCond .lt 10, 3) := by decide +kernel
theorem dX5_status_20 : decode cX5_status 20 = .ok (.aload_n 0, 1) := by decide +kernel
theorem dX5_status_21 : decode cX5_status 21 = .ok (.getfield 46, 3) := by decide +kernel
theorem dX5_status_24 : decode cX5_status 24 = .ok (.iload_n 1, 1) := by decide +kernel
theorem dX5_status_25 : decode cX5_status 25 = .ok (.iaload, 1) := by decide +kernel
theorem dX5_status_26 : decode cX5_status 26 = .ok (.ireturn, 1) := by decide +kernel
theorem dX5_status_27 : decode cX5_status 27 = .ok (.iconst 0, 1) := by decide +kernel
theorem dX5_status_28 : decode cX5_status 28 = .ok (.istore_n 2, 1) := by decide +kernel
theorem dX5_status_29 : decode cX5_status 29 = .ok (.iconst 0, 1) := by decide +kernel
theorem dX5_status_30 : decode cX5_status 30 = .ok (.istore_n 3, 1) := by decide +kernel
theorem dX5_status_31 : decode cX5_status 31 = .ok (.iload_n 3, 1) := by decide +kernel
theorem dX5_status_32 : decode cX5_status 32 = .ok (.bipush 7, 2) := by decide +kernel
theorem dX5_status_34 : decode cX5_status 34 = .ok (.if_icmp .ge 18, 3) := by decide +kernel
theorem dX5_status_37 : decode cX5_status 37 = .ok (.iload_n 2, 1) := by decide +kernel
theorem dX5_status_38 : decode cX5_status 38 = .ok (.aload_n 0, 1) := by decide +kernel
theorem dX5_status_39 : decode cX5_status 39 = .ok (.getfield 46, 3) := by decide +kernel
theorem dX5_status_42 : decode cX5_status 42 = .ok (.iload_n 3, 1) := by decide +kernel
theorem dX5_status_43 : decode cX5_status 43 = .ok (.iaload, 1) := by decide +kernel
theorem dX5_status_44 : decode cX5_status 44 = .ok (.iadd, 1) := by decide +kernel
theorem dX5_status_45 : decode cX5_status 45 = .ok (.istore_n 2, 1) := by decide +kernel
theorem dX5_status_46 : decode cX5_status 46 = .ok (.iinc 3 1, 3) := by decide +kernel
theorem dX5_status_49 : decode cX5_status 49 = .ok (.goto (-18), 3) := by decide +kernel
theorem dX5_status_52 : decode cX5_status 52 = .ok (.iload_n 2, 1) := by decide +kernel
theorem dX5_status_53 : decode cX5_status 53 = .ok (.ireturn, 1) := by decide +kernel
def m_X5_status_b0 (u : zM) (x3 : Int32) (x4 : Int32) : Option ((Int32 × Int32) ⊕ (Int32)) :=
  (if 7 ≤ x4 then
some (.inr x3)
else
zbind (zld u 28 7 x4) (fun x8 => some (.inl ((x3 + x8), (x4 + 1)))))
def m_X5_status (a1 : Int32) (u : zM) : Option (Int32 × zM) :=
  (if (m_X5_within a1 (-1) 6) = 0 then
zbind2 (m_X5_finding 0 u) (fun x12 u13 => some (x12, u13))
else
(if a1 < 0 then
zbind (zit zF (fun s : Int32 × Int32 => m_X5_status_b0 u s.1 s.2) (0, 0)) (fun x5 =>
some (x5, u))
else
zbind (zld u 28 7 a1) (fun x10 => some (x10, u))))
set_option maxHeartbeats 4000000 in
set_option maxRecDepth 100000 in
theorem c_X5_status (a1 : Int32)   (u : zM) (r : Int32) (u' : zM) (h : m_X5_status a1 u = some (r, u')) : zCt 2 yX5_status cX5_status 4 (some .int) (fun E => [.ref (zad E 0), .int a1]) u (fun _ => some (.int r)) u' := by
  refine zCt.of (by decide +kernel) (fun E => Nat.le_of_ble_eq_true rfl) (fun X hX hR => ?_)
  have hX : zGood X RX5 cX5_status 4 2 := hX
  show zG X u 0 [(0, .ref (zad X.1 0)), (1, .int a1)] []
  unfold m_X5_status at h
  refine r_iload_n hX dX5_status_0 1 rfl rfl ?_
  refine r_iconst (v := (-1)) hX dX5_status_1 (by decide) ?_
  refine r_bipush (v := 6) hX dX5_status_2 (by decide) ?_
  refine r_callS (As := [.int a1, .int (-1), .int 6]) (rest := []) (st1 := [.int (m_X5_within a1 (-1) 6)]) hX dX5_status_4 ls_RX5_80 (c_X5_within a1 (-1) 6  u _ rfl) (by decide) rfl rfl rfl (Nat.le_of_ble_eq_true rfl) rfl ?_
  refine r_if_ne (tgt := 16) hX dX5_status_7 (by decide) (fun c1 => ?_) (fun c1 => ?_)
  · have h := (if_neg c1).symm.trans h
    refine r_iload_n hX dX5_status_16 1 rfl rfl ?_
    refine r_if_lt (tgt := 27) hX dX5_status_17 (by decide) (fun c2 => ?_) (fun c2 => ?_)
    · have h := (if_pos c2).symm.trans h
      refine r_iconst (v := 0) hX dX5_status_27 (by decide) ?_
      refine r_istore_n (y := 0) (L' := [(2, .int 0), (0, .ref (zad X.1 0)), (1, .int a1)]) hX dX5_status_28 rfl (by decide) rfl rfl ?_
      refine r_iconst (v := 0) hX dX5_status_29 (by decide) ?_
      refine r_istore_n (y := 0) (L' := [(3, .int 0), (2, .int 0), (0, .ref (zad X.1 0)), (1, .int a1)]) hX dX5_status_30 rfl (by decide) rfl rfl ?_
      refine r_sub [2, 1, 0] (L' := [(0, .ref (zad X.1 0)), (2, .int 0), (3, .int 0)]) rfl ?_
      obtain ⟨x5, h6, h⟩ := zbind_elim h
      have Jh6 : zG X u 52 [(2, .int x5)] [] := by
          refine r_iload_n hX dX5_status_52 0 rfl rfl ?_
          obtain ⟨rfl, rfl⟩ := zinj2 (Option.some.inj h)
          exact r_iret hX hR dX5_status_53
      clear h
      refine zit_walk (P := fun s0 : Int32 × Int32 => zG X u 31 [(0, .ref (zad X.1 0)), (2, .int (s0.1)), (3, .int (s0.2))] []) ?_ zF _ h6
      clear h6
      intro s0 y0 h0b hin0 hout0
      obtain ⟨x3, x4⟩ := s0
      have h0b : m_X5_status_b0 u x3 x4 = some y0 := h0b
      unfold m_X5_status_b0 at h0b
      show zG X u 31 [(0, .ref (zad X.1 0)), (2, .int x3), (3, .int x4)] []
      refine r_iload_n hX dX5_status_31 2 rfl rfl ?_
      refine r_bipush (v := 7) hX dX5_status_32 (by decide) ?_
      refine r_icmp_ge (tgt := 52) hX dX5_status_34 (by decide) (fun c7 => ?_) (fun c7 => ?_)
      · have h0b := (if_pos c7).symm.trans h0b
        refine r_sub [1] (L' := [(2, .int x3)]) rfl ?_
        have h0b := hout0 _ (Option.some.inj h0b).symm
        obtain rfl := h0b
        exact Jh6
      · have h0b := (if_neg c7).symm.trans h0b
        refine r_iload_n hX dX5_status_37 1 rfl rfl ?_
        refine r_aload_n hX dX5_status_38 0 rfl rfl ?_
        refine r_getR hX dX5_status_39 f_RX5_46 zr_0_6 ?_
        refine r_iload_n hX dX5_status_42 2 rfl rfl ?_
        obtain ⟨x8, e9, h0b⟩ := zbind_elim h0b
        refine r_iald hX dX5_status_43 rfl e9 ?_
        refine r_iadd hX dX5_status_44 ?_
        refine r_istore_n (y := (x3 + x8)) (L' := [(2, .int (x3 + x8)), (0, .ref (zad X.1 0)), (3, .int x4)]) hX dX5_status_45 rfl (by decide) rfl rfl ?_
        refine r_iinc (v := (x4 + 1)) (L' := [(3, .int (x4 + 1)), (2, .int (x3 + x8)), (0, .ref (zad X.1 0))]) hX dX5_status_46 (by decide) 2 rfl rfl rfl ?_
        refine r_goto (tgt := 31) hX dX5_status_49 (by decide) ?_
        refine r_sub [2, 1, 0] (L' := [(0, .ref (zad X.1 0)), (2, .int (x3 + x8)), (3, .int (x4 + 1))]) rfl ?_
        exact hin0 _ (Option.some.inj h0b).symm
    · have h := (if_neg c2).symm.trans h
      refine r_aload_n hX dX5_status_20 0 rfl rfl ?_
      refine r_getR hX dX5_status_21 f_RX5_46 zr_0_6 ?_
      refine r_iload_n hX dX5_status_24 1 rfl rfl ?_
      obtain ⟨x10, e11, h⟩ := zbind_elim h
      refine r_iald hX dX5_status_25 rfl e11 ?_
      obtain ⟨rfl, rfl⟩ := zinj2 (Option.some.inj h)
      exact r_iret hX hR dX5_status_26
  · have h := (if_pos c1).symm.trans h
    refine r_aload_n hX dX5_status_10 0 rfl rfl ?_
    refine r_iconst (v := 0) hX dX5_status_11 (by decide) ?_
    obtain ⟨x12, u13, e14, h⟩ := zbind2_elim h
    refine r_callV (As := [.int 0]) (rest := []) (st1 := [.int x12]) hX dX5_status_12 lv_RX5_65 (c_X5_finding 0  u _ _ e14) (by decide) rfl rfl (zRecv.of (q := 0) (ci := 5) rfl rfl) rfl (Nat.le_of_ble_eq_true rfl) rfl ?_
    obtain ⟨rfl, rfl⟩ := zinj2 (Option.some.inj h)
    exact r_iret hX hR dX5_status_15
theorem dX6_within_0 : decode cX6_within 0 = .ok (.iload_n 0, 1) := by decide +kernel
theorem dX6_within_1 : decode cX6_within 1 = .ok (.iload_n 1, 1) := by decide +kernel
theorem dX6_within_2 : decode cX6_within 2 = .ok (.if_icmp .lt 12, 3) := by decide +kernel
theorem dX6_within_5 : decode cX6_within 5 = .ok (.iload_n 0, 1) := by decide +kernel
theorem dX6_within_6 : decode cX6_within 6 = .ok (.iload_n 2, 1) := by decide +kernel
theorem dX6_within_7 : decode cX6_within 7 = .ok (.if_icmp .gt 7, 3) := by decide +kernel
theorem dX6_within_10 : decode cX6_within 10 = .ok (.iconst 1, 1) := by decide +kernel
theorem dX6_within_11 : decode cX6_within 11 = .ok (.goto 4, 3) := by decide +kernel
theorem dX6_within_14 : decode cX6_within 14 = .ok (.iconst 0, 1) := by decide +kernel
theorem dX6_within_15 : decode cX6_within 15 = .ok (.ireturn, 1) := by decide +kernel
def m_X6_within (a1 : Int32) (a2 : Int32) (a3 : Int32) : Int32 :=
  (if a1 < a2 then
0
else
(if a3 < a1 then
0
else
1))
set_option maxHeartbeats 4000000 in
set_option maxRecDepth 100000 in
theorem c_X6_within (a1 : Int32) (a2 : Int32) (a3 : Int32)   (u : zM) (r : Int32) (h : m_X6_within a1 a2 a3 = r) : zCt 1 yX6_within cX6_within 3 (some .boolean) (fun E => [.int a1, .int a2, .int a3]) u (fun _ => some (.int r)) u := by
  refine zCt.of (by decide +kernel) (fun E => Nat.le_of_ble_eq_true rfl) (fun X hX hR => ?_)
  have hX : zGood X RX6 cX6_within 3 1 := hX
  show zG X u 0 [(0, .int a1), (1, .int a2), (2, .int a3)] []
  unfold m_X6_within at h
  refine r_iload_n hX dX6_within_0 0 rfl rfl ?_
  refine r_iload_n hX dX6_within_1 1 rfl rfl ?_
  refine r_icmp_lt (tgt := 14) hX dX6_within_2 (by decide) (fun c1 => ?_) (fun c1 => ?_)
  · have h := (if_pos c1).symm.trans h
    refine r_iconst (v := 0) hX dX6_within_14 (by decide) ?_
    obtain rfl := h
    exact r_zret0 hX hR dX6_within_15
  · have h := (if_neg c1).symm.trans h
    refine r_iload_n hX dX6_within_5 0 rfl rfl ?_
    refine r_iload_n hX dX6_within_6 2 rfl rfl ?_
    refine r_icmp_gt (tgt := 14) hX dX6_within_7 (by decide) (fun c2 => ?_) (fun c2 => ?_)
    · have h := (if_pos c2).symm.trans h
      refine r_iconst (v := 0) hX dX6_within_14 (by decide) ?_
      obtain rfl := h
      exact r_zret0 hX hR dX6_within_15
    · have h := (if_neg c2).symm.trans h
      refine r_iconst (v := 1) hX dX6_within_10 (by decide) ?_
      refine r_goto (tgt := 15) hX dX6_within_11 (by decide) ?_
      obtain rfl := h
      exact r_zret1 hX hR dX6_within_15
theorem dX6_finding_0 : decode cX6_finding 0 = .ok (.aload_n 0, 1) := by decide +kernel
theorem dX6_finding_1 : decode cX6_finding 1 = .ok (.getfield 16, 3) := by decide +kernel
theorem dX6_finding_4 : decode cX6_finding 4 = .ok (.ldc 78, 2) := by decide +kernel
theorem dX6_finding_6 : decode cX6_finding 6 = .ok (.iload_n 1, 1) := by decide +kernel
theorem dX6_finding_7 : decode cX6_finding 7 = .ok (.isub, 1) := by decide +kernel
theorem dX6_finding_8 : decode cX6_finding 8 = .ok (.iconst 1, 1) := by decide +kernel
theorem dX6_finding_9 : decode cX6_finding 9 = .ok (.iadd, 1) := by decide +kernel
theorem dX6_finding_10 : decode cX6_finding 10 = .ok (.dup2, 1) := by decide +kernel
theorem dX6_finding_11 : decode cX6_finding 11 = .ok (.iaload, 1) := by decide +kernel
theorem dX6_finding_12 : decode cX6_finding 12 = .ok (.iconst 1, 1) := by decide +kernel
theorem dX6_finding_13 : decode cX6_finding 13 = .ok (.iadd, 1) := by decide +kernel
theorem dX6_finding_14 : decode cX6_finding 14 = .ok (.iastore, 1) := by decide +kernel
theorem dX6_finding_15 : decode cX6_finding 15 = .ok (.aload_n 0, 1) := by decide +kernel
theorem dX6_finding_16 : decode cX6_finding 16 = .ok (.getfield 16, 3) := by decide +kernel
theorem dX6_finding_19 : decode cX6_finding 19 = .ok (.iconst 0, 1) := by decide +kernel
theorem dX6_finding_20 : decode cX6_finding 20 = .ok (.dup2, 1) := by decide +kernel
theorem dX6_finding_21 : decode cX6_finding 21 = .ok (.iaload, 1) := by decide +kernel
theorem dX6_finding_22 : decode cX6_finding 22 = .ok (.iconst 1, 1) := by decide +kernel
theorem dX6_finding_23 : decode cX6_finding 23 = .ok (.iadd, 1) := by decide +kernel
theorem dX6_finding_24 : decode cX6_finding 24 = .ok (.iastore, 1) := by decide +kernel
theorem dX6_finding_25 : decode cX6_finding 25 = .ok (.iload_n 1, 1) := by decide +kernel
theorem dX6_finding_26 : decode cX6_finding 26 = .ok (.ireturn, 1) := by decide +kernel
def m_X6_finding (a1 : Int32) (u : zM) : Option (Int32 × zM) :=
  zbind (zld u 42 8 (((-1000001) - a1) + 1)) (fun x1 => zbind (zsv u 42 8 (((-1000001) - a1) + 1) (x1 + 1)) (fun u3 => zlet (zst u3 42 0 ((u3 42 0) + 1)) (fun u5 => some (a1, u5))))
set_option maxHeartbeats 4000000 in
set_option maxRecDepth 100000 in
theorem c_X6_finding (a1 : Int32)   (u : zM) (r : Int32) (u' : zM) (h : m_X6_finding a1 u = some (r, u')) : zCt 1 yX6_finding cX6_finding 2 (some .int) (fun E => [.ref (zad E 39), .int a1]) u (fun _ => some (.int r)) u' := by
  refine zCt.of (by decide +kernel) (fun E => Nat.le_of_ble_eq_true rfl) (fun X hX hR => ?_)
  have hX : zGood X RX6 cX6_finding 2 1 := hX
  show zG X u 0 [(0, .ref (zad X.1 39)), (1, .int a1)] []
  unfold m_X6_finding at h
  refine r_aload_n hX dX6_finding_0 0 rfl rfl ?_
  refine r_getR hX dX6_finding_1 f_RX6_16 zr_39_3 ?_
  refine r_ldc (v := (-1000001)) hX dX6_finding_4 (zT_in 1041 (by decide +kernel) rfl) ?_
  refine r_iload_n hX dX6_finding_6 1 rfl rfl ?_
  refine r_isub hX dX6_finding_7 ?_
  refine r_iconst (v := 1) hX dX6_finding_8 (by decide) ?_
  refine r_iadd hX dX6_finding_9 ?_
  refine r_dup2 hX dX6_finding_10 rfl rfl ?_
  obtain ⟨x1, e2, h⟩ := zbind_elim h
  refine r_iald hX dX6_finding_11 rfl e2 ?_
  refine r_iconst (v := 1) hX dX6_finding_12 (by decide) ?_
  refine r_iadd hX dX6_finding_13 ?_
  obtain ⟨u3, e4, h⟩ := zbind_elim h
  refine r_iast hX dX6_finding_14 rfl e4 ?_
  refine r_aload_n hX dX6_finding_15 0 rfl rfl ?_
  refine r_getR hX dX6_finding_16 f_RX6_16 zr_39_3 ?_
  refine r_iconst (v := 0) hX dX6_finding_19 (by decide) ?_
  refine r_dup2 hX dX6_finding_20 rfl rfl ?_
  refine r_ialdC (j := 0) hX dX6_finding_21 rfl (by decide +kernel) ?_
  refine r_iconst (v := 1) hX dX6_finding_22 (by decide) ?_
  refine r_iadd hX dX6_finding_23 ?_
  obtain ⟨u5, e6, h⟩ := zlet_elim h
  refine r_iastC (j := 0) hX dX6_finding_24 rfl (by decide +kernel) ?_
  rw [e6]
  refine r_iload_n hX dX6_finding_25 1 rfl rfl ?_
  obtain ⟨rfl, rfl⟩ := zinj2 (Option.some.inj h)
  exact r_iret hX hR dX6_finding_26
theorem dX6_comes_0 : decode cX6_comes 0 = .ok (.aload_n 0, 1) := by decide +kernel
theorem dX6_comes_1 : decode cX6_comes 1 = .ok (.getfield 9, 3) := by decide +kernel
theorem dX6_comes_4 : decode cX6_comes 4 = .ok (.iconst 0, 1) := by decide +kernel
theorem dX6_comes_5 : decode cX6_comes 5 = .ok (.iaload, 1) := by decide +kernel
theorem dX6_comes_6 : decode cX6_comes 6 = .ok (.istore 5, 2) := by decide +kernel
theorem dX6_comes_8 : decode cX6_comes 8 = .ok (.bipush 6, 2) := by decide +kernel
theorem dX6_comes_10 : decode cX6_comes 10 = .ok (.bipush 7, 2) := by decide +kernel
theorem dX6_comes_12 : decode cX6_comes 12 = .ok (.iload 5, 2) := by decide +kernel
theorem dX6_comes_14 : decode cX6_comes 14 = .ok (.imul, 1) := by decide +kernel
theorem dX6_comes_15 : decode cX6_comes 15 = .ok (.iadd, 1) := by decide +kernel
theorem dX6_comes_16 : decode cX6_comes 16 = .ok (.istore 6, 2) := by decide +kernel
theorem dX6_comes_18 : decode cX6_comes 18 = .ok (.aload_n 0, 1) := by decide +kernel
theorem dX6_comes_19 : decode cX6_comes 19 = .ok (.getfield 9, 3) := by decide +kernel
theorem dX6_comes_22 : decode cX6_comes 22 = .ok (.iload 6, 2) := by decide +kernel
theorem dX6_comes_24 : decode cX6_comes 24 = .ok (.iconst 0, 1) := by decide +kernel
theorem dX6_comes_25 : decode cX6_comes 25 = .ok (.iadd, 1) := by decide +kernel
theorem dX6_comes_26 : decode cX6_comes 26 = .ok (.iload_n 1, 1) := by decide +kernel
theorem dX6_comes_27 : decode cX6_comes 27 = .ok (.iastore, 1) := by decide +kernel
theorem dX6_comes_28 : decode cX6_comes 28 = .ok (.aload_n 0, 1) := by decide +kernel
theorem dX6_comes_29 : decode cX6_comes 29 = .ok (.getfield 9, 3) := by decide +kernel
theorem dX6_comes_32 : decode cX6_comes 32 = .ok (.iload 6, 2) := by decide +kernel
theorem dX6_comes_34 : decode cX6_comes 34 = .ok (.iconst 1, 1) := by decide +kernel
theorem dX6_comes_35 : decode cX6_comes 35 = .ok (.iadd, 1) := by decide +kernel
theorem dX6_comes_36 : decode cX6_comes 36 = .ok (.iload_n 2, 1) := by decide +kernel
theorem dX6_comes_37 : decode cX6_comes 37 = .ok (.iastore, 1) := by decide +kernel
theorem dX6_comes_38 : decode cX6_comes 38 = .ok (.aload_n 0, 1) := by decide +kernel
theorem dX6_comes_39 : decode cX6_comes 39 = .ok (.getfield 9, 3) := by decide +kernel
theorem dX6_comes_42 : decode cX6_comes 42 = .ok (.iload 6, 2) := by decide +kernel
theorem dX6_comes_44 : decode cX6_comes 44 = .ok (.iconst 1, 1) := by decide +kernel
theorem dX6_comes_45 : decode cX6_comes 45 = .ok (.iadd, 1) := by decide +kernel
theorem dX6_comes_46 : decode cX6_comes 46 = .ok (.iconst 1, 1) := by decide +kernel
theorem dX6_comes_47 : decode cX6_comes 47 = .ok (.iadd, 1) := by decide +kernel
theorem dX6_comes_48 : decode cX6_comes 48 = .ok (.iload_n 3, 1) := by decide +kernel
theorem dX6_comes_49 : decode cX6_comes 49 = .ok (.iastore, 1) := by decide +kernel
theorem dX6_comes_50 : decode cX6_comes 50 = .ok (.aload_n 0, 1) := by decide +kernel
theorem dX6_comes_51 : decode cX6_comes 51 = .ok (.getfield 9, 3) := by decide +kernel
theorem dX6_comes_54 : decode cX6_comes 54 = .ok (.iload 6, 2) := by decide +kernel
theorem dX6_comes_56 : decode cX6_comes 56 = .ok (.iconst 1, 1) := by decide +kernel
theorem dX6_comes_57 : decode cX6_comes 57 = .ok (.iadd, 1) := by decide +kernel
theorem dX6_comes_58 : decode cX6_comes 58 = .ok (.iconst 2, 1) := by decide +kernel
theorem dX6_comes_59 : decode cX6_comes 59 = .ok (.iadd, 1) := by decide +kernel
theorem dX6_comes_60 : decode cX6_comes 60 = .ok (.iload 4, 2) := by decide +kernel
theorem dX6_comes_62 : decode cX6_comes 62 = .ok (.iastore, 1) := by decide +kernel
theorem dX6_comes_63 : decode cX6_comes 63 = .ok (.aload_n 0, 1) := by decide +kernel
theorem dX6_comes_64 : decode cX6_comes 64 = .ok (.getfield 9, 3) := by decide +kernel
theorem dX6_comes_67 : decode cX6_comes 67 = .ok (.iload 6, 2) := by decide +kernel
theorem dX6_comes_69 : decode cX6_comes 69 = .ok (.iconst 4, 1) := by decide +kernel
theorem dX6_comes_70 : decode cX6_comes 70 = .ok (.iadd, 1) := by decide +kernel
theorem dX6_comes_71 : decode cX6_comes 71 = .ok (.iconst 0, 1) := by decide +kernel
theorem dX6_comes_72 : decode cX6_comes 72 = .ok (.iastore, 1) := by decide +kernel
theorem dX6_comes_73 : decode cX6_comes 73 = .ok (.aload_n 0, 1) := by decide +kernel
theorem dX6_comes_74 : decode cX6_comes 74 = .ok (.getfield 9, 3) := by decide +kernel
theorem dX6_comes_77 : decode cX6_comes 77 = .ok (.iload 6, 2) := by decide +kernel
theorem dX6_comes_79 : decode cX6_comes 79 = .ok (.iconst 5, 1) := by decide +kernel
theorem dX6_comes_80 : decode cX6_comes 80 = .ok (.iadd, 1) := by decide +kernel
theorem dX6_comes_81 : decode cX6_comes 81 = .ok (.iconst 0, 1) := by decide +kernel
theorem dX6_comes_82 : decode cX6_comes 82 = .ok (.iastore, 1) := by decide +kernel
theorem dX6_comes_83 : decode cX6_comes 83 = .ok (.aload_n 0, 1) := by decide +kernel
theorem dX6_comes_84 : decode cX6_comes 84 = .ok (.getfield 9, 3) := by decide +kernel
theorem dX6_comes_87 : decode cX6_comes 87 = .ok (.iload 6, 2) := by decide +kernel
theorem dX6_comes_89 : decode cX6_comes 89 = .ok (.bipush 6, 2) := by decide +kernel
theorem dX6_comes_91 : decode cX6_comes 91 = .ok (.iadd, 1) := by decide +kernel
theorem dX6_comes_92 : decode cX6_comes 92 = .ok (.iconst 1, 1) := by decide +kernel
theorem dX6_comes_93 : decode cX6_comes 93 = .ok (.iastore, 1) := by decide +kernel
theorem dX6_comes_94 : decode cX6_comes 94 = .ok (.aload_n 0, 1) := by decide +kernel
theorem dX6_comes_95 : decode cX6_comes 95 = .ok (.getfield 9, 3) := by decide +kernel
theorem dX6_comes_98 : decode cX6_comes 98 = .ok (.iconst 0, 1) := by decide +kernel
theorem dX6_comes_99 : decode cX6_comes 99 = .ok (.dup2, 1) := by decide +kernel
theorem dX6_comes_100 : decode cX6_comes 100 = .ok (.iaload, 1) := by decide +kernel
theorem dX6_comes_101 : decode cX6_comes 101 = .ok (.iconst 1, 1) := by decide +kernel
theorem dX6_comes_102 : decode cX6_comes 102 = .ok (.iadd, 1) := by decide +kernel
theorem dX6_comes_103 : decode cX6_comes 103 = .ok (.iastore, 1) := by decide +kernel
theorem dX6_comes_104 : decode cX6_comes 104 = .ok (.iload 5, 2) := by decide +kernel
theorem dX6_comes_106 : decode cX6_comes 106 = .ok (.ireturn, 1) := by decide +kernel
def m_X6_comes (a1 : Int32) (a2 : Int32) (a3 : Int32) (a4 : Int32) (u : zM) : Option (Int32 × zM) :=
  zbind (zsv u 40 160 ((6 + (7 * (u 40 0))) + 0) a1) (fun u1 => zbind (zsv u1 40 160 ((6 + (7 * (u 40 0))) + 1) a2) (fun u3 => zbind (zsv u3 40 160 (((6 + (7 * (u 40 0))) + 1) + 1) a3) (fun u5 => zbind (zsv u5 40 160 (((6 + (7 * (u 40 0))) + 1) + 2) a4) (fun u7 => zbind (zsv u7 40 160 ((6 + (7 * (u 40 0))) + 4) 0) (fun u9 => zbind (zsv u9 40 160 ((6 + (7 * (u 40 0))) + 5) 0) (fun u11 => zbind (zsv u11 40 160 ((6 + (7 * (u 40 0))) + 6) 1) (fun u13 => zlet (zst u13 40 0 ((u13 40 0) + 1)) (fun u15 => some ((u 40 0), u15)))))))))
set_option maxHeartbeats 4000000 in
set_option maxRecDepth 100000 in
theorem c_X6_comes (a1 : Int32) (a2 : Int32) (a3 : Int32) (a4 : Int32)   (u : zM) (r : Int32) (u' : zM) (h : m_X6_comes a1 a2 a3 a4 u = some (r, u')) : zCt 1 yX6_comes cX6_comes 7 (some .int) (fun E => [.ref (zad E 39), .int a1, .int a2, .int a3, .int a4]) u (fun _ => some (.int r)) u' := by
  refine zCt.of (by decide +kernel) (fun E => Nat.le_of_ble_eq_true rfl) (fun X hX hR => ?_)
  have hX : zGood X RX6 cX6_comes 7 1 := hX
  show zG X u 0 [(0, .ref (zad X.1 39)), (1, .int a1), (2, .int a2), (3, .int a3), (4, .int a4)] []
  unfold m_X6_comes at h
  refine r_aload_n hX dX6_comes_0 0 rfl rfl ?_
  refine r_getR hX dX6_comes_1 f_RX6_9 zr_39_0 ?_
  refine r_iconst (v := 0) hX dX6_comes_4 (by decide) ?_
  refine r_ialdC (j := 0) hX dX6_comes_5 rfl (by decide +kernel) ?_
  refine r_istore (y := (u 40 0)) (L' := [(5, .int (u 40 0)), (0, .ref (zad X.1 39)), (1, .int a1), (2, .int a2), (3, .int a3), (4, .int a4)]) hX dX6_comes_6 (by decide) rfl rfl ?_
  refine r_bipush (v := 6) hX dX6_comes_8 (by decide) ?_
  refine r_bipush (v := 7) hX dX6_comes_10 (by decide) ?_
  refine r_iload hX dX6_comes_12 0 rfl ?_
  refine r_imul hX dX6_comes_14 ?_
  refine r_iadd hX dX6_comes_15 ?_
  refine r_istore (y := (6 + (7 * (u 40 0)))) (L' := [(6, .int (6 + (7 * (u 40 0)))), (5, .int (u 40 0)), (0, .ref (zad X.1 39)), (1, .int a1), (2, .int a2), (3, .int a3), (4, .int a4)]) hX dX6_comes_16 (by decide) rfl rfl ?_
  refine r_aload_n hX dX6_comes_18 2 rfl rfl ?_
  refine r_getR hX dX6_comes_19 f_RX6_9 zr_39_0 ?_
  refine r_iload hX dX6_comes_22 0 rfl ?_
  refine r_iconst (v := 0) hX dX6_comes_24 (by decide) ?_
  refine r_iadd hX dX6_comes_25 ?_
  refine r_iload_n hX dX6_comes_26 3 rfl rfl ?_
  obtain ⟨u1, e2, h⟩ := zbind_elim h
  refine r_iast hX dX6_comes_27 rfl e2 ?_
  refine r_aload_n hX dX6_comes_28 2 rfl rfl ?_
  refine r_getR hX dX6_comes_29 f_RX6_9 zr_39_0 ?_
  refine r_iload hX dX6_comes_32 0 rfl ?_
  refine r_iconst (v := 1) hX dX6_comes_34 (by decide) ?_
  refine r_iadd hX dX6_comes_35 ?_
  refine r_iload_n hX dX6_comes_36 4 rfl rfl ?_
  obtain ⟨u3, e4, h⟩ := zbind_elim h
  refine r_iast hX dX6_comes_37 rfl e4 ?_
  refine r_aload_n hX dX6_comes_38 2 rfl rfl ?_
  refine r_getR hX dX6_comes_39 f_RX6_9 zr_39_0 ?_
  refine r_iload hX dX6_comes_42 0 rfl ?_
  refine r_iconst (v := 1) hX dX6_comes_44 (by decide) ?_
  refine r_iadd hX dX6_comes_45 ?_
  refine r_iconst (v := 1) hX dX6_comes_46 (by decide) ?_
  refine r_iadd hX dX6_comes_47 ?_
  refine r_iload_n hX dX6_comes_48 5 rfl rfl ?_
  obtain ⟨u5, e6, h⟩ := zbind_elim h
  refine r_iast hX dX6_comes_49 rfl e6 ?_
  refine r_aload_n hX dX6_comes_50 2 rfl rfl ?_
  refine r_getR hX dX6_comes_51 f_RX6_9 zr_39_0 ?_
  refine r_iload hX dX6_comes_54 0 rfl ?_
  refine r_iconst (v := 1) hX dX6_comes_56 (by decide) ?_
  refine r_iadd hX dX6_comes_57 ?_
  refine r_iconst (v := 2) hX dX6_comes_58 (by decide) ?_
  refine r_iadd hX dX6_comes_59 ?_
  refine r_iload hX dX6_comes_60 6 rfl ?_
  obtain ⟨u7, e8, h⟩ := zbind_elim h
  refine r_iast hX dX6_comes_62 rfl e8 ?_
  refine r_aload_n hX dX6_comes_63 2 rfl rfl ?_
  refine r_getR hX dX6_comes_64 f_RX6_9 zr_39_0 ?_
  refine r_iload hX dX6_comes_67 0 rfl ?_
  refine r_iconst (v := 4) hX dX6_comes_69 (by decide) ?_
  refine r_iadd hX dX6_comes_70 ?_
  refine r_iconst (v := 0) hX dX6_comes_71 (by decide) ?_
  obtain ⟨u9, e10, h⟩ := zbind_elim h
  refine r_iast hX dX6_comes_72 rfl e10 ?_
  refine r_aload_n hX dX6_comes_73 2 rfl rfl ?_
  refine r_getR hX dX6_comes_74 f_RX6_9 zr_39_0 ?_
  refine r_iload hX dX6_comes_77 0 rfl ?_
  refine r_iconst (v := 5) hX dX6_comes_79 (by decide) ?_
  refine r_iadd hX dX6_comes_80 ?_
  refine r_iconst (v := 0) hX dX6_comes_81 (by decide) ?_
  obtain ⟨u11, e12, h⟩ := zbind_elim h
  refine r_iast hX dX6_comes_82 rfl e12 ?_
  refine r_aload_n hX dX6_comes_83 2 rfl rfl ?_
  refine r_getR hX dX6_comes_84 f_RX6_9 zr_39_0 ?_
  refine r_iload hX dX6_comes_87 0 rfl ?_
  refine r_bipush (v := 6) hX dX6_comes_89 (by decide) ?_
  refine r_iadd hX dX6_comes_91 ?_
  refine r_iconst (v := 1) hX dX6_comes_92 (by decide) ?_
  obtain ⟨u13, e14, h⟩ := zbind_elim h
  refine r_iast hX dX6_comes_93 rfl e14 ?_
  refine r_aload_n hX dX6_comes_94 2 rfl rfl ?_
  refine r_getR hX dX6_comes_95 f_RX6_9 zr_39_0 ?_
  refine r_iconst (v := 0) hX dX6_comes_98 (by decide) ?_
  refine r_dup2 hX dX6_comes_99 rfl rfl ?_
  refine r_ialdC (j := 0) hX dX6_comes_100 rfl (by decide +kernel) ?_
  refine r_iconst (v := 1) hX dX6_comes_101 (by decide) ?_
  refine r_iadd hX dX6_comes_102 ?_
  obtain ⟨u15, e16, h⟩ := zlet_elim h
  refine r_iastC (j := 0) hX dX6_comes_103 rfl (by decide +kernel) ?_
  rw [e16]
  refine r_iload hX dX6_comes_104 1 rfl ?_
  obtain ⟨rfl, rfl⟩ := zinj2 (Option.some.inj h)
  exact r_iret hX hR dX6_comes_106
theorem dX6_body_0 : decode cX6_body 0 = .ok (.iload_n 1, 1) := by decide +kernel
theorem dX6_body_1 : decode cX6_body 1 = .ok (.iconst 0, 1) := by decide +kernel
theorem dX6_body_2 : decode cX6_body 2 = .ok (.bipush 6, 2) := by decide +kernel
theorem dX6_body_4 : decode cX6_body 4 = .ok (.invokestatic 79, 3) := by decide +kernel
theorem dX6_body_7 : decode cX6_body 7 = .ok (.ifCond .ne 10, 3) := by decide +kernel
theorem dX6_body_10 : decode cX6_body 10 = .ok (.aload_n 0, 1) := by decide +kernel
theorem dX6_body_11 : decode cX6_body 11 = .ok (.ldc 78, 2) := by decide +kernel
theorem dX6_body_13 : decode cX6_body 13 = .ok (.invokevirtual 83, 3) := by decide +kernel
theorem dX6_body_16 : decode cX6_body 16 = .ok (.ireturn, 1) := by decide +kernel
theorem dX6_body_17 : decode cX6_body 17 = .ok (.aload_n 0, 1) := by decide +kernel
theorem dX6_body_18 : decode cX6_body 18 = .ok (.getfield 9, 3) := by decide +kernel
theorem dX6_body_21 : decode cX6_body 21 = .ok (.iconst 0, 1) := by decide +kernel
theorem dX6_body_22 : decode cX6_body 22 = .ok (.iaload, 1) := by decide +kernel
theorem dX6_body_23 : decode cX6_body 23 = .ok (.bipush 12, 2) := by decide +kernel
theorem dX6_body_25 : decode cX6_body 25 = .ok (.if_icmp .ne 12, 3) := by decide +kernel
theorem dX6_body_28 : decode cX6_body 28 = .ok (.aload_n 0, 1) := by decide +kernel
theorem dX6_body_29 : decode cX6_body 29 = .ok (.ldc 87, 2) := by decide +kernel
theorem dX6_body_31 : decode cX6_body 31 = .ok (.invokevirtual 83, 3) := by decide +kernel
theorem dX6_body_34 : decode cX6_body 34 = .ok (.goto 14, 3) := by decide +kernel
theorem dX6_body_37 : decode cX6_body 37 = .ok (.aload_n 0, 1) := by decide +kernel
theorem dX6_body_38 : decode cX6_body 38 = .ok (.iload_n 1, 1) := by decide +kernel
theorem dX6_body_39 : decode cX6_body 39 = .ok (.bipush 100, 2) := by decide +kernel
theorem dX6_body_41 : decode cX6_body 41 = .ok (.bipush 100, 2) := by decide +kernel
theorem dX6_body_43 : decode cX6_body 43 = .ok (.bipush 100, 2) := by decide +kernel
theorem dX6_body_45 : decode cX6_body 45 = .ok (.invokevirtual 88, 3) := by decide +kernel
theorem dX6_body_48 : decode cX6_body 48 = .ok (.ireturn, 1) := by decide +kernel
def m_X6_body (a1 : Int32) (u : zM) : Option (Int32 × zM) :=
  (if (m_X6_within a1 0 6) = 0 then
zbind2 (m_X6_finding (-1000001) u) (fun x9 u10 => some (x9, u10))
else
(if (u 40 0) = 12 then
zbind2 (m_X6_finding (-1000002) u) (fun x6 u7 => some (x6, u7))
else
zbind2 (m_X6_comes a1 100 100 100 u) (fun x3 u4 => some (x3, u4))))
set_option maxHeartbeats 4000000 in
set_option maxRecDepth 100000 in
theorem c_X6_body (a1 : Int32)   (u : zM) (r : Int32) (u' : zM) (h : m_X6_body a1 u = some (r, u')) : zCt 2 yX6_body cX6_body 2 (some .int) (fun E => [.ref (zad E 39), .int a1]) u (fun _ => some (.int r)) u' := by
  refine zCt.of (by decide +kernel) (fun E => Nat.le_of_ble_eq_true rfl) (fun X hX hR => ?_)
  have hX : zGood X RX6 cX6_body 2 2 := hX
  show zG X u 0 [(0, .ref (zad X.1 39)), (1, .int a1)] []
  unfold m_X6_body at h
  refine r_iload_n hX dX6_body_0 1 rfl rfl ?_
  refine r_iconst (v := 0) hX dX6_body_1 (by decide) ?_
  refine r_bipush (v := 6) hX dX6_body_2 (by decide) ?_
  refine r_callS (As := [.int a1, .int 0, .int 6]) (rest := []) (st1 := [.int (m_X6_within a1 0 6)]) hX dX6_body_4 ls_RX6_79 (c_X6_within a1 0 6  u _ rfl) (by decide) rfl rfl rfl (Nat.le_of_ble_eq_true rfl) rfl ?_
  refine r_if_ne (tgt := 17) hX dX6_body_7 (by decide) (fun c1 => ?_) (fun c1 => ?_)
  · have h := (if_neg c1).symm.trans h
    refine r_aload_n hX dX6_body_17 0 rfl rfl ?_
    refine r_getR hX dX6_body_18 f_RX6_9 zr_39_0 ?_
    refine r_iconst (v := 0) hX dX6_body_21 (by decide) ?_
    refine r_ialdC (j := 0) hX dX6_body_22 rfl (by decide +kernel) ?_
    refine r_bipush (v := 12) hX dX6_body_23 (by decide) ?_
    refine r_icmp_ne (tgt := 37) hX dX6_body_25 (by decide) (fun c2 => ?_) (fun c2 => ?_)
    · have h := (if_neg c2).symm.trans h
      refine r_aload_n hX dX6_body_37 0 rfl rfl ?_
      refine r_iload_n hX dX6_body_38 1 rfl rfl ?_
      refine r_bipush (v := 100) hX dX6_body_39 (by decide) ?_
      refine r_bipush (v := 100) hX dX6_body_41 (by decide) ?_
      refine r_bipush (v := 100) hX dX6_body_43 (by decide) ?_
      obtain ⟨x3, u4, e5, h⟩ := zbind2_elim h
      refine r_callV (As := [.int a1, .int 100, .int 100, .int 100]) (rest := []) (st1 := [.int x3]) hX dX6_body_45 lv_RX6_88 (c_X6_comes a1 100 100 100  u _ _ e5) (by decide) rfl rfl (zRecv.of (q := 39) (ci := 6) rfl rfl) rfl (Nat.le_of_ble_eq_true rfl) rfl ?_
      obtain ⟨rfl, rfl⟩ := zinj2 (Option.some.inj h)
      exact r_iret hX hR dX6_body_48
    · have h := (if_pos c2).symm.trans h
      refine r_aload_n hX dX6_body_28 0 rfl rfl ?_
      refine r_ldc (v := (-1000002)) hX dX6_body_29 (zT_in 1046 (by decide +kernel) rfl) ?_
      obtain ⟨x6, u7, e8, h⟩ := zbind2_elim h
      refine r_callV (As := [.int (-1000002)]) (rest := []) (st1 := [.int x6]) hX dX6_body_31 lv_RX6_83 (c_X6_finding (-1000002)  u _ _ e8) (by decide) rfl rfl (zRecv.of (q := 39) (ci := 6) rfl rfl) rfl (Nat.le_of_ble_eq_true rfl) rfl ?_
      refine r_goto (tgt := 48) hX dX6_body_34 (by decide) ?_
      obtain ⟨rfl, rfl⟩ := zinj2 (Option.some.inj h)
      exact r_iret hX hR dX6_body_48
  · have h := (if_pos c1).symm.trans h
    refine r_aload_n hX dX6_body_10 0 rfl rfl ?_
    refine r_ldc (v := (-1000001)) hX dX6_body_11 (zT_in 1041 (by decide +kernel) rfl) ?_
    obtain ⟨x9, u10, e11, h⟩ := zbind2_elim h
    refine r_callV (As := [.int (-1000001)]) (rest := []) (st1 := [.int x9]) hX dX6_body_13 lv_RX6_83 (c_X6_finding (-1000001)  u _ _ e11) (by decide) rfl rfl (zRecv.of (q := 39) (ci := 6) rfl rfl) rfl (Nat.le_of_ble_eq_true rfl) rfl ?_
    obtain ⟨rfl, rfl⟩ := zinj2 (Option.some.inj h)
    exact r_iret hX hR dX6_body_16
theorem dX6_isBody_0 : decode cX6_isBody 0 = .ok (.iload_n 1, 1) := by decide +kernel
theorem dX6_isBody_1 : decode cX6_isBody 1 = .ok (.iconst 0, 1) := by decide +kernel
theorem dX6_isBody_2 : decode cX6_isBody 2 = .ok (.aload_n 0, 1) := by decide +kernel
theorem dX6_isBody_3 : decode cX6_isBody 3 = .ok (.getfield 9, 3) := by decide +kernel
theorem dX6_isBody_6 : decode cX6_isBody 6 = .ok (.iconst 0, 1) := by decide +kernel
theorem dX6_isBody_7 : decode cX6_isBody 7 = .ok (.iaload, 1) := by decide +kernel
theorem dX6_isBody_8 : decode cX6_isBody 8 = .ok (.iconst 1, 1) := by decide +kernel
theorem dX6_isBody_9 : decode cX6_isBody 9 = .ok (.isub, 1) := by decide +kernel
theorem dX6_isBody_10 : decode cX6_isBody 10 = .ok (.invokestatic 79, 3) := by decide +kernel
theorem dX6_isBody_13 : decode cX6_isBody 13 = .ok (.ireturn, 1) := by decide +kernel
def m_X6_isBody (a1 : Int32) (u : zM) : Int32 :=
  (zb (m_X6_within a1 0 ((u 40 0) - 1)))
set_option maxHeartbeats 4000000 in
set_option maxRecDepth 100000 in
theorem c_X6_isBody (a1 : Int32)   (u : zM) (r : Int32) (h : m_X6_isBody a1 u = r) : zCt 2 yX6_isBody cX6_isBody 2 (some .boolean) (fun E => [.ref (zad E 39), .int a1]) u (fun _ => some (.int r)) u := by
  refine zCt.of (by decide +kernel) (fun E => Nat.le_of_ble_eq_true rfl) (fun X hX hR => ?_)
  have hX : zGood X RX6 cX6_isBody 2 2 := hX
  show zG X u 0 [(0, .ref (zad X.1 39)), (1, .int a1)] []
  unfold m_X6_isBody at h
  refine r_iload_n hX dX6_isBody_0 1 rfl rfl ?_
  refine r_iconst (v := 0) hX dX6_isBody_1 (by decide) ?_
  refine r_aload_n hX dX6_isBody_2 0 rfl rfl ?_
  refine r_getR hX dX6_isBody_3 f_RX6_9 zr_39_0 ?_
  refine r_iconst (v := 0) hX dX6_isBody_6 (by decide) ?_
  refine r_ialdC (j := 0) hX dX6_isBody_7 rfl (by decide +kernel) ?_
  refine r_iconst (v := 1) hX dX6_isBody_8 (by decide) ?_
  refine r_isub hX dX6_isBody_9 ?_
  refine r_callS (As := [.int a1, .int 0, .int ((u 40 0) - 1)]) (rest := []) (st1 := [.int (m_X6_within a1 0 ((u 40 0) - 1))]) hX dX6_isBody_10 ls_RX6_79 (c_X6_within a1 0 ((u 40 0) - 1)  u _ rfl) (by decide) rfl rfl rfl (Nat.le_of_ble_eq_true rfl) rfl ?_
  obtain rfl := h
  exact r_zret hX hR dX6_isBody_13
theorem dX6_bodyIs_0 : decode cX6_bodyIs 0 = .ok (.aload_n 0, 1) := by decide +kernel
theorem dX6_bodyIs_1 : decode cX6_bodyIs 1 = .ok (.getfield 9, 3) := by decide +kernel
theorem dX6_bodyIs_4 : decode cX6_bodyIs 4 = .ok (.bipush 6, 2) := by decide +kernel
theorem dX6_bodyIs_6 : decode cX6_bodyIs 6 = .ok (.bipush 7, 2) := by decide +kernel
theorem dX6_bodyIs_8 : decode cX6_bodyIs 8 = .ok (.iload_n 1, 1) := by decide +kernel
theorem dX6_bodyIs_9 : decode cX6_bodyIs 9 = .ok (.imul, 1) := by decide +kernel
theorem dX6_bodyIs_10 : decode cX6_bodyIs 10 = .ok (.iadd, 1) := by decide +kernel
theorem dX6_bodyIs_11 : decode cX6_bodyIs 11 = .ok (.iload_n 2, 1) := by decide +kernel
theorem dX6_bodyIs_12 : decode cX6_bodyIs 12 = .ok (.iadd, 1) := by decide +kernel
theorem dX6_bodyIs_13 : decode cX6_bodyIs 13 = .ok (.iaload, 1) := by decide +kernel
theorem dX6_bodyIs_14 : decode cX6_bodyIs 14 = .ok (.ireturn, 1) := by decide +kernel
def m_X6_bodyIs (a1 : Int32) (a2 : Int32) (u : zM) : Option (Int32) :=
  zbind (zld u 40 160 ((6 + (7 * a1)) + a2)) (fun x1 => some x1)
set_option maxHeartbeats 4000000 in
set_option maxRecDepth 100000 in
theorem c_X6_bodyIs (a1 : Int32) (a2 : Int32)   (u : zM) (r : Int32) (h : m_X6_bodyIs a1 a2 u = some r) : zCt 1 yX6_bodyIs cX6_bodyIs 3 (some .int) (fun E => [.ref (zad E 39), .int a1, .int a2]) u (fun _ => some (.int r)) u := by
  refine zCt.of (by decide +kernel) (fun E => Nat.le_of_ble_eq_true rfl) (fun X hX hR => ?_)
  have hX : zGood X RX6 cX6_bodyIs 3 1 := hX
  show zG X u 0 [(0, .ref (zad X.1 39)), (1, .int a1), (2, .int a2)] []
  unfold m_X6_bodyIs at h
  refine r_aload_n hX dX6_bodyIs_0 0 rfl rfl ?_
  refine r_getR hX dX6_bodyIs_1 f_RX6_9 zr_39_0 ?_
  refine r_bipush (v := 6) hX dX6_bodyIs_4 (by decide) ?_
  refine r_bipush (v := 7) hX dX6_bodyIs_6 (by decide) ?_
  refine r_iload_n hX dX6_bodyIs_8 1 rfl rfl ?_
  refine r_imul hX dX6_bodyIs_9 ?_
  refine r_iadd hX dX6_bodyIs_10 ?_
  refine r_iload_n hX dX6_bodyIs_11 2 rfl rfl ?_
  refine r_iadd hX dX6_bodyIs_12 ?_
  obtain ⟨x1, e2, h⟩ := zbind_elim h
  refine r_iald hX dX6_bodyIs_13 rfl e2 ?_
  obtain rfl := Option.some.inj h
  exact r_iret hX hR dX6_bodyIs_14
