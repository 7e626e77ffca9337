/-! MODELS AND CONTRACTS, by program (wip/whole/gen_all.py): X3_add, X5_feed, X5_wipe, X3_sortOf, X3_lay, X3_split, X0_nameOf, J0_coder_7d493, J0_length_8abf5, J0_isLatin1_aae02, J3_checkIndex_8e157, J0_checkIndex_df160, J1_charAt_3b067 -/
theorem dX3_add_0 : decode cX3_add 0 = .ok (.aload_n 0, 1) := by decide +kernel
theorem dX3_add_1 : decode cX3_add 1 = .ok (.getfield 24, 3) := by decide +kernel
theorem dX3_add_4 : decode cX3_add 4 = .ok (.bipush 120, 2) := by decide +kernel
theorem dX3_add_6 : decode cX3_add 6 = .ok (.if_icmp .ge 23, 3) := by decide +kernel
theorem dX3_add_9 : decode cX3_add 9 = .ok (.aload_n 0, 1) := by decide +kernel
theorem dX3_add_10 : decode cX3_add 10 = .ok (.getfield 9, 3) := by decide +kernel
theorem dX3_add_13 : decode cX3_add 13 = .ok (.aload_n 0, 1) := by decide +kernel
theorem dX3_add_14 : decode cX3_add 14 = .ok (.getfield 24, 3) := by decide +kernel
theorem dX3_add_17 : decode cX3_add 17 = .ok (.iload_n 1, 1) := by decide +kernel
theorem dX3_add_18 : decode cX3_add 18 = .ok (.iastore, 1) := by decide +kernel
theorem dX3_add_19 : decode cX3_add 19 = .ok (.aload_n 0, 1) := by decide +kernel
theorem dX3_add_20 : decode cX3_add 20 = .ok (.dup, 1) := by decide +kernel
theorem dX3_add_21 : decode cX3_add 21 = .ok (.getfield 24, 3) := by decide +kernel
theorem dX3_add_24 : decode cX3_add 24 = .ok (.iconst 1, 1) := by decide +kernel
theorem dX3_add_25 : decode cX3_add 25 = .ok (.iadd, 1) := by decide +kernel
theorem dX3_add_26 : decode cX3_add 26 = .ok (.putfield 24, 3) := by decide +kernel
theorem dX3_add_29 : decode cX3_add 29 = .ok (.return_, 1) := by decide +kernel
def m_X3_add (a1 : Int32) (u : zM) : Option (zM) :=
  (if 120 ≤ (u 20 4) then
some u
else
zbind (zsv u 21 120 (u 20 4) a1) (fun u2 => zlet (zst u2 20 4 ((u2 20 4) + 1)) (fun u4 => some u4)))
set_option maxHeartbeats 4000000 in
set_option maxRecDepth 100000 in
theorem c_X3_add (a1 : Int32)   (u : zM) (u' : zM) (h : m_X3_add a1 u = some (u')) : zCt 1 yX3_add cX3_add 2 none (fun E => [.ref (zad E 20), .int a1]) u (fun _ => none) u' := by
  refine zCt.of (by decide +kernel) (fun E => Nat.le_of_ble_eq_true rfl) (fun X hX hR => ?_)
  have hX : zGood X RX3 cX3_add 2 1 := hX
  show zG X u 0 [(0, .ref (zad X.1 20)), (1, .int a1)] []
  unfold m_X3_add at h
  refine r_aload_n hX dX3_add_0 0 rfl rfl ?_
  refine r_getI hX dX3_add_1 f_RX3_24 zi_20_4 ?_
  refine r_bipush (v := 120) hX dX3_add_4 (by decide) ?_
  refine r_icmp_ge (tgt := 29) hX dX3_add_6 (by decide) (fun c1 => ?_) (fun c1 => ?_)
  · have h := (if_pos c1).symm.trans h
    obtain rfl := Option.some.inj h
    exact r_vret hX hR dX3_add_29
  · have h := (if_neg c1).symm.trans h
    refine r_aload_n hX dX3_add_9 0 rfl rfl ?_
    refine r_getR hX dX3_add_10 f_RX3_9 zr_20_0 ?_
    refine r_aload_n hX dX3_add_13 0 rfl rfl ?_
    refine r_getI hX dX3_add_14 f_RX3_24 zi_20_4 ?_
    refine r_iload_n hX dX3_add_17 1 rfl rfl ?_
    obtain ⟨u2, e3, h⟩ := zbind_elim h
    refine r_iast hX dX3_add_18 rfl e3 ?_
    refine r_aload_n hX dX3_add_19 0 rfl rfl ?_
    refine r_dup hX dX3_add_20 rfl ?_
    refine r_getI hX dX3_add_21 f_RX3_24 zi_20_4 ?_
    refine r_iconst (v := 1) hX dX3_add_24 (by decide) ?_
    refine r_iadd hX dX3_add_25 ?_
    obtain ⟨u4, e5, h⟩ := zlet_elim h
    refine r_putI hX dX3_add_26 f_RX3_24 p_3_4 zi_20_4 ?_
    rw [e5]
    obtain rfl := Option.some.inj h
    exact r_vret hX hR dX3_add_29
theorem dX5_feed_0 : decode cX5_feed 0 = .ok (.iload_n 2, 1) := by decide +kernel
theorem dX5_feed_1 : decode cX5_feed 1 = .ok (.iconst 1, 1) := by decide +kernel
theorem dX5_feed_2 : decode cX5_feed 2 = .ok (.iconst 4, 1) := by decide +kernel
theorem dX5_feed_3 : decode cX5_feed 3 = .ok (.invokestatic 80, 3) := by decide +kernel
theorem dX5_feed_6 : decode cX5_feed 6 = .ok (.ifCond .ne 9, 3) := by decide +kernel
theorem dX5_feed_9 : decode cX5_feed 9 = .ok (.aload_n 0, 1) := by decide +kernel
theorem dX5_feed_10 : decode cX5_feed 10 = .ok (.iconst 0, 1) := by decide +kernel
theorem dX5_feed_11 : decode cX5_feed 11 = .ok (.invokevirtual 65, 3) := by decide +kernel
theorem dX5_feed_14 : decode cX5_feed 14 = .ok (.ireturn, 1) := by decide +kernel
theorem dX5_feed_15 : decode cX5_feed 15 = .ok (.aload_n 0, 1) := by decide +kernel
theorem dX5_feed_16 : decode cX5_feed 16 = .ok (.getfield 29, 3) := by decide +kernel
theorem dX5_feed_19 : decode cX5_feed 19 = .ok (.getfield 228, 3) := by decide +kernel
theorem dX5_feed_22 : decode cX5_feed 22 = .ok (.iload_n 2, 1) := by decide +kernel
theorem dX5_feed_23 : decode cX5_feed 23 = .ok (.iadd, 1) := by decide +kernel
theorem dX5_feed_24 : decode cX5_feed 24 = .ok (.bipush 120, 2) := by decide +kernel
theorem dX5_feed_26 : decode cX5_feed 26 = .ok (.if_icmp .le 9, 3) := by decide +kernel
theorem dX5_feed_29 : decode cX5_feed 29 = .ok (.aload_n 0, 1) := by decide +kernel
theorem dX5_feed_30 : decode cX5_feed 30 = .ok (.iconst 1, 1) := by decide +kernel
theorem dX5_feed_31 : decode cX5_feed 31 = .ok (.invokevirtual 65, 3) := by decide +kernel
theorem dX5_feed_34 : decode cX5_feed 34 = .ok (.ireturn, 1) := by decide +kernel
theorem dX5_feed_35 : decode cX5_feed 35 = .ok (.iload_n 2, 1) := by decide +kernel
theorem dX5_feed_36 : decode cX5_feed 36 = .ok (.iconst 1, 1) := by decide +kernel
theorem dX5_feed_37 : decode cX5_feed 37 = .ok (.isub, 1) := by decide +kernel
theorem dX5_feed_38 : decode cX5_feed 38 = .ok (.istore_n 3, 1) := by decide +kernel
theorem dX5_feed_39 : decode cX5_feed 39 = .ok (.iload_n 3, 1) := by decide +kernel
theorem dX5_feed_40 : decode cX5_feed 40 = .ok (.ifCond .lt 26, 3) := by decide +kernel
theorem dX5_feed_43 : decode cX5_feed 43 = .ok (.aload_n 0, 1) := by decide +kernel
theorem dX5_feed_44 : decode cX5_feed 44 = .ok (.getfield 29, 3) := by decide +kernel
theorem dX5_feed_47 : decode cX5_feed 47 = .ok (.iload_n 1, 1) := by decide +kernel
theorem dX5_feed_48 : decode cX5_feed 48 = .ok (.bipush 8, 2) := by decide +kernel
theorem dX5_feed_50 : decode cX5_feed 50 = .ok (.iload_n 3, 1) := by decide +kernel
theorem dX5_feed_51 : decode cX5_feed 51 = .ok (.imul, 1) := by decide +kernel
theorem dX5_feed_52 : decode cX5_feed 52 = .ok (.iushr, 1) := by decide +kernel
theorem dX5_feed_53 : decode cX5_feed 53 = .ok (.sipush 255, 3) := by decide +kernel
theorem dX5_feed_56 : decode cX5_feed 56 = .ok (.iand, 1) := by decide +kernel
theorem dX5_feed_57 : decode cX5_feed 57 = .ok (.invokevirtual 231, 3) := by decide +kernel
theorem dX5_feed_60 : decode cX5_feed 60 = .ok (.iinc 3 (-1), 3) := by decide +kernel
theorem dX5_feed_63 : decode cX5_feed 63 = .ok (.goto (-24), 3) := by decide +kernel
theorem dX5_feed_66 : decode cX5_feed 66 = .ok (.aload_n 0, 1) := by decide +kernel
theorem dX5_feed_67 : decode cX5_feed 67 = .ok (.getfield 29, 3) := by decide +kernel
theorem dX5_feed_70 : decode cX5_feed 70 = .ok (.getfield 228, 3) := by decide +kernel
theorem dX5_feed_73 : decode cX5_feed 73 = .ok (.ireturn, 1) := by decide +kernel
def m_X5_feed_b0 (a1 : Int32) (x3 : Int32) (u4 : zM) : Option ((Int32 × zM) ⊕ (zM)) :=
  (if x3 < 0 then
some (.inr u4)
else
zbind (m_X3_add ((zushr a1 (8 * x3)) &&& 255) u4) (fun u8 => some (.inl ((x3 + (-1)), u8))))
def m_X5_feed (a1 : Int32) (a2 : Int32) (u : zM) : Option (Int32 × zM) :=
  (if (m_X5_within a2 1 4) = 0 then
zbind2 (m_X5_finding 0 u) (fun x13 u14 => some (x13, u14))
else
(if ((u 20 4) + a2) ≤ 120 then
zbind (zit zF (fun s : Int32 × zM => m_X5_feed_b0 a1 s.1 s.2) ((a2 - 1), u)) (fun u5 =>
some ((u5 20 4), u5))
else
zbind2 (m_X5_finding 1 u) (fun x10 u11 => some (x10, u11))))
set_option maxHeartbeats 4000000 in
set_option maxRecDepth 100000 in
theorem c_X5_feed (a1 : Int32) (a2 : Int32)   (u : zM) (r : Int32) (u' : zM) (h : m_X5_feed a1 a2 u = some (r, u')) : zCt 2 yX5_feed cX5_feed 4 (some .int) (fun E => [.ref (zad E 0), .int a1, .int a2]) u (fun _ => some (.int r)) u' := by
  refine zCt.of (by decide +kernel) (fun E => Nat.le_of_ble_eq_true rfl) (fun X hX hR => ?_)
  have hX : zGood X RX5 cX5_feed 4 2 := hX
  show zG X u 0 [(0, .ref (zad X.1 0)), (1, .int a1), (2, .int a2)] []
  unfold m_X5_feed at h
  refine r_iload_n hX dX5_feed_0 2 rfl rfl ?_
  refine r_iconst (v := 1) hX dX5_feed_1 (by decide) ?_
  refine r_iconst (v := 4) hX dX5_feed_2 (by decide) ?_
  refine r_callS (As := [.int a2, .int 1, .int 4]) (rest := []) (st1 := [.int (m_X5_within a2 1 4)]) hX dX5_feed_3 ls_RX5_80 (c_X5_within a2 1 4  u _ rfl) (by decide) rfl rfl rfl (Nat.le_of_ble_eq_true rfl) rfl ?_
  refine r_if_ne (tgt := 15) hX dX5_feed_6 (by decide) (fun c1 => ?_) (fun c1 => ?_)
  · have h := (if_neg c1).symm.trans h
    refine r_aload_n hX dX5_feed_15 0 rfl rfl ?_
    refine r_getR hX dX5_feed_16 f_RX5_29 zr_0_3 ?_
    refine r_getI hX dX5_feed_19 f_RX5_228 zi_20_4 ?_
    refine r_iload_n hX dX5_feed_22 2 rfl rfl ?_
    refine r_iadd hX dX5_feed_23 ?_
    refine r_bipush (v := 120) hX dX5_feed_24 (by decide) ?_
    refine r_icmp_le (tgt := 35) hX dX5_feed_26 (by decide) (fun c2 => ?_) (fun c2 => ?_)
    · have h := (if_pos c2).symm.trans h
      refine r_iload_n hX dX5_feed_35 2 rfl rfl ?_
      refine r_iconst (v := 1) hX dX5_feed_36 (by decide) ?_
      refine r_isub hX dX5_feed_37 ?_
      refine r_istore_n (y := (a2 - 1)) (L' := [(3, .int (a2 - 1)), (0, .ref (zad X.1 0)), (1, .int a1), (2, .int a2)]) hX dX5_feed_38 rfl (by decide) rfl rfl ?_
      refine r_sub [1, 2, 0] (L' := [(0, .ref (zad X.1 0)), (1, .int a1), (3, .int (a2 - 1))]) rfl ?_
      obtain ⟨u5, h6, h⟩ := zbind_elim h
      have Jh6 : zG X u5 66 [(0, .ref (zad X.1 0))] [] := by
          refine r_aload_n hX dX5_feed_66 0 rfl rfl ?_
          refine r_getR hX dX5_feed_67 f_RX5_29 zr_0_3 ?_
          refine r_getI hX dX5_feed_70 f_RX5_228 zi_20_4 ?_
          obtain ⟨rfl, rfl⟩ := zinj2 (Option.some.inj h)
          exact r_iret hX hR dX5_feed_73
      clear h
      refine zit_walk (P := fun s0 : Int32 × zM => zG X s0.2 39 [(0, .ref (zad X.1 0)), (1, .int a1), (3, .int (s0.1))] []) ?_ zF _ h6
      clear h6
      intro s0 y0 h0b hin0 hout0
      obtain ⟨x3, u4⟩ := s0
      have h0b : m_X5_feed_b0 a1 x3 u4 = some y0 := h0b
      unfold m_X5_feed_b0 at h0b
      show zG X u4 39 [(0, .ref (zad X.1 0)), (1, .int a1), (3, .int x3)] []
      refine r_iload_n hX dX5_feed_39 2 rfl rfl ?_
      refine r_if_lt (tgt := 66) hX dX5_feed_40 (by decide) (fun c7 => ?_) (fun c7 => ?_)
      · have h0b := (if_pos c7).symm.trans h0b
        refine r_sub [0] (L' := [(0, .ref (zad X.1 0))]) rfl ?_
        have h0b := hout0 _ (Option.some.inj h0b).symm
        obtain rfl := h0b
        exact Jh6
      · have h0b := (if_neg c7).symm.trans h0b
        refine r_aload_n hX dX5_feed_43 0 rfl rfl ?_
        refine r_getR hX dX5_feed_44 f_RX5_29 zr_0_3 ?_
        refine r_iload_n hX dX5_feed_47 1 rfl rfl ?_
        refine r_bipush (v := 8) hX dX5_feed_48 (by decide) ?_
        refine r_iload_n hX dX5_feed_50 2 rfl rfl ?_
        refine r_imul hX dX5_feed_51 ?_
        refine r_iushr hX dX5_feed_52 ?_
        refine r_sipush (v := 255) hX dX5_feed_53 (by decide) ?_
        refine r_iand hX dX5_feed_56 ?_
        obtain ⟨u8, e9, h0b⟩ := zbind_elim h0b
        refine r_callV (As := [.int ((zushr a1 (8 * x3)) &&& 255)]) (rest := []) (st1 := []) hX dX5_feed_57 lv_RX5_231 (c_X3_add ((zushr a1 (8 * x3)) &&& 255)  u4 _ e9) (by decide) rfl rfl (zRecv.of (q := 20) (ci := 3) rfl rfl) rfl (Nat.le_of_ble_eq_true rfl) rfl ?_
        refine r_iinc (v := (x3 + (-1))) (L' := [(3, .int (x3 + (-1))), (0, .ref (zad X.1 0)), (1, .int a1)]) hX dX5_feed_60 (by decide) 2 rfl rfl rfl ?_
        refine r_goto (tgt := 39) hX dX5_feed_63 (by decide) ?_
        refine r_sub [1, 2, 0] (L' := [(0, .ref (zad X.1 0)), (1, .int a1), (3, .int (x3 + (-1)))]) rfl ?_
        exact hin0 _ (Option.some.inj h0b).symm
    · have h := (if_neg c2).symm.trans h
      refine r_aload_n hX dX5_feed_29 0 rfl rfl ?_
      refine r_iconst (v := 1) hX dX5_feed_30 (by decide) ?_
      obtain ⟨x10, u11, e12, h⟩ := zbind2_elim h
      refine r_callV (As := [.int 1]) (rest := []) (st1 := [.int x10]) hX dX5_feed_31 lv_RX5_65 (c_X5_finding 1  u _ _ e12) (by decide) rfl rfl (zRecv.of (q := 0) (ci := 5) rfl rfl) rfl (Nat.le_of_ble_eq_true rfl) rfl ?_
      obtain ⟨rfl, rfl⟩ := zinj2 (Option.some.inj h)
      exact r_iret hX hR dX5_feed_34
  · have h := (if_pos c1).symm.trans h
    refine r_aload_n hX dX5_feed_9 0 rfl rfl ?_
    refine r_iconst (v := 0) hX dX5_feed_10 (by decide) ?_
    obtain ⟨x13, u14, e15, h⟩ := zbind2_elim h
    refine r_callV (As := [.int 0]) (rest := []) (st1 := [.int x13]) hX dX5_feed_11 lv_RX5_65 (c_X5_finding 0  u _ _ e15) (by decide) rfl rfl (zRecv.of (q := 0) (ci := 5) rfl rfl) rfl (Nat.le_of_ble_eq_true rfl) rfl ?_
    obtain ⟨rfl, rfl⟩ := zinj2 (Option.some.inj h)
    exact r_iret hX hR dX5_feed_14
theorem dX5_wipe_0 : decode cX5_wipe 0 = .ok (.aload_n 0, 1) := by decide +kernel
theorem dX5_wipe_1 : decode cX5_wipe 1 = .ok (.getfield 29, 3) := by decide +kernel
theorem dX5_wipe_4 : decode cX5_wipe 4 = .ok (.getfield 228, 3) := by decide +kernel
theorem dX5_wipe_7 : decode cX5_wipe 7 = .ok (.istore_n 1, 1) := by decide +kernel
theorem dX5_wipe_8 : decode cX5_wipe 8 = .ok (.aload_n 0, 1) := by decide +kernel
theorem dX5_wipe_9 : decode cX5_wipe 9 = .ok (.getfield 29, 3) := by decide +kernel
theorem dX5_wipe_12 : decode cX5_wipe 12 = .ok (.iconst 0, 1) := by decide +kernel
theorem dX5_wipe_13 : decode cX5_wipe 13 = .ok (.putfield 228, 3) := by decide +kernel
theorem dX5_wipe_16 : decode cX5_wipe 16 = .ok (.iload_n 1, 1) := by decide +kernel
theorem dX5_wipe_17 : decode cX5_wipe 17 = .ok (.ireturn, 1) := by decide +kernel
def m_X5_wipe  (u : zM) : Int32 × zM :=
  zlet (zst u 20 4 0) (fun u1 => ((u 20 4), u1))
set_option maxHeartbeats 4000000 in
set_option maxRecDepth 100000 in
theorem c_X5_wipe    (u : zM) (r : Int32) (u' : zM) (h : m_X5_wipe u = (r, u')) : zCt 1 yX5_wipe cX5_wipe 2 (some .int) (fun E => [.ref (zad E 0)]) u (fun _ => some (.int r)) u' := by
  refine zCt.of (by decide +kernel) (fun E => Nat.le_of_ble_eq_true rfl) (fun X hX hR => ?_)
  have hX : zGood X RX5 cX5_wipe 2 1 := hX
  show zG X u 0 [(0, .ref (zad X.1 0))] []
  unfold m_X5_wipe at h
  refine r_aload_n hX dX5_wipe_0 0 rfl rfl ?_
  refine r_getR hX dX5_wipe_1 f_RX5_29 zr_0_3 ?_
  refine r_getI hX dX5_wipe_4 f_RX5_228 zi_20_4 ?_
  refine r_istore_n (y := (u 20 4)) (L' := [(1, .int (u 20 4)), (0, .ref (zad X.1 0))]) hX dX5_wipe_7 rfl (by decide) rfl rfl ?_
  refine r_aload_n hX dX5_wipe_8 1 rfl rfl ?_
  refine r_getR hX dX5_wipe_9 f_RX5_29 zr_0_3 ?_
  refine r_iconst (v := 0) hX dX5_wipe_12 (by decide) ?_
  obtain ⟨u1, e2, h⟩ := zlet_elim h
  refine r_putI hX dX5_wipe_13 f_RX5_228 p_3_4 zi_20_4 ?_
  rw [e2]
  refine r_iload_n hX dX5_wipe_16 0 rfl rfl ?_
  obtain ⟨rfl, rfl⟩ := zinj2 h
  exact r_iret hX hR dX5_wipe_17
theorem dX3_sortOf_0 : decode cX3_sortOf 0 = .ok (.iload_n 0, 1) := by decide +kernel
theorem dX3_sortOf_1 : decode cX3_sortOf 1 = .ok (.bipush 97, 2) := by decide +kernel
theorem dX3_sortOf_3 : decode cX3_sortOf 3 = .ok (.bipush 122, 2) := by decide +kernel
theorem dX3_sortOf_5 : decode cX3_sortOf 5 = .ok (.invokestatic 42, 3) := by decide +kernel
theorem dX3_sortOf_8 : decode cX3_sortOf 8 = .ok (.ifCond .eq 5, 3) := by decide +kernel
theorem dX3_sortOf_11 : decode cX3_sortOf 11 = .ok (.iconst 1, 1) := by decide +kernel
theorem dX3_sortOf_12 : decode cX3_sortOf 12 = .ok (.ireturn, 1) := by decide +kernel
theorem dX3_sortOf_13 : decode cX3_sortOf 13 = .ok (.iload_n 0, 1) := by decide +kernel
theorem dX3_sortOf_14 : decode cX3_sortOf 14 = .ok (.bipush 48, 2) := by decide +kernel
theorem dX3_sortOf_16 : decode cX3_sortOf 16 = .ok (.bipush 57, 2) := by decide +kernel
theorem dX3_sortOf_18 : decode cX3_sortOf 18 = .ok (.invokestatic 42, 3) := by decide +kernel
theorem dX3_sortOf_21 : decode cX3_sortOf 21 = .ok (.ifCond .eq 5, 3) := by decide +kernel
theorem dX3_sortOf_24 : decode cX3_sortOf 24 = .ok (.iconst 2, 1) := by decide +kernel
theorem dX3_sortOf_25 : decode cX3_sortOf 25 = .ok (.ireturn, 1) := by decide +kernel
theorem dX3_sortOf_26 : decode cX3_sortOf 26 = .ok (.iload_n 0, 1) := by decide +kernel
theorem dX3_sortOf_27 : decode cX3_sortOf 27 = .ok (.bipush 59, 2) := by decide +kernel
theorem dX3_sortOf_29 : decode cX3_sortOf 29 = .ok (.if_icmp .eq 9, 3) := by decide +kernel
theorem dX3_sortOf_32 : decode cX3_sortOf 32 = .ok (.iload_n 0, 1) := by decide +kernel
theorem dX3_sortOf_33 : decode cX3_sortOf 33 = .ok (.bipush 45, 2) := by decide +kernel
theorem dX3_sortOf_35 : decode cX3_sortOf 35 = .ok (.if_icmp .ne 5, 3) := by decide +kernel
theorem dX3_sortOf_38 : decode cX3_sortOf 38 = .ok (.iconst 3, 1) := by decide +kernel
theorem dX3_sortOf_39 : decode cX3_sortOf 39 = .ok (.ireturn, 1) := by decide +kernel
theorem dX3_sortOf_40 : decode cX3_sortOf 40 = .ok (.iload_n 0, 1) := by decide +kernel
theorem dX3_sortOf_41 : decode cX3_sortOf 41 = .ok (.bipush 32, 2) := by decide +kernel
theorem dX3_sortOf_43 : decode cX3_sortOf 43 = .ok (.if_icmp .ne 7, 3) := by decide +kernel
theorem dX3_sortOf_46 : decode cX3_sortOf 46 = .ok (.iconst 4, 1) := by decide +kernel
theorem dX3_sortOf_47 : decode cX3_sortOf 47 = .ok (.goto 4, 3) := by decide +kernel
theorem dX3_sortOf_50 : decode cX3_sortOf 50 = .ok (.iconst 5, 1) := by decide +kernel
theorem dX3_sortOf_51 : decode cX3_sortOf 51 = .ok (.ireturn, 1) := by decide +kernel
def m_X3_sortOf (a1 : Int32) : Int32 :=
  (if (m_X5_within a1 97 122) = 0 then
(if (m_X5_within a1 48 57) = 0 then
(if a1 = 59 then
3
else
(if a1 = 45 then
3
else
(if a1 = 32 then
4
else
5)))
else
2)
else
1)
set_option maxHeartbeats 4000000 in
set_option maxRecDepth 100000 in
theorem c_X3_sortOf (a1 : Int32)   (u : zM) (r : Int32) (h : m_X3_sortOf a1 = r) : zCt 2 yX3_sortOf cX3_sortOf 1 (some .int) (fun E => [.int a1]) u (fun _ => some (.int r)) u := by
  refine zCt.of (by decide +kernel) (fun E => Nat.le_of_ble_eq_true rfl) (fun X hX hR => ?_)
  have hX : zGood X RX3 cX3_sortOf 1 2 := hX
  show zG X u 0 [(0, .int a1)] []
  unfold m_X3_sortOf at h
  refine r_iload_n hX dX3_sortOf_0 0 rfl rfl ?_
  refine r_bipush (v := 97) hX dX3_sortOf_1 (by decide) ?_
  refine r_bipush (v := 122) hX dX3_sortOf_3 (by decide) ?_
  refine r_callS (As := [.int a1, .int 97, .int 122]) (rest := []) (st1 := [.int (m_X5_within a1 97 122)]) hX dX3_sortOf_5 ls_RX3_42 (c_X5_within a1 97 122  u _ rfl) (by decide) rfl rfl rfl (Nat.le_of_ble_eq_true rfl) rfl ?_
  refine r_if_eq (tgt := 13) hX dX3_sortOf_8 (by decide) (fun c1 => ?_) (fun c1 => ?_)
  · have h := (if_pos c1).symm.trans h
    refine r_iload_n hX dX3_sortOf_13 0 rfl rfl ?_
    refine r_bipush (v := 48) hX dX3_sortOf_14 (by decide) ?_
    refine r_bipush (v := 57) hX dX3_sortOf_16 (by decide) ?_
    refine r_callS (As := [.int a1, .int 48, .int 57]) (rest := []) (st1 := [.int (m_X5_within a1 48 57)]) hX dX3_sortOf_18 ls_RX3_42 (c_X5_within a1 48 57  u _ rfl) (by decide) rfl rfl rfl (Nat.le_of_ble_eq_true rfl) rfl ?_
    refine r_if_eq (tgt := 26) hX dX3_sortOf_21 (by decide) (fun c2 => ?_) (fun c2 => ?_)
    · have h := (if_pos c2).symm.trans h
      refine r_iload_n hX dX3_sortOf_26 0 rfl rfl ?_
      refine r_bipush (v := 59) hX dX3_sortOf_27 (by decide) ?_
      refine r_icmp_eq (tgt := 38) hX dX3_sortOf_29 (by decide) (fun c3 => ?_) (fun c3 => ?_)
      · have h := (if_pos c3).symm.trans h
        refine r_iconst (v := 3) hX dX3_sortOf_38 (by decide) ?_
        obtain rfl := h
        exact r_iret hX hR dX3_sortOf_39
      · have h := (if_neg c3).symm.trans h
        refine r_iload_n hX dX3_sortOf_32 0 rfl rfl ?_
        refine r_bipush (v := 45) hX dX3_sortOf_33 (by decide) ?_
        refine r_icmp_ne (tgt := 40) hX dX3_sortOf_35 (by decide) (fun c4 => ?_) (fun c4 => ?_)
        · have h := (if_neg c4).symm.trans h
          refine r_iload_n hX dX3_sortOf_40 0 rfl rfl ?_
          refine r_bipush (v := 32) hX dX3_sortOf_41 (by decide) ?_
          refine r_icmp_ne (tgt := 50) hX dX3_sortOf_43 (by decide) (fun c5 => ?_) (fun c5 => ?_)
          · have h := (if_neg c5).symm.trans h
            refine r_iconst (v := 5) hX dX3_sortOf_50 (by decide) ?_
            obtain rfl := h
            exact r_iret hX hR dX3_sortOf_51
          · have h := (if_pos c5).symm.trans h
            refine r_iconst (v := 4) hX dX3_sortOf_46 (by decide) ?_
            refine r_goto (tgt := 51) hX dX3_sortOf_47 (by decide) ?_
            obtain rfl := h
            exact r_iret hX hR dX3_sortOf_51
        · have h := (if_pos c4).symm.trans h
          refine r_iconst (v := 3) hX dX3_sortOf_38 (by decide) ?_
          obtain rfl := h
          exact r_iret hX hR dX3_sortOf_39
    · have h := (if_neg c2).symm.trans h
      refine r_iconst (v := 2) hX dX3_sortOf_24 (by decide) ?_
      obtain rfl := h
      exact r_iret hX hR dX3_sortOf_25
  · have h := (if_neg c1).symm.trans h
    refine r_iconst (v := 1) hX dX3_sortOf_11 (by decide) ?_
    obtain rfl := h
    exact r_iret hX hR dX3_sortOf_12
theorem dX3_lay_0 : decode cX3_lay 0 = .ok (.aload_n 0, 1) := by decide +kernel
theorem dX3_lay_1 : decode cX3_lay 1 = .ok (.getfield 15, 3) := by decide +kernel
theorem dX3_lay_4 : decode cX3_lay 4 = .ok (.iload_n 1, 1) := by decide +kernel
theorem dX3_lay_5 : decode cX3_lay 5 = .ok (.iload_n 2, 1) := by decide +kernel
theorem dX3_lay_6 : decode cX3_lay 6 = .ok (.iastore, 1) := by decide +kernel
theorem dX3_lay_7 : decode cX3_lay 7 = .ok (.aload_n 0, 1) := by decide +kernel
theorem dX3_lay_8 : decode cX3_lay 8 = .ok (.getfield 18, 3) := by decide +kernel
theorem dX3_lay_11 : decode cX3_lay 11 = .ok (.iload_n 1, 1) := by decide +kernel
theorem dX3_lay_12 : decode cX3_lay 12 = .ok (.iload_n 3, 1) := by decide +kernel
theorem dX3_lay_13 : decode cX3_lay 13 = .ok (.iastore, 1) := by decide +kernel
theorem dX3_lay_14 : decode cX3_lay 14 = .ok (.aload_n 0, 1) := by decide +kernel
theorem dX3_lay_15 : decode cX3_lay 15 = .ok (.getfield 21, 3) := by decide +kernel
theorem dX3_lay_18 : decode cX3_lay 18 = .ok (.iload_n 1, 1) := by decide +kernel
theorem dX3_lay_19 : decode cX3_lay 19 = .ok (.iload 4, 2) := by decide +kernel
theorem dX3_lay_21 : decode cX3_lay 21 = .ok (.iastore, 1) := by decide +kernel
theorem dX3_lay_22 : decode cX3_lay 22 = .ok (.return_, 1) := by decide +kernel
def m_X3_lay (a1 : Int32) (a2 : Int32) (a3 : Int32) (a4 : Int32) (u : zM) : Option (zM) :=
  zbind (zsv u 22 121 a1 a2) (fun u1 => zbind (zsv u1 23 121 a1 a3) (fun u3 => zbind (zsv u3 24 121 a1 a4) (fun u5 => some u5)))
set_option maxHeartbeats 4000000 in
set_option maxRecDepth 100000 in
theorem c_X3_lay (a1 : Int32) (a2 : Int32) (a3 : Int32) (a4 : Int32)   (u : zM) (u' : zM) (h : m_X3_lay a1 a2 a3 a4 u = some (u')) : zCt 1 yX3_lay cX3_lay 5 none (fun E => [.ref (zad E 20), .int a1, .int a2, .int a3, .int a4]) u (fun _ => none) u' := by
  refine zCt.of (by decide +kernel) (fun E => Nat.le_of_ble_eq_true rfl) (fun X hX hR => ?_)
  have hX : zGood X RX3 cX3_lay 5 1 := hX
  show zG X u 0 [(0, .ref (zad X.1 20)), (1, .int a1), (2, .int a2), (3, .int a3), (4, .int a4)] []
  unfold m_X3_lay at h
  refine r_aload_n hX dX3_lay_0 0 rfl rfl ?_
  refine r_getR hX dX3_lay_1 f_RX3_15 zr_20_1 ?_
  refine r_iload_n hX dX3_lay_4 1 rfl rfl ?_
  refine r_iload_n hX dX3_lay_5 2 rfl rfl ?_
  obtain ⟨u1, e2, h⟩ := zbind_elim h
  refine r_iast hX dX3_lay_6 rfl e2 ?_
  refine r_aload_n hX dX3_lay_7 0 rfl rfl ?_
  refine r_getR hX dX3_lay_8 f_RX3_18 zr_20_2 ?_
  refine r_iload_n hX dX3_lay_11 1 rfl rfl ?_
  refine r_iload_n hX dX3_lay_12 3 rfl rfl ?_
  obtain ⟨u3, e4, h⟩ := zbind_elim h
  refine r_iast hX dX3_lay_13 rfl e4 ?_
  refine r_aload_n hX dX3_lay_14 0 rfl rfl ?_
  refine r_getR hX dX3_lay_15 f_RX3_21 zr_20_3 ?_
  refine r_iload_n hX dX3_lay_18 1 rfl rfl ?_
  refine r_iload hX dX3_lay_19 4 rfl ?_
  obtain ⟨u5, e6, h⟩ := zbind_elim h
  refine r_iast hX dX3_lay_21 rfl e6 ?_
  obtain rfl := Option.some.inj h
  exact r_vret hX hR dX3_lay_22
theorem dX3_split_0 : decode cX3_split 0 = .ok (.aload_n 0, 1) := by decide +kernel
theorem dX3_split_1 : decode cX3_split 1 = .ok (.iconst 0, 1) := by decide +kernel
theorem dX3_split_2 : decode cX3_split 2 = .ok (.putfield 28, 3) := by decide +kernel
theorem dX3_split_5 : decode cX3_split 5 = .ok (.aload_n 0, 1) := by decide +kernel
theorem dX3_split_6 : decode cX3_split 6 = .ok (.iconst 0, 1) := by decide +kernel
theorem dX3_split_7 : decode cX3_split 7 = .ok (.putfield 31, 3) := by decide +kernel
theorem dX3_split_10 : decode cX3_split 10 = .ok (.iconst 4, 1) := by decide +kernel
theorem dX3_split_11 : decode cX3_split 11 = .ok (.istore_n 1, 1) := by decide +kernel
theorem dX3_split_12 : decode cX3_split 12 = .ok (.iconst 0, 1) := by decide +kernel
theorem dX3_split_13 : decode cX3_split 13 = .ok (.istore_n 2, 1) := by decide +kernel
theorem dX3_split_14 : decode cX3_split 14 = .ok (.iload_n 2, 1) := by decide +kernel
theorem dX3_split_15 : decode cX3_split 15 = .ok (.aload_n 0, 1) := by decide +kernel
theorem dX3_split_16 : decode cX3_split 16 = .ok (.getfield 24, 3) := by decide +kernel
theorem dX3_split_19 : decode cX3_split 19 = .ok (.if_icmp .ge 100, 3) := by decide +kernel
theorem dX3_split_22 : decode cX3_split 22 = .ok (.aload_n 0, 1) := by decide +kernel
theorem dX3_split_23 : decode cX3_split 23 = .ok (.getfield 9, 3) := by decide +kernel
theorem dX3_split_26 : decode cX3_split 26 = .ok (.iload_n 2, 1) := by decide +kernel
theorem dX3_split_27 : decode cX3_split 27 = .ok (.iaload, 1) := by decide +kernel
theorem dX3_split_28 : decode cX3_split 28 = .ok (.invokestatic 34, 3) := by decide +kernel
theorem dX3_split_31 : decode cX3_split 31 = .ok (.istore_n 3, 1) := by decide +kernel
theorem dX3_split_32 : decode cX3_split 32 = .ok (.iload_n 3, 1) := by decide +kernel
theorem dX3_split_33 : decode cX3_split 33 = .ok (.iload_n 1, 1) := by decide +kernel
theorem dX3_split_34 : decode cX3_split 34 = .ok (.if_icmp .ne 24, 3) := by decide +kernel
theorem dX3_split_37 : decode cX3_split 37 = .ok (.aload_n 0, 1) := by decide +kernel
theorem dX3_split_38 : decode cX3_split 38 = .ok (.getfield 28, 3) := by decide +kernel
theorem dX3_split_41 : decode cX3_split 41 = .ok (.ifCond .le 17, 3) := by decide +kernel
theorem dX3_split_44 : decode cX3_split 44 = .ok (.iload_n 3, 1) := by decide +kernel
theorem dX3_split_45 : decode cX3_split 45 = .ok (.iconst 1, 1) := by decide +kernel
theorem dX3_split_46 : decode cX3_split 46 = .ok (.if_icmp .eq 8, 3) := by decide +kernel
theorem dX3_split_49 : decode cX3_split 49 = .ok (.iload_n 3, 1) := by decide +kernel
theorem dX3_split_50 : decode cX3_split 50 = .ok (.iconst 2, 1) := by decide +kernel
theorem dX3_split_51 : decode cX3_split 51 = .ok (.if_icmp .ne 7, 3) := by decide +kernel
theorem dX3_split_54 : decode cX3_split 54 = .ok (.iconst 1, 1) := by decide +kernel
theorem dX3_split_55 : decode cX3_split 55 = .ok (.goto 4, 3) := by decide +kernel
theorem dX3_split_58 : decode cX3_split 58 = .ok (.iconst 0, 1) := by decide +kernel
theorem dX3_split_59 : decode cX3_split 59 = .ok (.istore 4, 2) := by decide +kernel
theorem dX3_split_61 : decode cX3_split 61 = .ok (.iload 4, 2) := by decide +kernel
theorem dX3_split_63 : decode cX3_split 63 = .ok (.ifCond .eq 20, 3) := by decide +kernel
theorem dX3_split_66 : decode cX3_split 66 = .ok (.aload_n 0, 1) := by decide +kernel
theorem dX3_split_67 : decode cX3_split 67 = .ok (.getfield 18, 3) := by decide +kernel
theorem dX3_split_70 : decode cX3_split 70 = .ok (.aload_n 0, 1) := by decide +kernel
theorem dX3_split_71 : decode cX3_split 71 = .ok (.getfield 28, 3) := by decide +kernel
theorem dX3_split_74 : decode cX3_split 74 = .ok (.iconst 1, 1) := by decide +kernel
theorem dX3_split_75 : decode cX3_split 75 = .ok (.isub, 1) := by decide +kernel
theorem dX3_split_76 : decode cX3_split 76 = .ok (.iload_n 2, 1) := by decide +kernel
theorem dX3_split_77 : decode cX3_split 77 = .ok (.iconst 1, 1) := by decide +kernel
theorem dX3_split_78 : decode cX3_split 78 = .ok (.iadd, 1) := by decide +kernel
theorem dX3_split_79 : decode cX3_split 79 = .ok (.iastore, 1) := by decide +kernel
theorem dX3_split_80 : decode cX3_split 80 = .ok (.goto 31, 3) := by decide +kernel
theorem dX3_split_83 : decode cX3_split 83 = .ok (.iload_n 3, 1) := by decide +kernel
theorem dX3_split_84 : decode cX3_split 84 = .ok (.iconst 4, 1) := by decide +kernel
theorem dX3_split_85 : decode cX3_split 85 = .ok (.if_icmp .eq 26, 3) := by decide +kernel
theorem dX3_split_88 : decode cX3_split 88 = .ok (.aload_n 0, 1) := by decide +kernel
theorem dX3_split_89 : decode cX3_split 89 = .ok (.aload_n 0, 1) := by decide +kernel
theorem dX3_split_90 : decode cX3_split 90 = .ok (.getfield 28, 3) := by decide +kernel
theorem dX3_split_93 : decode cX3_split 93 = .ok (.iload_n 2, 1) := by decide +kernel
theorem dX3_split_94 : decode cX3_split 94 = .ok (.iload_n 2, 1) := by decide +kernel
theorem dX3_split_95 : decode cX3_split 95 = .ok (.iconst 1, 1) := by decide +kernel
theorem dX3_split_96 : decode cX3_split 96 = .ok (.iadd, 1) := by decide +kernel
theorem dX3_split_97 : decode cX3_split 97 = .ok (.iload_n 3, 1) := by decide +kernel
theorem dX3_split_98 : decode cX3_split 98 = .ok (.invokevirtual 38, 3) := by decide +kernel
theorem dX3_split_101 : decode cX3_split 101 = .ok (.aload_n 0, 1) := by decide +kernel
theorem dX3_split_102 : decode cX3_split 102 = .ok (.dup, 1) := by decide +kernel
theorem dX3_split_103 : decode cX3_split 103 = .ok (.getfield 28, 3) := by decide +kernel
theorem dX3_split_106 : decode cX3_split 106 = .ok (.iconst 1, 1) := by decide +kernel
theorem dX3_split_107 : decode cX3_split 107 = .ok (.iadd, 1) := by decide +kernel
theorem dX3_split_108 : decode cX3_split 108 = .ok (.putfield 28, 3) := by decide +kernel
theorem dX3_split_111 : decode cX3_split 111 = .ok (.iload_n 3, 1) := by decide +kernel
theorem dX3_split_112 : decode cX3_split 112 = .ok (.istore_n 1, 1) := by decide +kernel
theorem dX3_split_113 : decode cX3_split 113 = .ok (.iinc 2 1, 3) := by decide +kernel
theorem dX3_split_116 : decode cX3_split 116 = .ok (.goto (-102), 3) := by decide +kernel
theorem dX3_split_119 : decode cX3_split 119 = .ok (.aload_n 0, 1) := by decide +kernel
theorem dX3_split_120 : decode cX3_split 120 = .ok (.aload_n 0, 1) := by decide +kernel
theorem dX3_split_121 : decode cX3_split 121 = .ok (.getfield 28, 3) := by decide +kernel
theorem dX3_split_124 : decode cX3_split 124 = .ok (.aload_n 0, 1) := by decide +kernel
theorem dX3_split_125 : decode cX3_split 125 = .ok (.getfield 24, 3) := by decide +kernel
theorem dX3_split_128 : decode cX3_split 128 = .ok (.aload_n 0, 1) := by decide +kernel
theorem dX3_split_129 : decode cX3_split 129 = .ok (.getfield 24, 3) := by decide +kernel
theorem dX3_split_132 : decode cX3_split 132 = .ok (.iconst 0, 1) := by decide +kernel
theorem dX3_split_133 : decode cX3_split 133 = .ok (.invokevirtual 38, 3) := by decide +kernel
theorem dX3_split_136 : decode cX3_split 136 = .ok (.return_, 1) := by decide +kernel
def m_X3_split_b0  (x5 : Int32) (x6 : Int32) (u7 : zM) : Option ((Int32 × Int32 × zM) ⊕ (zM)) :=
  (if (u7 20 4) ≤ x6 then
some (.inr u7)
else
zbind (zld u7 21 120 x6) (fun x11 => zlet ((if (m_X3_sortOf x11) = x5 then
(if (u7 20 5) ≤ 0 then
0
else
(if (m_X3_sortOf x11) = 1 then
1
else
(if (m_X3_sortOf x11) = 2 then
1
else
0)))
else
0) : Int32) (fun x13 =>
(if x13 = 0 then
(if (m_X3_sortOf x11) = 4 then
some (.inl ((m_X3_sortOf x11), (x6 + 1), u7))
else
zbind (m_X3_lay (u7 20 5) x6 (x6 + 1) (m_X3_sortOf x11) u7) (fun u21 => zlet (zst u21 20 5 ((u21 20 5) + 1)) (fun u23 => some (.inl ((m_X3_sortOf x11), (x6 + 1), u23)))))
else
zbind (zsv u7 23 121 ((u7 20 5) - 1) (x6 + 1)) (fun u25 => some (.inl ((m_X3_sortOf x11), (x6 + 1), u25)))))))
def m_X3_split  (u : zM) : Option (zM) :=
  zlet (zst u 20 5 0) (fun u1 => zlet (zst u1 20 6 0) (fun u3 => zbind (zit zF (fun s : Int32 × Int32 × zM => m_X3_split_b0 s.1 s.2.1 s.2.2) (4, 0, u3)) (fun u8 =>
zbind (m_X3_lay (u8 20 5) (u8 20 4) (u8 20 4) 0 u8) (fun u27 => some u27))))
set_option maxHeartbeats 4000000 in
set_option maxRecDepth 100000 in
theorem c_X3_split    (u : zM) (u' : zM) (h : m_X3_split u = some (u')) : zCt 3 yX3_split cX3_split 5 none (fun E => [.ref (zad E 20)]) u (fun _ => none) u' := by
  refine zCt.of (by decide +kernel) (fun E => Nat.le_of_ble_eq_true rfl) (fun X hX hR => ?_)
  have hX : zGood X RX3 cX3_split 5 3 := hX
  show zG X u 0 [(0, .ref (zad X.1 20))] []
  unfold m_X3_split at h
  refine r_aload_n hX dX3_split_0 0 rfl rfl ?_
  refine r_iconst (v := 0) hX dX3_split_1 (by decide) ?_
  obtain ⟨u1, e2, h⟩ := zlet_elim h
  refine r_putI hX dX3_split_2 f_RX3_28 p_3_5 zi_20_5 ?_
  rw [e2]
  refine r_aload_n hX dX3_split_5 0 rfl rfl ?_
  refine r_iconst (v := 0) hX dX3_split_6 (by decide) ?_
  obtain ⟨u3, e4, h⟩ := zlet_elim h
  refine r_putI hX dX3_split_7 f_RX3_31 p_3_6 zi_20_6 ?_
  rw [e4]
  refine r_iconst (v := 4) hX dX3_split_10 (by decide) ?_
  refine r_istore_n (y := 4) (L' := [(1, .int 4), (0, .ref (zad X.1 20))]) hX dX3_split_11 rfl (by decide) rfl rfl ?_
  refine r_iconst (v := 0) hX dX3_split_12 (by decide) ?_
  refine r_istore_n (y := 0) (L' := [(2, .int 0), (1, .int 4), (0, .ref (zad X.1 20))]) hX dX3_split_13 rfl (by decide) rfl rfl ?_
  refine r_sub [2, 1, 0] (L' := [(0, .ref (zad X.1 20)), (1, .int 4), (2, .int 0)]) rfl ?_
  obtain ⟨u8, h9, h⟩ := zbind_elim h
  have Jh9 : zG X u8 119 [(0, .ref (zad X.1 20))] [] := by
      refine r_aload_n hX dX3_split_119 0 rfl rfl ?_
      refine r_aload_n hX dX3_split_120 0 rfl rfl ?_
      refine r_getI hX dX3_split_121 f_RX3_28 zi_20_5 ?_
      refine r_aload_n hX dX3_split_124 0 rfl rfl ?_
      refine r_getI hX dX3_split_125 f_RX3_24 zi_20_4 ?_
      refine r_aload_n hX dX3_split_128 0 rfl rfl ?_
      refine r_getI hX dX3_split_129 f_RX3_24 zi_20_4 ?_
      refine r_iconst (v := 0) hX dX3_split_132 (by decide) ?_
      obtain ⟨u27, e28, h⟩ := zbind_elim h
      refine r_callV (As := [.int (u8 20 5), .int (u8 20 4), .int (u8 20 4), .int 0]) (rest := []) (st1 := []) hX dX3_split_133 lv_RX3_38 (c_X3_lay (u8 20 5) (u8 20 4) (u8 20 4) 0  u8 _ e28) (by decide) rfl rfl (zRecv.of (q := 20) (ci := 3) rfl rfl) rfl (Nat.le_of_ble_eq_true rfl) rfl ?_
      obtain rfl := Option.some.inj h
      exact r_vret hX hR dX3_split_136
  clear h
  refine zit_walk (P := fun s0 : Int32 × Int32 × zM => zG X s0.2.2 14 [(0, .ref (zad X.1 20)), (1, .int (s0.1)), (2, .int (s0.2.1))] []) ?_ zF _ h9
  clear h9
  intro s0 y0 h0b hin0 hout0
  obtain ⟨x5, x6, u7⟩ := s0
  have h0b : m_X3_split_b0 x5 x6 u7 = some y0 := h0b
  unfold m_X3_split_b0 at h0b
  show zG X u7 14 [(0, .ref (zad X.1 20)), (1, .int x5), (2, .int x6)] []
  refine r_iload_n hX dX3_split_14 2 rfl rfl ?_
  refine r_aload_n hX dX3_split_15 0 rfl rfl ?_
  refine r_getI hX dX3_split_16 f_RX3_24 zi_20_4 ?_
  refine r_icmp_ge (tgt := 119) hX dX3_split_19 (by decide) (fun c10 => ?_) (fun c10 => ?_)
  · have h0b := (if_pos c10).symm.trans h0b
    refine r_sub [0] (L' := [(0, .ref (zad X.1 20))]) rfl ?_
    have h0b := hout0 _ (Option.some.inj h0b).symm
    obtain rfl := h0b
    exact Jh9
  · have h0b := (if_neg c10).symm.trans h0b
    refine r_aload_n hX dX3_split_22 0 rfl rfl ?_
    refine r_getR hX dX3_split_23 f_RX3_9 zr_20_0 ?_
    refine r_iload_n hX dX3_split_26 2 rfl rfl ?_
    obtain ⟨x11, e12, h0b⟩ := zbind_elim h0b
    refine r_iald hX dX3_split_27 rfl e12 ?_
    refine r_callS (As := [.int x11]) (rest := []) (st1 := [.int (m_X3_sortOf x11)]) hX dX3_split_28 ls_RX3_34 (c_X3_sortOf x11  u7 _ rfl) (by decide) rfl rfl rfl (Nat.le_of_ble_eq_true rfl) rfl ?_
    refine r_istore_n (y := (m_X3_sortOf x11)) (L' := [(3, .int (m_X3_sortOf x11)), (0, .ref (zad X.1 20)), (1, .int x5), (2, .int x6)]) hX dX3_split_31 rfl (by decide) rfl rfl ?_
    refine r_iload_n hX dX3_split_32 0 rfl rfl ?_
    refine r_iload_n hX dX3_split_33 2 rfl rfl ?_
    obtain ⟨x13, h14, h0b⟩ := zlet_elim h0b
    have Jh14 : zG X u7 59 [(0, .ref (zad X.1 20)), (2, .int x6), (3, .int (m_X3_sortOf x11))] [.int x13] := by
        refine r_istore (y := x13) (L' := [(4, .int x13), (0, .ref (zad X.1 20)), (2, .int x6), (3, .int (m_X3_sortOf x11))]) hX dX3_split_59 (by decide) rfl rfl ?_
        refine r_iload hX dX3_split_61 0 rfl ?_
        refine r_if_eq (tgt := 83) hX dX3_split_63 (by decide) (fun c19 => ?_) (fun c19 => ?_)
        · have h0b := (if_pos c19).symm.trans h0b
          refine r_iload_n hX dX3_split_83 3 rfl rfl ?_
          refine r_iconst (v := 4) hX dX3_split_84 (by decide) ?_
          refine r_icmp_eq (tgt := 111) hX dX3_split_85 (by decide) (fun c20 => ?_) (fun c20 => ?_)
          · have h0b := (if_pos c20).symm.trans h0b
            refine r_iload_n hX dX3_split_111 3 rfl rfl ?_
            refine r_istore_n (y := (m_X3_sortOf x11)) (L' := [(1, .int (m_X3_sortOf x11)), (4, .int x13), (0, .ref (zad X.1 20)), (2, .int x6), (3, .int (m_X3_sortOf x11))]) hX dX3_split_112 rfl (by decide) rfl rfl ?_
            refine r_iinc (v := (x6 + 1)) (L' := [(2, .int (x6 + 1)), (1, .int (m_X3_sortOf x11)), (4, .int x13), (0, .ref (zad X.1 20)), (3, .int (m_X3_sortOf x11))]) hX dX3_split_113 (by decide) 3 rfl rfl rfl ?_
            refine r_goto (tgt := 14) hX dX3_split_116 (by decide) ?_
            refine r_sub [3, 1, 0] (L' := [(0, .ref (zad X.1 20)), (1, .int (m_X3_sortOf x11)), (2, .int (x6 + 1))]) rfl ?_
            exact hin0 _ (Option.some.inj h0b).symm
          · have h0b := (if_neg c20).symm.trans h0b
            refine r_aload_n hX dX3_split_88 1 rfl rfl ?_
            refine r_aload_n hX dX3_split_89 1 rfl rfl ?_
            refine r_getI hX dX3_split_90 f_RX3_28 zi_20_5 ?_
            refine r_iload_n hX dX3_split_93 2 rfl rfl ?_
            refine r_iload_n hX dX3_split_94 2 rfl rfl ?_
            refine r_iconst (v := 1) hX dX3_split_95 (by decide) ?_
            refine r_iadd hX dX3_split_96 ?_
            refine r_iload_n hX dX3_split_97 3 rfl rfl ?_
            obtain ⟨u21, e22, h0b⟩ := zbind_elim h0b
            refine r_callV (As := [.int (u7 20 5), .int x6, .int (x6 + 1), .int (m_X3_sortOf x11)]) (rest := []) (st1 := []) hX dX3_split_98 lv_RX3_38 (c_X3_lay (u7 20 5) x6 (x6 + 1) (m_X3_sortOf x11)  u7 _ e22) (by decide) rfl rfl (zRecv.of (q := 20) (ci := 3) rfl rfl) rfl (Nat.le_of_ble_eq_true rfl) rfl ?_
            refine r_aload_n hX dX3_split_101 1 rfl rfl ?_
            refine r_dup hX dX3_split_102 rfl ?_
            refine r_getI hX dX3_split_103 f_RX3_28 zi_20_5 ?_
            refine r_iconst (v := 1) hX dX3_split_106 (by decide) ?_
            refine r_iadd hX dX3_split_107 ?_
            obtain ⟨u23, e24, h0b⟩ := zlet_elim h0b
            refine r_putI hX dX3_split_108 f_RX3_28 p_3_5 zi_20_5 ?_
            rw [e24]
            refine r_iload_n hX dX3_split_111 3 rfl rfl ?_
            refine r_istore_n (y := (m_X3_sortOf x11)) (L' := [(1, .int (m_X3_sortOf x11)), (4, .int x13), (0, .ref (zad X.1 20)), (2, .int x6), (3, .int (m_X3_sortOf x11))]) hX dX3_split_112 rfl (by decide) rfl rfl ?_
            refine r_iinc (v := (x6 + 1)) (L' := [(2, .int (x6 + 1)), (1, .int (m_X3_sortOf x11)), (4, .int x13), (0, .ref (zad X.1 20)), (3, .int (m_X3_sortOf x11))]) hX dX3_split_113 (by decide) 3 rfl rfl rfl ?_
            refine r_goto (tgt := 14) hX dX3_split_116 (by decide) ?_
            refine r_sub [3, 1, 0] (L' := [(0, .ref (zad X.1 20)), (1, .int (m_X3_sortOf x11)), (2, .int (x6 + 1))]) rfl ?_
            exact hin0 _ (Option.some.inj h0b).symm
        · have h0b := (if_neg c19).symm.trans h0b
          refine r_aload_n hX dX3_split_66 1 rfl rfl ?_
          refine r_getR hX dX3_split_67 f_RX3_18 zr_20_2 ?_
          refine r_aload_n hX dX3_split_70 1 rfl rfl ?_
          refine r_getI hX dX3_split_71 f_RX3_28 zi_20_5 ?_
          refine r_iconst (v := 1) hX dX3_split_74 (by decide) ?_
          refine r_isub hX dX3_split_75 ?_
          refine r_iload_n hX dX3_split_76 2 rfl rfl ?_
          refine r_iconst (v := 1) hX dX3_split_77 (by decide) ?_
          refine r_iadd hX dX3_split_78 ?_
          obtain ⟨u25, e26, h0b⟩ := zbind_elim h0b
          refine r_iast hX dX3_split_79 rfl e26 ?_
          refine r_goto (tgt := 111) hX dX3_split_80 (by decide) ?_
          refine r_iload_n hX dX3_split_111 3 rfl rfl ?_
          refine r_istore_n (y := (m_X3_sortOf x11)) (L' := [(1, .int (m_X3_sortOf x11)), (4, .int x13), (0, .ref (zad X.1 20)), (2, .int x6), (3, .int (m_X3_sortOf x11))]) hX dX3_split_112 rfl (by decide) rfl rfl ?_
          refine r_iinc (v := (x6 + 1)) (L' := [(2, .int (x6 + 1)), (1, .int (m_X3_sortOf x11)), (4, .int x13), (0, .ref (zad X.1 20)), (3, .int (m_X3_sortOf x11))]) hX dX3_split_113 (by decide) 3 rfl rfl rfl ?_
          refine r_goto (tgt := 14) hX dX3_split_116 (by decide) ?_
          refine r_sub [3, 1, 0] (L' := [(0, .ref (zad X.1 20)), (1, .int (m_X3_sortOf x11)), (2, .int (x6 + 1))]) rfl ?_
          exact hin0 _ (Option.some.inj h0b).symm
    clear h0b
    refine r_icmp_ne (tgt := 58) hX dX3_split_34 (by decide) (fun c15 => ?_) (fun c15 => ?_)
    · have h14 := (if_neg c15).symm.trans h14
      refine r_iconst (v := 0) hX dX3_split_58 (by decide) ?_
      refine r_sub [1, 3, 0] (L' := [(0, .ref (zad X.1 20)), (2, .int x6), (3, .int (m_X3_sortOf x11))]) rfl ?_
      obtain rfl := h14
      exact Jh14
    · have h14 := (if_pos c15).symm.trans h14
      refine r_aload_n hX dX3_split_37 1 rfl rfl ?_
      refine r_getI hX dX3_split_38 f_RX3_28 zi_20_5 ?_
      refine r_if_le (tgt := 58) hX dX3_split_41 (by decide) (fun c16 => ?_) (fun c16 => ?_)
      · have h14 := (if_pos c16).symm.trans h14
        refine r_iconst (v := 0) hX dX3_split_58 (by decide) ?_
        refine r_sub [1, 3, 0] (L' := [(0, .ref (zad X.1 20)), (2, .int x6), (3, .int (m_X3_sortOf x11))]) rfl ?_
        obtain rfl := h14
        exact Jh14
      · have h14 := (if_neg c16).symm.trans h14
        refine r_iload_n hX dX3_split_44 0 rfl rfl ?_
        refine r_iconst (v := 1) hX dX3_split_45 (by decide) ?_
        refine r_icmp_eq (tgt := 54) hX dX3_split_46 (by decide) (fun c17 => ?_) (fun c17 => ?_)
        · have h14 := (if_pos c17).symm.trans h14
          refine r_iconst (v := 1) hX dX3_split_54 (by decide) ?_
          refine r_goto (tgt := 59) hX dX3_split_55 (by decide) ?_
          refine r_sub [1, 3, 0] (L' := [(0, .ref (zad X.1 20)), (2, .int x6), (3, .int (m_X3_sortOf x11))]) rfl ?_
          obtain rfl := h14
          exact Jh14
        · have h14 := (if_neg c17).symm.trans h14
          refine r_iload_n hX dX3_split_49 0 rfl rfl ?_
          refine r_iconst (v := 2) hX dX3_split_50 (by decide) ?_
          refine r_icmp_ne (tgt := 58) hX dX3_split_51 (by decide) (fun c18 => ?_) (fun c18 => ?_)
          · have h14 := (if_neg c18).symm.trans h14
            refine r_iconst (v := 0) hX dX3_split_58 (by decide) ?_
            refine r_sub [1, 3, 0] (L' := [(0, .ref (zad X.1 20)), (2, .int x6), (3, .int (m_X3_sortOf x11))]) rfl ?_
            obtain rfl := h14
            exact Jh14
          · have h14 := (if_pos c18).symm.trans h14
            refine r_iconst (v := 1) hX dX3_split_54 (by decide) ?_
            refine r_goto (tgt := 59) hX dX3_split_55 (by decide) ?_
            refine r_sub [1, 3, 0] (L' := [(0, .ref (zad X.1 20)), (2, .int x6), (3, .int (m_X3_sortOf x11))]) rfl ?_
            obtain rfl := h14
            exact Jh14
theorem dX0_nameOf_0 : decode cX0_nameOf 0 = .ok (.iload_n 0, 1) := by decide +kernel
theorem dX0_nameOf_1 : decode cX0_nameOf 1 = .ok (.tableswitch 57 1 6 #[39, 42, 45, 48, 51, 54], 39) := by decide +kernel
theorem dX0_nameOf_40 : decode cX0_nameOf 40 = .ok (.ldc 85, 2) := by decide +kernel
theorem dX0_nameOf_42 : decode cX0_nameOf 42 = .ok (.areturn, 1) := by decide +kernel
theorem dX0_nameOf_43 : decode cX0_nameOf 43 = .ok (.ldc 87, 2) := by decide +kernel
theorem dX0_nameOf_45 : decode cX0_nameOf 45 = .ok (.areturn, 1) := by decide +kernel
theorem dX0_nameOf_46 : decode cX0_nameOf 46 = .ok (.ldc 89, 2) := by decide +kernel
theorem dX0_nameOf_48 : decode cX0_nameOf 48 = .ok (.areturn, 1) := by decide +kernel
theorem dX0_nameOf_49 : decode cX0_nameOf 49 = .ok (.ldc 91, 2) := by decide +kernel
theorem dX0_nameOf_51 : decode cX0_nameOf 51 = .ok (.areturn, 1) := by decide +kernel
theorem dX0_nameOf_52 : decode cX0_nameOf 52 = .ok (.ldc 93, 2) := by decide +kernel
theorem dX0_nameOf_54 : decode cX0_nameOf 54 = .ok (.areturn, 1) := by decide +kernel
theorem dX0_nameOf_55 : decode cX0_nameOf 55 = .ok (.ldc 95, 2) := by decide +kernel
theorem dX0_nameOf_57 : decode cX0_nameOf 57 = .ok (.areturn, 1) := by decide +kernel
theorem dX0_nameOf_58 : decode cX0_nameOf 58 = .ok (.ldc 97, 2) := by decide +kernel
theorem dX0_nameOf_60 : decode cX0_nameOf 60 = .ok (.areturn, 1) := by decide +kernel
def m_X0_nameOf (a1 : Int32) : Nat :=
  (if a1 = 1 then
1
else
if a1 = 2 then
2
else
if a1 = 3 then
3
else
if a1 = 4 then
4
else
if a1 = 5 then
5
else
if a1 = 6 then
6
else
0)
set_option maxHeartbeats 4000000 in
set_option maxRecDepth 100000 in
theorem c_X0_nameOf (a1 : Int32)   (u : zM) (r : Nat) (h : m_X0_nameOf a1 = r) : zCt 1 yX0_nameOf cX0_nameOf 1 (some (.object "java/lang/String")) (fun E => [.int a1]) u (fun E => some (.ref (zaK E r))) u := by
  refine zCt.of (by decide +kernel) (fun E => Nat.le_of_ble_eq_true rfl) (fun X hX hR => ?_)
  have hX : zGood X RX0 cX0_nameOf 1 1 := hX
  show zG X u 0 [(0, .int a1)] []
  unfold m_X0_nameOf at h
  refine r_iload_n hX dX0_nameOf_0 0 rfl rfl ?_
  by_cases c1 : a1 = 1
  · have h := (if_pos c1).symm.trans h
    refine r_tsIn (v := 1) (off := 39) (tgt := 40) hX dX0_nameOf_1 c1 (by decide) (by decide) (by decide +kernel) (by decide) ?_
    refine r_ldcS (tx := "stretched") (q := 1) hX dX0_nameOf_40 (List.mem_of_getElem? (i := 0) rfl) ?_
    obtain rfl := h
    exact r_aret (Or.inl ⟨_, rfl⟩) hX hR dX0_nameOf_42
  have h := (if_neg c1).symm.trans h
  by_cases c2 : a1 = 2
  · have h := (if_pos c2).symm.trans h
    refine r_tsIn (v := 2) (off := 42) (tgt := 43) hX dX0_nameOf_1 c2 (by decide) (by decide) (by decide +kernel) (by decide) ?_
    refine r_ldcS (tx := "briber") (q := 2) hX dX0_nameOf_43 (List.mem_of_getElem? (i := 1) rfl) ?_
    obtain rfl := h
    exact r_aret (Or.inl ⟨_, rfl⟩) hX hR dX0_nameOf_45
  have h := (if_neg c2).symm.trans h
  by_cases c3 : a1 = 3
  · have h := (if_pos c3).symm.trans h
    refine r_tsIn (v := 3) (off := 45) (tgt := 46) hX dX0_nameOf_1 c3 (by decide) (by decide) (by decide +kernel) (by decide) ?_
    refine r_ldcS (tx := "twin") (q := 3) hX dX0_nameOf_46 (List.mem_of_getElem? (i := 2) rfl) ?_
    obtain rfl := h
    exact r_aret (Or.inl ⟨_, rfl⟩) hX hR dX0_nameOf_48
  have h := (if_neg c3).symm.trans h
  by_cases c4 : a1 = 4
  · have h := (if_pos c4).symm.trans h
    refine r_tsIn (v := 4) (off := 48) (tgt := 49) hX dX0_nameOf_1 c4 (by decide) (by decide) (by decide +kernel) (by decide) ?_
    refine r_ldcS (tx := "giant") (q := 4) hX dX0_nameOf_49 (List.mem_of_getElem? (i := 3) rfl) ?_
    obtain rfl := h
    exact r_aret (Or.inl ⟨_, rfl⟩) hX hR dX0_nameOf_51
  have h := (if_neg c4).symm.trans h
  by_cases c5 : a1 = 5
  · have h := (if_pos c5).symm.trans h
    refine r_tsIn (v := 5) (off := 51) (tgt := 52) hX dX0_nameOf_1 c5 (by decide) (by decide) (by decide +kernel) (by decide) ?_
    refine r_ldcS (tx := "thin") (q := 5) hX dX0_nameOf_52 (List.mem_of_getElem? (i := 4) rfl) ?_
    obtain rfl := h
    exact r_aret (Or.inl ⟨_, rfl⟩) hX hR dX0_nameOf_54
  have h := (if_neg c5).symm.trans h
  by_cases c6 : a1 = 6
  · have h := (if_pos c6).symm.trans h
    refine r_tsIn (v := 6) (off := 54) (tgt := 55) hX dX0_nameOf_1 c6 (by decide) (by decide) (by decide +kernel) (by decide) ?_
    refine r_ldcS (tx := "sly") (q := 6) hX dX0_nameOf_55 (List.mem_of_getElem? (i := 5) rfl) ?_
    obtain rfl := h
    exact r_aret (Or.inl ⟨_, rfl⟩) hX hR dX0_nameOf_57
  have h := (if_neg c6).symm.trans h
  refine r_tsOut (tgt := 58) hX dX0_nameOf_1 (by first | exact zts_out a1 1 (by decide) 6 (by decide) (fun k hk => match k, hk with | 0, _ => c1 | 1, _ => c2 | 2, _ => c3 | 3, _ => c4 | 4, _ => c5 | 5, _ => c6 | k + 6, hk => absurd hk (by omega))) (by decide) ?_
  refine r_ldcS (tx := "body") (q := 0) hX dX0_nameOf_58 (List.mem_of_getElem? (i := 6) rfl) ?_
  obtain rfl := h
  exact r_aret (Or.inl ⟨_, rfl⟩) hX hR dX0_nameOf_60
theorem b_X0_nameOf (a1 : Int32) (r : Nat) (h : m_X0_nameOf a1 = r) : r < 15 := by
  unfold m_X0_nameOf at h
  repeat (first | (subst h; decide) | (cases h; decide) | split at h)
theorem dJ0_coder_7d493_0 : decode cJ0_coder_7d493 0 = .ok (.getstatic 38, 3) := by decide +kernel
theorem dJ0_coder_7d493_3 : decode cJ0_coder_7d493 3 = .ok (.ifCond .eq 10, 3) := by decide +kernel
theorem dJ0_coder_7d493_6 : decode cJ0_coder_7d493 6 = .ok (.aload_n 0, 1) := by decide +kernel
theorem dJ0_coder_7d493_7 : decode cJ0_coder_7d493 7 = .ok (.getfield 15, 3) := by decide +kernel
theorem dJ0_coder_7d493_10 : decode cJ0_coder_7d493 10 = .ok (.goto 4, 3) := by decide +kernel
theorem dJ0_coder_7d493_13 : decode cJ0_coder_7d493 13 = .ok (.iconst 1, 1) := by decide +kernel
theorem dJ0_coder_7d493_14 : decode cJ0_coder_7d493 14 = .ok (.ireturn, 1) := by decide +kernel
def m_J0_coder_7d493 (j0 : Nat) (u : zM) : Int32 :=
  (if (1 : Int32) = 0 then
(zi2b 1)
else
(zi2b 0))
set_option maxHeartbeats 4000000 in
set_option maxRecDepth 100000 in
theorem c_J0_coder_7d493 (j0 : Nat) (hj0 : j0 < 15)  (u : zM) (r : Int32) (h : m_J0_coder_7d493 j0 u = r) : zCt 1 yJ0_coder_7d493 cJ0_coder_7d493 1 (some .byte) (fun E => [.ref (zaK E j0)]) u (fun _ => some (.int r)) u := by
  refine zCt.of (by decide +kernel) (fun E => Nat.le_of_ble_eq_true rfl) (fun X hX hR => ?_)
  have hX : zGood X RJ0 cJ0_coder_7d493 1 1 := hX
  show zG X u 0 [(0, .ref (zaK X.1 j0))] []
  unfold m_J0_coder_7d493 at h
  refine r_gsC hX dJ0_coder_7d493_0 (zT_in 741 (by decide +kernel) rfl) ?_
  refine r_if_eq (tgt := 13) hX dJ0_coder_7d493_3 (by decide) (fun c1 => ?_) (fun c1 => ?_)
  · have h := (if_pos c1).symm.trans h
    refine r_iconst (v := 1) hX dJ0_coder_7d493_13 (by decide) ?_
    obtain rfl := h
    exact r_bret hX hR dJ0_coder_7d493_14
  · have h := (if_neg c1).symm.trans h
    refine r_aload_n hX dJ0_coder_7d493_6 0 rfl rfl ?_
    refine r_strC hX dJ0_coder_7d493_7 (zT_in 1423 (by decide +kernel) rfl) hj0 ?_
    refine r_goto (tgt := 14) hX dJ0_coder_7d493_10 (by decide) ?_
    obtain rfl := h
    exact r_bret hX hR dJ0_coder_7d493_14
theorem dJ0_length_8abf5_0 : decode cJ0_length_8abf5 0 = .ok (.aload_n 0, 1) := by decide +kernel
theorem dJ0_length_8abf5_1 : decode cJ0_length_8abf5 1 = .ok (.getfield 9, 3) := by decide +kernel
theorem dJ0_length_8abf5_4 : decode cJ0_length_8abf5 4 = .ok (.arraylength, 1) := by decide +kernel
theorem dJ0_length_8abf5_5 : decode cJ0_length_8abf5 5 = .ok (.aload_n 0, 1) := by decide +kernel
theorem dJ0_length_8abf5_6 : decode cJ0_length_8abf5 6 = .ok (.invokevirtual 335, 3) := by decide +kernel
theorem dJ0_length_8abf5_9 : decode cJ0_length_8abf5 9 = .ok (.ishr, 1) := by decide +kernel
theorem dJ0_length_8abf5_10 : decode cJ0_length_8abf5 10 = .ok (.ireturn, 1) := by decide +kernel
def m_J0_length_8abf5 (j0 : Nat) (u : zM) : Int32 :=
  (zshr (Int32.ofNat (zLen.getD j0 0)) (m_J0_coder_7d493 j0 u))
set_option maxHeartbeats 4000000 in
set_option maxRecDepth 100000 in
theorem c_J0_length_8abf5 (j0 : Nat) (hj0 : j0 < 15)  (u : zM) (r : Int32) (h : m_J0_length_8abf5 j0 u = r) : zCt 2 yJ0_length_8abf5 cJ0_length_8abf5 1 (some .int) (fun E => [.ref (zaK E j0)]) u (fun _ => some (.int r)) u := by
  refine zCt.of (by decide +kernel) (fun E => Nat.le_of_ble_eq_true rfl) (fun X hX hR => ?_)
  have hX : zGood X RJ0 cJ0_length_8abf5 1 2 := hX
  show zG X u 0 [(0, .ref (zaK X.1 j0))] []
  unfold m_J0_length_8abf5 at h
  refine r_aload_n hX dJ0_length_8abf5_0 0 rfl rfl ?_
  refine r_strV hX dJ0_length_8abf5_1 (zT_in 1422 (by decide +kernel) rfl) hj0 ?_
  refine r_blen hX dJ0_length_8abf5_4 hj0 ?_
  refine r_aload_n hX dJ0_length_8abf5_5 0 rfl rfl ?_
  refine r_callV (As := []) (rest := [.int (Int32.ofNat (zLen.getD j0 0))]) (st1 := [.int (m_J0_coder_7d493 j0 u), .int (Int32.ofNat (zLen.getD j0 0))]) hX dJ0_length_8abf5_6 lv_RJ0_335 (c_J0_coder_7d493 j0 hj0  u _ rfl) (by decide) rfl rfl (Or.inr ⟨j0, hj0, rfl, rfl⟩) rfl (Nat.le_of_ble_eq_true rfl) rfl ?_
  refine r_ishr hX dJ0_length_8abf5_9 ?_
  obtain rfl := h
  exact r_iret hX hR dJ0_length_8abf5_10
theorem dJ0_isLatin1_aae02_0 : decode cJ0_isLatin1_aae02 0 = .ok (.getstatic 38, 3) := by decide +kernel
theorem dJ0_isLatin1_aae02_3 : decode cJ0_isLatin1_aae02 3 = .ok (.ifCond .eq 14, 3) := by decide +kernel
theorem dJ0_isLatin1_aae02_6 : decode cJ0_isLatin1_aae02 6 = .ok (.aload_n 0, 1) := by decide +kernel
theorem dJ0_isLatin1_aae02_7 : decode cJ0_isLatin1_aae02 7 = .ok (.getfield 15, 3) := by decide +kernel
theorem dJ0_isLatin1_aae02_10 : decode cJ0_isLatin1_aae02 10 = .ok (.ifCond .ne 7, 3) := by decide +kernel
theorem dJ0_isLatin1_aae02_13 : decode cJ0_isLatin1_aae02 13 = .ok (.iconst 1, 1) := by decide +kernel
theorem dJ0_isLatin1_aae02_14 : decode cJ0_isLatin1_aae02 14 = .ok (.goto 4, 3) := by decide +kernel
theorem dJ0_isLatin1_aae02_17 : decode cJ0_isLatin1_aae02 17 = .ok (.iconst 0, 1) := by decide +kernel
theorem dJ0_isLatin1_aae02_18 : decode cJ0_isLatin1_aae02 18 = .ok (.ireturn, 1) := by decide +kernel
def m_J0_isLatin1_aae02 (j0 : Nat) (u : zM) : Int32 :=
  (if (1 : Int32) = 0 then
0
else
(if (0 : Int32) = 0 then
1
else
0))
set_option maxHeartbeats 4000000 in
set_option maxRecDepth 100000 in
theorem c_J0_isLatin1_aae02 (j0 : Nat) (hj0 : j0 < 15)  (u : zM) (r : Int32) (h : m_J0_isLatin1_aae02 j0 u = r) : zCt 1 yJ0_isLatin1_aae02 cJ0_isLatin1_aae02 1 (some .boolean) (fun E => [.ref (zaK E j0)]) u (fun _ => some (.int r)) u := by
  refine zCt.of (by decide +kernel) (fun E => Nat.le_of_ble_eq_true rfl) (fun X hX hR => ?_)
  have hX : zGood X RJ0 cJ0_isLatin1_aae02 1 1 := hX
  show zG X u 0 [(0, .ref (zaK X.1 j0))] []
  unfold m_J0_isLatin1_aae02 at h
  refine r_gsC hX dJ0_isLatin1_aae02_0 (zT_in 741 (by decide +kernel) rfl) ?_
  refine r_if_eq (tgt := 17) hX dJ0_isLatin1_aae02_3 (by decide) (fun c1 => ?_) (fun c1 => ?_)
  · have h := (if_pos c1).symm.trans h
    refine r_iconst (v := 0) hX dJ0_isLatin1_aae02_17 (by decide) ?_
    obtain rfl := h
    exact r_zret0 hX hR dJ0_isLatin1_aae02_18
  · have h := (if_neg c1).symm.trans h
    refine r_aload_n hX dJ0_isLatin1_aae02_6 0 rfl rfl ?_
    refine r_strC hX dJ0_isLatin1_aae02_7 (zT_in 1423 (by decide +kernel) rfl) hj0 ?_
    refine r_if_ne (tgt := 17) hX dJ0_isLatin1_aae02_10 (by decide) (fun c2 => ?_) (fun c2 => ?_)
    · have h := (if_neg c2).symm.trans h
      refine r_iconst (v := 0) hX dJ0_isLatin1_aae02_17 (by decide) ?_
      obtain rfl := h
      exact r_zret0 hX hR dJ0_isLatin1_aae02_18
    · have h := (if_pos c2).symm.trans h
      refine r_iconst (v := 1) hX dJ0_isLatin1_aae02_13 (by decide) ?_
      refine r_goto (tgt := 18) hX dJ0_isLatin1_aae02_14 (by decide) ?_
      obtain rfl := h
      exact r_zret1 hX hR dJ0_isLatin1_aae02_18
theorem dJ3_checkIndex_8e157_0 : decode cJ3_checkIndex_8e157 0 = .ok (.iload_n 0, 1) := by decide +kernel
theorem dJ3_checkIndex_8e157_1 : decode cJ3_checkIndex_8e157 1 = .ok (.ifCond .lt 8, 3) := by decide +kernel
theorem dJ3_checkIndex_8e157_4 : decode cJ3_checkIndex_8e157 4 = .ok (.iload_n 0, 1) := by decide +kernel
theorem dJ3_checkIndex_8e157_5 : decode cJ3_checkIndex_8e157 5 = .ok (.iload_n 1, 1) := by decide +kernel
theorem dJ3_checkIndex_8e157_6 : decode cJ3_checkIndex_8e157 6 = .ok (.if_icmp .lt 10, 3) := by decide +kernel
theorem dJ3_checkIndex_8e157_9 : decode cJ3_checkIndex_8e157 9 = .ok (.aload_n 2, 1) := by decide +kernel
theorem dJ3_checkIndex_8e157_10 : decode cJ3_checkIndex_8e157 10 = .ok (.iload_n 0, 1) := by decide +kernel
theorem dJ3_checkIndex_8e157_11 : decode cJ3_checkIndex_8e157 11 = .ok (.iload_n 1, 1) := by decide +kernel
theorem dJ3_checkIndex_8e157_12 : decode cJ3_checkIndex_8e157 12 = .ok (.invokestatic 95, 3) := by decide +kernel
theorem dJ3_checkIndex_8e157_15 : decode cJ3_checkIndex_8e157 15 = .ok (.athrow, 1) := by decide +kernel
theorem dJ3_checkIndex_8e157_16 : decode cJ3_checkIndex_8e157 16 = .ok (.iload_n 0, 1) := by decide +kernel
theorem dJ3_checkIndex_8e157_17 : decode cJ3_checkIndex_8e157 17 = .ok (.ireturn, 1) := by decide +kernel
def m_J3_checkIndex_8e157 (a1 : Int32) (a2 : Int32) : Option (Int32) :=
  (if a1 < 0 then
none
else
(if a1 < a2 then
some a1
else
none))
set_option maxHeartbeats 4000000 in
set_option maxRecDepth 100000 in
theorem c_J3_checkIndex_8e157 (a1 : Int32) (a2 : Int32)  (q0 : Value) (hqq0 : q0.category = 1) (u : zM) (r : Int32) (h : m_J3_checkIndex_8e157 a1 a2 = some r) : zCt 1 yJ3_checkIndex_8e157 cJ3_checkIndex_8e157 3 (some .int) (fun E => [.int a1, .int a2, q0]) u (fun _ => some (.int r)) u := by
  refine zCt.of (by decide +kernel) (fun E => zq_len _ _ _ hqq0) (fun X hX hR => ?_)
  have hX : zGood X RJ3 cJ3_checkIndex_8e157 3 1 := hX
  show zG X u 0 [(0, .int a1), (1, .int a2), (2, q0)] []
  unfold m_J3_checkIndex_8e157 at h
  refine r_iload_n hX dJ3_checkIndex_8e157_0 0 rfl rfl ?_
  refine r_if_lt (tgt := 9) hX dJ3_checkIndex_8e157_1 (by decide) (fun c1 => ?_) (fun c1 => ?_)
  · have h := (if_pos c1).symm.trans h
    cases h
  · have h := (if_neg c1).symm.trans h
    refine r_iload_n hX dJ3_checkIndex_8e157_4 0 rfl rfl ?_
    refine r_iload_n hX dJ3_checkIndex_8e157_5 1 rfl rfl ?_
    refine r_icmp_lt (tgt := 16) hX dJ3_checkIndex_8e157_6 (by decide) (fun c2 => ?_) (fun c2 => ?_)
    · have h := (if_pos c2).symm.trans h
      refine r_iload_n hX dJ3_checkIndex_8e157_16 0 rfl rfl ?_
      obtain rfl := Option.some.inj h
      exact r_iret hX hR dJ3_checkIndex_8e157_17
    · have h := (if_neg c2).symm.trans h
      cases h
theorem dJ0_checkIndex_df160_0 : decode cJ0_checkIndex_df160 0 = .ok (.iload_n 0, 1) := by decide +kernel
theorem dJ0_checkIndex_df160_1 : decode cJ0_checkIndex_df160 1 = .ok (.iload_n 1, 1) := by decide +kernel
theorem dJ0_checkIndex_df160_2 : decode cJ0_checkIndex_df160 2 = .ok (.getstatic 1053, 3) := by decide +kernel
theorem dJ0_checkIndex_df160_5 : decode cJ0_checkIndex_df160 5 = .ok (.invokestatic 1059, 3) := by decide +kernel
theorem dJ0_checkIndex_df160_8 : decode cJ0_checkIndex_df160 8 = .ok (.pop, 1) := by decide +kernel
theorem dJ0_checkIndex_df160_9 : decode cJ0_checkIndex_df160 9 = .ok (.return_, 1) := by decide +kernel
def m_J0_checkIndex_df160 (a1 : Int32) (a2 : Int32) : Option (Unit) :=
  zbind (m_J3_checkIndex_8e157 a1 a2) (fun x2 => some ())
set_option maxHeartbeats 4000000 in
set_option maxRecDepth 100000 in
theorem c_J0_checkIndex_df160 (a1 : Int32) (a2 : Int32)   (u : zM)  (h : m_J0_checkIndex_df160 a1 a2 = some ()) : zCt 2 yJ0_checkIndex_df160 cJ0_checkIndex_df160 2 none (fun E => [.int a1, .int a2]) u (fun _ => none) u := by
  refine zCt.of (by decide +kernel) (fun E => Nat.le_of_ble_eq_true rfl) (fun X hX hR => ?_)
  have hX : zGood X RJ0 cJ0_checkIndex_df160 2 2 := hX
  show zG X u 0 [(0, .int a1), (1, .int a2)] []
  unfold m_J0_checkIndex_df160 at h
  refine r_iload_n hX dJ0_checkIndex_df160_0 0 rfl rfl ?_
  refine r_iload_n hX dJ0_checkIndex_df160_1 1 rfl rfl ?_
  refine r_gsQ hX dJ0_checkIndex_df160_2 (zT_in 757 (by decide +kernel) rfl) (fun q1 hqq1 => ?_)
  obtain ⟨x2, e3, h⟩ := zbind_elim h
  refine r_callS (As := [.int a1, .int a2, q1]) (rest := []) (st1 := [.int x2]) hX dJ0_checkIndex_df160_5 ls_RJ0_1059 (c_J3_checkIndex_8e157 a1 a2 q1 hqq1 u _ e3) (by decide) rfl rfl rfl (Nat.le_of_ble_eq_true rfl) rfl ?_
  refine r_pop hX dJ0_checkIndex_df160_8 rfl ?_
  exact r_vret hX hR dJ0_checkIndex_df160_9
theorem dJ1_charAt_3b067_0 : decode cJ1_charAt_3b067 0 = .ok (.iload_n 1, 1) := by decide +kernel
theorem dJ1_charAt_3b067_1 : decode cJ1_charAt_3b067 1 = .ok (.aload_n 0, 1) := by decide +kernel
theorem dJ1_charAt_3b067_2 : decode cJ1_charAt_3b067 2 = .ok (.arraylength, 1) := by decide +kernel
theorem dJ1_charAt_3b067_3 : decode cJ1_charAt_3b067 3 = .ok (.invokestatic 9, 3) := by decide +kernel
theorem dJ1_charAt_3b067_6 : decode cJ1_charAt_3b067 6 = .ok (.aload_n 0, 1) := by decide +kernel
theorem dJ1_charAt_3b067_7 : decode cJ1_charAt_3b067 7 = .ok (.iload_n 1, 1) := by decide +kernel
theorem dJ1_charAt_3b067_8 : decode cJ1_charAt_3b067 8 = .ok (.baload, 1) := by decide +kernel
theorem dJ1_charAt_3b067_9 : decode cJ1_charAt_3b067 9 = .ok (.sipush 255, 3) := by decide +kernel
theorem dJ1_charAt_3b067_12 : decode cJ1_charAt_3b067 12 = .ok (.iand, 1) := by decide +kernel
theorem dJ1_charAt_3b067_13 : decode cJ1_charAt_3b067 13 = .ok (.i2c, 1) := by decide +kernel
theorem dJ1_charAt_3b067_14 : decode cJ1_charAt_3b067 14 = .ok (.ireturn, 1) := by decide +kernel
def m_J1_charAt_3b067 (j0 : Nat) (a1 : Int32) : Option (Int32) :=
  zbind0 (m_J0_checkIndex_df160 a1 (Int32.ofNat (zLen.getD j0 0))) (fun _ => zbind (zbyte j0 a1) (fun x2 => some (zc16 (zi2c (x2 &&& 255)))))
set_option maxHeartbeats 4000000 in
set_option maxRecDepth 100000 in
theorem c_J1_charAt_3b067 (j0 : Nat) (a1 : Int32) (hj0 : j0 < 15)  (u : zM) (r : Int32) (h : m_J1_charAt_3b067 j0 a1 = some r) : zCt 3 yJ1_charAt_3b067 cJ1_charAt_3b067 2 (some .char) (fun E => [.ref (E.2.2.2.2.1 j0), .int a1]) u (fun _ => some (.int r)) u := by
  refine zCt.of (by decide +kernel) (fun E => Nat.le_of_ble_eq_true rfl) (fun X hX hR => ?_)
  have hX : zGood X RJ1 cJ1_charAt_3b067 2 3 := hX
  show zG X u 0 [(0, .ref (X.1.2.2.2.2.1 j0)), (1, .int a1)] []
  unfold m_J1_charAt_3b067 at h
  refine r_iload_n hX dJ1_charAt_3b067_0 1 rfl rfl ?_
  refine r_aload_n hX dJ1_charAt_3b067_1 0 rfl rfl ?_
  refine r_blen hX dJ1_charAt_3b067_2 hj0 ?_
  obtain ⟨e1, h⟩ := zbind0_elim h
  refine r_callS (As := [.int a1, .int (Int32.ofNat (zLen.getD j0 0))]) (rest := []) (st1 := []) hX dJ1_charAt_3b067_3 ls_RJ1_9 (c_J0_checkIndex_df160 a1 (Int32.ofNat (zLen.getD j0 0))  u  e1) (by decide) rfl rfl rfl (Nat.le_of_ble_eq_true rfl) rfl ?_
  refine r_aload_n hX dJ1_charAt_3b067_6 0 rfl rfl ?_
  refine r_iload_n hX dJ1_charAt_3b067_7 1 rfl rfl ?_
  obtain ⟨x2, e3, h⟩ := zbind_elim h
  refine r_bald hX dJ1_charAt_3b067_8 hj0 e3 ?_
  refine r_sipush (v := 255) hX dJ1_charAt_3b067_9 (by decide) ?_
  refine r_iand hX dJ1_charAt_3b067_12 ?_
  refine r_i2c hX dJ1_charAt_3b067_13 ?_
  obtain rfl := Option.some.inj h
  exact r_cret hX hR dJ1_charAt_3b067_14
