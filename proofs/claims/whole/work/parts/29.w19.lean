/-! MODELS AND CONTRACTS, by program (wip/whole/gen_all.py): X6_divisor, X6_mean, X6_cut, X6_distance, X6_costOf, X6_cost, X6_fitOf, X6_fits, X6_costs, X6_fines -/
theorem dX6_divisor_0 : decode cX6_divisor 0 = .ok (.iload_n 1, 1) := by decide +kernel
theorem dX6_divisor_1 : decode cX6_divisor 1 = .ok (.ifCond .ne 7, 3) := by decide +kernel
theorem dX6_divisor_4 : decode cX6_divisor 4 = .ok (.iload_n 0, 1) := by decide +kernel
theorem dX6_divisor_5 : decode cX6_divisor 5 = .ok (.goto 10, 3) := by decide +kernel
theorem dX6_divisor_8 : decode cX6_divisor 8 = .ok (.iload_n 1, 1) := by decide +kernel
theorem dX6_divisor_9 : decode cX6_divisor 9 = .ok (.iload_n 0, 1) := by decide +kernel
theorem dX6_divisor_10 : decode cX6_divisor 10 = .ok (.iload_n 1, 1) := by decide +kernel
theorem dX6_divisor_11 : decode cX6_divisor 11 = .ok (.irem, 1) := by decide +kernel
theorem dX6_divisor_12 : decode cX6_divisor 12 = .ok (.invokestatic 143, 3) := by decide +kernel
theorem dX6_divisor_15 : decode cX6_divisor 15 = .ok (.ireturn, 1) := by decide +kernel
def m_X6_divisor : Nat → Int32 → Int32 → Option Int32
  | 0, _, _ => none
  | n + 1, a1, a2 => if a2 = 0 then some a1 else m_X6_divisor n a2 (zrem a1 a2)
set_option maxHeartbeats 4000000 in
set_option maxRecDepth 100000 in
theorem c_X6_divisor : ∀ (n : Nat) (a1 a2 : Int32) (u : zM) (r : Int32) (h : m_X6_divisor n a1 a2 = some r), zCt n yX6_divisor cX6_divisor 2 (some .int) (fun E => [.int a1, .int a2]) u (fun _ => some (.int r)) u := by
  intro n
  induction n with
  | zero => intro a1 a2 u r h; cases h
  | succ n ih =>
    intro a1 a2 u r h
    refine zCt.of (by decide +kernel) (fun E => Nat.le_of_ble_eq_true rfl) (fun X hX hR => ?_)
    have hX : zGood X RX6 cX6_divisor 2 (n + 1) := hX
    show zG X u 0 [(0, .int a1), (1, .int a2)] []
    rw [m_X6_divisor] at h
    refine r_iload_n hX dX6_divisor_0 1 rfl rfl ?_
    refine r_if_ne (tgt := 8) hX dX6_divisor_1 (by decide) (fun c1 => ?_) (fun c1 => ?_)
    · have h := (if_neg c1).symm.trans h
      refine r_iload_n hX dX6_divisor_8 1 rfl rfl ?_
      refine r_iload_n hX dX6_divisor_9 0 rfl rfl ?_
      refine r_iload_n hX dX6_divisor_10 1 rfl rfl ?_
      refine r_irem hX dX6_divisor_11 c1 ?_
      refine r_callS (As := [.int a2, .int (zrem a1 a2)]) (rest := []) (st1 := [.int r]) hX dX6_divisor_12 ls_RX6_143 (ih a2 (zrem a1 a2) u r h) ⟨Nat.le_refl _, by decide⟩ rfl rfl rfl (Nat.le_of_ble_eq_true rfl) rfl ?_
      exact r_iret hX hR dX6_divisor_15
    · have h := (if_pos c1).symm.trans h
      refine r_iload_n hX dX6_divisor_4 0 rfl rfl ?_
      refine r_goto (tgt := 15) hX dX6_divisor_5 (by decide) ?_
      cases h
      exact r_iret hX hR dX6_divisor_15
theorem dX6_mean_0 : decode cX6_mean 0 = .ok (.iload_n 1, 1) := by decide +kernel
theorem dX6_mean_1 : decode cX6_mean 1 = .ok (.invokestatic 136, 3) := by decide +kernel
theorem dX6_mean_4 : decode cX6_mean 4 = .ok (.ifCond .eq 12, 3) := by decide +kernel
theorem dX6_mean_7 : decode cX6_mean 7 = .ok (.iload_n 2, 1) := by decide +kernel
theorem dX6_mean_8 : decode cX6_mean 8 = .ok (.iconst 0, 1) := by decide +kernel
theorem dX6_mean_9 : decode cX6_mean 9 = .ok (.iconst 1, 1) := by decide +kernel
theorem dX6_mean_10 : decode cX6_mean 10 = .ok (.invokestatic 79, 3) := by decide +kernel
theorem dX6_mean_13 : decode cX6_mean 13 = .ok (.ifCond .ne 10, 3) := by decide +kernel
theorem dX6_mean_16 : decode cX6_mean 16 = .ok (.aload_n 0, 1) := by decide +kernel
theorem dX6_mean_17 : decode cX6_mean 17 = .ok (.ldc 78, 2) := by decide +kernel
theorem dX6_mean_19 : decode cX6_mean 19 = .ok (.invokevirtual 83, 3) := by decide +kernel
theorem dX6_mean_22 : decode cX6_mean 22 = .ok (.ireturn, 1) := by decide +kernel
theorem dX6_mean_23 : decode cX6_mean 23 = .ok (.aload_n 0, 1) := by decide +kernel
theorem dX6_mean_24 : decode cX6_mean 24 = .ok (.invokevirtual 139, 3) := by decide +kernel
theorem dX6_mean_27 : decode cX6_mean 27 = .ok (.istore_n 3, 1) := by decide +kernel
theorem dX6_mean_28 : decode cX6_mean 28 = .ok (.iload_n 3, 1) := by decide +kernel
theorem dX6_mean_29 : decode cX6_mean 29 = .ok (.ifCond .ne 10, 3) := by decide +kernel
theorem dX6_mean_32 : decode cX6_mean 32 = .ok (.aload_n 0, 1) := by decide +kernel
theorem dX6_mean_33 : decode cX6_mean 33 = .ok (.ldc 142, 2) := by decide +kernel
theorem dX6_mean_35 : decode cX6_mean 35 = .ok (.invokevirtual 83, 3) := by decide +kernel
theorem dX6_mean_38 : decode cX6_mean 38 = .ok (.ireturn, 1) := by decide +kernel
theorem dX6_mean_39 : decode cX6_mean 39 = .ok (.aload_n 0, 1) := by decide +kernel
theorem dX6_mean_40 : decode cX6_mean 40 = .ok (.iload_n 3, 1) := by decide +kernel
theorem dX6_mean_41 : decode cX6_mean 41 = .ok (.iload_n 1, 1) := by decide +kernel
theorem dX6_mean_42 : decode cX6_mean 42 = .ok (.invokevirtual 125, 3) := by decide +kernel
theorem dX6_mean_45 : decode cX6_mean 45 = .ok (.aload_n 0, 1) := by decide +kernel
theorem dX6_mean_46 : decode cX6_mean 46 = .ok (.invokevirtual 129, 3) := by decide +kernel
theorem dX6_mean_49 : decode cX6_mean 49 = .ok (.aload_n 0, 1) := by decide +kernel
theorem dX6_mean_50 : decode cX6_mean 50 = .ok (.getfield 118, 3) := by decide +kernel
theorem dX6_mean_53 : decode cX6_mean 53 = .ok (.invokestatic 143, 3) := by decide +kernel
theorem dX6_mean_56 : decode cX6_mean 56 = .ok (.istore 4, 2) := by decide +kernel
theorem dX6_mean_58 : decode cX6_mean 58 = .ok (.iload_n 2, 1) := by decide +kernel
theorem dX6_mean_59 : decode cX6_mean 59 = .ok (.ifCond .ne 10, 3) := by decide +kernel
theorem dX6_mean_62 : decode cX6_mean 62 = .ok (.aload_n 0, 1) := by decide +kernel
theorem dX6_mean_63 : decode cX6_mean 63 = .ok (.invokevirtual 129, 3) := by decide +kernel
theorem dX6_mean_66 : decode cX6_mean 66 = .ok (.goto 7, 3) := by decide +kernel
theorem dX6_mean_69 : decode cX6_mean 69 = .ok (.aload_n 0, 1) := by decide +kernel
theorem dX6_mean_70 : decode cX6_mean 70 = .ok (.getfield 118, 3) := by decide +kernel
theorem dX6_mean_73 : decode cX6_mean 73 = .ok (.iload 4, 2) := by decide +kernel
theorem dX6_mean_75 : decode cX6_mean 75 = .ok (.idiv, 1) := by decide +kernel
theorem dX6_mean_76 : decode cX6_mean 76 = .ok (.ireturn, 1) := by decide +kernel
def m_X6_mean (a1 : Int32) (a2 : Int32) (u : zM) : Option (Int32 × zM) :=
  (if (m_X6_isMeasure a1) = 0 then
zbind2 (m_X6_finding (-1000001) u) (fun x2 u3 => some (x2, u3))
else
(if (m_X6_within a2 0 1) = 0 then
zbind2 (m_X6_finding (-1000001) u) (fun x23 u24 => some (x23, u24))
else
zbind (m_X6_hereSet u) (fun x6 => (if x6 = 0 then
zbind2 (m_X6_finding (-1000004) u) (fun x20 u21 => some (x20, u21))
else
zbind (m_X6_findRow x6 a1 u) (fun u9 => zbind (m_X6_rowSum u9) (fun x11 => zbind (m_X6_divisor 60 x11 (u9 39 7)) (fun x13 => (if a2 = 0 then
zbind (m_X6_rowSum u9) (fun x17 => if x13 = 0 then none else (some ((x17 / x13), u9)))
else
if x13 = 0 then none else (some (((u9 39 7) / x13), u9))))))))))
set_option maxHeartbeats 4000000 in
set_option maxRecDepth 100000 in
theorem c_X6_mean (a1 : Int32) (a2 : Int32)   (u : zM) (r : Int32) (u' : zM) (h : m_X6_mean a1 a2 u = some (r, u')) : zCt 61 yX6_mean cX6_mean 5 (some .int) (fun E => [.ref (zad E 39), .int a1, .int a2]) u (fun _ => some (.int r)) u' := by
  refine zCt.of (by decide +kernel) (fun E => Nat.le_of_ble_eq_true rfl) (fun X hX hR => ?_)
  have hX : zGood X RX6 cX6_mean 5 61 := hX
  show zG X u 0 [(0, .ref (zad X.1 39)), (1, .int a1), (2, .int a2)] []
  unfold m_X6_mean at h
  refine r_iload_n hX dX6_mean_0 1 rfl rfl ?_
  refine r_callS (As := [.int a1]) (rest := []) (st1 := [.int (m_X6_isMeasure a1)]) hX dX6_mean_1 ls_RX6_136 (c_X6_isMeasure a1  u _ rfl) (by decide) rfl rfl rfl (Nat.le_of_ble_eq_true rfl) rfl ?_
  refine r_if_eq (tgt := 16) hX dX6_mean_4 (by decide) (fun c1 => ?_) (fun c1 => ?_)
  · have h := (if_pos c1).symm.trans h
    refine r_aload_n hX dX6_mean_16 0 rfl rfl ?_
    refine r_ldc (v := (-1000001)) hX dX6_mean_17 (zT_in 1041 (by decide +kernel) rfl) ?_
    obtain ⟨x2, u3, e4, h⟩ := zbind2_elim h
    refine r_callV (As := [.int (-1000001)]) (rest := []) (st1 := [.int x2]) hX dX6_mean_19 lv_RX6_83 (c_X6_finding (-1000001)  u _ _ e4) (by decide) rfl rfl (zRecv.of (q := 39) (ci := 6) rfl rfl) rfl (Nat.le_of_ble_eq_true rfl) rfl ?_
    obtain ⟨rfl, rfl⟩ := zinj2 (Option.some.inj h)
    exact r_iret hX hR dX6_mean_22
  · have h := (if_neg c1).symm.trans h
    refine r_iload_n hX dX6_mean_7 2 rfl rfl ?_
    refine r_iconst (v := 0) hX dX6_mean_8 (by decide) ?_
    refine r_iconst (v := 1) hX dX6_mean_9 (by decide) ?_
    refine r_callS (As := [.int a2, .int 0, .int 1]) (rest := []) (st1 := [.int (m_X6_within a2 0 1)]) hX dX6_mean_10 ls_RX6_79 (c_X6_within a2 0 1  u _ rfl) (by decide) rfl rfl rfl (Nat.le_of_ble_eq_true rfl) rfl ?_
    refine r_if_ne (tgt := 23) hX dX6_mean_13 (by decide) (fun c5 => ?_) (fun c5 => ?_)
    · have h := (if_neg c5).symm.trans h
      refine r_aload_n hX dX6_mean_23 0 rfl rfl ?_
      obtain ⟨x6, e7, h⟩ := zbind_elim h
      refine r_callV (As := []) (rest := []) (st1 := [.int x6]) hX dX6_mean_24 lv_RX6_139 (c_X6_hereSet   u _ e7) (by decide) rfl rfl (zRecv.of (q := 39) (ci := 6) rfl rfl) rfl (Nat.le_of_ble_eq_true rfl) rfl ?_
      refine r_istore_n (y := x6) (L' := [(3, .int x6), (0, .ref (zad X.1 39)), (1, .int a1), (2, .int a2)]) hX dX6_mean_27 rfl (by decide) rfl rfl ?_
      refine r_iload_n hX dX6_mean_28 0 rfl rfl ?_
      refine r_if_ne (tgt := 39) hX dX6_mean_29 (by decide) (fun c8 => ?_) (fun c8 => ?_)
      · have h := (if_neg c8).symm.trans h
        refine r_aload_n hX dX6_mean_39 1 rfl rfl ?_
        refine r_iload_n hX dX6_mean_40 0 rfl rfl ?_
        refine r_iload_n hX dX6_mean_41 2 rfl rfl ?_
        obtain ⟨u9, e10, h⟩ := zbind_elim h
        refine r_callV (As := [.int x6, .int a1]) (rest := []) (st1 := []) hX dX6_mean_42 lv_RX6_125 (c_X6_findRow x6 a1  u _ e10) (by decide) rfl rfl (zRecv.of (q := 39) (ci := 6) rfl rfl) rfl (Nat.le_of_ble_eq_true rfl) rfl ?_
        refine r_aload_n hX dX6_mean_45 1 rfl rfl ?_
        obtain ⟨x11, e12, h⟩ := zbind_elim h
        refine r_callV (As := []) (rest := []) (st1 := [.int x11]) hX dX6_mean_46 lv_RX6_129 (c_X6_rowSum   u9 _ e12) (by decide) rfl rfl (zRecv.of (q := 39) (ci := 6) rfl rfl) rfl (Nat.le_of_ble_eq_true rfl) rfl ?_
        refine r_aload_n hX dX6_mean_49 1 rfl rfl ?_
        refine r_getI hX dX6_mean_50 f_RX6_118 zi_39_7 ?_
        obtain ⟨x13, e14, h⟩ := zbind_elim h
        refine r_callS (As := [.int x11, .int (u9 39 7)]) (rest := []) (st1 := [.int x13]) hX dX6_mean_53 ls_RX6_143 (c_X6_divisor 60 x11 (u9 39 7)  u9 _ e14) (by decide) rfl rfl rfl (Nat.le_of_ble_eq_true rfl) rfl ?_
        refine r_istore (y := x13) (L' := [(4, .int x13), (3, .int x6), (0, .ref (zad X.1 39)), (1, .int a1), (2, .int a2)]) hX dX6_mean_56 (by decide) rfl rfl ?_
        refine r_iload_n hX dX6_mean_58 4 rfl rfl ?_
        refine r_if_ne (tgt := 69) hX dX6_mean_59 (by decide) (fun c15 => ?_) (fun c15 => ?_)
        · have h := (if_neg c15).symm.trans h
          refine r_aload_n hX dX6_mean_69 2 rfl rfl ?_
          refine r_getI hX dX6_mean_70 f_RX6_118 zi_39_7 ?_
          refine r_iload hX dX6_mean_73 0 rfl ?_
          by_cases c16 : x13 = 0
          · rw [if_pos c16] at h; cases h
          have h := (if_neg c16).symm.trans h
          refine r_idiv hX dX6_mean_75 c16 ?_
          obtain ⟨rfl, rfl⟩ := zinj2 (Option.some.inj h)
          exact r_iret hX hR dX6_mean_76
        · have h := (if_pos c15).symm.trans h
          refine r_aload_n hX dX6_mean_62 2 rfl rfl ?_
          obtain ⟨x17, e18, h⟩ := zbind_elim h
          refine r_callV (As := []) (rest := []) (st1 := [.int x17]) hX dX6_mean_63 lv_RX6_129 (c_X6_rowSum   u9 _ e18) (by decide) rfl rfl (zRecv.of (q := 39) (ci := 6) rfl rfl) rfl (Nat.le_of_ble_eq_true rfl) rfl ?_
          refine r_goto (tgt := 73) hX dX6_mean_66 (by decide) ?_
          refine r_iload hX dX6_mean_73 0 rfl ?_
          by_cases c19 : x13 = 0
          · rw [if_pos c19] at h; cases h
          have h := (if_neg c19).symm.trans h
          refine r_idiv hX dX6_mean_75 c19 ?_
          obtain ⟨rfl, rfl⟩ := zinj2 (Option.some.inj h)
          exact r_iret hX hR dX6_mean_76
      · have h := (if_pos c8).symm.trans h
        refine r_aload_n hX dX6_mean_32 1 rfl rfl ?_
        refine r_ldc (v := (-1000004)) hX dX6_mean_33 (zT_in 1114 (by decide +kernel) rfl) ?_
        obtain ⟨x20, u21, e22, h⟩ := zbind2_elim h
        refine r_callV (As := [.int (-1000004)]) (rest := []) (st1 := [.int x20]) hX dX6_mean_35 lv_RX6_83 (c_X6_finding (-1000004)  u _ _ e22) (by decide) rfl rfl (zRecv.of (q := 39) (ci := 6) rfl rfl) rfl (Nat.le_of_ble_eq_true rfl) rfl ?_
        obtain ⟨rfl, rfl⟩ := zinj2 (Option.some.inj h)
        exact r_iret hX hR dX6_mean_38
    · have h := (if_pos c5).symm.trans h
      refine r_aload_n hX dX6_mean_16 0 rfl rfl ?_
      refine r_ldc (v := (-1000001)) hX dX6_mean_17 (zT_in 1041 (by decide +kernel) rfl) ?_
      obtain ⟨x23, u24, e25, h⟩ := zbind2_elim h
      refine r_callV (As := [.int (-1000001)]) (rest := []) (st1 := [.int x23]) hX dX6_mean_19 lv_RX6_83 (c_X6_finding (-1000001)  u _ _ e25) (by decide) rfl rfl (zRecv.of (q := 39) (ci := 6) rfl rfl) rfl (Nat.le_of_ble_eq_true rfl) rfl ?_
      obtain ⟨rfl, rfl⟩ := zinj2 (Option.some.inj h)
      exact r_iret hX hR dX6_mean_22
theorem dX6_cut_0 : decode cX6_cut 0 = .ok (.iconst 0, 1) := by decide +kernel
theorem dX6_cut_1 : decode cX6_cut 1 = .ok (.istore_n 2, 1) := by decide +kernel
theorem dX6_cut_2 : decode cX6_cut 2 = .ok (.iload_n 2, 1) := by decide +kernel
theorem dX6_cut_3 : decode cX6_cut 3 = .ok (.iconst 3, 1) := by decide +kernel
theorem dX6_cut_4 : decode cX6_cut 4 = .ok (.if_icmp .ge 21, 3) := by decide +kernel
theorem dX6_cut_7 : decode cX6_cut 7 = .ok (.aload_n 0, 1) := by decide +kernel
theorem dX6_cut_8 : decode cX6_cut 8 = .ok (.getfield 19, 3) := by decide +kernel
theorem dX6_cut_11 : decode cX6_cut 11 = .ok (.iload_n 2, 1) := by decide +kernel
theorem dX6_cut_12 : decode cX6_cut 12 = .ok (.aload_n 0, 1) := by decide +kernel
theorem dX6_cut_13 : decode cX6_cut 13 = .ok (.iload_n 1, 1) := by decide +kernel
theorem dX6_cut_14 : decode cX6_cut 14 = .ok (.iload_n 2, 1) := by decide +kernel
theorem dX6_cut_15 : decode cX6_cut 15 = .ok (.invokevirtual 133, 3) := by decide +kernel
theorem dX6_cut_18 : decode cX6_cut 18 = .ok (.iastore, 1) := by decide +kernel
theorem dX6_cut_19 : decode cX6_cut 19 = .ok (.iinc 2 1, 3) := by decide +kernel
theorem dX6_cut_22 : decode cX6_cut 22 = .ok (.goto (-20), 3) := by decide +kernel
theorem dX6_cut_25 : decode cX6_cut 25 = .ok (.return_, 1) := by decide +kernel
def m_X6_cut_b0 (a1 : Int32) (x1 : Int32) (u2 : zM) : Option ((Int32 × zM) ⊕ (zM)) :=
  (if 3 ≤ x1 then
some (.inr u2)
else
zbind2 (m_X6_cutFor a1 x1 u2) (fun x6 u7 => zbind (zsv u7 43 3 x1 x6) (fun u9 => some (.inl ((x1 + 1), u9)))))
def m_X6_cut (a1 : Int32) (u : zM) : Option (zM) :=
  zbind (zit zF (fun s : Int32 × zM => m_X6_cut_b0 a1 s.1 s.2) (0, u)) (fun u3 =>
some u3)
set_option maxHeartbeats 4000000 in
set_option maxRecDepth 100000 in
theorem c_X6_cut (a1 : Int32)   (u : zM) (u' : zM) (h : m_X6_cut a1 u = some (u')) : zCt 5 yX6_cut cX6_cut 3 none (fun E => [.ref (zad E 39), .int a1]) u (fun _ => none) u' := by
  refine zCt.of (by decide +kernel) (fun E => Nat.le_of_ble_eq_true rfl) (fun X hX hR => ?_)
  have hX : zGood X RX6 cX6_cut 3 5 := hX
  show zG X u 0 [(0, .ref (zad X.1 39)), (1, .int a1)] []
  unfold m_X6_cut at h
  refine r_iconst (v := 0) hX dX6_cut_0 (by decide) ?_
  refine r_istore_n (y := 0) (L' := [(2, .int 0), (0, .ref (zad X.1 39)), (1, .int a1)]) hX dX6_cut_1 rfl (by decide) rfl rfl ?_
  refine r_sub [1, 2, 0] (L' := [(0, .ref (zad X.1 39)), (1, .int a1), (2, .int 0)]) rfl ?_
  obtain ⟨u3, h4, h⟩ := zbind_elim h
  have Jh4 : zG X u3 25 [] [] := by
      obtain rfl := Option.some.inj h
      exact r_vret hX hR dX6_cut_25
  clear h
  refine zit_walk (P := fun s0 : Int32 × zM => zG X s0.2 2 [(0, .ref (zad X.1 39)), (1, .int a1), (2, .int (s0.1))] []) ?_ zF _ h4
  clear h4
  intro s0 y0 h0b hin0 hout0
  obtain ⟨x1, u2⟩ := s0
  have h0b : m_X6_cut_b0 a1 x1 u2 = some y0 := h0b
  unfold m_X6_cut_b0 at h0b
  show zG X u2 2 [(0, .ref (zad X.1 39)), (1, .int a1), (2, .int x1)] []
  refine r_iload_n hX dX6_cut_2 2 rfl rfl ?_
  refine r_iconst (v := 3) hX dX6_cut_3 (by decide) ?_
  refine r_icmp_ge (tgt := 25) hX dX6_cut_4 (by decide) (fun c5 => ?_) (fun c5 => ?_)
  · have h0b := (if_pos c5).symm.trans h0b
    refine r_sub [] (L' := []) rfl ?_
    have h0b := hout0 _ (Option.some.inj h0b).symm
    obtain rfl := h0b
    exact Jh4
  · have h0b := (if_neg c5).symm.trans h0b
    refine r_aload_n hX dX6_cut_7 0 rfl rfl ?_
    refine r_getR hX dX6_cut_8 f_RX6_19 zr_39_4 ?_
    refine r_iload_n hX dX6_cut_11 2 rfl rfl ?_
    refine r_aload_n hX dX6_cut_12 0 rfl rfl ?_
    refine r_iload_n hX dX6_cut_13 1 rfl rfl ?_
    refine r_iload_n hX dX6_cut_14 2 rfl rfl ?_
    obtain ⟨x6, u7, e8, h0b⟩ := zbind2_elim h0b
    refine r_callV (As := [.int a1, .int x1]) (rest := [.int x1, .ref (zad X.1 43)]) (st1 := [.int x6, .int x1, .ref (zad X.1 43)]) hX dX6_cut_15 lv_RX6_133 (c_X6_cutFor a1 x1  u2 _ _ e8) (by decide) rfl rfl (zRecv.of (q := 39) (ci := 6) rfl rfl) rfl (Nat.le_of_ble_eq_true rfl) rfl ?_
    obtain ⟨u9, e10, h0b⟩ := zbind_elim h0b
    refine r_iast hX dX6_cut_18 rfl e10 ?_
    refine r_iinc (v := (x1 + 1)) (L' := [(2, .int (x1 + 1)), (0, .ref (zad X.1 39)), (1, .int a1)]) hX dX6_cut_19 (by decide) 2 rfl rfl rfl ?_
    refine r_goto (tgt := 2) hX dX6_cut_22 (by decide) ?_
    refine r_sub [1, 2, 0] (L' := [(0, .ref (zad X.1 39)), (1, .int a1), (2, .int (x1 + 1))]) rfl ?_
    exact hin0 _ (Option.some.inj h0b).symm
theorem dX6_distance_0 : decode cX6_distance 0 = .ok (.iconst 0, 1) := by decide +kernel
theorem dX6_distance_1 : decode cX6_distance 1 = .ok (.istore_n 2, 1) := by decide +kernel
theorem dX6_distance_2 : decode cX6_distance 2 = .ok (.iconst 0, 1) := by decide +kernel
theorem dX6_distance_3 : decode cX6_distance 3 = .ok (.istore_n 3, 1) := by decide +kernel
theorem dX6_distance_4 : decode cX6_distance 4 = .ok (.iload_n 3, 1) := by decide +kernel
theorem dX6_distance_5 : decode cX6_distance 5 = .ok (.iconst 3, 1) := by decide +kernel
theorem dX6_distance_6 : decode cX6_distance 6 = .ok (.if_icmp .ge 30, 3) := by decide +kernel
theorem dX6_distance_9 : decode cX6_distance 9 = .ok (.iload_n 2, 1) := by decide +kernel
theorem dX6_distance_10 : decode cX6_distance 10 = .ok (.aload_n 0, 1) := by decide +kernel
theorem dX6_distance_11 : decode cX6_distance 11 = .ok (.iload_n 1, 1) := by decide +kernel
theorem dX6_distance_12 : decode cX6_distance 12 = .ok (.iconst 1, 1) := by decide +kernel
theorem dX6_distance_13 : decode cX6_distance 13 = .ok (.iload_n 3, 1) := by decide +kernel
theorem dX6_distance_14 : decode cX6_distance 14 = .ok (.iadd, 1) := by decide +kernel
theorem dX6_distance_15 : decode cX6_distance 15 = .ok (.invokevirtual 92, 3) := by decide +kernel
theorem dX6_distance_18 : decode cX6_distance 18 = .ok (.aload_n 0, 1) := by decide +kernel
theorem dX6_distance_19 : decode cX6_distance 19 = .ok (.getfield 19, 3) := by decide +kernel
theorem dX6_distance_22 : decode cX6_distance 22 = .ok (.iload_n 3, 1) := by decide +kernel
theorem dX6_distance_23 : decode cX6_distance 23 = .ok (.iaload, 1) := by decide +kernel
theorem dX6_distance_24 : decode cX6_distance 24 = .ok (.isub, 1) := by decide +kernel
theorem dX6_distance_25 : decode cX6_distance 25 = .ok (.invokestatic 146, 3) := by decide +kernel
theorem dX6_distance_28 : decode cX6_distance 28 = .ok (.iadd, 1) := by decide +kernel
theorem dX6_distance_29 : decode cX6_distance 29 = .ok (.istore_n 2, 1) := by decide +kernel
theorem dX6_distance_30 : decode cX6_distance 30 = .ok (.iinc 3 1, 3) := by decide +kernel
theorem dX6_distance_33 : decode cX6_distance 33 = .ok (.goto (-29), 3) := by decide +kernel
theorem dX6_distance_36 : decode cX6_distance 36 = .ok (.iload_n 2, 1) := by decide +kernel
theorem dX6_distance_37 : decode cX6_distance 37 = .ok (.ireturn, 1) := by decide +kernel
def m_X6_distance_b0 (a1 : Int32) (u : zM) (x1 : Int32) (x2 : Int32) : Option ((Int32 × Int32) ⊕ (Int32)) :=
  (if 3 ≤ x2 then
some (.inr x1)
else
zbind (m_X6_bodyIs a1 (1 + x2) u) (fun x6 => zbind (zld u 43 3 x2) (fun x8 => some (.inl ((x1 + (zabs (x6 - x8))), (x2 + 1))))))
def m_X6_distance (a1 : Int32) (u : zM) : Option (Int32) :=
  zbind (zit zF (fun s : Int32 × Int32 => m_X6_distance_b0 a1 u s.1 s.2) (0, 0)) (fun x3 =>
some x3)
set_option maxHeartbeats 4000000 in
set_option maxRecDepth 100000 in
theorem c_X6_distance (a1 : Int32)   (u : zM) (r : Int32) (h : m_X6_distance a1 u = some r) : zCt 2 yX6_distance cX6_distance 4 (some .int) (fun E => [.ref (zad E 39), .int a1]) u (fun _ => some (.int r)) u := by
  refine zCt.of (by decide +kernel) (fun E => Nat.le_of_ble_eq_true rfl) (fun X hX hR => ?_)
  have hX : zGood X RX6 cX6_distance 4 2 := hX
  show zG X u 0 [(0, .ref (zad X.1 39)), (1, .int a1)] []
  unfold m_X6_distance at h
  refine r_iconst (v := 0) hX dX6_distance_0 (by decide) ?_
  refine r_istore_n (y := 0) (L' := [(2, .int 0), (0, .ref (zad X.1 39)), (1, .int a1)]) hX dX6_distance_1 rfl (by decide) rfl rfl ?_
  refine r_iconst (v := 0) hX dX6_distance_2 (by decide) ?_
  refine r_istore_n (y := 0) (L' := [(3, .int 0), (2, .int 0), (0, .ref (zad X.1 39)), (1, .int a1)]) hX dX6_distance_3 rfl (by decide) rfl rfl ?_
  refine r_sub [2, 3, 1, 0] (L' := [(0, .ref (zad X.1 39)), (1, .int a1), (2, .int 0), (3, .int 0)]) rfl ?_
  obtain ⟨x3, h4, h⟩ := zbind_elim h
  have Jh4 : zG X u 36 [(2, .int x3)] [] := by
      refine r_iload_n hX dX6_distance_36 0 rfl rfl ?_
      obtain rfl := Option.some.inj h
      exact r_iret hX hR dX6_distance_37
  clear h
  refine zit_walk (P := fun s0 : Int32 × Int32 => zG X u 4 [(0, .ref (zad X.1 39)), (1, .int a1), (2, .int (s0.1)), (3, .int (s0.2))] []) ?_ zF _ h4
  clear h4
  intro s0 y0 h0b hin0 hout0
  obtain ⟨x1, x2⟩ := s0
  have h0b : m_X6_distance_b0 a1 u x1 x2 = some y0 := h0b
  unfold m_X6_distance_b0 at h0b
  show zG X u 4 [(0, .ref (zad X.1 39)), (1, .int a1), (2, .int x1), (3, .int x2)] []
  refine r_iload_n hX dX6_distance_4 3 rfl rfl ?_
  refine r_iconst (v := 3) hX dX6_distance_5 (by decide) ?_
  refine r_icmp_ge (tgt := 36) hX dX6_distance_6 (by decide) (fun c5 => ?_) (fun c5 => ?_)
  · have h0b := (if_pos c5).symm.trans h0b
    refine r_sub [2] (L' := [(2, .int x1)]) rfl ?_
    have h0b := hout0 _ (Option.some.inj h0b).symm
    obtain rfl := h0b
    exact Jh4
  · have h0b := (if_neg c5).symm.trans h0b
    refine r_iload_n hX dX6_distance_9 2 rfl rfl ?_
    refine r_aload_n hX dX6_distance_10 0 rfl rfl ?_
    refine r_iload_n hX dX6_distance_11 1 rfl rfl ?_
    refine r_iconst (v := 1) hX dX6_distance_12 (by decide) ?_
    refine r_iload_n hX dX6_distance_13 3 rfl rfl ?_
    refine r_iadd hX dX6_distance_14 ?_
    obtain ⟨x6, e7, h0b⟩ := zbind_elim h0b
    refine r_callV (As := [.int a1, .int (1 + x2)]) (rest := [.int x1]) (st1 := [.int x6, .int x1]) hX dX6_distance_15 lv_RX6_92 (c_X6_bodyIs a1 (1 + x2)  u _ e7) (by decide) rfl rfl (zRecv.of (q := 39) (ci := 6) rfl rfl) rfl (Nat.le_of_ble_eq_true rfl) rfl ?_
    refine r_aload_n hX dX6_distance_18 0 rfl rfl ?_
    refine r_getR hX dX6_distance_19 f_RX6_19 zr_39_4 ?_
    refine r_iload_n hX dX6_distance_22 3 rfl rfl ?_
    obtain ⟨x8, e9, h0b⟩ := zbind_elim h0b
    refine r_iald hX dX6_distance_23 rfl e9 ?_
    refine r_isub hX dX6_distance_24 ?_
    refine r_abs hX dX6_distance_25 lm_RX6_146 (by decide) (Nat.le_of_ble_eq_true rfl) ?_
    refine r_iadd hX dX6_distance_28 ?_
    refine r_istore_n (y := (x1 + (zabs (x6 - x8)))) (L' := [(2, .int (x1 + (zabs (x6 - x8)))), (0, .ref (zad X.1 39)), (1, .int a1), (3, .int x2)]) hX dX6_distance_29 rfl (by decide) rfl rfl ?_
    refine r_iinc (v := (x2 + 1)) (L' := [(3, .int (x2 + 1)), (2, .int (x1 + (zabs (x6 - x8)))), (0, .ref (zad X.1 39)), (1, .int a1)]) hX dX6_distance_30 (by decide) 3 rfl rfl rfl ?_
    refine r_goto (tgt := 4) hX dX6_distance_33 (by decide) ?_
    refine r_sub [2, 3, 1, 0] (L' := [(0, .ref (zad X.1 39)), (1, .int a1), (2, .int (x1 + (zabs (x6 - x8)))), (3, .int (x2 + 1))]) rfl ?_
    exact hin0 _ (Option.some.inj h0b).symm
theorem dX6_costOf_0 : decode cX6_costOf 0 = .ok (.iconst 0, 1) := by decide +kernel
theorem dX6_costOf_1 : decode cX6_costOf 1 = .ok (.aload_n 0, 1) := by decide +kernel
theorem dX6_costOf_2 : decode cX6_costOf 2 = .ok (.iload_n 1, 1) := by decide +kernel
theorem dX6_costOf_3 : decode cX6_costOf 3 = .ok (.invokevirtual 149, 3) := by decide +kernel
theorem dX6_costOf_6 : decode cX6_costOf 6 = .ok (.aload_n 0, 1) := by decide +kernel
theorem dX6_costOf_7 : decode cX6_costOf 7 = .ok (.iload_n 1, 1) := by decide +kernel
theorem dX6_costOf_8 : decode cX6_costOf 8 = .ok (.iconst 5, 1) := by decide +kernel
theorem dX6_costOf_9 : decode cX6_costOf 9 = .ok (.invokevirtual 92, 3) := by decide +kernel
theorem dX6_costOf_12 : decode cX6_costOf 12 = .ok (.isub, 1) := by decide +kernel
theorem dX6_costOf_13 : decode cX6_costOf 13 = .ok (.invokestatic 113, 3) := by decide +kernel
theorem dX6_costOf_16 : decode cX6_costOf 16 = .ok (.ireturn, 1) := by decide +kernel
def m_X6_costOf (a1 : Int32) (u : zM) : Option (Int32) :=
  zbind (m_X6_distance a1 u) (fun x1 => zbind (m_X6_bodyIs a1 5 u) (fun x3 => some (zmax 0 (x1 - x3))))
set_option maxHeartbeats 4000000 in
set_option maxRecDepth 100000 in
theorem c_X6_costOf (a1 : Int32)   (u : zM) (r : Int32) (h : m_X6_costOf a1 u = some r) : zCt 3 yX6_costOf cX6_costOf 2 (some .int) (fun E => [.ref (zad E 39), .int a1]) u (fun _ => some (.int r)) u := by
  refine zCt.of (by decide +kernel) (fun E => Nat.le_of_ble_eq_true rfl) (fun X hX hR => ?_)
  have hX : zGood X RX6 cX6_costOf 2 3 := hX
  show zG X u 0 [(0, .ref (zad X.1 39)), (1, .int a1)] []
  unfold m_X6_costOf at h
  refine r_iconst (v := 0) hX dX6_costOf_0 (by decide) ?_
  refine r_aload_n hX dX6_costOf_1 0 rfl rfl ?_
  refine r_iload_n hX dX6_costOf_2 1 rfl rfl ?_
  obtain ⟨x1, e2, h⟩ := zbind_elim h
  refine r_callV (As := [.int a1]) (rest := [.int 0]) (st1 := [.int x1, .int 0]) hX dX6_costOf_3 lv_RX6_149 (c_X6_distance a1  u _ e2) (by decide) rfl rfl (zRecv.of (q := 39) (ci := 6) rfl rfl) rfl (Nat.le_of_ble_eq_true rfl) rfl ?_
  refine r_aload_n hX dX6_costOf_6 0 rfl rfl ?_
  refine r_iload_n hX dX6_costOf_7 1 rfl rfl ?_
  refine r_iconst (v := 5) hX dX6_costOf_8 (by decide) ?_
  obtain ⟨x3, e4, h⟩ := zbind_elim h
  refine r_callV (As := [.int a1, .int 5]) (rest := [.int x1, .int 0]) (st1 := [.int x3, .int x1, .int 0]) hX dX6_costOf_9 lv_RX6_92 (c_X6_bodyIs a1 5  u _ e4) (by decide) rfl rfl (zRecv.of (q := 39) (ci := 6) rfl rfl) rfl (Nat.le_of_ble_eq_true rfl) rfl ?_
  refine r_isub hX dX6_costOf_12 ?_
  refine r_max hX dX6_costOf_13 lm_RX6_113 (by decide) (Nat.le_of_ble_eq_true rfl) ?_
  obtain rfl := Option.some.inj h
  exact r_iret hX hR dX6_costOf_16
theorem dX6_cost_0 : decode cX6_cost 0 = .ok (.aload_n 0, 1) := by decide +kernel
theorem dX6_cost_1 : decode cX6_cost 1 = .ok (.iload_n 1, 1) := by decide +kernel
theorem dX6_cost_2 : decode cX6_cost 2 = .ok (.invokevirtual 96, 3) := by decide +kernel
theorem dX6_cost_5 : decode cX6_cost 5 = .ok (.ifCond .ne 10, 3) := by decide +kernel
theorem dX6_cost_8 : decode cX6_cost 8 = .ok (.aload_n 0, 1) := by decide +kernel
theorem dX6_cost_9 : decode cX6_cost 9 = .ok (.ldc 78, 2) := by decide +kernel
theorem dX6_cost_11 : decode cX6_cost 11 = .ok (.invokevirtual 83, 3) := by decide +kernel
theorem dX6_cost_14 : decode cX6_cost 14 = .ok (.ireturn, 1) := by decide +kernel
theorem dX6_cost_15 : decode cX6_cost 15 = .ok (.aload_n 0, 1) := by decide +kernel
theorem dX6_cost_16 : decode cX6_cost 16 = .ok (.invokevirtual 139, 3) := by decide +kernel
theorem dX6_cost_19 : decode cX6_cost 19 = .ok (.istore_n 2, 1) := by decide +kernel
theorem dX6_cost_20 : decode cX6_cost 20 = .ok (.iload_n 2, 1) := by decide +kernel
theorem dX6_cost_21 : decode cX6_cost 21 = .ok (.ifCond .ne 10, 3) := by decide +kernel
theorem dX6_cost_24 : decode cX6_cost 24 = .ok (.aload_n 0, 1) := by decide +kernel
theorem dX6_cost_25 : decode cX6_cost 25 = .ok (.ldc 142, 2) := by decide +kernel
theorem dX6_cost_27 : decode cX6_cost 27 = .ok (.invokevirtual 83, 3) := by decide +kernel
theorem dX6_cost_30 : decode cX6_cost 30 = .ok (.ireturn, 1) := by decide +kernel
theorem dX6_cost_31 : decode cX6_cost 31 = .ok (.aload_n 0, 1) := by decide +kernel
theorem dX6_cost_32 : decode cX6_cost 32 = .ok (.iload_n 2, 1) := by decide +kernel
theorem dX6_cost_33 : decode cX6_cost 33 = .ok (.invokevirtual 152, 3) := by decide +kernel
theorem dX6_cost_36 : decode cX6_cost 36 = .ok (.aload_n 0, 1) := by decide +kernel
theorem dX6_cost_37 : decode cX6_cost 37 = .ok (.iload_n 1, 1) := by decide +kernel
theorem dX6_cost_38 : decode cX6_cost 38 = .ok (.invokevirtual 156, 3) := by decide +kernel
theorem dX6_cost_41 : decode cX6_cost 41 = .ok (.ireturn, 1) := by decide +kernel
def m_X6_cost (a1 : Int32) (u : zM) : Option (Int32 × zM) :=
  (if (m_X6_isBody a1 u) = 0 then
zbind2 (m_X6_finding (-1000001) u) (fun x12 u13 => some (x12, u13))
else
zbind (m_X6_hereSet u) (fun x2 => (if x2 = 0 then
zbind2 (m_X6_finding (-1000004) u) (fun x9 u10 => some (x9, u10))
else
zbind (m_X6_cut x2 u) (fun u5 => zbind (m_X6_costOf a1 u5) (fun x7 => some (x7, u5))))))
set_option maxHeartbeats 4000000 in
set_option maxRecDepth 100000 in
theorem c_X6_cost (a1 : Int32)   (u : zM) (r : Int32) (u' : zM) (h : m_X6_cost a1 u = some (r, u')) : zCt 6 yX6_cost cX6_cost 3 (some .int) (fun E => [.ref (zad E 39), .int a1]) u (fun _ => some (.int r)) u' := by
  refine zCt.of (by decide +kernel) (fun E => Nat.le_of_ble_eq_true rfl) (fun X hX hR => ?_)
  have hX : zGood X RX6 cX6_cost 3 6 := hX
  show zG X u 0 [(0, .ref (zad X.1 39)), (1, .int a1)] []
  unfold m_X6_cost at h
  refine r_aload_n hX dX6_cost_0 0 rfl rfl ?_
  refine r_iload_n hX dX6_cost_1 1 rfl rfl ?_
  refine r_callV (As := [.int a1]) (rest := []) (st1 := [.int (m_X6_isBody a1 u)]) hX dX6_cost_2 lv_RX6_96 (c_X6_isBody a1  u _ rfl) (by decide) rfl rfl (zRecv.of (q := 39) (ci := 6) rfl rfl) rfl (Nat.le_of_ble_eq_true rfl) rfl ?_
  refine r_if_ne (tgt := 15) hX dX6_cost_5 (by decide) (fun c1 => ?_) (fun c1 => ?_)
  · have h := (if_neg c1).symm.trans h
    refine r_aload_n hX dX6_cost_15 0 rfl rfl ?_
    obtain ⟨x2, e3, h⟩ := zbind_elim h
    refine r_callV (As := []) (rest := []) (st1 := [.int x2]) hX dX6_cost_16 lv_RX6_139 (c_X6_hereSet   u _ e3) (by decide) rfl rfl (zRecv.of (q := 39) (ci := 6) rfl rfl) rfl (Nat.le_of_ble_eq_true rfl) rfl ?_
    refine r_istore_n (y := x2) (L' := [(2, .int x2), (0, .ref (zad X.1 39)), (1, .int a1)]) hX dX6_cost_19 rfl (by decide) rfl rfl ?_
    refine r_iload_n hX dX6_cost_20 0 rfl rfl ?_
    refine r_if_ne (tgt := 31) hX dX6_cost_21 (by decide) (fun c4 => ?_) (fun c4 => ?_)
    · have h := (if_neg c4).symm.trans h
      refine r_aload_n hX dX6_cost_31 1 rfl rfl ?_
      refine r_iload_n hX dX6_cost_32 0 rfl rfl ?_
      obtain ⟨u5, e6, h⟩ := zbind_elim h
      refine r_callV (As := [.int x2]) (rest := []) (st1 := []) hX dX6_cost_33 lv_RX6_152 (c_X6_cut x2  u _ e6) (by decide) rfl rfl (zRecv.of (q := 39) (ci := 6) rfl rfl) rfl (Nat.le_of_ble_eq_true rfl) rfl ?_
      refine r_aload_n hX dX6_cost_36 1 rfl rfl ?_
      refine r_iload_n hX dX6_cost_37 2 rfl rfl ?_
      obtain ⟨x7, e8, h⟩ := zbind_elim h
      refine r_callV (As := [.int a1]) (rest := []) (st1 := [.int x7]) hX dX6_cost_38 lv_RX6_156 (c_X6_costOf a1  u5 _ e8) (by decide) rfl rfl (zRecv.of (q := 39) (ci := 6) rfl rfl) rfl (Nat.le_of_ble_eq_true rfl) rfl ?_
      obtain ⟨rfl, rfl⟩ := zinj2 (Option.some.inj h)
      exact r_iret hX hR dX6_cost_41
    · have h := (if_pos c4).symm.trans h
      refine r_aload_n hX dX6_cost_24 1 rfl rfl ?_
      refine r_ldc (v := (-1000004)) hX dX6_cost_25 (zT_in 1114 (by decide +kernel) rfl) ?_
      obtain ⟨x9, u10, e11, h⟩ := zbind2_elim h
      refine r_callV (As := [.int (-1000004)]) (rest := []) (st1 := [.int x9]) hX dX6_cost_27 lv_RX6_83 (c_X6_finding (-1000004)  u _ _ e11) (by decide) rfl rfl (zRecv.of (q := 39) (ci := 6) rfl rfl) rfl (Nat.le_of_ble_eq_true rfl) rfl ?_
      obtain ⟨rfl, rfl⟩ := zinj2 (Option.some.inj h)
      exact r_iret hX hR dX6_cost_30
  · have h := (if_pos c1).symm.trans h
    refine r_aload_n hX dX6_cost_8 0 rfl rfl ?_
    refine r_ldc (v := (-1000001)) hX dX6_cost_9 (zT_in 1041 (by decide +kernel) rfl) ?_
    obtain ⟨x12, u13, e14, h⟩ := zbind2_elim h
    refine r_callV (As := [.int (-1000001)]) (rest := []) (st1 := [.int x12]) hX dX6_cost_11 lv_RX6_83 (c_X6_finding (-1000001)  u _ _ e14) (by decide) rfl rfl (zRecv.of (q := 39) (ci := 6) rfl rfl) rfl (Nat.le_of_ble_eq_true rfl) rfl ?_
    obtain ⟨rfl, rfl⟩ := zinj2 (Option.some.inj h)
    exact r_iret hX hR dX6_cost_14
theorem dX6_fitOf_0 : decode cX6_fitOf 0 = .ok (.iconst 0, 1) := by decide +kernel
theorem dX6_fitOf_1 : decode cX6_fitOf 1 = .ok (.istore_n 2, 1) := by decide +kernel
theorem dX6_fitOf_2 : decode cX6_fitOf 2 = .ok (.iload_n 1, 1) := by decide +kernel
theorem dX6_fitOf_3 : decode cX6_fitOf 3 = .ok (.ifCond .eq 8, 3) := by decide +kernel
theorem dX6_fitOf_6 : decode cX6_fitOf 6 = .ok (.aload_n 0, 1) := by decide +kernel
theorem dX6_fitOf_7 : decode cX6_fitOf 7 = .ok (.iload_n 1, 1) := by decide +kernel
theorem dX6_fitOf_8 : decode cX6_fitOf 8 = .ok (.invokevirtual 152, 3) := by decide +kernel
theorem dX6_fitOf_11 : decode cX6_fitOf 11 = .ok (.iconst 0, 1) := by decide +kernel
theorem dX6_fitOf_12 : decode cX6_fitOf 12 = .ok (.istore_n 3, 1) := by decide +kernel
theorem dX6_fitOf_13 : decode cX6_fitOf 13 = .ok (.iload_n 3, 1) := by decide +kernel
theorem dX6_fitOf_14 : decode cX6_fitOf 14 = .ok (.aload_n 0, 1) := by decide +kernel
theorem dX6_fitOf_15 : decode cX6_fitOf 15 = .ok (.getfield 9, 3) := by decide +kernel
theorem dX6_fitOf_18 : decode cX6_fitOf 18 = .ok (.iconst 0, 1) := by decide +kernel
theorem dX6_fitOf_19 : decode cX6_fitOf 19 = .ok (.iaload, 1) := by decide +kernel
theorem dX6_fitOf_20 : decode cX6_fitOf 20 = .ok (.if_icmp .ge 41, 3) := by decide +kernel
theorem dX6_fitOf_23 : decode cX6_fitOf 23 = .ok (.iload_n 2, 1) := by decide +kernel
theorem dX6_fitOf_24 : decode cX6_fitOf 24 = .ok (.iload_n 1, 1) := by decide +kernel
theorem dX6_fitOf_25 : decode cX6_fitOf 25 = .ok (.iload_n 3, 1) := by decide +kernel
theorem dX6_fitOf_26 : decode cX6_fitOf 26 = .ok (.invokestatic 122, 3) := by decide +kernel
theorem dX6_fitOf_29 : decode cX6_fitOf 29 = .ok (.ifCond .eq 23, 3) := by decide +kernel
theorem dX6_fitOf_32 : decode cX6_fitOf 32 = .ok (.aload_n 0, 1) := by decide +kernel
theorem dX6_fitOf_33 : decode cX6_fitOf 33 = .ok (.iload_n 3, 1) := by decide +kernel
theorem dX6_fitOf_34 : decode cX6_fitOf 34 = .ok (.invokevirtual 156, 3) := by decide +kernel
theorem dX6_fitOf_37 : decode cX6_fitOf 37 = .ok (.aload_n 0, 1) := by decide +kernel
theorem dX6_fitOf_38 : decode cX6_fitOf 38 = .ok (.getfield 9, 3) := by decide +kernel
theorem dX6_fitOf_41 : decode cX6_fitOf 41 = .ok (.iconst 2, 1) := by decide +kernel
theorem dX6_fitOf_42 : decode cX6_fitOf 42 = .ok (.iaload, 1) := by decide +kernel
theorem dX6_fitOf_43 : decode cX6_fitOf 43 = .ok (.if_icmp .gt 9, 3) := by decide +kernel
theorem dX6_fitOf_46 : decode cX6_fitOf 46 = .ok (.iconst 1, 1) := by decide +kernel
theorem dX6_fitOf_47 : decode cX6_fitOf 47 = .ok (.iload_n 3, 1) := by decide +kernel
theorem dX6_fitOf_48 : decode cX6_fitOf 48 = .ok (.ishl, 1) := by decide +kernel
theorem dX6_fitOf_49 : decode cX6_fitOf 49 = .ok (.goto 4, 3) := by decide +kernel
theorem dX6_fitOf_52 : decode cX6_fitOf 52 = .ok (.iconst 0, 1) := by decide +kernel
theorem dX6_fitOf_53 : decode cX6_fitOf 53 = .ok (.ior, 1) := by decide +kernel
theorem dX6_fitOf_54 : decode cX6_fitOf 54 = .ok (.istore_n 2, 1) := by decide +kernel
theorem dX6_fitOf_55 : decode cX6_fitOf 55 = .ok (.iinc 3 1, 3) := by decide +kernel
theorem dX6_fitOf_58 : decode cX6_fitOf 58 = .ok (.goto (-45), 3) := by decide +kernel
theorem dX6_fitOf_61 : decode cX6_fitOf 61 = .ok (.iload_n 2, 1) := by decide +kernel
theorem dX6_fitOf_62 : decode cX6_fitOf 62 = .ok (.ireturn, 1) := by decide +kernel
def m_X6_fitOf_b0 (u1 : zM) (a1 : Int32) (x6 : Int32) (x7 : Int32) : Option ((Int32 × Int32) ⊕ (Int32)) :=
  (if (u1 40 0) ≤ x7 then
some (.inr x6)
else
(if (m_X6_has a1 x7) = 0 then
some (.inl ((x6 ||| 0), (x7 + 1)))
else
zbind (m_X6_costOf x7 u1) (fun x12 => (if (u1 40 2) < x12 then
some (.inl ((x6 ||| 0), (x7 + 1)))
else
some (.inl ((x6 ||| (zshl 1 x7)), (x7 + 1)))))))
def m_X6_fitOf (a1 : Int32) (u : zM) : Option (Int32 × zM) :=
  zbind ((if a1 = 0 then
some u
else
zbind (m_X6_cut a1 u) (fun u4 => some u4)) : Option (zM)) (fun u1 =>
zbind (zit zF (fun s : Int32 × Int32 => m_X6_fitOf_b0 u1 a1 s.1 s.2) (0, 0)) (fun x8 =>
some (x8, u1)))
set_option maxHeartbeats 4000000 in
set_option maxRecDepth 100000 in
theorem c_X6_fitOf (a1 : Int32)   (u : zM) (r : Int32) (u' : zM) (h : m_X6_fitOf a1 u = some (r, u')) : zCt 6 yX6_fitOf cX6_fitOf 4 (some .int) (fun E => [.ref (zad E 39), .int a1]) u (fun _ => some (.int r)) u' := by
  refine zCt.of (by decide +kernel) (fun E => Nat.le_of_ble_eq_true rfl) (fun X hX hR => ?_)
  have hX : zGood X RX6 cX6_fitOf 4 6 := hX
  show zG X u 0 [(0, .ref (zad X.1 39)), (1, .int a1)] []
  unfold m_X6_fitOf at h
  refine r_iconst (v := 0) hX dX6_fitOf_0 (by decide) ?_
  refine r_istore_n (y := 0) (L' := [(2, .int 0), (0, .ref (zad X.1 39)), (1, .int a1)]) hX dX6_fitOf_1 rfl (by decide) rfl rfl ?_
  refine r_iload_n hX dX6_fitOf_2 2 rfl rfl ?_
  obtain ⟨u1, h2, h⟩ := zbind_elim h
  have Jh2 : zG X u1 11 [(0, .ref (zad X.1 39)), (1, .int a1), (2, .int 0)] [] := by
      refine r_iconst (v := 0) hX dX6_fitOf_11 (by decide) ?_
      refine r_istore_n (y := 0) (L' := [(3, .int 0), (0, .ref (zad X.1 39)), (1, .int a1), (2, .int 0)]) hX dX6_fitOf_12 rfl (by decide) rfl rfl ?_
      refine r_sub [1, 2, 3, 0] (L' := [(0, .ref (zad X.1 39)), (1, .int a1), (2, .int 0), (3, .int 0)]) rfl ?_
      obtain ⟨x8, h9, h⟩ := zbind_elim h
      have Jh9 : zG X u1 61 [(2, .int x8)] [] := by
          refine r_iload_n hX dX6_fitOf_61 0 rfl rfl ?_
          obtain ⟨rfl, rfl⟩ := zinj2 (Option.some.inj h)
          exact r_iret hX hR dX6_fitOf_62
      clear h
      refine zit_walk (P := fun s0 : Int32 × Int32 => zG X u1 13 [(0, .ref (zad X.1 39)), (1, .int a1), (2, .int (s0.1)), (3, .int (s0.2))] []) ?_ zF _ h9
      clear h9
      intro s0 y0 h0b hin0 hout0
      obtain ⟨x6, x7⟩ := s0
      have h0b : m_X6_fitOf_b0 u1 a1 x6 x7 = some y0 := h0b
      unfold m_X6_fitOf_b0 at h0b
      show zG X u1 13 [(0, .ref (zad X.1 39)), (1, .int a1), (2, .int x6), (3, .int x7)] []
      refine r_iload_n hX dX6_fitOf_13 3 rfl rfl ?_
      refine r_aload_n hX dX6_fitOf_14 0 rfl rfl ?_
      refine r_getR hX dX6_fitOf_15 f_RX6_9 zr_39_0 ?_
      refine r_iconst (v := 0) hX dX6_fitOf_18 (by decide) ?_
      refine r_ialdC (j := 0) hX dX6_fitOf_19 rfl (by decide +kernel) ?_
      refine r_icmp_ge (tgt := 61) hX dX6_fitOf_20 (by decide) (fun c10 => ?_) (fun c10 => ?_)
      · have h0b := (if_pos c10).symm.trans h0b
        refine r_sub [2] (L' := [(2, .int x6)]) rfl ?_
        have h0b := hout0 _ (Option.some.inj h0b).symm
        obtain rfl := h0b
        exact Jh9
      · have h0b := (if_neg c10).symm.trans h0b
        refine r_iload_n hX dX6_fitOf_23 2 rfl rfl ?_
        refine r_iload_n hX dX6_fitOf_24 1 rfl rfl ?_
        refine r_iload_n hX dX6_fitOf_25 3 rfl rfl ?_
        refine r_callS (As := [.int a1, .int x7]) (rest := [.int x6]) (st1 := [.int (m_X6_has a1 x7), .int x6]) hX dX6_fitOf_26 ls_RX6_122 (c_X6_has a1 x7  u1 _ rfl) (by decide) rfl rfl rfl (Nat.le_of_ble_eq_true rfl) rfl ?_
        refine r_if_eq (tgt := 52) hX dX6_fitOf_29 (by decide) (fun c11 => ?_) (fun c11 => ?_)
        · have h0b := (if_pos c11).symm.trans h0b
          refine r_iconst (v := 0) hX dX6_fitOf_52 (by decide) ?_
          refine r_ior hX dX6_fitOf_53 ?_
          refine r_istore_n (y := (x6 ||| 0)) (L' := [(2, .int (x6 ||| 0)), (0, .ref (zad X.1 39)), (1, .int a1), (3, .int x7)]) hX dX6_fitOf_54 rfl (by decide) rfl rfl ?_
          refine r_iinc (v := (x7 + 1)) (L' := [(3, .int (x7 + 1)), (2, .int (x6 ||| 0)), (0, .ref (zad X.1 39)), (1, .int a1)]) hX dX6_fitOf_55 (by decide) 3 rfl rfl rfl ?_
          refine r_goto (tgt := 13) hX dX6_fitOf_58 (by decide) ?_
          refine r_sub [2, 3, 1, 0] (L' := [(0, .ref (zad X.1 39)), (1, .int a1), (2, .int (x6 ||| 0)), (3, .int (x7 + 1))]) rfl ?_
          exact hin0 _ (Option.some.inj h0b).symm
        · have h0b := (if_neg c11).symm.trans h0b
          refine r_aload_n hX dX6_fitOf_32 0 rfl rfl ?_
          refine r_iload_n hX dX6_fitOf_33 3 rfl rfl ?_
          obtain ⟨x12, e13, h0b⟩ := zbind_elim h0b
          refine r_callV (As := [.int x7]) (rest := [.int x6]) (st1 := [.int x12, .int x6]) hX dX6_fitOf_34 lv_RX6_156 (c_X6_costOf x7  u1 _ e13) (by decide) rfl rfl (zRecv.of (q := 39) (ci := 6) rfl rfl) rfl (Nat.le_of_ble_eq_true rfl) rfl ?_
          refine r_aload_n hX dX6_fitOf_37 0 rfl rfl ?_
          refine r_getR hX dX6_fitOf_38 f_RX6_9 zr_39_0 ?_
          refine r_iconst (v := 2) hX dX6_fitOf_41 (by decide) ?_
          refine r_ialdC (j := 2) hX dX6_fitOf_42 rfl (by decide +kernel) ?_
          refine r_icmp_gt (tgt := 52) hX dX6_fitOf_43 (by decide) (fun c14 => ?_) (fun c14 => ?_)
          · have h0b := (if_pos c14).symm.trans h0b
            refine r_iconst (v := 0) hX dX6_fitOf_52 (by decide) ?_
            refine r_ior hX dX6_fitOf_53 ?_
            refine r_istore_n (y := (x6 ||| 0)) (L' := [(2, .int (x6 ||| 0)), (0, .ref (zad X.1 39)), (1, .int a1), (3, .int x7)]) hX dX6_fitOf_54 rfl (by decide) rfl rfl ?_
            refine r_iinc (v := (x7 + 1)) (L' := [(3, .int (x7 + 1)), (2, .int (x6 ||| 0)), (0, .ref (zad X.1 39)), (1, .int a1)]) hX dX6_fitOf_55 (by decide) 3 rfl rfl rfl ?_
            refine r_goto (tgt := 13) hX dX6_fitOf_58 (by decide) ?_
            refine r_sub [2, 3, 1, 0] (L' := [(0, .ref (zad X.1 39)), (1, .int a1), (2, .int (x6 ||| 0)), (3, .int (x7 + 1))]) rfl ?_
            exact hin0 _ (Option.some.inj h0b).symm
          · have h0b := (if_neg c14).symm.trans h0b
            refine r_iconst (v := 1) hX dX6_fitOf_46 (by decide) ?_
            refine r_iload_n hX dX6_fitOf_47 3 rfl rfl ?_
            refine r_ishl hX dX6_fitOf_48 ?_
            refine r_goto (tgt := 53) hX dX6_fitOf_49 (by decide) ?_
            refine r_ior hX dX6_fitOf_53 ?_
            refine r_istore_n (y := (x6 ||| (zshl 1 x7))) (L' := [(2, .int (x6 ||| (zshl 1 x7))), (0, .ref (zad X.1 39)), (1, .int a1), (3, .int x7)]) hX dX6_fitOf_54 rfl (by decide) rfl rfl ?_
            refine r_iinc (v := (x7 + 1)) (L' := [(3, .int (x7 + 1)), (2, .int (x6 ||| (zshl 1 x7))), (0, .ref (zad X.1 39)), (1, .int a1)]) hX dX6_fitOf_55 (by decide) 3 rfl rfl rfl ?_
            refine r_goto (tgt := 13) hX dX6_fitOf_58 (by decide) ?_
            refine r_sub [2, 3, 1, 0] (L' := [(0, .ref (zad X.1 39)), (1, .int a1), (2, .int (x6 ||| (zshl 1 x7))), (3, .int (x7 + 1))]) rfl ?_
            exact hin0 _ (Option.some.inj h0b).symm
  clear h
  refine r_if_eq (tgt := 11) hX dX6_fitOf_3 (by decide) (fun c3 => ?_) (fun c3 => ?_)
  · have h2 := (if_pos c3).symm.trans h2
    refine r_sub [1, 2, 0] (L' := [(0, .ref (zad X.1 39)), (1, .int a1), (2, .int 0)]) rfl ?_
    obtain rfl := Option.some.inj h2
    exact Jh2
  · have h2 := (if_neg c3).symm.trans h2
    refine r_aload_n hX dX6_fitOf_6 1 rfl rfl ?_
    refine r_iload_n hX dX6_fitOf_7 2 rfl rfl ?_
    obtain ⟨u4, e5, h2⟩ := zbind_elim h2
    refine r_callV (As := [.int a1]) (rest := []) (st1 := []) hX dX6_fitOf_8 lv_RX6_152 (c_X6_cut a1  u _ e5) (by decide) rfl rfl (zRecv.of (q := 39) (ci := 6) rfl rfl) rfl (Nat.le_of_ble_eq_true rfl) rfl ?_
    refine r_sub [1, 2, 0] (L' := [(0, .ref (zad X.1 39)), (1, .int a1), (2, .int 0)]) rfl ?_
    obtain rfl := Option.some.inj h2
    exact Jh2
theorem dX6_fits_0 : decode cX6_fits 0 = .ok (.aload_n 0, 1) := by decide +kernel
theorem dX6_fits_1 : decode cX6_fits 1 = .ok (.aload_n 0, 1) := by decide +kernel
theorem dX6_fits_2 : decode cX6_fits 2 = .ok (.invokevirtual 139, 3) := by decide +kernel
theorem dX6_fits_5 : decode cX6_fits 5 = .ok (.invokevirtual 159, 3) := by decide +kernel
theorem dX6_fits_8 : decode cX6_fits 8 = .ok (.ireturn, 1) := by decide +kernel
def m_X6_fits  (u : zM) : Option (Int32 × zM) :=
  zbind (m_X6_hereSet u) (fun x1 => zbind2 (m_X6_fitOf x1 u) (fun x3 u4 => some (x3, u4)))
set_option maxHeartbeats 4000000 in
set_option maxRecDepth 100000 in
theorem c_X6_fits    (u : zM) (r : Int32) (u' : zM) (h : m_X6_fits u = some (r, u')) : zCt 7 yX6_fits cX6_fits 1 (some .int) (fun E => [.ref (zad E 39)]) u (fun _ => some (.int r)) u' := by
  refine zCt.of (by decide +kernel) (fun E => Nat.le_of_ble_eq_true rfl) (fun X hX hR => ?_)
  have hX : zGood X RX6 cX6_fits 1 7 := hX
  show zG X u 0 [(0, .ref (zad X.1 39))] []
  unfold m_X6_fits at h
  refine r_aload_n hX dX6_fits_0 0 rfl rfl ?_
  refine r_aload_n hX dX6_fits_1 0 rfl rfl ?_
  obtain ⟨x1, e2, h⟩ := zbind_elim h
  refine r_callV (As := []) (rest := [.ref (zad X.1 39)]) (st1 := [.int x1, .ref (zad X.1 39)]) hX dX6_fits_2 lv_RX6_139 (c_X6_hereSet   u _ e2) (by decide) rfl rfl (zRecv.of (q := 39) (ci := 6) rfl rfl) rfl (Nat.le_of_ble_eq_true rfl) rfl ?_
  obtain ⟨x3, u4, e5, h⟩ := zbind2_elim h
  refine r_callV (As := [.int x1]) (rest := []) (st1 := [.int x3]) hX dX6_fits_5 lv_RX6_159 (c_X6_fitOf x1  u _ _ e5) (by decide) rfl rfl (zRecv.of (q := 39) (ci := 6) rfl rfl) rfl (Nat.le_of_ble_eq_true rfl) rfl ?_
  obtain ⟨rfl, rfl⟩ := zinj2 (Option.some.inj h)
  exact r_iret hX hR dX6_fits_8
theorem dX6_costs_0 : decode cX6_costs 0 = .ok (.aload_n 0, 1) := by decide +kernel
theorem dX6_costs_1 : decode cX6_costs 1 = .ok (.invokevirtual 139, 3) := by decide +kernel
theorem dX6_costs_4 : decode cX6_costs 4 = .ok (.istore_n 1, 1) := by decide +kernel
theorem dX6_costs_5 : decode cX6_costs 5 = .ok (.iconst 0, 1) := by decide +kernel
theorem dX6_costs_6 : decode cX6_costs 6 = .ok (.istore_n 2, 1) := by decide +kernel
theorem dX6_costs_7 : decode cX6_costs 7 = .ok (.iload_n 1, 1) := by decide +kernel
theorem dX6_costs_8 : decode cX6_costs 8 = .ok (.ifCond .eq 8, 3) := by decide +kernel
theorem dX6_costs_11 : decode cX6_costs 11 = .ok (.aload_n 0, 1) := by decide +kernel
theorem dX6_costs_12 : decode cX6_costs 12 = .ok (.iload_n 1, 1) := by decide +kernel
theorem dX6_costs_13 : decode cX6_costs 13 = .ok (.invokevirtual 152, 3) := by decide +kernel
theorem dX6_costs_16 : decode cX6_costs 16 = .ok (.iconst 0, 1) := by decide +kernel
theorem dX6_costs_17 : decode cX6_costs 17 = .ok (.istore_n 3, 1) := by decide +kernel
theorem dX6_costs_18 : decode cX6_costs 18 = .ok (.iload_n 3, 1) := by decide +kernel
theorem dX6_costs_19 : decode cX6_costs 19 = .ok (.aload_n 0, 1) := by decide +kernel
theorem dX6_costs_20 : decode cX6_costs 20 = .ok (.getfield 9, 3) := by decide +kernel
theorem dX6_costs_23 : decode cX6_costs 23 = .ok (.iconst 0, 1) := by decide +kernel
theorem dX6_costs_24 : decode cX6_costs 24 = .ok (.iaload, 1) := by decide +kernel
theorem dX6_costs_25 : decode cX6_costs 25 = .ok (.if_icmp .ge 29, 3) := by decide +kernel
theorem dX6_costs_28 : decode cX6_costs 28 = .ok (.iload_n 2, 1) := by decide +kernel
theorem dX6_costs_29 : decode cX6_costs 29 = .ok (.iload_n 1, 1) := by decide +kernel
theorem dX6_costs_30 : decode cX6_costs 30 = .ok (.iload_n 3, 1) := by decide +kernel
theorem dX6_costs_31 : decode cX6_costs 31 = .ok (.invokestatic 122, 3) := by decide +kernel
theorem dX6_costs_34 : decode cX6_costs 34 = .ok (.ifCond .eq 11, 3) := by decide +kernel
theorem dX6_costs_37 : decode cX6_costs 37 = .ok (.aload_n 0, 1) := by decide +kernel
theorem dX6_costs_38 : decode cX6_costs 38 = .ok (.iload_n 3, 1) := by decide +kernel
theorem dX6_costs_39 : decode cX6_costs 39 = .ok (.invokevirtual 156, 3) := by decide +kernel
theorem dX6_costs_42 : decode cX6_costs 42 = .ok (.goto 4, 3) := by decide +kernel
theorem dX6_costs_45 : decode cX6_costs 45 = .ok (.iconst 0, 1) := by decide +kernel
theorem dX6_costs_46 : decode cX6_costs 46 = .ok (.iadd, 1) := by decide +kernel
theorem dX6_costs_47 : decode cX6_costs 47 = .ok (.istore_n 2, 1) := by decide +kernel
theorem dX6_costs_48 : decode cX6_costs 48 = .ok (.iinc 3 1, 3) := by decide +kernel
theorem dX6_costs_51 : decode cX6_costs 51 = .ok (.goto (-33), 3) := by decide +kernel
theorem dX6_costs_54 : decode cX6_costs 54 = .ok (.iload_n 2, 1) := by decide +kernel
theorem dX6_costs_55 : decode cX6_costs 55 = .ok (.ireturn, 1) := by decide +kernel
def m_X6_costs_b0 (u3 : zM) (x1 : Int32) (x8 : Int32) (x9 : Int32) : Option ((Int32 × Int32) ⊕ (Int32)) :=
  (if (u3 40 0) ≤ x9 then
some (.inr x8)
else
(if (m_X6_has x1 x9) = 0 then
some (.inl ((x8 + 0), (x9 + 1)))
else
zbind (m_X6_costOf x9 u3) (fun x14 => some (.inl ((x8 + x14), (x9 + 1))))))
def m_X6_costs  (u : zM) : Option (Int32 × zM) :=
  zbind (m_X6_hereSet u) (fun x1 => zbind ((if x1 = 0 then
some u
else
zbind (m_X6_cut x1 u) (fun u6 => some u6)) : Option (zM)) (fun u3 =>
zbind (zit zF (fun s : Int32 × Int32 => m_X6_costs_b0 u3 x1 s.1 s.2) (0, 0)) (fun x10 =>
some (x10, u3))))
set_option maxHeartbeats 4000000 in
set_option maxRecDepth 100000 in
theorem c_X6_costs    (u : zM) (r : Int32) (u' : zM) (h : m_X6_costs u = some (r, u')) : zCt 6 yX6_costs cX6_costs 4 (some .int) (fun E => [.ref (zad E 39)]) u (fun _ => some (.int r)) u' := by
  refine zCt.of (by decide +kernel) (fun E => Nat.le_of_ble_eq_true rfl) (fun X hX hR => ?_)
  have hX : zGood X RX6 cX6_costs 4 6 := hX
  show zG X u 0 [(0, .ref (zad X.1 39))] []
  unfold m_X6_costs at h
  refine r_aload_n hX dX6_costs_0 0 rfl rfl ?_
  obtain ⟨x1, e2, h⟩ := zbind_elim h
  refine r_callV (As := []) (rest := []) (st1 := [.int x1]) hX dX6_costs_1 lv_RX6_139 (c_X6_hereSet   u _ e2) (by decide) rfl rfl (zRecv.of (q := 39) (ci := 6) rfl rfl) rfl (Nat.le_of_ble_eq_true rfl) rfl ?_
  refine r_istore_n (y := x1) (L' := [(1, .int x1), (0, .ref (zad X.1 39))]) hX dX6_costs_4 rfl (by decide) rfl rfl ?_
  refine r_iconst (v := 0) hX dX6_costs_5 (by decide) ?_
  refine r_istore_n (y := 0) (L' := [(2, .int 0), (1, .int x1), (0, .ref (zad X.1 39))]) hX dX6_costs_6 rfl (by decide) rfl rfl ?_
  refine r_iload_n hX dX6_costs_7 1 rfl rfl ?_
  obtain ⟨u3, h4, h⟩ := zbind_elim h
  have Jh4 : zG X u3 16 [(0, .ref (zad X.1 39)), (1, .int x1), (2, .int 0)] [] := by
      refine r_iconst (v := 0) hX dX6_costs_16 (by decide) ?_
      refine r_istore_n (y := 0) (L' := [(3, .int 0), (0, .ref (zad X.1 39)), (1, .int x1), (2, .int 0)]) hX dX6_costs_17 rfl (by decide) rfl rfl ?_
      refine r_sub [1, 2, 3, 0] (L' := [(0, .ref (zad X.1 39)), (1, .int x1), (2, .int 0), (3, .int 0)]) rfl ?_
      obtain ⟨x10, h11, h⟩ := zbind_elim h
      have Jh11 : zG X u3 54 [(2, .int x10)] [] := by
          refine r_iload_n hX dX6_costs_54 0 rfl rfl ?_
          obtain ⟨rfl, rfl⟩ := zinj2 (Option.some.inj h)
          exact r_iret hX hR dX6_costs_55
      clear h
      refine zit_walk (P := fun s0 : Int32 × Int32 => zG X u3 18 [(0, .ref (zad X.1 39)), (1, .int x1), (2, .int (s0.1)), (3, .int (s0.2))] []) ?_ zF _ h11
      clear h11
      intro s0 y0 h0b hin0 hout0
      obtain ⟨x8, x9⟩ := s0
      have h0b : m_X6_costs_b0 u3 x1 x8 x9 = some y0 := h0b
      unfold m_X6_costs_b0 at h0b
      show zG X u3 18 [(0, .ref (zad X.1 39)), (1, .int x1), (2, .int x8), (3, .int x9)] []
      refine r_iload_n hX dX6_costs_18 3 rfl rfl ?_
      refine r_aload_n hX dX6_costs_19 0 rfl rfl ?_
      refine r_getR hX dX6_costs_20 f_RX6_9 zr_39_0 ?_
      refine r_iconst (v := 0) hX dX6_costs_23 (by decide) ?_
      refine r_ialdC (j := 0) hX dX6_costs_24 rfl (by decide +kernel) ?_
      refine r_icmp_ge (tgt := 54) hX dX6_costs_25 (by decide) (fun c12 => ?_) (fun c12 => ?_)
      · have h0b := (if_pos c12).symm.trans h0b
        refine r_sub [2] (L' := [(2, .int x8)]) rfl ?_
        have h0b := hout0 _ (Option.some.inj h0b).symm
        obtain rfl := h0b
        exact Jh11
      · have h0b := (if_neg c12).symm.trans h0b
        refine r_iload_n hX dX6_costs_28 2 rfl rfl ?_
        refine r_iload_n hX dX6_costs_29 1 rfl rfl ?_
        refine r_iload_n hX dX6_costs_30 3 rfl rfl ?_
        refine r_callS (As := [.int x1, .int x9]) (rest := [.int x8]) (st1 := [.int (m_X6_has x1 x9), .int x8]) hX dX6_costs_31 ls_RX6_122 (c_X6_has x1 x9  u3 _ rfl) (by decide) rfl rfl rfl (Nat.le_of_ble_eq_true rfl) rfl ?_
        refine r_if_eq (tgt := 45) hX dX6_costs_34 (by decide) (fun c13 => ?_) (fun c13 => ?_)
        · have h0b := (if_pos c13).symm.trans h0b
          refine r_iconst (v := 0) hX dX6_costs_45 (by decide) ?_
          refine r_iadd hX dX6_costs_46 ?_
          refine r_istore_n (y := (x8 + 0)) (L' := [(2, .int (x8 + 0)), (0, .ref (zad X.1 39)), (1, .int x1), (3, .int x9)]) hX dX6_costs_47 rfl (by decide) rfl rfl ?_
          refine r_iinc (v := (x9 + 1)) (L' := [(3, .int (x9 + 1)), (2, .int (x8 + 0)), (0, .ref (zad X.1 39)), (1, .int x1)]) hX dX6_costs_48 (by decide) 3 rfl rfl rfl ?_
          refine r_goto (tgt := 18) hX dX6_costs_51 (by decide) ?_
          refine r_sub [2, 3, 1, 0] (L' := [(0, .ref (zad X.1 39)), (1, .int x1), (2, .int (x8 + 0)), (3, .int (x9 + 1))]) rfl ?_
          exact hin0 _ (Option.some.inj h0b).symm
        · have h0b := (if_neg c13).symm.trans h0b
          refine r_aload_n hX dX6_costs_37 0 rfl rfl ?_
          refine r_iload_n hX dX6_costs_38 3 rfl rfl ?_
          obtain ⟨x14, e15, h0b⟩ := zbind_elim h0b
          refine r_callV (As := [.int x9]) (rest := [.int x8]) (st1 := [.int x14, .int x8]) hX dX6_costs_39 lv_RX6_156 (c_X6_costOf x9  u3 _ e15) (by decide) rfl rfl (zRecv.of (q := 39) (ci := 6) rfl rfl) rfl (Nat.le_of_ble_eq_true rfl) rfl ?_
          refine r_goto (tgt := 46) hX dX6_costs_42 (by decide) ?_
          refine r_iadd hX dX6_costs_46 ?_
          refine r_istore_n (y := (x8 + x14)) (L' := [(2, .int (x8 + x14)), (0, .ref (zad X.1 39)), (1, .int x1), (3, .int x9)]) hX dX6_costs_47 rfl (by decide) rfl rfl ?_
          refine r_iinc (v := (x9 + 1)) (L' := [(3, .int (x9 + 1)), (2, .int (x8 + x14)), (0, .ref (zad X.1 39)), (1, .int x1)]) hX dX6_costs_48 (by decide) 3 rfl rfl rfl ?_
          refine r_goto (tgt := 18) hX dX6_costs_51 (by decide) ?_
          refine r_sub [2, 3, 1, 0] (L' := [(0, .ref (zad X.1 39)), (1, .int x1), (2, .int (x8 + x14)), (3, .int (x9 + 1))]) rfl ?_
          exact hin0 _ (Option.some.inj h0b).symm
  clear h
  refine r_if_eq (tgt := 16) hX dX6_costs_8 (by decide) (fun c5 => ?_) (fun c5 => ?_)
  · have h4 := (if_pos c5).symm.trans h4
    refine r_sub [2, 1, 0] (L' := [(0, .ref (zad X.1 39)), (1, .int x1), (2, .int 0)]) rfl ?_
    obtain rfl := Option.some.inj h4
    exact Jh4
  · have h4 := (if_neg c5).symm.trans h4
    refine r_aload_n hX dX6_costs_11 2 rfl rfl ?_
    refine r_iload_n hX dX6_costs_12 1 rfl rfl ?_
    obtain ⟨u6, e7, h4⟩ := zbind_elim h4
    refine r_callV (As := [.int x1]) (rest := []) (st1 := []) hX dX6_costs_13 lv_RX6_152 (c_X6_cut x1  u _ e7) (by decide) rfl rfl (zRecv.of (q := 39) (ci := 6) rfl rfl) rfl (Nat.le_of_ble_eq_true rfl) rfl ?_
    refine r_sub [2, 1, 0] (L' := [(0, .ref (zad X.1 39)), (1, .int x1), (2, .int 0)]) rfl ?_
    obtain rfl := Option.some.inj h4
    exact Jh4
theorem dX6_fines_0 : decode cX6_fines 0 = .ok (.iconst 0, 1) := by decide +kernel
theorem dX6_fines_1 : decode cX6_fines 1 = .ok (.istore_n 1, 1) := by decide +kernel
theorem dX6_fines_2 : decode cX6_fines 2 = .ok (.iconst 0, 1) := by decide +kernel
theorem dX6_fines_3 : decode cX6_fines 3 = .ok (.istore_n 2, 1) := by decide +kernel
theorem dX6_fines_4 : decode cX6_fines 4 = .ok (.iload_n 2, 1) := by decide +kernel
theorem dX6_fines_5 : decode cX6_fines 5 = .ok (.aload_n 0, 1) := by decide +kernel
theorem dX6_fines_6 : decode cX6_fines 6 = .ok (.getfield 9, 3) := by decide +kernel
theorem dX6_fines_9 : decode cX6_fines 9 = .ok (.iconst 0, 1) := by decide +kernel
theorem dX6_fines_10 : decode cX6_fines 10 = .ok (.iaload, 1) := by decide +kernel
theorem dX6_fines_11 : decode cX6_fines 11 = .ok (.if_icmp .ge 26, 3) := by decide +kernel
theorem dX6_fines_14 : decode cX6_fines 14 = .ok (.iload_n 1, 1) := by decide +kernel
theorem dX6_fines_15 : decode cX6_fines 15 = .ok (.aload_n 0, 1) := by decide +kernel
theorem dX6_fines_16 : decode cX6_fines 16 = .ok (.iload_n 2, 1) := by decide +kernel
theorem dX6_fines_17 : decode cX6_fines 17 = .ok (.bipush 6, 2) := by decide +kernel
theorem dX6_fines_19 : decode cX6_fines 19 = .ok (.invokevirtual 92, 3) := by decide +kernel
theorem dX6_fines_22 : decode cX6_fines 22 = .ok (.aload_n 0, 1) := by decide +kernel
theorem dX6_fines_23 : decode cX6_fines 23 = .ok (.iload_n 2, 1) := by decide +kernel
theorem dX6_fines_24 : decode cX6_fines 24 = .ok (.iconst 5, 1) := by decide +kernel
theorem dX6_fines_25 : decode cX6_fines 25 = .ok (.invokevirtual 92, 3) := by decide +kernel
theorem dX6_fines_28 : decode cX6_fines 28 = .ok (.imul, 1) := by decide +kernel
theorem dX6_fines_29 : decode cX6_fines 29 = .ok (.iadd, 1) := by decide +kernel
theorem dX6_fines_30 : decode cX6_fines 30 = .ok (.istore_n 1, 1) := by decide +kernel
theorem dX6_fines_31 : decode cX6_fines 31 = .ok (.iinc 2 1, 3) := by decide +kernel
theorem dX6_fines_34 : decode cX6_fines 34 = .ok (.goto (-30), 3) := by decide +kernel
theorem dX6_fines_37 : decode cX6_fines 37 = .ok (.iload_n 1, 1) := by decide +kernel
theorem dX6_fines_38 : decode cX6_fines 38 = .ok (.aload_n 0, 1) := by decide +kernel
theorem dX6_fines_39 : decode cX6_fines 39 = .ok (.getfield 9, 3) := by decide +kernel
theorem dX6_fines_42 : decode cX6_fines 42 = .ok (.iconst 3, 1) := by decide +kernel
theorem dX6_fines_43 : decode cX6_fines 43 = .ok (.iaload, 1) := by decide +kernel
theorem dX6_fines_44 : decode cX6_fines 44 = .ok (.imul, 1) := by decide +kernel
theorem dX6_fines_45 : decode cX6_fines 45 = .ok (.ireturn, 1) := by decide +kernel
def m_X6_fines_b0 (u : zM) (x1 : Int32) (x2 : Int32) : Option ((Int32 × Int32) ⊕ (Int32)) :=
  (if (u 40 0) ≤ x2 then
some (.inr x1)
else
zbind (m_X6_bodyIs x2 6 u) (fun x6 => zbind (m_X6_bodyIs x2 5 u) (fun x8 => some (.inl ((x1 + (x6 * x8)), (x2 + 1))))))
def m_X6_fines  (u : zM) : Option (Int32) :=
  zbind (zit zF (fun s : Int32 × Int32 => m_X6_fines_b0 u s.1 s.2) (0, 0)) (fun x3 =>
some (x3 * (u 40 3)))
set_option maxHeartbeats 4000000 in
set_option maxRecDepth 100000 in
theorem c_X6_fines    (u : zM) (r : Int32) (h : m_X6_fines u = some r) : zCt 2 yX6_fines cX6_fines 3 (some .int) (fun E => [.ref (zad E 39)]) u (fun _ => some (.int r)) u := by
  refine zCt.of (by decide +kernel) (fun E => Nat.le_of_ble_eq_true rfl) (fun X hX hR => ?_)
  have hX : zGood X RX6 cX6_fines 3 2 := hX
  show zG X u 0 [(0, .ref (zad X.1 39))] []
  unfold m_X6_fines at h
  refine r_iconst (v := 0) hX dX6_fines_0 (by decide) ?_
  refine r_istore_n (y := 0) (L' := [(1, .int 0), (0, .ref (zad X.1 39))]) hX dX6_fines_1 rfl (by decide) rfl rfl ?_
  refine r_iconst (v := 0) hX dX6_fines_2 (by decide) ?_
  refine r_istore_n (y := 0) (L' := [(2, .int 0), (1, .int 0), (0, .ref (zad X.1 39))]) hX dX6_fines_3 rfl (by decide) rfl rfl ?_
  refine r_sub [2, 1, 0] (L' := [(0, .ref (zad X.1 39)), (1, .int 0), (2, .int 0)]) rfl ?_
  obtain ⟨x3, h4, h⟩ := zbind_elim h
  have Jh4 : zG X u 37 [(0, .ref (zad X.1 39)), (1, .int x3)] [] := by
      refine r_iload_n hX dX6_fines_37 1 rfl rfl ?_
      refine r_aload_n hX dX6_fines_38 0 rfl rfl ?_
      refine r_getR hX dX6_fines_39 f_RX6_9 zr_39_0 ?_
      refine r_iconst (v := 3) hX dX6_fines_42 (by decide) ?_
      refine r_ialdC (j := 3) hX dX6_fines_43 rfl (by decide +kernel) ?_
      refine r_imul hX dX6_fines_44 ?_
      obtain rfl := Option.some.inj h
      exact r_iret hX hR dX6_fines_45
  clear h
  refine zit_walk (P := fun s0 : Int32 × Int32 => zG X u 4 [(0, .ref (zad X.1 39)), (1, .int (s0.1)), (2, .int (s0.2))] []) ?_ zF _ h4
  clear h4
  intro s0 y0 h0b hin0 hout0
  obtain ⟨x1, x2⟩ := s0
  have h0b : m_X6_fines_b0 u x1 x2 = some y0 := h0b
  unfold m_X6_fines_b0 at h0b
  show zG X u 4 [(0, .ref (zad X.1 39)), (1, .int x1), (2, .int x2)] []
  refine r_iload_n hX dX6_fines_4 2 rfl rfl ?_
  refine r_aload_n hX dX6_fines_5 0 rfl rfl ?_
  refine r_getR hX dX6_fines_6 f_RX6_9 zr_39_0 ?_
  refine r_iconst (v := 0) hX dX6_fines_9 (by decide) ?_
  refine r_ialdC (j := 0) hX dX6_fines_10 rfl (by decide +kernel) ?_
  refine r_icmp_ge (tgt := 37) hX dX6_fines_11 (by decide) (fun c5 => ?_) (fun c5 => ?_)
  · have h0b := (if_pos c5).symm.trans h0b
    refine r_sub [0, 1] (L' := [(0, .ref (zad X.1 39)), (1, .int x1)]) rfl ?_
    have h0b := hout0 _ (Option.some.inj h0b).symm
    obtain rfl := h0b
    exact Jh4
  · have h0b := (if_neg c5).symm.trans h0b
    refine r_iload_n hX dX6_fines_14 1 rfl rfl ?_
    refine r_aload_n hX dX6_fines_15 0 rfl rfl ?_
    refine r_iload_n hX dX6_fines_16 2 rfl rfl ?_
    refine r_bipush (v := 6) hX dX6_fines_17 (by decide) ?_
    obtain ⟨x6, e7, h0b⟩ := zbind_elim h0b
    refine r_callV (As := [.int x2, .int 6]) (rest := [.int x1]) (st1 := [.int x6, .int x1]) hX dX6_fines_19 lv_RX6_92 (c_X6_bodyIs x2 6  u _ e7) (by decide) rfl rfl (zRecv.of (q := 39) (ci := 6) rfl rfl) rfl (Nat.le_of_ble_eq_true rfl) rfl ?_
    refine r_aload_n hX dX6_fines_22 0 rfl rfl ?_
    refine r_iload_n hX dX6_fines_23 2 rfl rfl ?_
    refine r_iconst (v := 5) hX dX6_fines_24 (by decide) ?_
    obtain ⟨x8, e9, h0b⟩ := zbind_elim h0b
    refine r_callV (As := [.int x2, .int 5]) (rest := [.int x6, .int x1]) (st1 := [.int x8, .int x6, .int x1]) hX dX6_fines_25 lv_RX6_92 (c_X6_bodyIs x2 5  u _ e9) (by decide) rfl rfl (zRecv.of (q := 39) (ci := 6) rfl rfl) rfl (Nat.le_of_ble_eq_true rfl) rfl ?_
    refine r_imul hX dX6_fines_28 ?_
    refine r_iadd hX dX6_fines_29 ?_
    refine r_istore_n (y := (x1 + (x6 * x8))) (L' := [(1, .int (x1 + (x6 * x8))), (0, .ref (zad X.1 39)), (2, .int x2)]) hX dX6_fines_30 rfl (by decide) rfl rfl ?_
    refine r_iinc (v := (x2 + 1)) (L' := [(2, .int (x2 + 1)), (1, .int (x1 + (x6 * x8))), (0, .ref (zad X.1 39))]) hX dX6_fines_31 (by decide) 2 rfl rfl rfl ?_
    refine r_goto (tgt := 4) hX dX6_fines_34 (by decide) ?_
    refine r_sub [2, 1, 0] (L' := [(0, .ref (zad X.1 39)), (1, .int (x1 + (x6 * x8))), (2, .int (x2 + 1))]) rfl ?_
    exact hin0 _ (Option.some.inj h0b).symm
