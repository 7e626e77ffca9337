/-! MODELS AND CONTRACTS, by program (wip/whole/gen_all.py): J0_charAt_5068e, X3_isWord, X0_kindTold, X3_moveOn, X3_numberWithin, X0_takeNumber, X0_readMeasures, X3_isSign, X0_readBribe -/
theorem dJ0_charAt_5068e_0 : decode cJ0_charAt_5068e 0 = .ok (.aload_n 0, 1) := by decide +kernel
theorem dJ0_charAt_5068e_1 : decode cJ0_charAt_5068e 1 = .ok (.invokevirtual 492, 3) := by decide +kernel
theorem dJ0_charAt_5068e_4 : decode cJ0_charAt_5068e 4 = .ok (.ifCond .eq 12, 3) := by decide +kernel
theorem dJ0_charAt_5068e_7 : decode cJ0_charAt_5068e 7 = .ok (.aload_n 0, 1) := by decide +kernel
theorem dJ0_charAt_5068e_8 : decode cJ0_charAt_5068e 8 = .ok (.getfield 9, 3) := by decide +kernel
theorem dJ0_charAt_5068e_11 : decode cJ0_charAt_5068e 11 = .ok (.iload_n 1, 1) := by decide +kernel
theorem dJ0_charAt_5068e_12 : decode cJ0_charAt_5068e 12 = .ok (.invokestatic 495, 3) := by decide +kernel
theorem dJ0_charAt_5068e_15 : decode cJ0_charAt_5068e 15 = .ok (.ireturn, 1) := by decide +kernel
theorem dJ0_charAt_5068e_16 : decode cJ0_charAt_5068e 16 = .ok (.aload_n 0, 1) := by decide +kernel
theorem dJ0_charAt_5068e_17 : decode cJ0_charAt_5068e 17 = .ok (.getfield 9, 3) := by decide +kernel
theorem dJ0_charAt_5068e_20 : decode cJ0_charAt_5068e 20 = .ok (.iload_n 1, 1) := by decide +kernel
theorem dJ0_charAt_5068e_21 : decode cJ0_charAt_5068e 21 = .ok (.invokestatic 498, 3) := by decide +kernel
theorem dJ0_charAt_5068e_24 : decode cJ0_charAt_5068e 24 = .ok (.ireturn, 1) := by decide +kernel
def m_J0_charAt_5068e (j0 : Nat) (a1 : Int32) (u : zM) : Option (Int32) :=
  (if (m_J0_isLatin1_aae02 j0 u) = 0 then
none
else
zbind (m_J1_charAt_3b067 j0 a1) (fun x2 => some (zc16 x2)))
set_option maxHeartbeats 4000000 in
set_option maxRecDepth 100000 in
theorem c_J0_charAt_5068e (j0 : Nat) (a1 : Int32) (hj0 : j0 < 15)  (u : zM) (r : Int32) (h : m_J0_charAt_5068e j0 a1 u = some r) : zCt 4 yJ0_charAt_5068e cJ0_charAt_5068e 2 (some .char) (fun E => [.ref (zaK E j0), .int a1]) u (fun _ => some (.int r)) u := by
  refine zCt.of (by decide +kernel) (fun E => Nat.le_of_ble_eq_true rfl) (fun X hX hR => ?_)
  have hX : zGood X RJ0 cJ0_charAt_5068e 2 4 := hX
  show zG X u 0 [(0, .ref (zaK X.1 j0)), (1, .int a1)] []
  unfold m_J0_charAt_5068e at h
  refine r_aload_n hX dJ0_charAt_5068e_0 0 rfl rfl ?_
  refine r_callV (As := []) (rest := []) (st1 := [.int (m_J0_isLatin1_aae02 j0 u)]) hX dJ0_charAt_5068e_1 lv_RJ0_492 (c_J0_isLatin1_aae02 j0 hj0  u _ rfl) (by decide) rfl rfl (Or.inr ⟨j0, hj0, rfl, rfl⟩) rfl (Nat.le_of_ble_eq_true rfl) rfl ?_
  refine r_if_eq (tgt := 16) hX dJ0_charAt_5068e_4 (by decide) (fun c1 => ?_) (fun c1 => ?_)
  · have h := (if_pos c1).symm.trans h
    refine r_aload_n hX dJ0_charAt_5068e_16 0 rfl rfl ?_
    refine r_strV hX dJ0_charAt_5068e_17 (zT_in 1422 (by decide +kernel) rfl) hj0 ?_
    refine r_iload_n hX dJ0_charAt_5068e_20 1 rfl rfl ?_
    cases h
  · have h := (if_neg c1).symm.trans h
    refine r_aload_n hX dJ0_charAt_5068e_7 0 rfl rfl ?_
    refine r_strV hX dJ0_charAt_5068e_8 (zT_in 1422 (by decide +kernel) rfl) hj0 ?_
    refine r_iload_n hX dJ0_charAt_5068e_11 1 rfl rfl ?_
    obtain ⟨x2, e3, h⟩ := zbind_elim h
    refine r_callS (As := [.ref (X.1.2.2.2.2.1 j0), .int a1]) (rest := []) (st1 := [.int x2]) hX dJ0_charAt_5068e_12 ls_RJ0_495 (c_J1_charAt_3b067 j0 a1 hj0  u _ e3) (by decide) rfl rfl rfl (Nat.le_of_ble_eq_true rfl) rfl ?_
    obtain rfl := Option.some.inj h
    exact r_cret hX hR dJ0_charAt_5068e_15
theorem dX3_isWord_0 : decode cX3_isWord 0 = .ok (.aload_n 0, 1) := by decide +kernel
theorem dX3_isWord_1 : decode cX3_isWord 1 = .ok (.getfield 21, 3) := by decide +kernel
theorem dX3_isWord_4 : decode cX3_isWord 4 = .ok (.aload_n 0, 1) := by decide +kernel
theorem dX3_isWord_5 : decode cX3_isWord 5 = .ok (.getfield 31, 3) := by decide +kernel
theorem dX3_isWord_8 : decode cX3_isWord 8 = .ok (.iaload, 1) := by decide +kernel
theorem dX3_isWord_9 : decode cX3_isWord 9 = .ok (.iconst 1, 1) := by decide +kernel
theorem dX3_isWord_10 : decode cX3_isWord 10 = .ok (.if_icmp .ne 29, 3) := by decide +kernel
theorem dX3_isWord_13 : decode cX3_isWord 13 = .ok (.aload_n 1, 1) := by decide +kernel
theorem dX3_isWord_14 : decode cX3_isWord 14 = .ok (.invokevirtual 46, 3) := by decide +kernel
theorem dX3_isWord_17 : decode cX3_isWord 17 = .ok (.aload_n 0, 1) := by decide +kernel
theorem dX3_isWord_18 : decode cX3_isWord 18 = .ok (.getfield 18, 3) := by decide +kernel
theorem dX3_isWord_21 : decode cX3_isWord 21 = .ok (.aload_n 0, 1) := by decide +kernel
theorem dX3_isWord_22 : decode cX3_isWord 22 = .ok (.getfield 31, 3) := by decide +kernel
theorem dX3_isWord_25 : decode cX3_isWord 25 = .ok (.iaload, 1) := by decide +kernel
theorem dX3_isWord_26 : decode cX3_isWord 26 = .ok (.aload_n 0, 1) := by decide +kernel
theorem dX3_isWord_27 : decode cX3_isWord 27 = .ok (.getfield 15, 3) := by decide +kernel
theorem dX3_isWord_30 : decode cX3_isWord 30 = .ok (.aload_n 0, 1) := by decide +kernel
theorem dX3_isWord_31 : decode cX3_isWord 31 = .ok (.getfield 31, 3) := by decide +kernel
theorem dX3_isWord_34 : decode cX3_isWord 34 = .ok (.iaload, 1) := by decide +kernel
theorem dX3_isWord_35 : decode cX3_isWord 35 = .ok (.isub, 1) := by decide +kernel
theorem dX3_isWord_36 : decode cX3_isWord 36 = .ok (.if_icmp .eq 5, 3) := by decide +kernel
theorem dX3_isWord_39 : decode cX3_isWord 39 = .ok (.iconst 0, 1) := by decide +kernel
theorem dX3_isWord_40 : decode cX3_isWord 40 = .ok (.ireturn, 1) := by decide +kernel
theorem dX3_isWord_41 : decode cX3_isWord 41 = .ok (.iconst 0, 1) := by decide +kernel
theorem dX3_isWord_42 : decode cX3_isWord 42 = .ok (.istore_n 2, 1) := by decide +kernel
theorem dX3_isWord_43 : decode cX3_isWord 43 = .ok (.iload_n 2, 1) := by decide +kernel
theorem dX3_isWord_44 : decode cX3_isWord 44 = .ok (.aload_n 1, 1) := by decide +kernel
theorem dX3_isWord_45 : decode cX3_isWord 45 = .ok (.invokevirtual 46, 3) := by decide +kernel
theorem dX3_isWord_48 : decode cX3_isWord 48 = .ok (.if_icmp .ge 35, 3) := by decide +kernel
theorem dX3_isWord_51 : decode cX3_isWord 51 = .ok (.aload_n 0, 1) := by decide +kernel
theorem dX3_isWord_52 : decode cX3_isWord 52 = .ok (.getfield 9, 3) := by decide +kernel
theorem dX3_isWord_55 : decode cX3_isWord 55 = .ok (.aload_n 0, 1) := by decide +kernel
theorem dX3_isWord_56 : decode cX3_isWord 56 = .ok (.getfield 15, 3) := by decide +kernel
theorem dX3_isWord_59 : decode cX3_isWord 59 = .ok (.aload_n 0, 1) := by decide +kernel
theorem dX3_isWord_60 : decode cX3_isWord 60 = .ok (.getfield 31, 3) := by decide +kernel
theorem dX3_isWord_63 : decode cX3_isWord 63 = .ok (.iaload, 1) := by decide +kernel
theorem dX3_isWord_64 : decode cX3_isWord 64 = .ok (.iload_n 2, 1) := by decide +kernel
theorem dX3_isWord_65 : decode cX3_isWord 65 = .ok (.iadd, 1) := by decide +kernel
theorem dX3_isWord_66 : decode cX3_isWord 66 = .ok (.iaload, 1) := by decide +kernel
theorem dX3_isWord_67 : decode cX3_isWord 67 = .ok (.aload_n 1, 1) := by decide +kernel
theorem dX3_isWord_68 : decode cX3_isWord 68 = .ok (.iload_n 2, 1) := by decide +kernel
theorem dX3_isWord_69 : decode cX3_isWord 69 = .ok (.invokevirtual 51, 3) := by decide +kernel
theorem dX3_isWord_72 : decode cX3_isWord 72 = .ok (.if_icmp .eq 5, 3) := by decide +kernel
theorem dX3_isWord_75 : decode cX3_isWord 75 = .ok (.iconst 0, 1) := by decide +kernel
theorem dX3_isWord_76 : decode cX3_isWord 76 = .ok (.ireturn, 1) := by decide +kernel
theorem dX3_isWord_77 : decode cX3_isWord 77 = .ok (.iinc 2 1, 3) := by decide +kernel
theorem dX3_isWord_80 : decode cX3_isWord 80 = .ok (.goto (-37), 3) := by decide +kernel
theorem dX3_isWord_83 : decode cX3_isWord 83 = .ok (.iconst 1, 1) := by decide +kernel
theorem dX3_isWord_84 : decode cX3_isWord 84 = .ok (.ireturn, 1) := by decide +kernel
def m_X3_isWord_b0 (j0 : Nat) (u : zM) (x9 : Int32) : Option ((Int32) ⊕ (Int32)) :=
  (if (m_J0_length_8abf5 j0 u) ≤ x9 then
some (.inr 1)
else
zbind (zld u 22 121 (u 20 6)) (fun x11 => zbind (zld u 21 120 (x11 + x9)) (fun x13 => zbind (m_J0_charAt_5068e j0 x9 u) (fun x15 => (if x13 = x15 then
some (.inl (x9 + 1))
else
some (.inr 0))))))
def m_X3_isWord (j0 : Nat) (u : zM) : Option (Int32) :=
  zbind (zld u 24 121 (u 20 6)) (fun x1 => (if x1 = 1 then
zbind (zld u 23 121 (u 20 6)) (fun x4 => zbind (zld u 22 121 (u 20 6)) (fun x6 => (if (m_J0_length_8abf5 j0 u) = (x4 - x6) then
zit zF (fun s : Int32 => m_X3_isWord_b0 j0 u s) 0
else
some 0)))
else
some 0))
set_option maxHeartbeats 4000000 in
set_option maxRecDepth 100000 in
theorem c_X3_isWord (j0 : Nat) (hj0 : j0 < 15)  (u : zM) (r : Int32) (h : m_X3_isWord j0 u = some r) : zCt 5 yX3_isWord cX3_isWord 3 (some .boolean) (fun E => [.ref (zad E 20), .ref (zaK E j0)]) u (fun _ => some (.int r)) u := by
  refine zCt.of (by decide +kernel) (fun E => Nat.le_of_ble_eq_true rfl) (fun X hX hR => ?_)
  have hX : zGood X RX3 cX3_isWord 3 5 := hX
  show zG X u 0 [(0, .ref (zad X.1 20)), (1, .ref (zaK X.1 j0))] []
  unfold m_X3_isWord at h
  refine r_aload_n hX dX3_isWord_0 0 rfl rfl ?_
  refine r_getR hX dX3_isWord_1 f_RX3_21 zr_20_3 ?_
  refine r_aload_n hX dX3_isWord_4 0 rfl rfl ?_
  refine r_getI hX dX3_isWord_5 f_RX3_31 zi_20_6 ?_
  obtain ⟨x1, e2, h⟩ := zbind_elim h
  refine r_iald hX dX3_isWord_8 rfl e2 ?_
  refine r_iconst (v := 1) hX dX3_isWord_9 (by decide) ?_
  refine r_icmp_ne (tgt := 39) hX dX3_isWord_10 (by decide) (fun c3 => ?_) (fun c3 => ?_)
  · have h := (if_neg c3).symm.trans h
    refine r_iconst (v := 0) hX dX3_isWord_39 (by decide) ?_
    obtain rfl := Option.some.inj h
    exact r_zret0 hX hR dX3_isWord_40
  · have h := (if_pos c3).symm.trans h
    refine r_aload_n hX dX3_isWord_13 1 rfl rfl ?_
    refine r_callV (As := []) (rest := []) (st1 := [.int (m_J0_length_8abf5 j0 u)]) hX dX3_isWord_14 lv_RX3_46 (c_J0_length_8abf5 j0 hj0  u _ rfl) (by decide) rfl rfl (Or.inr ⟨j0, hj0, rfl, rfl⟩) rfl (Nat.le_of_ble_eq_true rfl) rfl ?_
    refine r_aload_n hX dX3_isWord_17 0 rfl rfl ?_
    refine r_getR hX dX3_isWord_18 f_RX3_18 zr_20_2 ?_
    refine r_aload_n hX dX3_isWord_21 0 rfl rfl ?_
    refine r_getI hX dX3_isWord_22 f_RX3_31 zi_20_6 ?_
    obtain ⟨x4, e5, h⟩ := zbind_elim h
    refine r_iald hX dX3_isWord_25 rfl e5 ?_
    refine r_aload_n hX dX3_isWord_26 0 rfl rfl ?_
    refine r_getR hX dX3_isWord_27 f_RX3_15 zr_20_1 ?_
    refine r_aload_n hX dX3_isWord_30 0 rfl rfl ?_
    refine r_getI hX dX3_isWord_31 f_RX3_31 zi_20_6 ?_
    obtain ⟨x6, e7, h⟩ := zbind_elim h
    refine r_iald hX dX3_isWord_34 rfl e7 ?_
    refine r_isub hX dX3_isWord_35 ?_
    refine r_icmp_eq (tgt := 41) hX dX3_isWord_36 (by decide) (fun c8 => ?_) (fun c8 => ?_)
    · have h := (if_pos c8).symm.trans h
      refine r_iconst (v := 0) hX dX3_isWord_41 (by decide) ?_
      refine r_istore_n (y := 0) (L' := [(2, .int 0), (0, .ref (zad X.1 20)), (1, .ref (zaK X.1 j0))]) hX dX3_isWord_42 rfl (by decide) rfl rfl ?_
      refine r_sub [1, 2, 0] (L' := [(0, .ref (zad X.1 20)), (1, .ref (zaK X.1 j0)), (2, .int 0)]) rfl ?_
      refine zit_walk (P := fun s0 : Int32 => zG X u 43 [(0, .ref (zad X.1 20)), (1, .ref (zaK X.1 j0)), (2, .int s0)] []) ?_ zF _ h
      clear h
      intro s0 y0 h0b hin0 hout0
      obtain ⟨x9, es0⟩ : ∃ z, z = s0 := ⟨_, rfl⟩
      subst es0
      have h0b : m_X3_isWord_b0 j0 u x9 = some y0 := h0b
      unfold m_X3_isWord_b0 at h0b
      show zG X u 43 [(0, .ref (zad X.1 20)), (1, .ref (zaK X.1 j0)), (2, .int x9)] []
      refine r_iload_n hX dX3_isWord_43 2 rfl rfl ?_
      refine r_aload_n hX dX3_isWord_44 1 rfl rfl ?_
      refine r_callV (As := []) (rest := [.int x9]) (st1 := [.int (m_J0_length_8abf5 j0 u), .int x9]) hX dX3_isWord_45 lv_RX3_46 (c_J0_length_8abf5 j0 hj0  u _ rfl) (by decide) rfl rfl (Or.inr ⟨j0, hj0, rfl, rfl⟩) rfl (Nat.le_of_ble_eq_true rfl) rfl ?_
      refine r_icmp_ge (tgt := 83) hX dX3_isWord_48 (by decide) (fun c10 => ?_) (fun c10 => ?_)
      · have h0b := (if_pos c10).symm.trans h0b
        refine r_iconst (v := 1) hX dX3_isWord_83 (by decide) ?_
        have h0b := hout0 _ (Option.some.inj h0b).symm
        obtain rfl := h0b
        exact r_zret1 hX hR dX3_isWord_84
      · have h0b := (if_neg c10).symm.trans h0b
        refine r_aload_n hX dX3_isWord_51 0 rfl rfl ?_
        refine r_getR hX dX3_isWord_52 f_RX3_9 zr_20_0 ?_
        refine r_aload_n hX dX3_isWord_55 0 rfl rfl ?_
        refine r_getR hX dX3_isWord_56 f_RX3_15 zr_20_1 ?_
        refine r_aload_n hX dX3_isWord_59 0 rfl rfl ?_
        refine r_getI hX dX3_isWord_60 f_RX3_31 zi_20_6 ?_
        obtain ⟨x11, e12, h0b⟩ := zbind_elim h0b
        refine r_iald hX dX3_isWord_63 rfl e12 ?_
        refine r_iload_n hX dX3_isWord_64 2 rfl rfl ?_
        refine r_iadd hX dX3_isWord_65 ?_
        obtain ⟨x13, e14, h0b⟩ := zbind_elim h0b
        refine r_iald hX dX3_isWord_66 rfl e14 ?_
        refine r_aload_n hX dX3_isWord_67 1 rfl rfl ?_
        refine r_iload_n hX dX3_isWord_68 2 rfl rfl ?_
        obtain ⟨x15, e16, h0b⟩ := zbind_elim h0b
        refine r_callV (As := [.int x9]) (rest := [.int x13]) (st1 := [.int x15, .int x13]) hX dX3_isWord_69 lv_RX3_51 (c_J0_charAt_5068e j0 x9 hj0  u _ e16) (by decide) rfl rfl (Or.inr ⟨j0, hj0, rfl, rfl⟩) rfl (Nat.le_of_ble_eq_true rfl) rfl ?_
        refine r_icmp_eq (tgt := 77) hX dX3_isWord_72 (by decide) (fun c17 => ?_) (fun c17 => ?_)
        · have h0b := (if_pos c17).symm.trans h0b
          refine r_iinc (v := (x9 + 1)) (L' := [(2, .int (x9 + 1)), (0, .ref (zad X.1 20)), (1, .ref (zaK X.1 j0))]) hX dX3_isWord_77 (by decide) 2 rfl rfl rfl ?_
          refine r_goto (tgt := 43) hX dX3_isWord_80 (by decide) ?_
          refine r_sub [1, 2, 0] (L' := [(0, .ref (zad X.1 20)), (1, .ref (zaK X.1 j0)), (2, .int (x9 + 1))]) rfl ?_
          exact hin0 _ (Option.some.inj h0b).symm
        · have h0b := (if_neg c17).symm.trans h0b
          refine r_iconst (v := 0) hX dX3_isWord_75 (by decide) ?_
          have h0b := hout0 _ (Option.some.inj h0b).symm
          obtain rfl := h0b
          exact r_zret0 hX hR dX3_isWord_76
    · have h := (if_neg c8).symm.trans h
      refine r_iconst (v := 0) hX dX3_isWord_39 (by decide) ?_
      obtain rfl := Option.some.inj h
      exact r_zret0 hX hR dX3_isWord_40
theorem dX0_kindTold_0 : decode cX0_kindTold 0 = .ok (.iconst 0, 1) := by decide +kernel
theorem dX0_kindTold_1 : decode cX0_kindTold 1 = .ok (.istore_n 1, 1) := by decide +kernel
theorem dX0_kindTold_2 : decode cX0_kindTold 2 = .ok (.iload_n 1, 1) := by decide +kernel
theorem dX0_kindTold_3 : decode cX0_kindTold 3 = .ok (.bipush 6, 2) := by decide +kernel
theorem dX0_kindTold_5 : decode cX0_kindTold 5 = .ok (.if_icmp .gt 22, 3) := by decide +kernel
theorem dX0_kindTold_8 : decode cX0_kindTold 8 = .ok (.aload_n 0, 1) := by decide +kernel
theorem dX0_kindTold_9 : decode cX0_kindTold 9 = .ok (.iload_n 1, 1) := by decide +kernel
theorem dX0_kindTold_10 : decode cX0_kindTold 10 = .ok (.invokestatic 81, 3) := by decide +kernel
theorem dX0_kindTold_13 : decode cX0_kindTold 13 = .ok (.invokevirtual 64, 3) := by decide +kernel
theorem dX0_kindTold_16 : decode cX0_kindTold 16 = .ok (.ifCond .eq 5, 3) := by decide +kernel
theorem dX0_kindTold_19 : decode cX0_kindTold 19 = .ok (.iload_n 1, 1) := by decide +kernel
theorem dX0_kindTold_20 : decode cX0_kindTold 20 = .ok (.ireturn, 1) := by decide +kernel
theorem dX0_kindTold_21 : decode cX0_kindTold 21 = .ok (.iinc 1 1, 3) := by decide +kernel
theorem dX0_kindTold_24 : decode cX0_kindTold 24 = .ok (.goto (-22), 3) := by decide +kernel
theorem dX0_kindTold_27 : decode cX0_kindTold 27 = .ok (.iconst (-1), 1) := by decide +kernel
theorem dX0_kindTold_28 : decode cX0_kindTold 28 = .ok (.ireturn, 1) := by decide +kernel
def m_X0_kindTold_b0 (u : zM) (x1 : Int32) : Option ((Int32) ⊕ (Int32)) :=
  (if 6 < x1 then
some (.inr (-1))
else
zlet (m_X0_nameOf x1) (fun k3 => zbind (m_X3_isWord k3 u) (fun x5 => (if x5 = 0 then
some (.inl (x1 + 1))
else
some (.inr x1)))))
def m_X0_kindTold  (u : zM) : Option (Int32) :=
  zit zF (fun s : Int32 => m_X0_kindTold_b0 u s) 0
set_option maxHeartbeats 4000000 in
set_option maxRecDepth 100000 in
theorem c_X0_kindTold    (u : zM) (r : Int32) (h : m_X0_kindTold u = some r) : zCt 6 yX0_kindTold cX0_kindTold 2 (some .int) (fun E => [.ref (zad E 20)]) u (fun _ => some (.int r)) u := by
  refine zCt.of (by decide +kernel) (fun E => Nat.le_of_ble_eq_true rfl) (fun X hX hR => ?_)
  have hX : zGood X RX0 cX0_kindTold 2 6 := hX
  show zG X u 0 [(0, .ref (zad X.1 20))] []
  unfold m_X0_kindTold at h
  refine r_iconst (v := 0) hX dX0_kindTold_0 (by decide) ?_
  refine r_istore_n (y := 0) (L' := [(1, .int 0), (0, .ref (zad X.1 20))]) hX dX0_kindTold_1 rfl (by decide) rfl rfl ?_
  refine r_sub [1, 0] (L' := [(0, .ref (zad X.1 20)), (1, .int 0)]) rfl ?_
  refine zit_walk (P := fun s0 : Int32 => zG X u 2 [(0, .ref (zad X.1 20)), (1, .int s0)] []) ?_ zF _ h
  clear h
  intro s0 y0 h0b hin0 hout0
  obtain ⟨x1, es0⟩ : ∃ z, z = s0 := ⟨_, rfl⟩
  subst es0
  have h0b : m_X0_kindTold_b0 u x1 = some y0 := h0b
  unfold m_X0_kindTold_b0 at h0b
  show zG X u 2 [(0, .ref (zad X.1 20)), (1, .int x1)] []
  refine r_iload_n hX dX0_kindTold_2 1 rfl rfl ?_
  refine r_bipush (v := 6) hX dX0_kindTold_3 (by decide) ?_
  refine r_icmp_gt (tgt := 27) hX dX0_kindTold_5 (by decide) (fun c2 => ?_) (fun c2 => ?_)
  · have h0b := (if_pos c2).symm.trans h0b
    refine r_iconst (v := (-1)) hX dX0_kindTold_27 (by decide) ?_
    have h0b := hout0 _ (Option.some.inj h0b).symm
    obtain rfl := h0b
    exact r_iret hX hR dX0_kindTold_28
  · have h0b := (if_neg c2).symm.trans h0b
    refine r_aload_n hX dX0_kindTold_8 0 rfl rfl ?_
    refine r_iload_n hX dX0_kindTold_9 1 rfl rfl ?_
    obtain ⟨k3, e4, h0b⟩ := zlet_elim h0b
    refine r_callS (As := [.int x1]) (rest := [.ref (zad X.1 20)]) (st1 := [.ref (zaK X.1 k3), .ref (zad X.1 20)]) hX dX0_kindTold_10 ls_RX0_81 (c_X0_nameOf x1  u _ e4) (by decide) rfl rfl rfl (Nat.le_of_ble_eq_true rfl) rfl ?_
    have hk3 : k3 < 15 := b_X0_nameOf x1 _ e4
    obtain ⟨x5, e6, h0b⟩ := zbind_elim h0b
    refine r_callV (As := [.ref (zaK X.1 k3)]) (rest := []) (st1 := [.int x5]) hX dX0_kindTold_13 lv_RX0_64 (c_X3_isWord k3 hk3  u _ e6) (by decide) rfl rfl (zRecv.of (q := 20) (ci := 3) rfl rfl) rfl (Nat.le_of_ble_eq_true rfl) rfl ?_
    refine r_if_eq (tgt := 21) hX dX0_kindTold_16 (by decide) (fun c7 => ?_) (fun c7 => ?_)
    · have h0b := (if_pos c7).symm.trans h0b
      refine r_iinc (v := (x1 + 1)) (L' := [(1, .int (x1 + 1)), (0, .ref (zad X.1 20))]) hX dX0_kindTold_21 (by decide) 1 rfl rfl rfl ?_
      refine r_goto (tgt := 2) hX dX0_kindTold_24 (by decide) ?_
      refine r_sub [1, 0] (L' := [(0, .ref (zad X.1 20)), (1, .int (x1 + 1))]) rfl ?_
      exact hin0 _ (Option.some.inj h0b).symm
    · have h0b := (if_neg c7).symm.trans h0b
      refine r_iload_n hX dX0_kindTold_19 1 rfl rfl ?_
      have h0b := hout0 _ (Option.some.inj h0b).symm
      obtain rfl := h0b
      exact r_iret hX hR dX0_kindTold_20
theorem dX3_moveOn_0 : decode cX3_moveOn 0 = .ok (.aload_n 0, 1) := by decide +kernel
theorem dX3_moveOn_1 : decode cX3_moveOn 1 = .ok (.getfield 31, 3) := by decide +kernel
theorem dX3_moveOn_4 : decode cX3_moveOn 4 = .ok (.aload_n 0, 1) := by decide +kernel
theorem dX3_moveOn_5 : decode cX3_moveOn 5 = .ok (.getfield 28, 3) := by decide +kernel
theorem dX3_moveOn_8 : decode cX3_moveOn 8 = .ok (.if_icmp .ge 13, 3) := by decide +kernel
theorem dX3_moveOn_11 : decode cX3_moveOn 11 = .ok (.aload_n 0, 1) := by decide +kernel
theorem dX3_moveOn_12 : decode cX3_moveOn 12 = .ok (.dup, 1) := by decide +kernel
theorem dX3_moveOn_13 : decode cX3_moveOn 13 = .ok (.getfield 31, 3) := by decide +kernel
theorem dX3_moveOn_16 : decode cX3_moveOn 16 = .ok (.iconst 1, 1) := by decide +kernel
theorem dX3_moveOn_17 : decode cX3_moveOn 17 = .ok (.iadd, 1) := by decide +kernel
theorem dX3_moveOn_18 : decode cX3_moveOn 18 = .ok (.putfield 31, 3) := by decide +kernel
theorem dX3_moveOn_21 : decode cX3_moveOn 21 = .ok (.return_, 1) := by decide +kernel
def m_X3_moveOn  (u : zM) : zM :=
  (if (u 20 5) ≤ (u 20 6) then
u
else
zlet (zst u 20 6 ((u 20 6) + 1)) (fun u2 => u2))
set_option maxHeartbeats 4000000 in
set_option maxRecDepth 100000 in
theorem c_X3_moveOn    (u : zM) (u' : zM) (h : m_X3_moveOn u = u') : zCt 1 yX3_moveOn cX3_moveOn 1 none (fun E => [.ref (zad E 20)]) u (fun _ => none) u' := by
  refine zCt.of (by decide +kernel) (fun E => Nat.le_of_ble_eq_true rfl) (fun X hX hR => ?_)
  have hX : zGood X RX3 cX3_moveOn 1 1 := hX
  show zG X u 0 [(0, .ref (zad X.1 20))] []
  unfold m_X3_moveOn at h
  refine r_aload_n hX dX3_moveOn_0 0 rfl rfl ?_
  refine r_getI hX dX3_moveOn_1 f_RX3_31 zi_20_6 ?_
  refine r_aload_n hX dX3_moveOn_4 0 rfl rfl ?_
  refine r_getI hX dX3_moveOn_5 f_RX3_28 zi_20_5 ?_
  refine r_icmp_ge (tgt := 21) hX dX3_moveOn_8 (by decide) (fun c1 => ?_) (fun c1 => ?_)
  · have h := (if_pos c1).symm.trans h
    obtain rfl := h
    exact r_vret hX hR dX3_moveOn_21
  · have h := (if_neg c1).symm.trans h
    refine r_aload_n hX dX3_moveOn_11 0 rfl rfl ?_
    refine r_dup hX dX3_moveOn_12 rfl ?_
    refine r_getI hX dX3_moveOn_13 f_RX3_31 zi_20_6 ?_
    refine r_iconst (v := 1) hX dX3_moveOn_16 (by decide) ?_
    refine r_iadd hX dX3_moveOn_17 ?_
    obtain ⟨u2, e3, h⟩ := zlet_elim h
    refine r_putI hX dX3_moveOn_18 f_RX3_31 p_3_6 zi_20_6 ?_
    rw [e3]
    obtain rfl := h
    exact r_vret hX hR dX3_moveOn_21
theorem dX3_numberWithin_0 : decode cX3_numberWithin 0 = .ok (.aload_n 0, 1) := by decide +kernel
theorem dX3_numberWithin_1 : decode cX3_numberWithin 1 = .ok (.getfield 21, 3) := by decide +kernel
theorem dX3_numberWithin_4 : decode cX3_numberWithin 4 = .ok (.aload_n 0, 1) := by decide +kernel
theorem dX3_numberWithin_5 : decode cX3_numberWithin 5 = .ok (.getfield 31, 3) := by decide +kernel
theorem dX3_numberWithin_8 : decode cX3_numberWithin 8 = .ok (.iaload, 1) := by decide +kernel
theorem dX3_numberWithin_9 : decode cX3_numberWithin 9 = .ok (.iconst 2, 1) := by decide +kernel
theorem dX3_numberWithin_10 : decode cX3_numberWithin 10 = .ok (.if_icmp .eq 5, 3) := by decide +kernel
theorem dX3_numberWithin_13 : decode cX3_numberWithin 13 = .ok (.iconst (-1), 1) := by decide +kernel
theorem dX3_numberWithin_14 : decode cX3_numberWithin 14 = .ok (.ireturn, 1) := by decide +kernel
theorem dX3_numberWithin_15 : decode cX3_numberWithin 15 = .ok (.iconst 0, 1) := by decide +kernel
theorem dX3_numberWithin_16 : decode cX3_numberWithin 16 = .ok (.istore_n 3, 1) := by decide +kernel
theorem dX3_numberWithin_17 : decode cX3_numberWithin 17 = .ok (.aload_n 0, 1) := by decide +kernel
theorem dX3_numberWithin_18 : decode cX3_numberWithin 18 = .ok (.getfield 15, 3) := by decide +kernel
theorem dX3_numberWithin_21 : decode cX3_numberWithin 21 = .ok (.aload_n 0, 1) := by decide +kernel
theorem dX3_numberWithin_22 : decode cX3_numberWithin 22 = .ok (.getfield 31, 3) := by decide +kernel
theorem dX3_numberWithin_25 : decode cX3_numberWithin 25 = .ok (.iaload, 1) := by decide +kernel
theorem dX3_numberWithin_26 : decode cX3_numberWithin 26 = .ok (.istore 4, 2) := by decide +kernel
theorem dX3_numberWithin_28 : decode cX3_numberWithin 28 = .ok (.iload 4, 2) := by decide +kernel
theorem dX3_numberWithin_30 : decode cX3_numberWithin 30 = .ok (.aload_n 0, 1) := by decide +kernel
theorem dX3_numberWithin_31 : decode cX3_numberWithin 31 = .ok (.getfield 18, 3) := by decide +kernel
theorem dX3_numberWithin_34 : decode cX3_numberWithin 34 = .ok (.aload_n 0, 1) := by decide +kernel
theorem dX3_numberWithin_35 : decode cX3_numberWithin 35 = .ok (.getfield 31, 3) := by decide +kernel
theorem dX3_numberWithin_38 : decode cX3_numberWithin 38 = .ok (.iaload, 1) := by decide +kernel
theorem dX3_numberWithin_39 : decode cX3_numberWithin 39 = .ok (.if_icmp .ge 31, 3) := by decide +kernel
theorem dX3_numberWithin_42 : decode cX3_numberWithin 42 = .ok (.sipush 1000, 3) := by decide +kernel
theorem dX3_numberWithin_45 : decode cX3_numberWithin 45 = .ok (.iload_n 3, 1) := by decide +kernel
theorem dX3_numberWithin_46 : decode cX3_numberWithin 46 = .ok (.bipush 10, 2) := by decide +kernel
theorem dX3_numberWithin_48 : decode cX3_numberWithin 48 = .ok (.imul, 1) := by decide +kernel
theorem dX3_numberWithin_49 : decode cX3_numberWithin 49 = .ok (.aload_n 0, 1) := by decide +kernel
theorem dX3_numberWithin_50 : decode cX3_numberWithin 50 = .ok (.getfield 9, 3) := by decide +kernel
theorem dX3_numberWithin_53 : decode cX3_numberWithin 53 = .ok (.iload 4, 2) := by decide +kernel
theorem dX3_numberWithin_55 : decode cX3_numberWithin 55 = .ok (.iaload, 1) := by decide +kernel
theorem dX3_numberWithin_56 : decode cX3_numberWithin 56 = .ok (.iadd, 1) := by decide +kernel
theorem dX3_numberWithin_57 : decode cX3_numberWithin 57 = .ok (.bipush 48, 2) := by decide +kernel
theorem dX3_numberWithin_59 : decode cX3_numberWithin 59 = .ok (.isub, 1) := by decide +kernel
theorem dX3_numberWithin_60 : decode cX3_numberWithin 60 = .ok (.invokestatic 55, 3) := by decide +kernel
theorem dX3_numberWithin_63 : decode cX3_numberWithin 63 = .ok (.istore_n 3, 1) := by decide +kernel
theorem dX3_numberWithin_64 : decode cX3_numberWithin 64 = .ok (.iinc 4 1, 3) := by decide +kernel
theorem dX3_numberWithin_67 : decode cX3_numberWithin 67 = .ok (.goto (-39), 3) := by decide +kernel
theorem dX3_numberWithin_70 : decode cX3_numberWithin 70 = .ok (.iload_n 3, 1) := by decide +kernel
theorem dX3_numberWithin_71 : decode cX3_numberWithin 71 = .ok (.iload_n 1, 1) := by decide +kernel
theorem dX3_numberWithin_72 : decode cX3_numberWithin 72 = .ok (.iload_n 2, 1) := by decide +kernel
theorem dX3_numberWithin_73 : decode cX3_numberWithin 73 = .ok (.invokestatic 42, 3) := by decide +kernel
theorem dX3_numberWithin_76 : decode cX3_numberWithin 76 = .ok (.ifCond .eq 7, 3) := by decide +kernel
theorem dX3_numberWithin_79 : decode cX3_numberWithin 79 = .ok (.iload_n 3, 1) := by decide +kernel
theorem dX3_numberWithin_80 : decode cX3_numberWithin 80 = .ok (.goto 4, 3) := by decide +kernel
theorem dX3_numberWithin_83 : decode cX3_numberWithin 83 = .ok (.iconst (-1), 1) := by decide +kernel
theorem dX3_numberWithin_84 : decode cX3_numberWithin 84 = .ok (.ireturn, 1) := by decide +kernel
def m_X3_numberWithin_b0 (u : zM) (x6 : Int32) (x7 : Int32) : Option ((Int32 × Int32) ⊕ (Int32)) :=
  zbind (zld u 23 121 (u 20 6)) (fun x10 => (if x10 ≤ x7 then
some (.inr x6)
else
zbind (zld u 21 120 x7) (fun x13 => some (.inl ((zmin 1000 (((x6 * 10) + x13) - 48)), (x7 + 1))))))
def m_X3_numberWithin (a1 : Int32) (a2 : Int32) (u : zM) : Option (Int32) :=
  zbind (zld u 24 121 (u 20 6)) (fun x1 => (if x1 = 2 then
zbind (zld u 22 121 (u 20 6)) (fun x4 => zbind (zit zF (fun s : Int32 × Int32 => m_X3_numberWithin_b0 u s.1 s.2) (0, x4)) (fun x8 =>
(if (m_X5_within x8 a1 a2) = 0 then
some (-1)
else
some x8)))
else
some (-1)))
set_option maxHeartbeats 4000000 in
set_option maxRecDepth 100000 in
theorem c_X3_numberWithin (a1 : Int32) (a2 : Int32)   (u : zM) (r : Int32) (h : m_X3_numberWithin a1 a2 u = some r) : zCt 2 yX3_numberWithin cX3_numberWithin 5 (some .int) (fun E => [.ref (zad E 20), .int a1, .int a2]) u (fun _ => some (.int r)) u := by
  refine zCt.of (by decide +kernel) (fun E => Nat.le_of_ble_eq_true rfl) (fun X hX hR => ?_)
  have hX : zGood X RX3 cX3_numberWithin 5 2 := hX
  show zG X u 0 [(0, .ref (zad X.1 20)), (1, .int a1), (2, .int a2)] []
  unfold m_X3_numberWithin at h
  refine r_aload_n hX dX3_numberWithin_0 0 rfl rfl ?_
  refine r_getR hX dX3_numberWithin_1 f_RX3_21 zr_20_3 ?_
  refine r_aload_n hX dX3_numberWithin_4 0 rfl rfl ?_
  refine r_getI hX dX3_numberWithin_5 f_RX3_31 zi_20_6 ?_
  obtain ⟨x1, e2, h⟩ := zbind_elim h
  refine r_iald hX dX3_numberWithin_8 rfl e2 ?_
  refine r_iconst (v := 2) hX dX3_numberWithin_9 (by decide) ?_
  refine r_icmp_eq (tgt := 15) hX dX3_numberWithin_10 (by decide) (fun c3 => ?_) (fun c3 => ?_)
  · have h := (if_pos c3).symm.trans h
    refine r_iconst (v := 0) hX dX3_numberWithin_15 (by decide) ?_
    refine r_istore_n (y := 0) (L' := [(3, .int 0), (0, .ref (zad X.1 20)), (1, .int a1), (2, .int a2)]) hX dX3_numberWithin_16 rfl (by decide) rfl rfl ?_
    refine r_aload_n hX dX3_numberWithin_17 1 rfl rfl ?_
    refine r_getR hX dX3_numberWithin_18 f_RX3_15 zr_20_1 ?_
    refine r_aload_n hX dX3_numberWithin_21 1 rfl rfl ?_
    refine r_getI hX dX3_numberWithin_22 f_RX3_31 zi_20_6 ?_
    obtain ⟨x4, e5, h⟩ := zbind_elim h
    refine r_iald hX dX3_numberWithin_25 rfl e5 ?_
    refine r_istore (y := x4) (L' := [(4, .int x4), (3, .int 0), (0, .ref (zad X.1 20)), (1, .int a1), (2, .int a2)]) hX dX3_numberWithin_26 (by decide) rfl rfl ?_
    refine r_sub [2, 3, 4, 1, 0] (L' := [(0, .ref (zad X.1 20)), (1, .int a1), (2, .int a2), (3, .int 0), (4, .int x4)]) rfl ?_
    obtain ⟨x8, h9, h⟩ := zbind_elim h
    have Jh9 : zG X u 70 [(1, .int a1), (2, .int a2), (3, .int x8)] [] := by
        refine r_iload_n hX dX3_numberWithin_70 2 rfl rfl ?_
        refine r_iload_n hX dX3_numberWithin_71 0 rfl rfl ?_
        refine r_iload_n hX dX3_numberWithin_72 1 rfl rfl ?_
        refine r_callS (As := [.int x8, .int a1, .int a2]) (rest := []) (st1 := [.int (m_X5_within x8 a1 a2)]) hX dX3_numberWithin_73 ls_RX3_42 (c_X5_within x8 a1 a2  u _ rfl) (by decide) rfl rfl rfl (Nat.le_of_ble_eq_true rfl) rfl ?_
        refine r_if_eq (tgt := 83) hX dX3_numberWithin_76 (by decide) (fun c15 => ?_) (fun c15 => ?_)
        · have h := (if_pos c15).symm.trans h
          refine r_iconst (v := (-1)) hX dX3_numberWithin_83 (by decide) ?_
          obtain rfl := Option.some.inj h
          exact r_iret hX hR dX3_numberWithin_84
        · have h := (if_neg c15).symm.trans h
          refine r_iload_n hX dX3_numberWithin_79 2 rfl rfl ?_
          refine r_goto (tgt := 84) hX dX3_numberWithin_80 (by decide) ?_
          obtain rfl := Option.some.inj h
          exact r_iret hX hR dX3_numberWithin_84
    clear h
    refine zit_walk (P := fun s0 : Int32 × Int32 => zG X u 28 [(0, .ref (zad X.1 20)), (1, .int a1), (2, .int a2), (3, .int (s0.1)), (4, .int (s0.2))] []) ?_ zF _ h9
    clear h9
    intro s0 y0 h0b hin0 hout0
    obtain ⟨x6, x7⟩ := s0
    have h0b : m_X3_numberWithin_b0 u x6 x7 = some y0 := h0b
    unfold m_X3_numberWithin_b0 at h0b
    show zG X u 28 [(0, .ref (zad X.1 20)), (1, .int a1), (2, .int a2), (3, .int x6), (4, .int x7)] []
    refine r_iload hX dX3_numberWithin_28 4 rfl ?_
    refine r_aload_n hX dX3_numberWithin_30 0 rfl rfl ?_
    refine r_getR hX dX3_numberWithin_31 f_RX3_18 zr_20_2 ?_
    refine r_aload_n hX dX3_numberWithin_34 0 rfl rfl ?_
    refine r_getI hX dX3_numberWithin_35 f_RX3_31 zi_20_6 ?_
    obtain ⟨x10, e11, h0b⟩ := zbind_elim h0b
    refine r_iald hX dX3_numberWithin_38 rfl e11 ?_
    refine r_icmp_ge (tgt := 70) hX dX3_numberWithin_39 (by decide) (fun c12 => ?_) (fun c12 => ?_)
    · have h0b := (if_pos c12).symm.trans h0b
      refine r_sub [1, 2, 3] (L' := [(1, .int a1), (2, .int a2), (3, .int x6)]) rfl ?_
      have h0b := hout0 _ (Option.some.inj h0b).symm
      obtain rfl := h0b
      exact Jh9
    · have h0b := (if_neg c12).symm.trans h0b
      refine r_sipush (v := 1000) hX dX3_numberWithin_42 (by decide) ?_
      refine r_iload_n hX dX3_numberWithin_45 3 rfl rfl ?_
      refine r_bipush (v := 10) hX dX3_numberWithin_46 (by decide) ?_
      refine r_imul hX dX3_numberWithin_48 ?_
      refine r_aload_n hX dX3_numberWithin_49 0 rfl rfl ?_
      refine r_getR hX dX3_numberWithin_50 f_RX3_9 zr_20_0 ?_
      refine r_iload hX dX3_numberWithin_53 4 rfl ?_
      obtain ⟨x13, e14, h0b⟩ := zbind_elim h0b
      refine r_iald hX dX3_numberWithin_55 rfl e14 ?_
      refine r_iadd hX dX3_numberWithin_56 ?_
      refine r_bipush (v := 48) hX dX3_numberWithin_57 (by decide) ?_
      refine r_isub hX dX3_numberWithin_59 ?_
      refine r_min hX dX3_numberWithin_60 lm_RX3_55 (by decide) (Nat.le_of_ble_eq_true rfl) ?_
      refine r_istore_n (y := (zmin 1000 (((x6 * 10) + x13) - 48))) (L' := [(3, .int (zmin 1000 (((x6 * 10) + x13) - 48))), (0, .ref (zad X.1 20)), (1, .int a1), (2, .int a2), (4, .int x7)]) hX dX3_numberWithin_63 rfl (by decide) rfl rfl ?_
      refine r_iinc (v := (x7 + 1)) (L' := [(4, .int (x7 + 1)), (3, .int (zmin 1000 (((x6 * 10) + x13) - 48))), (0, .ref (zad X.1 20)), (1, .int a1), (2, .int a2)]) hX dX3_numberWithin_64 (by decide) 4 rfl rfl rfl ?_
      refine r_goto (tgt := 28) hX dX3_numberWithin_67 (by decide) ?_
      refine r_sub [2, 3, 4, 1, 0] (L' := [(0, .ref (zad X.1 20)), (1, .int a1), (2, .int a2), (3, .int (zmin 1000 (((x6 * 10) + x13) - 48))), (4, .int (x7 + 1))]) rfl ?_
      exact hin0 _ (Option.some.inj h0b).symm
  · have h := (if_neg c3).symm.trans h
    refine r_iconst (v := (-1)) hX dX3_numberWithin_13 (by decide) ?_
    obtain rfl := Option.some.inj h
    exact r_iret hX hR dX3_numberWithin_14
theorem dX0_takeNumber_0 : decode cX0_takeNumber 0 = .ok (.aload_n 0, 1) := by decide +kernel
theorem dX0_takeNumber_1 : decode cX0_takeNumber 1 = .ok (.iload_n 1, 1) := by decide +kernel
theorem dX0_takeNumber_2 : decode cX0_takeNumber 2 = .ok (.iload_n 2, 1) := by decide +kernel
theorem dX0_takeNumber_3 : decode cX0_takeNumber 3 = .ok (.invokevirtual 139, 3) := by decide +kernel
theorem dX0_takeNumber_6 : decode cX0_takeNumber 6 = .ok (.istore_n 3, 1) := by decide +kernel
theorem dX0_takeNumber_7 : decode cX0_takeNumber 7 = .ok (.iload_n 3, 1) := by decide +kernel
theorem dX0_takeNumber_8 : decode cX0_takeNumber 8 = .ok (.iconst (-1), 1) := by decide +kernel
theorem dX0_takeNumber_9 : decode cX0_takeNumber 9 = .ok (.if_icmp .eq 7, 3) := by decide +kernel
theorem dX0_takeNumber_12 : decode cX0_takeNumber 12 = .ok (.aload_n 0, 1) := by decide +kernel
theorem dX0_takeNumber_13 : decode cX0_takeNumber 13 = .ok (.invokevirtual 51, 3) := by decide +kernel
theorem dX0_takeNumber_16 : decode cX0_takeNumber 16 = .ok (.iload_n 3, 1) := by decide +kernel
theorem dX0_takeNumber_17 : decode cX0_takeNumber 17 = .ok (.ireturn, 1) := by decide +kernel
def m_X0_takeNumber (a1 : Int32) (a2 : Int32) (u : zM) : Option (Int32 × zM) :=
  zbind (m_X3_numberWithin a1 a2 u) (fun x1 => (if x1 = (-1) then
some (x1, u)
else
zlet (m_X3_moveOn u) (fun u4 => some (x1, u4))))
set_option maxHeartbeats 4000000 in
set_option maxRecDepth 100000 in
theorem c_X0_takeNumber (a1 : Int32) (a2 : Int32)   (u : zM) (r : Int32) (u' : zM) (h : m_X0_takeNumber a1 a2 u = some (r, u')) : zCt 3 yX0_takeNumber cX0_takeNumber 4 (some .int) (fun E => [.ref (zad E 20), .int a1, .int a2]) u (fun _ => some (.int r)) u' := by
  refine zCt.of (by decide +kernel) (fun E => Nat.le_of_ble_eq_true rfl) (fun X hX hR => ?_)
  have hX : zGood X RX0 cX0_takeNumber 4 3 := hX
  show zG X u 0 [(0, .ref (zad X.1 20)), (1, .int a1), (2, .int a2)] []
  unfold m_X0_takeNumber at h
  refine r_aload_n hX dX0_takeNumber_0 0 rfl rfl ?_
  refine r_iload_n hX dX0_takeNumber_1 1 rfl rfl ?_
  refine r_iload_n hX dX0_takeNumber_2 2 rfl rfl ?_
  obtain ⟨x1, e2, h⟩ := zbind_elim h
  refine r_callV (As := [.int a1, .int a2]) (rest := []) (st1 := [.int x1]) hX dX0_takeNumber_3 lv_RX0_139 (c_X3_numberWithin a1 a2  u _ e2) (by decide) rfl rfl (zRecv.of (q := 20) (ci := 3) rfl rfl) rfl (Nat.le_of_ble_eq_true rfl) rfl ?_
  refine r_istore_n (y := x1) (L' := [(3, .int x1), (0, .ref (zad X.1 20)), (1, .int a1), (2, .int a2)]) hX dX0_takeNumber_6 rfl (by decide) rfl rfl ?_
  refine r_iload_n hX dX0_takeNumber_7 0 rfl rfl ?_
  refine r_iconst (v := (-1)) hX dX0_takeNumber_8 (by decide) ?_
  refine r_icmp_eq (tgt := 16) hX dX0_takeNumber_9 (by decide) (fun c3 => ?_) (fun c3 => ?_)
  · have h := (if_pos c3).symm.trans h
    refine r_iload_n hX dX0_takeNumber_16 0 rfl rfl ?_
    obtain ⟨rfl, rfl⟩ := zinj2 (Option.some.inj h)
    exact r_iret hX hR dX0_takeNumber_17
  · have h := (if_neg c3).symm.trans h
    refine r_aload_n hX dX0_takeNumber_12 1 rfl rfl ?_
    obtain ⟨u4, e5, h⟩ := zlet_elim h
    refine r_callV (As := []) (rest := []) (st1 := []) hX dX0_takeNumber_13 lv_RX0_51 (c_X3_moveOn   u _ e5) (by decide) rfl rfl (zRecv.of (q := 20) (ci := 3) rfl rfl) rfl (Nat.le_of_ble_eq_true rfl) rfl ?_
    refine r_iload_n hX dX0_takeNumber_16 0 rfl rfl ?_
    obtain ⟨rfl, rfl⟩ := zinj2 (Option.some.inj h)
    exact r_iret hX hR dX0_takeNumber_17
theorem dX0_readMeasures_0 : decode cX0_readMeasures 0 = .ok (.iconst 0, 1) := by decide +kernel
theorem dX0_readMeasures_1 : decode cX0_readMeasures 1 = .ok (.istore_n 2, 1) := by decide +kernel
theorem dX0_readMeasures_2 : decode cX0_readMeasures 2 = .ok (.iload_n 2, 1) := by decide +kernel
theorem dX0_readMeasures_3 : decode cX0_readMeasures 3 = .ok (.iconst 3, 1) := by decide +kernel
theorem dX0_readMeasures_4 : decode cX0_readMeasures 4 = .ok (.if_icmp .ge 36, 3) := by decide +kernel
theorem dX0_readMeasures_7 : decode cX0_readMeasures 7 = .ok (.aload_n 0, 1) := by decide +kernel
theorem dX0_readMeasures_8 : decode cX0_readMeasures 8 = .ok (.getfield 9, 3) := by decide +kernel
theorem dX0_readMeasures_11 : decode cX0_readMeasures 11 = .ok (.iload_n 2, 1) := by decide +kernel
theorem dX0_readMeasures_12 : decode cX0_readMeasures 12 = .ok (.aload_n 1, 1) := by decide +kernel
theorem dX0_readMeasures_13 : decode cX0_readMeasures 13 = .ok (.bipush 50, 2) := by decide +kernel
theorem dX0_readMeasures_15 : decode cX0_readMeasures 15 = .ok (.sipush 250, 3) := by decide +kernel
theorem dX0_readMeasures_18 : decode cX0_readMeasures 18 = .ok (.invokestatic 117, 3) := by decide +kernel
theorem dX0_readMeasures_21 : decode cX0_readMeasures 21 = .ok (.iastore, 1) := by decide +kernel
theorem dX0_readMeasures_22 : decode cX0_readMeasures 22 = .ok (.aload_n 0, 1) := by decide +kernel
theorem dX0_readMeasures_23 : decode cX0_readMeasures 23 = .ok (.getfield 9, 3) := by decide +kernel
theorem dX0_readMeasures_26 : decode cX0_readMeasures 26 = .ok (.iload_n 2, 1) := by decide +kernel
theorem dX0_readMeasures_27 : decode cX0_readMeasures 27 = .ok (.iaload, 1) := by decide +kernel
theorem dX0_readMeasures_28 : decode cX0_readMeasures 28 = .ok (.iconst (-1), 1) := by decide +kernel
theorem dX0_readMeasures_29 : decode cX0_readMeasures 29 = .ok (.if_icmp .ne 5, 3) := by decide +kernel
theorem dX0_readMeasures_32 : decode cX0_readMeasures 32 = .ok (.iconst 0, 1) := by decide +kernel
theorem dX0_readMeasures_33 : decode cX0_readMeasures 33 = .ok (.ireturn, 1) := by decide +kernel
theorem dX0_readMeasures_34 : decode cX0_readMeasures 34 = .ok (.iinc 2 1, 3) := by decide +kernel
theorem dX0_readMeasures_37 : decode cX0_readMeasures 37 = .ok (.goto (-35), 3) := by decide +kernel
theorem dX0_readMeasures_40 : decode cX0_readMeasures 40 = .ok (.iconst 1, 1) := by decide +kernel
theorem dX0_readMeasures_41 : decode cX0_readMeasures 41 = .ok (.ireturn, 1) := by decide +kernel
def m_X0_readMeasures_b0  (x1 : Int32) (u2 : zM) : Option ((Int32 × zM) ⊕ (Int32 × zM)) :=
  (if 3 ≤ x1 then
some (.inr (1, u2))
else
zbind2 (m_X0_takeNumber 50 250 u2) (fun x4 u5 => zbind (zsv u5 26 3 x1 x4) (fun u7 => zbind (zld u7 26 3 x1) (fun x9 => (if x9 = (-1) then
some (.inr (0, u7))
else
some (.inl ((x1 + 1), u7)))))))
def m_X0_readMeasures  (u : zM) : Option (Int32 × zM) :=
  zit zF (fun s : Int32 × zM => m_X0_readMeasures_b0 s.1 s.2) (0, u)
set_option maxHeartbeats 4000000 in
set_option maxRecDepth 100000 in
theorem c_X0_readMeasures    (u : zM) (r : Int32) (u' : zM) (h : m_X0_readMeasures u = some (r, u')) : zCt 4 yX0_readMeasures cX0_readMeasures 3 (some .boolean) (fun E => [.ref (zad E 25), .ref (zad E 20)]) u (fun _ => some (.int r)) u' := by
  refine zCt.of (by decide +kernel) (fun E => Nat.le_of_ble_eq_true rfl) (fun X hX hR => ?_)
  have hX : zGood X RX0 cX0_readMeasures 3 4 := hX
  show zG X u 0 [(0, .ref (zad X.1 25)), (1, .ref (zad X.1 20))] []
  unfold m_X0_readMeasures at h
  refine r_iconst (v := 0) hX dX0_readMeasures_0 (by decide) ?_
  refine r_istore_n (y := 0) (L' := [(2, .int 0), (0, .ref (zad X.1 25)), (1, .ref (zad X.1 20))]) hX dX0_readMeasures_1 rfl (by decide) rfl rfl ?_
  refine r_sub [1, 2, 0] (L' := [(0, .ref (zad X.1 25)), (1, .ref (zad X.1 20)), (2, .int 0)]) rfl ?_
  refine zit_walk (P := fun s0 : Int32 × zM => zG X s0.2 2 [(0, .ref (zad X.1 25)), (1, .ref (zad X.1 20)), (2, .int (s0.1))] []) ?_ zF _ h
  clear h
  intro s0 y0 h0b hin0 hout0
  obtain ⟨x1, u2⟩ := s0
  have h0b : m_X0_readMeasures_b0 x1 u2 = some y0 := h0b
  unfold m_X0_readMeasures_b0 at h0b
  show zG X u2 2 [(0, .ref (zad X.1 25)), (1, .ref (zad X.1 20)), (2, .int x1)] []
  refine r_iload_n hX dX0_readMeasures_2 2 rfl rfl ?_
  refine r_iconst (v := 3) hX dX0_readMeasures_3 (by decide) ?_
  refine r_icmp_ge (tgt := 40) hX dX0_readMeasures_4 (by decide) (fun c3 => ?_) (fun c3 => ?_)
  · have h0b := (if_pos c3).symm.trans h0b
    refine r_iconst (v := 1) hX dX0_readMeasures_40 (by decide) ?_
    have h0b := hout0 _ (Option.some.inj h0b).symm
    obtain ⟨rfl, rfl⟩ := zinj2 h0b
    exact r_zret1 hX hR dX0_readMeasures_41
  · have h0b := (if_neg c3).symm.trans h0b
    refine r_aload_n hX dX0_readMeasures_7 0 rfl rfl ?_
    refine r_getR hX dX0_readMeasures_8 f_RX0_9 zr_25_0 ?_
    refine r_iload_n hX dX0_readMeasures_11 2 rfl rfl ?_
    refine r_aload_n hX dX0_readMeasures_12 1 rfl rfl ?_
    refine r_bipush (v := 50) hX dX0_readMeasures_13 (by decide) ?_
    refine r_sipush (v := 250) hX dX0_readMeasures_15 (by decide) ?_
    obtain ⟨x4, u5, e6, h0b⟩ := zbind2_elim h0b
    refine r_callS (As := [.ref (zad X.1 20), .int 50, .int 250]) (rest := [.int x1, .ref (zad X.1 26)]) (st1 := [.int x4, .int x1, .ref (zad X.1 26)]) hX dX0_readMeasures_18 ls_RX0_117 (c_X0_takeNumber 50 250  u2 _ _ e6) (by decide) rfl rfl rfl (Nat.le_of_ble_eq_true rfl) rfl ?_
    obtain ⟨u7, e8, h0b⟩ := zbind_elim h0b
    refine r_iast hX dX0_readMeasures_21 rfl e8 ?_
    refine r_aload_n hX dX0_readMeasures_22 0 rfl rfl ?_
    refine r_getR hX dX0_readMeasures_23 f_RX0_9 zr_25_0 ?_
    refine r_iload_n hX dX0_readMeasures_26 2 rfl rfl ?_
    obtain ⟨x9, e10, h0b⟩ := zbind_elim h0b
    refine r_iald hX dX0_readMeasures_27 rfl e10 ?_
    refine r_iconst (v := (-1)) hX dX0_readMeasures_28 (by decide) ?_
    refine r_icmp_ne (tgt := 34) hX dX0_readMeasures_29 (by decide) (fun c11 => ?_) (fun c11 => ?_)
    · have h0b := (if_neg c11).symm.trans h0b
      refine r_iinc (v := (x1 + 1)) (L' := [(2, .int (x1 + 1)), (0, .ref (zad X.1 25)), (1, .ref (zad X.1 20))]) hX dX0_readMeasures_34 (by decide) 2 rfl rfl rfl ?_
      refine r_goto (tgt := 2) hX dX0_readMeasures_37 (by decide) ?_
      refine r_sub [1, 2, 0] (L' := [(0, .ref (zad X.1 25)), (1, .ref (zad X.1 20)), (2, .int (x1 + 1))]) rfl ?_
      exact hin0 _ (Option.some.inj h0b).symm
    · have h0b := (if_pos c11).symm.trans h0b
      refine r_iconst (v := 0) hX dX0_readMeasures_32 (by decide) ?_
      have h0b := hout0 _ (Option.some.inj h0b).symm
      obtain ⟨rfl, rfl⟩ := zinj2 h0b
      exact r_zret0 hX hR dX0_readMeasures_33
theorem dX3_isSign_0 : decode cX3_isSign 0 = .ok (.aload_n 0, 1) := by decide +kernel
theorem dX3_isSign_1 : decode cX3_isSign 1 = .ok (.getfield 21, 3) := by decide +kernel
theorem dX3_isSign_4 : decode cX3_isSign 4 = .ok (.aload_n 0, 1) := by decide +kernel
theorem dX3_isSign_5 : decode cX3_isSign 5 = .ok (.getfield 31, 3) := by decide +kernel
theorem dX3_isSign_8 : decode cX3_isSign 8 = .ok (.iaload, 1) := by decide +kernel
theorem dX3_isSign_9 : decode cX3_isSign 9 = .ok (.iconst 3, 1) := by decide +kernel
theorem dX3_isSign_10 : decode cX3_isSign 10 = .ok (.if_icmp .ne 25, 3) := by decide +kernel
theorem dX3_isSign_13 : decode cX3_isSign 13 = .ok (.aload_n 0, 1) := by decide +kernel
theorem dX3_isSign_14 : decode cX3_isSign 14 = .ok (.getfield 9, 3) := by decide +kernel
theorem dX3_isSign_17 : decode cX3_isSign 17 = .ok (.aload_n 0, 1) := by decide +kernel
theorem dX3_isSign_18 : decode cX3_isSign 18 = .ok (.getfield 15, 3) := by decide +kernel
theorem dX3_isSign_21 : decode cX3_isSign 21 = .ok (.aload_n 0, 1) := by decide +kernel
theorem dX3_isSign_22 : decode cX3_isSign 22 = .ok (.getfield 31, 3) := by decide +kernel
theorem dX3_isSign_25 : decode cX3_isSign 25 = .ok (.iaload, 1) := by decide +kernel
theorem dX3_isSign_26 : decode cX3_isSign 26 = .ok (.iaload, 1) := by decide +kernel
theorem dX3_isSign_27 : decode cX3_isSign 27 = .ok (.iload_n 1, 1) := by decide +kernel
theorem dX3_isSign_28 : decode cX3_isSign 28 = .ok (.if_icmp .ne 7, 3) := by decide +kernel
theorem dX3_isSign_31 : decode cX3_isSign 31 = .ok (.iconst 1, 1) := by decide +kernel
theorem dX3_isSign_32 : decode cX3_isSign 32 = .ok (.goto 4, 3) := by decide +kernel
theorem dX3_isSign_35 : decode cX3_isSign 35 = .ok (.iconst 0, 1) := by decide +kernel
theorem dX3_isSign_36 : decode cX3_isSign 36 = .ok (.ireturn, 1) := by decide +kernel
def m_X3_isSign (a1 : Int32) (u : zM) : Option (Int32) :=
  zbind (zld u 24 121 (u 20 6)) (fun x1 => (if x1 = 3 then
zbind (zld u 22 121 (u 20 6)) (fun x4 => zbind (zld u 21 120 x4) (fun x6 => (if x6 = a1 then
some 1
else
some 0)))
else
some 0))
set_option maxHeartbeats 4000000 in
set_option maxRecDepth 100000 in
theorem c_X3_isSign (a1 : Int32)   (u : zM) (r : Int32) (h : m_X3_isSign a1 u = some r) : zCt 1 yX3_isSign cX3_isSign 2 (some .boolean) (fun E => [.ref (zad E 20), .int a1]) u (fun _ => some (.int r)) u := by
  refine zCt.of (by decide +kernel) (fun E => Nat.le_of_ble_eq_true rfl) (fun X hX hR => ?_)
  have hX : zGood X RX3 cX3_isSign 2 1 := hX
  show zG X u 0 [(0, .ref (zad X.1 20)), (1, .int a1)] []
  unfold m_X3_isSign at h
  refine r_aload_n hX dX3_isSign_0 0 rfl rfl ?_
  refine r_getR hX dX3_isSign_1 f_RX3_21 zr_20_3 ?_
  refine r_aload_n hX dX3_isSign_4 0 rfl rfl ?_
  refine r_getI hX dX3_isSign_5 f_RX3_31 zi_20_6 ?_
  obtain ⟨x1, e2, h⟩ := zbind_elim h
  refine r_iald hX dX3_isSign_8 rfl e2 ?_
  refine r_iconst (v := 3) hX dX3_isSign_9 (by decide) ?_
  refine r_icmp_ne (tgt := 35) hX dX3_isSign_10 (by decide) (fun c3 => ?_) (fun c3 => ?_)
  · have h := (if_neg c3).symm.trans h
    refine r_iconst (v := 0) hX dX3_isSign_35 (by decide) ?_
    obtain rfl := Option.some.inj h
    exact r_zret0 hX hR dX3_isSign_36
  · have h := (if_pos c3).symm.trans h
    refine r_aload_n hX dX3_isSign_13 0 rfl rfl ?_
    refine r_getR hX dX3_isSign_14 f_RX3_9 zr_20_0 ?_
    refine r_aload_n hX dX3_isSign_17 0 rfl rfl ?_
    refine r_getR hX dX3_isSign_18 f_RX3_15 zr_20_1 ?_
    refine r_aload_n hX dX3_isSign_21 0 rfl rfl ?_
    refine r_getI hX dX3_isSign_22 f_RX3_31 zi_20_6 ?_
    obtain ⟨x4, e5, h⟩ := zbind_elim h
    refine r_iald hX dX3_isSign_25 rfl e5 ?_
    obtain ⟨x6, e7, h⟩ := zbind_elim h
    refine r_iald hX dX3_isSign_26 rfl e7 ?_
    refine r_iload_n hX dX3_isSign_27 1 rfl rfl ?_
    refine r_icmp_ne (tgt := 35) hX dX3_isSign_28 (by decide) (fun c8 => ?_) (fun c8 => ?_)
    · have h := (if_neg c8).symm.trans h
      refine r_iconst (v := 0) hX dX3_isSign_35 (by decide) ?_
      obtain rfl := Option.some.inj h
      exact r_zret0 hX hR dX3_isSign_36
    · have h := (if_pos c8).symm.trans h
      refine r_iconst (v := 1) hX dX3_isSign_31 (by decide) ?_
      refine r_goto (tgt := 36) hX dX3_isSign_32 (by decide) ?_
      obtain rfl := Option.some.inj h
      exact r_zret1 hX hR dX3_isSign_36
theorem dX0_readBribe_0 : decode cX0_readBribe 0 = .ok (.aload_n 0, 1) := by decide +kernel
theorem dX0_readBribe_1 : decode cX0_readBribe 1 = .ok (.iconst 0, 1) := by decide +kernel
theorem dX0_readBribe_2 : decode cX0_readBribe 2 = .ok (.putfield 15, 3) := by decide +kernel
theorem dX0_readBribe_5 : decode cX0_readBribe 5 = .ok (.aload_n 1, 1) := by decide +kernel
theorem dX0_readBribe_6 : decode cX0_readBribe 6 = .ok (.ldc 121, 2) := by decide +kernel
theorem dX0_readBribe_8 : decode cX0_readBribe 8 = .ok (.invokevirtual 64, 3) := by decide +kernel
theorem dX0_readBribe_11 : decode cX0_readBribe 11 = .ok (.ifCond .ne 5, 3) := by decide +kernel
theorem dX0_readBribe_14 : decode cX0_readBribe 14 = .ok (.iconst 1, 1) := by decide +kernel
theorem dX0_readBribe_15 : decode cX0_readBribe 15 = .ok (.ireturn, 1) := by decide +kernel
theorem dX0_readBribe_16 : decode cX0_readBribe 16 = .ok (.aload_n 1, 1) := by decide +kernel
theorem dX0_readBribe_17 : decode cX0_readBribe 17 = .ok (.invokevirtual 51, 3) := by decide +kernel
theorem dX0_readBribe_20 : decode cX0_readBribe 20 = .ok (.aload_n 1, 1) := by decide +kernel
theorem dX0_readBribe_21 : decode cX0_readBribe 21 = .ok (.bipush 45, 2) := by decide +kernel
theorem dX0_readBribe_23 : decode cX0_readBribe 23 = .ok (.invokevirtual 47, 3) := by decide +kernel
theorem dX0_readBribe_26 : decode cX0_readBribe 26 = .ok (.istore_n 2, 1) := by decide +kernel
theorem dX0_readBribe_27 : decode cX0_readBribe 27 = .ok (.iload_n 2, 1) := by decide +kernel
theorem dX0_readBribe_28 : decode cX0_readBribe 28 = .ok (.ifCond .eq 7, 3) := by decide +kernel
theorem dX0_readBribe_31 : decode cX0_readBribe 31 = .ok (.aload_n 1, 1) := by decide +kernel
theorem dX0_readBribe_32 : decode cX0_readBribe 32 = .ok (.invokevirtual 51, 3) := by decide +kernel
theorem dX0_readBribe_35 : decode cX0_readBribe 35 = .ok (.aload_n 1, 1) := by decide +kernel
theorem dX0_readBribe_36 : decode cX0_readBribe 36 = .ok (.iconst 0, 1) := by decide +kernel
theorem dX0_readBribe_37 : decode cX0_readBribe 37 = .ok (.bipush 20, 2) := by decide +kernel
theorem dX0_readBribe_39 : decode cX0_readBribe 39 = .ok (.invokestatic 117, 3) := by decide +kernel
theorem dX0_readBribe_42 : decode cX0_readBribe 42 = .ok (.istore_n 3, 1) := by decide +kernel
theorem dX0_readBribe_43 : decode cX0_readBribe 43 = .ok (.aload_n 0, 1) := by decide +kernel
theorem dX0_readBribe_44 : decode cX0_readBribe 44 = .ok (.iload_n 2, 1) := by decide +kernel
theorem dX0_readBribe_45 : decode cX0_readBribe 45 = .ok (.ifCond .eq 8, 3) := by decide +kernel
theorem dX0_readBribe_48 : decode cX0_readBribe 48 = .ok (.iload_n 3, 1) := by decide +kernel
theorem dX0_readBribe_49 : decode cX0_readBribe 49 = .ok (.ineg, 1) := by decide +kernel
theorem dX0_readBribe_50 : decode cX0_readBribe 50 = .ok (.goto 4, 3) := by decide +kernel
theorem dX0_readBribe_53 : decode cX0_readBribe 53 = .ok (.iload_n 3, 1) := by decide +kernel
theorem dX0_readBribe_54 : decode cX0_readBribe 54 = .ok (.putfield 15, 3) := by decide +kernel
theorem dX0_readBribe_57 : decode cX0_readBribe 57 = .ok (.iload_n 3, 1) := by decide +kernel
theorem dX0_readBribe_58 : decode cX0_readBribe 58 = .ok (.iconst (-1), 1) := by decide +kernel
theorem dX0_readBribe_59 : decode cX0_readBribe 59 = .ok (.if_icmp .eq 7, 3) := by decide +kernel
theorem dX0_readBribe_62 : decode cX0_readBribe 62 = .ok (.iconst 1, 1) := by decide +kernel
theorem dX0_readBribe_63 : decode cX0_readBribe 63 = .ok (.goto 4, 3) := by decide +kernel
theorem dX0_readBribe_66 : decode cX0_readBribe 66 = .ok (.iconst 0, 1) := by decide +kernel
theorem dX0_readBribe_67 : decode cX0_readBribe 67 = .ok (.ireturn, 1) := by decide +kernel
def m_X0_readBribe  (u : zM) : Option (Int32 × zM) :=
  zlet (zst u 25 1 0) (fun u1 => zbind (m_X3_isWord 13 u1) (fun x3 => (if x3 = 0 then
some (1, u1)
else
zlet (m_X3_moveOn u1) (fun u6 => zbind (m_X3_isSign 45 u6) (fun x8 => zlet ((if x8 = 0 then
u6
else
zlet (m_X3_moveOn u6) (fun u13 => u13)) : zM) (fun u10 =>
zbind2 (m_X0_takeNumber 0 20 u10) (fun x15 u16 => (if x8 = 0 then
zlet (zst u16 25 1 x15) (fun u19 => (if x15 = (-1) then
some (0, u19)
else
some (1, u19)))
else
zlet (zst u16 25 1 (-x15)) (fun u22 => (if x15 = (-1) then
some (0, u22)
else
some (1, u22)))))))))))
set_option maxHeartbeats 4000000 in
set_option maxRecDepth 100000 in
theorem c_X0_readBribe    (u : zM) (r : Int32) (u' : zM) (h : m_X0_readBribe u = some (r, u')) : zCt 6 yX0_readBribe cX0_readBribe 4 (some .boolean) (fun E => [.ref (zad E 25), .ref (zad E 20)]) u (fun _ => some (.int r)) u' := by
  refine zCt.of (by decide +kernel) (fun E => Nat.le_of_ble_eq_true rfl) (fun X hX hR => ?_)
  have hX : zGood X RX0 cX0_readBribe 4 6 := hX
  show zG X u 0 [(0, .ref (zad X.1 25)), (1, .ref (zad X.1 20))] []
  unfold m_X0_readBribe at h
  refine r_aload_n hX dX0_readBribe_0 0 rfl rfl ?_
  refine r_iconst (v := 0) hX dX0_readBribe_1 (by decide) ?_
  obtain ⟨u1, e2, h⟩ := zlet_elim h
  refine r_putI hX dX0_readBribe_2 f_RX0_15 p_0_1 zi_25_1 ?_
  rw [e2]
  refine r_aload_n hX dX0_readBribe_5 1 rfl rfl ?_
  refine r_ldcS (tx := "bribe") (q := 13) hX dX0_readBribe_6 (List.mem_of_getElem? (i := 7) rfl) ?_
  obtain ⟨x3, e4, h⟩ := zbind_elim h
  refine r_callV (As := [.ref (zaK X.1 13)]) (rest := []) (st1 := [.int x3]) hX dX0_readBribe_8 lv_RX0_64 (c_X3_isWord 13 (by decide)  u1 _ e4) (by decide) rfl rfl (zRecv.of (q := 20) (ci := 3) rfl rfl) rfl (Nat.le_of_ble_eq_true rfl) rfl ?_
  refine r_if_ne (tgt := 16) hX dX0_readBribe_11 (by decide) (fun c5 => ?_) (fun c5 => ?_)
  · have h := (if_neg c5).symm.trans h
    refine r_aload_n hX dX0_readBribe_16 1 rfl rfl ?_
    obtain ⟨u6, e7, h⟩ := zlet_elim h
    refine r_callV (As := []) (rest := []) (st1 := []) hX dX0_readBribe_17 lv_RX0_51 (c_X3_moveOn   u1 _ e7) (by decide) rfl rfl (zRecv.of (q := 20) (ci := 3) rfl rfl) rfl (Nat.le_of_ble_eq_true rfl) rfl ?_
    refine r_aload_n hX dX0_readBribe_20 1 rfl rfl ?_
    refine r_bipush (v := 45) hX dX0_readBribe_21 (by decide) ?_
    obtain ⟨x8, e9, h⟩ := zbind_elim h
    refine r_callV (As := [.int 45]) (rest := []) (st1 := [.int x8]) hX dX0_readBribe_23 lv_RX0_47 (c_X3_isSign 45  u6 _ e9) (by decide) rfl rfl (zRecv.of (q := 20) (ci := 3) rfl rfl) rfl (Nat.le_of_ble_eq_true rfl) rfl ?_
    refine r_istore_n (y := x8) (L' := [(2, .int x8), (0, .ref (zad X.1 25)), (1, .ref (zad X.1 20))]) hX dX0_readBribe_26 rfl (by decide) rfl rfl ?_
    refine r_iload_n hX dX0_readBribe_27 0 rfl rfl ?_
    obtain ⟨u10, h11, h⟩ := zlet_elim h
    have Jh11 : zG X u10 35 [(0, .ref (zad X.1 25)), (1, .ref (zad X.1 20)), (2, .int x8)] [] := by
        refine r_aload_n hX dX0_readBribe_35 1 rfl rfl ?_
        refine r_iconst (v := 0) hX dX0_readBribe_36 (by decide) ?_
        refine r_bipush (v := 20) hX dX0_readBribe_37 (by decide) ?_
        obtain ⟨x15, u16, e17, h⟩ := zbind2_elim h
        refine r_callS (As := [.ref (zad X.1 20), .int 0, .int 20]) (rest := []) (st1 := [.int x15]) hX dX0_readBribe_39 ls_RX0_117 (c_X0_takeNumber 0 20  u10 _ _ e17) (by decide) rfl rfl rfl (Nat.le_of_ble_eq_true rfl) rfl ?_
        refine r_istore_n (y := x15) (L' := [(3, .int x15), (0, .ref (zad X.1 25)), (1, .ref (zad X.1 20)), (2, .int x8)]) hX dX0_readBribe_42 rfl (by decide) rfl rfl ?_
        refine r_aload_n hX dX0_readBribe_43 1 rfl rfl ?_
        refine r_iload_n hX dX0_readBribe_44 3 rfl rfl ?_
        refine r_if_eq (tgt := 53) hX dX0_readBribe_45 (by decide) (fun c18 => ?_) (fun c18 => ?_)
        · have h := (if_pos c18).symm.trans h
          refine r_iload_n hX dX0_readBribe_53 0 rfl rfl ?_
          obtain ⟨u19, e20, h⟩ := zlet_elim h
          refine r_putI hX dX0_readBribe_54 f_RX0_15 p_0_1 zi_25_1 ?_
          rw [e20]
          refine r_iload_n hX dX0_readBribe_57 0 rfl rfl ?_
          refine r_iconst (v := (-1)) hX dX0_readBribe_58 (by decide) ?_
          refine r_icmp_eq (tgt := 66) hX dX0_readBribe_59 (by decide) (fun c21 => ?_) (fun c21 => ?_)
          · have h := (if_pos c21).symm.trans h
            refine r_iconst (v := 0) hX dX0_readBribe_66 (by decide) ?_
            obtain ⟨rfl, rfl⟩ := zinj2 (Option.some.inj h)
            exact r_zret0 hX hR dX0_readBribe_67
          · have h := (if_neg c21).symm.trans h
            refine r_iconst (v := 1) hX dX0_readBribe_62 (by decide) ?_
            refine r_goto (tgt := 67) hX dX0_readBribe_63 (by decide) ?_
            obtain ⟨rfl, rfl⟩ := zinj2 (Option.some.inj h)
            exact r_zret1 hX hR dX0_readBribe_67
        · have h := (if_neg c18).symm.trans h
          refine r_iload_n hX dX0_readBribe_48 0 rfl rfl ?_
          refine r_ineg hX dX0_readBribe_49 ?_
          refine r_goto (tgt := 54) hX dX0_readBribe_50 (by decide) ?_
          obtain ⟨u22, e23, h⟩ := zlet_elim h
          refine r_putI hX dX0_readBribe_54 f_RX0_15 p_0_1 zi_25_1 ?_
          rw [e23]
          refine r_iload_n hX dX0_readBribe_57 0 rfl rfl ?_
          refine r_iconst (v := (-1)) hX dX0_readBribe_58 (by decide) ?_
          refine r_icmp_eq (tgt := 66) hX dX0_readBribe_59 (by decide) (fun c24 => ?_) (fun c24 => ?_)
          · have h := (if_pos c24).symm.trans h
            refine r_iconst (v := 0) hX dX0_readBribe_66 (by decide) ?_
            obtain ⟨rfl, rfl⟩ := zinj2 (Option.some.inj h)
            exact r_zret0 hX hR dX0_readBribe_67
          · have h := (if_neg c24).symm.trans h
            refine r_iconst (v := 1) hX dX0_readBribe_62 (by decide) ?_
            refine r_goto (tgt := 67) hX dX0_readBribe_63 (by decide) ?_
            obtain ⟨rfl, rfl⟩ := zinj2 (Option.some.inj h)
            exact r_zret1 hX hR dX0_readBribe_67
    clear h
    refine r_if_eq (tgt := 35) hX dX0_readBribe_28 (by decide) (fun c12 => ?_) (fun c12 => ?_)
    · have h11 := (if_pos c12).symm.trans h11
      refine r_sub [1, 2, 0] (L' := [(0, .ref (zad X.1 25)), (1, .ref (zad X.1 20)), (2, .int x8)]) rfl ?_
      obtain rfl := h11
      exact Jh11
    · have h11 := (if_neg c12).symm.trans h11
      refine r_aload_n hX dX0_readBribe_31 2 rfl rfl ?_
      obtain ⟨u13, e14, h11⟩ := zlet_elim h11
      refine r_callV (As := []) (rest := []) (st1 := []) hX dX0_readBribe_32 lv_RX0_51 (c_X3_moveOn   u6 _ e14) (by decide) rfl rfl (zRecv.of (q := 20) (ci := 3) rfl rfl) rfl (Nat.le_of_ble_eq_true rfl) rfl ?_
      refine r_sub [1, 2, 0] (L' := [(0, .ref (zad X.1 25)), (1, .ref (zad X.1 20)), (2, .int x8)]) rfl ?_
      obtain rfl := h11
      exact Jh11
  · have h := (if_pos c5).symm.trans h
    refine r_iconst (v := 1) hX dX0_readBribe_14 (by decide) ?_
    obtain ⟨rfl, rfl⟩ := zinj2 (Option.some.inj h)
    exact r_zret1 hX hR dX0_readBribe_15
