/-! MODELS AND CONTRACTS, by program (wip/whole/gen_all.py): X1_hasMeasures, X5_load, X5_judge, X4_become, X5_image, X4_become_2 -/
theorem dX1_hasMeasures_0 : decode cX1_hasMeasures 0 = .ok (.aload_n 0, 1) := by decide +kernel
theorem dX1_hasMeasures_1 : decode cX1_hasMeasures 1 = .ok (.iload_n 1, 1) := by decide +kernel
theorem dX1_hasMeasures_2 : decode cX1_hasMeasures 2 = .ok (.iconst 3, 1) := by decide +kernel
theorem dX1_hasMeasures_3 : decode cX1_hasMeasures 3 = .ok (.invokevirtual 22, 3) := by decide +kernel
theorem dX1_hasMeasures_6 : decode cX1_hasMeasures 6 = .ok (.ifCond .eq 62, 3) := by decide +kernel
theorem dX1_hasMeasures_9 : decode cX1_hasMeasures 9 = .ok (.aload_n 0, 1) := by decide +kernel
theorem dX1_hasMeasures_10 : decode cX1_hasMeasures 10 = .ok (.getfield 9, 3) := by decide +kernel
theorem dX1_hasMeasures_13 : decode cX1_hasMeasures 13 = .ok (.iload_n 1, 1) := by decide +kernel
theorem dX1_hasMeasures_14 : decode cX1_hasMeasures 14 = .ok (.iaload, 1) := by decide +kernel
theorem dX1_hasMeasures_15 : decode cX1_hasMeasures 15 = .ok (.bipush 50, 2) := by decide +kernel
theorem dX1_hasMeasures_17 : decode cX1_hasMeasures 17 = .ok (.sipush 250, 3) := by decide +kernel
theorem dX1_hasMeasures_20 : decode cX1_hasMeasures 20 = .ok (.invokestatic 26, 3) := by decide +kernel
theorem dX1_hasMeasures_23 : decode cX1_hasMeasures 23 = .ok (.ifCond .eq 45, 3) := by decide +kernel
theorem dX1_hasMeasures_26 : decode cX1_hasMeasures 26 = .ok (.aload_n 0, 1) := by decide +kernel
theorem dX1_hasMeasures_27 : decode cX1_hasMeasures 27 = .ok (.getfield 9, 3) := by decide +kernel
theorem dX1_hasMeasures_30 : decode cX1_hasMeasures 30 = .ok (.iload_n 1, 1) := by decide +kernel
theorem dX1_hasMeasures_31 : decode cX1_hasMeasures 31 = .ok (.iconst 1, 1) := by decide +kernel
theorem dX1_hasMeasures_32 : decode cX1_hasMeasures 32 = .ok (.iadd, 1) := by decide +kernel
theorem dX1_hasMeasures_33 : decode cX1_hasMeasures 33 = .ok (.iaload, 1) := by decide +kernel
theorem dX1_hasMeasures_34 : decode cX1_hasMeasures 34 = .ok (.bipush 50, 2) := by decide +kernel
theorem dX1_hasMeasures_36 : decode cX1_hasMeasures 36 = .ok (.sipush 250, 3) := by decide +kernel
theorem dX1_hasMeasures_39 : decode cX1_hasMeasures 39 = .ok (.invokestatic 26, 3) := by decide +kernel
theorem dX1_hasMeasures_42 : decode cX1_hasMeasures 42 = .ok (.ifCond .eq 26, 3) := by decide +kernel
theorem dX1_hasMeasures_45 : decode cX1_hasMeasures 45 = .ok (.aload_n 0, 1) := by decide +kernel
theorem dX1_hasMeasures_46 : decode cX1_hasMeasures 46 = .ok (.getfield 9, 3) := by decide +kernel
theorem dX1_hasMeasures_49 : decode cX1_hasMeasures 49 = .ok (.iload_n 1, 1) := by decide +kernel
theorem dX1_hasMeasures_50 : decode cX1_hasMeasures 50 = .ok (.iconst 2, 1) := by decide +kernel
theorem dX1_hasMeasures_51 : decode cX1_hasMeasures 51 = .ok (.iadd, 1) := by decide +kernel
theorem dX1_hasMeasures_52 : decode cX1_hasMeasures 52 = .ok (.iaload, 1) := by decide +kernel
theorem dX1_hasMeasures_53 : decode cX1_hasMeasures 53 = .ok (.bipush 50, 2) := by decide +kernel
theorem dX1_hasMeasures_55 : decode cX1_hasMeasures 55 = .ok (.sipush 250, 3) := by decide +kernel
theorem dX1_hasMeasures_58 : decode cX1_hasMeasures 58 = .ok (.invokestatic 26, 3) := by decide +kernel
theorem dX1_hasMeasures_61 : decode cX1_hasMeasures 61 = .ok (.ifCond .eq 7, 3) := by decide +kernel
theorem dX1_hasMeasures_64 : decode cX1_hasMeasures 64 = .ok (.iconst 1, 1) := by decide +kernel
theorem dX1_hasMeasures_65 : decode cX1_hasMeasures 65 = .ok (.goto 4, 3) := by decide +kernel
theorem dX1_hasMeasures_68 : decode cX1_hasMeasures 68 = .ok (.iconst 0, 1) := by decide +kernel
theorem dX1_hasMeasures_69 : decode cX1_hasMeasures 69 = .ok (.ireturn, 1) := by decide +kernel
def m_X1_hasMeasures (k0 : Nat) (a1 : Int32) (u : zM) : Option (Int32) :=
  (if (m_X1_has k0 a1 3 u) = 0 then
some 0
else
zbind (zld u (k0 + 1) 40 a1) (fun x2 => (if (m_X5_within x2 50 250) = 0 then
some 0
else
zbind (zld u (k0 + 1) 40 (a1 + 1)) (fun x5 => (if (m_X5_within x5 50 250) = 0 then
some 0
else
zbind (zld u (k0 + 1) 40 (a1 + 2)) (fun x8 => (if (m_X5_within x8 50 250) = 0 then
some 0
else
some 1)))))))
set_option maxHeartbeats 4000000 in
set_option maxRecDepth 100000 in
theorem c_X1_hasMeasures (k0 : Nat) (a1 : Int32) (hk0 : zSh k0)  (u : zM) (r : Int32) (h : m_X1_hasMeasures k0 a1 u = some r) : zCt 2 yX1_hasMeasures cX1_hasMeasures 2 (some .boolean) (fun E => [.ref (zad E k0), .int a1]) u (fun _ => some (.int r)) u := by
  refine zCt.of (by decide +kernel) (fun E => Nat.le_of_ble_eq_true rfl) (fun X hX hR => ?_)
  have hX : zGood X RX1 cX1_hasMeasures 2 2 := hX
  show zG X u 0 [(0, .ref (zad X.1 k0)), (1, .int a1)] []
  unfold m_X1_hasMeasures at h
  refine r_aload_n hX dX1_hasMeasures_0 0 rfl rfl ?_
  refine r_iload_n hX dX1_hasMeasures_1 1 rfl rfl ?_
  refine r_iconst (v := 3) hX dX1_hasMeasures_2 (by decide) ?_
  refine r_callV (As := [.int a1, .int 3]) (rest := []) (st1 := [.int (m_X1_has k0 a1 3 u)]) hX dX1_hasMeasures_3 lv_RX1_22 (c_X1_has k0 a1 3 hk0  u _ rfl) (by decide) rfl rfl (zRecv.of (ci := 1) (zSh_c hk0) rfl) rfl (Nat.le_of_ble_eq_true rfl) rfl ?_
  refine r_if_eq (tgt := 68) hX dX1_hasMeasures_6 (by decide) (fun c1 => ?_) (fun c1 => ?_)
  · have h := (if_pos c1).symm.trans h
    refine r_iconst (v := 0) hX dX1_hasMeasures_68 (by decide) ?_
    obtain rfl := Option.some.inj h
    exact r_zret0 hX hR dX1_hasMeasures_69
  · have h := (if_neg c1).symm.trans h
    refine r_aload_n hX dX1_hasMeasures_9 0 rfl rfl ?_
    refine r_getR hX dX1_hasMeasures_10 f_RX1_9 (zSh_0 hk0) ?_
    refine r_iload_n hX dX1_hasMeasures_13 1 rfl rfl ?_
    obtain ⟨x2, e3, h⟩ := zbind_elim h
    refine r_iald hX dX1_hasMeasures_14 (zSh_n hk0) e3 ?_
    refine r_bipush (v := 50) hX dX1_hasMeasures_15 (by decide) ?_
    refine r_sipush (v := 250) hX dX1_hasMeasures_17 (by decide) ?_
    refine r_callS (As := [.int x2, .int 50, .int 250]) (rest := []) (st1 := [.int (m_X5_within x2 50 250)]) hX dX1_hasMeasures_20 ls_RX1_26 (c_X5_within x2 50 250  u _ rfl) (by decide) rfl rfl rfl (Nat.le_of_ble_eq_true rfl) rfl ?_
    refine r_if_eq (tgt := 68) hX dX1_hasMeasures_23 (by decide) (fun c4 => ?_) (fun c4 => ?_)
    · have h := (if_pos c4).symm.trans h
      refine r_iconst (v := 0) hX dX1_hasMeasures_68 (by decide) ?_
      obtain rfl := Option.some.inj h
      exact r_zret0 hX hR dX1_hasMeasures_69
    · have h := (if_neg c4).symm.trans h
      refine r_aload_n hX dX1_hasMeasures_26 0 rfl rfl ?_
      refine r_getR hX dX1_hasMeasures_27 f_RX1_9 (zSh_0 hk0) ?_
      refine r_iload_n hX dX1_hasMeasures_30 1 rfl rfl ?_
      refine r_iconst (v := 1) hX dX1_hasMeasures_31 (by decide) ?_
      refine r_iadd hX dX1_hasMeasures_32 ?_
      obtain ⟨x5, e6, h⟩ := zbind_elim h
      refine r_iald hX dX1_hasMeasures_33 (zSh_n hk0) e6 ?_
      refine r_bipush (v := 50) hX dX1_hasMeasures_34 (by decide) ?_
      refine r_sipush (v := 250) hX dX1_hasMeasures_36 (by decide) ?_
      refine r_callS (As := [.int x5, .int 50, .int 250]) (rest := []) (st1 := [.int (m_X5_within x5 50 250)]) hX dX1_hasMeasures_39 ls_RX1_26 (c_X5_within x5 50 250  u _ rfl) (by decide) rfl rfl rfl (Nat.le_of_ble_eq_true rfl) rfl ?_
      refine r_if_eq (tgt := 68) hX dX1_hasMeasures_42 (by decide) (fun c7 => ?_) (fun c7 => ?_)
      · have h := (if_pos c7).symm.trans h
        refine r_iconst (v := 0) hX dX1_hasMeasures_68 (by decide) ?_
        obtain rfl := Option.some.inj h
        exact r_zret0 hX hR dX1_hasMeasures_69
      · have h := (if_neg c7).symm.trans h
        refine r_aload_n hX dX1_hasMeasures_45 0 rfl rfl ?_
        refine r_getR hX dX1_hasMeasures_46 f_RX1_9 (zSh_0 hk0) ?_
        refine r_iload_n hX dX1_hasMeasures_49 1 rfl rfl ?_
        refine r_iconst (v := 2) hX dX1_hasMeasures_50 (by decide) ?_
        refine r_iadd hX dX1_hasMeasures_51 ?_
        obtain ⟨x8, e9, h⟩ := zbind_elim h
        refine r_iald hX dX1_hasMeasures_52 (zSh_n hk0) e9 ?_
        refine r_bipush (v := 50) hX dX1_hasMeasures_53 (by decide) ?_
        refine r_sipush (v := 250) hX dX1_hasMeasures_55 (by decide) ?_
        refine r_callS (As := [.int x8, .int 50, .int 250]) (rest := []) (st1 := [.int (m_X5_within x8 50 250)]) hX dX1_hasMeasures_58 ls_RX1_26 (c_X5_within x8 50 250  u _ rfl) (by decide) rfl rfl rfl (Nat.le_of_ble_eq_true rfl) rfl ?_
        refine r_if_eq (tgt := 68) hX dX1_hasMeasures_61 (by decide) (fun c10 => ?_) (fun c10 => ?_)
        · have h := (if_pos c10).symm.trans h
          refine r_iconst (v := 0) hX dX1_hasMeasures_68 (by decide) ?_
          obtain rfl := Option.some.inj h
          exact r_zret0 hX hR dX1_hasMeasures_69
        · have h := (if_neg c10).symm.trans h
          refine r_iconst (v := 1) hX dX1_hasMeasures_64 (by decide) ?_
          refine r_goto (tgt := 69) hX dX1_hasMeasures_65 (by decide) ?_
          obtain rfl := Option.some.inj h
          exact r_zret1 hX hR dX1_hasMeasures_69
theorem dX5_load_0 : decode cX5_load 0 = .ok (.iload_n 1, 1) := by decide +kernel
theorem dX5_load_1 : decode cX5_load 1 = .ok (.invokestatic 247, 3) := by decide +kernel
theorem dX5_load_4 : decode cX5_load 4 = .ok (.ifCond .ne 9, 3) := by decide +kernel
theorem dX5_load_7 : decode cX5_load 7 = .ok (.aload_n 0, 1) := by decide +kernel
theorem dX5_load_8 : decode cX5_load 8 = .ok (.iconst 0, 1) := by decide +kernel
theorem dX5_load_9 : decode cX5_load 9 = .ok (.invokevirtual 65, 3) := by decide +kernel
theorem dX5_load_12 : decode cX5_load 12 = .ok (.ireturn, 1) := by decide +kernel
theorem dX5_load_13 : decode cX5_load 13 = .ok (.aload_n 0, 1) := by decide +kernel
theorem dX5_load_14 : decode cX5_load 14 = .ok (.getfield 42, 3) := by decide +kernel
theorem dX5_load_17 : decode cX5_load 17 = .ok (.iload_n 1, 1) := by decide +kernel
theorem dX5_load_18 : decode cX5_load 18 = .ok (.aaload, 1) := by decide +kernel
theorem dX5_load_19 : decode cX5_load 19 = .ok (.invokevirtual 255, 3) := by decide +kernel
theorem dX5_load_22 : decode cX5_load 22 = .ok (.ifCond .eq 9, 3) := by decide +kernel
theorem dX5_load_25 : decode cX5_load 25 = .ok (.aload_n 0, 1) := by decide +kernel
theorem dX5_load_26 : decode cX5_load 26 = .ok (.iconst 5, 1) := by decide +kernel
theorem dX5_load_27 : decode cX5_load 27 = .ok (.invokevirtual 65, 3) := by decide +kernel
theorem dX5_load_30 : decode cX5_load 30 = .ok (.ireturn, 1) := by decide +kernel
theorem dX5_load_31 : decode cX5_load 31 = .ok (.iconst 0, 1) := by decide +kernel
theorem dX5_load_32 : decode cX5_load 32 = .ok (.istore_n 2, 1) := by decide +kernel
theorem dX5_load_33 : decode cX5_load 33 = .ok (.iload_n 2, 1) := by decide +kernel
theorem dX5_load_34 : decode cX5_load 34 = .ok (.aload_n 0, 1) := by decide +kernel
theorem dX5_load_35 : decode cX5_load 35 = .ok (.getfield 10, 3) := by decide +kernel
theorem dX5_load_38 : decode cX5_load 38 = .ok (.getfield 69, 3) := by decide +kernel
theorem dX5_load_41 : decode cX5_load 41 = .ok (.if_icmp .ge 61, 3) := by decide +kernel
theorem dX5_load_44 : decode cX5_load 44 = .ok (.aload_n 0, 1) := by decide +kernel
theorem dX5_load_45 : decode cX5_load 45 = .ok (.getfield 42, 3) := by decide +kernel
theorem dX5_load_48 : decode cX5_load 48 = .ok (.iload_n 1, 1) := by decide +kernel
theorem dX5_load_49 : decode cX5_load 49 = .ok (.aaload, 1) := by decide +kernel
theorem dX5_load_50 : decode cX5_load 50 = .ok (.iload_n 2, 1) := by decide +kernel
theorem dX5_load_51 : decode cX5_load 51 = .ok (.iconst 3, 1) := by decide +kernel
theorem dX5_load_52 : decode cX5_load 52 = .ok (.imul, 1) := by decide +kernel
theorem dX5_load_53 : decode cX5_load 53 = .ok (.invokevirtual 269, 3) := by decide +kernel
theorem dX5_load_56 : decode cX5_load 56 = .ok (.ifCond .eq 46, 3) := by decide +kernel
theorem dX5_load_59 : decode cX5_load 59 = .ok (.iconst 0, 1) := by decide +kernel
theorem dX5_load_60 : decode cX5_load 60 = .ok (.istore_n 3, 1) := by decide +kernel
theorem dX5_load_61 : decode cX5_load 61 = .ok (.iload_n 3, 1) := by decide +kernel
theorem dX5_load_62 : decode cX5_load 62 = .ok (.iconst 3, 1) := by decide +kernel
theorem dX5_load_63 : decode cX5_load 63 = .ok (.if_icmp .ge 33, 3) := by decide +kernel
theorem dX5_load_66 : decode cX5_load 66 = .ok (.aload_n 0, 1) := by decide +kernel
theorem dX5_load_67 : decode cX5_load 67 = .ok (.getfield 10, 3) := by decide +kernel
theorem dX5_load_70 : decode cX5_load 70 = .ok (.iload_n 2, 1) := by decide +kernel
theorem dX5_load_71 : decode cX5_load 71 = .ok (.iload_n 3, 1) := by decide +kernel
theorem dX5_load_72 : decode cX5_load 72 = .ok (.aload_n 0, 1) := by decide +kernel
theorem dX5_load_73 : decode cX5_load 73 = .ok (.getfield 42, 3) := by decide +kernel
theorem dX5_load_76 : decode cX5_load 76 = .ok (.iload_n 1, 1) := by decide +kernel
theorem dX5_load_77 : decode cX5_load 77 = .ok (.aaload, 1) := by decide +kernel
theorem dX5_load_78 : decode cX5_load 78 = .ok (.getfield 266, 3) := by decide +kernel
theorem dX5_load_81 : decode cX5_load 81 = .ok (.iload_n 2, 1) := by decide +kernel
theorem dX5_load_82 : decode cX5_load 82 = .ok (.iconst 3, 1) := by decide +kernel
theorem dX5_load_83 : decode cX5_load 83 = .ok (.imul, 1) := by decide +kernel
theorem dX5_load_84 : decode cX5_load 84 = .ok (.iload_n 3, 1) := by decide +kernel
theorem dX5_load_85 : decode cX5_load 85 = .ok (.iadd, 1) := by decide +kernel
theorem dX5_load_86 : decode cX5_load 86 = .ok (.iaload, 1) := by decide +kernel
theorem dX5_load_87 : decode cX5_load 87 = .ok (.invokevirtual 119, 3) := by decide +kernel
theorem dX5_load_90 : decode cX5_load 90 = .ok (.iinc 3 1, 3) := by decide +kernel
theorem dX5_load_93 : decode cX5_load 93 = .ok (.goto (-32), 3) := by decide +kernel
theorem dX5_load_96 : decode cX5_load 96 = .ok (.iinc 2 1, 3) := by decide +kernel
theorem dX5_load_99 : decode cX5_load 99 = .ok (.goto (-66), 3) := by decide +kernel
theorem dX5_load_102 : decode cX5_load 102 = .ok (.iload_n 2, 1) := by decide +kernel
theorem dX5_load_103 : decode cX5_load 103 = .ok (.ireturn, 1) := by decide +kernel
def m_X5_load_b1 (a1 : Int32) (x5 : Int32) (x16 : Int32) (u17 : zM) : Option ((Int32 × zM) ⊕ (zM)) :=
  (if 3 ≤ x16 then
some (.inr u17)
else
zbind (zsheet a1) (fun k21 => zbind (zld u17 (k21 + 1) 40 ((x5 * 3) + x16)) (fun x23 => zbind (m_X4_setInches x5 x16 x23 u17) (fun u25 => some (.inl ((x16 + 1), u25))))))
def m_X5_load_b0 (a1 : Int32) (x5 : Int32) (u6 : zM) : Option ((Int32 × zM) ⊕ (Int32 × zM)) :=
  (if (u6 1 6) ≤ x5 then
some (.inr (x5, u6))
else
zbind (zsheet a1) (fun k11 => zbind (m_X1_hasMeasures k11 (x5 * 3) u6) (fun x13 => (if x13 = 0 then
some (.inr (x5, u6))
else
zbind (zit zF (fun s : Int32 × zM => m_X5_load_b1 a1 x5 s.1 s.2) (0, u6)) (fun u18 =>
some (.inl ((x5 + 1), u18)))))))
def m_X5_load (a1 : Int32) (u : zM) : Option (Int32 × zM) :=
  (if (m_X5_isSheet a1) = 0 then
zbind2 (m_X5_finding 0 u) (fun x30 u31 => some (x30, u31))
else
zbind (zsheet a1) (fun k2 => (if (m_X1_isMissing k2 u) = 0 then
zbind2 (zit zF (fun s : Int32 × zM => m_X5_load_b0 a1 s.1 s.2) (0, u)) (fun x7 u8 =>
some (x7, u8))
else
zbind2 (m_X5_finding 5 u) (fun x27 u28 => some (x27, u28)))))
set_option maxHeartbeats 4000000 in
set_option maxRecDepth 100000 in
theorem c_X5_load (a1 : Int32)   (u : zM) (r : Int32) (u' : zM) (h : m_X5_load a1 u = some (r, u')) : zCt 3 yX5_load cX5_load 4 (some .int) (fun E => [.ref (zad E 0), .int a1]) u (fun _ => some (.int r)) u' := by
  refine zCt.of (by decide +kernel) (fun E => Nat.le_of_ble_eq_true rfl) (fun X hX hR => ?_)
  have hX : zGood X RX5 cX5_load 4 3 := hX
  show zG X u 0 [(0, .ref (zad X.1 0)), (1, .int a1)] []
  unfold m_X5_load at h
  refine r_iload_n hX dX5_load_0 1 rfl rfl ?_
  refine r_callS (As := [.int a1]) (rest := []) (st1 := [.int (m_X5_isSheet a1)]) hX dX5_load_1 ls_RX5_247 (c_X5_isSheet a1  u _ rfl) (by decide) rfl rfl rfl (Nat.le_of_ble_eq_true rfl) rfl ?_
  refine r_if_ne (tgt := 13) hX dX5_load_4 (by decide) (fun c1 => ?_) (fun c1 => ?_)
  · have h := (if_neg c1).symm.trans h
    refine r_aload_n hX dX5_load_13 0 rfl rfl ?_
    refine r_getR hX dX5_load_14 f_RX5_42 zr_0_5 ?_
    refine r_iload_n hX dX5_load_17 1 rfl rfl ?_
    obtain ⟨k2, e3, h⟩ := zbind_elim h
    have hk2 := (zsheet_ok e3).2.2
    refine r_aldS hX dX5_load_18 e3 ?_
    refine r_callV (As := []) (rest := []) (st1 := [.int (m_X1_isMissing k2 u)]) hX dX5_load_19 lv_RX5_255 (c_X1_isMissing k2 hk2  u _ rfl) (by decide) rfl rfl (zRecv.of (ci := 1) (zSh_c hk2) rfl) rfl (Nat.le_of_ble_eq_true rfl) rfl ?_
    refine r_if_eq (tgt := 31) hX dX5_load_22 (by decide) (fun c4 => ?_) (fun c4 => ?_)
    · have h := (if_pos c4).symm.trans h
      refine r_iconst (v := 0) hX dX5_load_31 (by decide) ?_
      refine r_istore_n (y := 0) (L' := [(2, .int 0), (0, .ref (zad X.1 0)), (1, .int a1)]) hX dX5_load_32 rfl (by decide) rfl rfl ?_
      refine r_sub [1, 2, 0] (L' := [(0, .ref (zad X.1 0)), (1, .int a1), (2, .int 0)]) rfl ?_
      obtain ⟨x7, u8, h9, h⟩ := zbind2_elim h
      have Jh9 : zG X u8 102 [(2, .int x7)] [] := by
          refine r_iload_n hX dX5_load_102 0 rfl rfl ?_
          obtain ⟨rfl, rfl⟩ := zinj2 (Option.some.inj h)
          exact r_iret hX hR dX5_load_103
      clear h
      refine zit_walk (P := fun s0 : Int32 × zM => zG X s0.2 33 [(0, .ref (zad X.1 0)), (1, .int a1), (2, .int (s0.1))] []) ?_ zF _ h9
      clear h9
      intro s0 y0 h0b hin0 hout0
      obtain ⟨x5, u6⟩ := s0
      have h0b : m_X5_load_b0 a1 x5 u6 = some y0 := h0b
      unfold m_X5_load_b0 at h0b
      show zG X u6 33 [(0, .ref (zad X.1 0)), (1, .int a1), (2, .int x5)] []
      refine r_iload_n hX dX5_load_33 2 rfl rfl ?_
      refine r_aload_n hX dX5_load_34 0 rfl rfl ?_
      refine r_getR hX dX5_load_35 f_RX5_10 zr_0_0 ?_
      refine r_getI hX dX5_load_38 f_RX5_69 zi_1_6 ?_
      refine r_icmp_ge (tgt := 102) hX dX5_load_41 (by decide) (fun c10 => ?_) (fun c10 => ?_)
      · have h0b := (if_pos c10).symm.trans h0b
        refine r_sub [2] (L' := [(2, .int x5)]) rfl ?_
        have h0b := hout0 _ (Option.some.inj h0b).symm
        obtain ⟨rfl, rfl⟩ := zinj2 h0b
        exact Jh9
      · have h0b := (if_neg c10).symm.trans h0b
        refine r_aload_n hX dX5_load_44 0 rfl rfl ?_
        refine r_getR hX dX5_load_45 f_RX5_42 zr_0_5 ?_
        refine r_iload_n hX dX5_load_48 1 rfl rfl ?_
        obtain ⟨k11, e12, h0b⟩ := zbind_elim h0b
        have hk11 := (zsheet_ok e12).2.2
        refine r_aldS hX dX5_load_49 e12 ?_
        refine r_iload_n hX dX5_load_50 2 rfl rfl ?_
        refine r_iconst (v := 3) hX dX5_load_51 (by decide) ?_
        refine r_imul hX dX5_load_52 ?_
        obtain ⟨x13, e14, h0b⟩ := zbind_elim h0b
        refine r_callV (As := [.int (x5 * 3)]) (rest := []) (st1 := [.int x13]) hX dX5_load_53 lv_RX5_269 (c_X1_hasMeasures k11 (x5 * 3) hk11  u6 _ e14) (by decide) rfl rfl (zRecv.of (ci := 1) (zSh_c hk11) rfl) rfl (Nat.le_of_ble_eq_true rfl) rfl ?_
        refine r_if_eq (tgt := 102) hX dX5_load_56 (by decide) (fun c15 => ?_) (fun c15 => ?_)
        · have h0b := (if_pos c15).symm.trans h0b
          refine r_sub [2] (L' := [(2, .int x5)]) rfl ?_
          have h0b := hout0 _ (Option.some.inj h0b).symm
          obtain ⟨rfl, rfl⟩ := zinj2 h0b
          exact Jh9
        · have h0b := (if_neg c15).symm.trans h0b
          refine r_iconst (v := 0) hX dX5_load_59 (by decide) ?_
          refine r_istore_n (y := 0) (L' := [(3, .int 0), (0, .ref (zad X.1 0)), (1, .int a1), (2, .int x5)]) hX dX5_load_60 rfl (by decide) rfl rfl ?_
          refine r_sub [1, 2, 3, 0] (L' := [(0, .ref (zad X.1 0)), (1, .int a1), (2, .int x5), (3, .int 0)]) rfl ?_
          obtain ⟨u18, h19, h0b⟩ := zbind_elim h0b
          have Jh19 : zG X u18 96 [(0, .ref (zad X.1 0)), (1, .int a1), (2, .int x5)] [] := by
              refine r_iinc (v := (x5 + 1)) (L' := [(2, .int (x5 + 1)), (0, .ref (zad X.1 0)), (1, .int a1)]) hX dX5_load_96 (by decide) 2 rfl rfl rfl ?_
              refine r_goto (tgt := 33) hX dX5_load_99 (by decide) ?_
              refine r_sub [1, 2, 0] (L' := [(0, .ref (zad X.1 0)), (1, .int a1), (2, .int (x5 + 1))]) rfl ?_
              exact hin0 _ (Option.some.inj h0b).symm
          clear h0b
          refine zit_walk (P := fun s1 : Int32 × zM => zG X s1.2 61 [(0, .ref (zad X.1 0)), (1, .int a1), (2, .int x5), (3, .int (s1.1))] []) ?_ zF _ h19
          clear h19
          intro s1 y1 h1b hin1 hout1
          obtain ⟨x16, u17⟩ := s1
          have h1b : m_X5_load_b1 a1 x5 x16 u17 = some y1 := h1b
          unfold m_X5_load_b1 at h1b
          show zG X u17 61 [(0, .ref (zad X.1 0)), (1, .int a1), (2, .int x5), (3, .int x16)] []
          refine r_iload_n hX dX5_load_61 3 rfl rfl ?_
          refine r_iconst (v := 3) hX dX5_load_62 (by decide) ?_
          refine r_icmp_ge (tgt := 96) hX dX5_load_63 (by decide) (fun c20 => ?_) (fun c20 => ?_)
          · have h1b := (if_pos c20).symm.trans h1b
            refine r_sub [0, 1, 2] (L' := [(0, .ref (zad X.1 0)), (1, .int a1), (2, .int x5)]) rfl ?_
            have h1b := hout1 _ (Option.some.inj h1b).symm
            obtain rfl := h1b
            exact Jh19
          · have h1b := (if_neg c20).symm.trans h1b
            refine r_aload_n hX dX5_load_66 0 rfl rfl ?_
            refine r_getR hX dX5_load_67 f_RX5_10 zr_0_0 ?_
            refine r_iload_n hX dX5_load_70 2 rfl rfl ?_
            refine r_iload_n hX dX5_load_71 3 rfl rfl ?_
            refine r_aload_n hX dX5_load_72 0 rfl rfl ?_
            refine r_getR hX dX5_load_73 f_RX5_42 zr_0_5 ?_
            refine r_iload_n hX dX5_load_76 1 rfl rfl ?_
            obtain ⟨k21, e22, h1b⟩ := zbind_elim h1b
            have hk21 := (zsheet_ok e22).2.2
            refine r_aldS hX dX5_load_77 e22 ?_
            refine r_getR hX dX5_load_78 f_RX5_266 (zSh_0 hk21) ?_
            refine r_iload_n hX dX5_load_81 2 rfl rfl ?_
            refine r_iconst (v := 3) hX dX5_load_82 (by decide) ?_
            refine r_imul hX dX5_load_83 ?_
            refine r_iload_n hX dX5_load_84 3 rfl rfl ?_
            refine r_iadd hX dX5_load_85 ?_
            obtain ⟨x23, e24, h1b⟩ := zbind_elim h1b
            refine r_iald hX dX5_load_86 (zSh_n hk21) e24 ?_
            obtain ⟨u25, e26, h1b⟩ := zbind_elim h1b
            refine r_callV (As := [.int x5, .int x16, .int x23]) (rest := []) (st1 := []) hX dX5_load_87 lv_RX5_119 (c_X4_setInches x5 x16 x23  u17 _ e26) (by decide) rfl rfl (zRecv.of (q := 1) (ci := 4) rfl rfl) rfl (Nat.le_of_ble_eq_true rfl) rfl ?_
            refine r_iinc (v := (x16 + 1)) (L' := [(3, .int (x16 + 1)), (0, .ref (zad X.1 0)), (1, .int a1), (2, .int x5)]) hX dX5_load_90 (by decide) 3 rfl rfl rfl ?_
            refine r_goto (tgt := 61) hX dX5_load_93 (by decide) ?_
            refine r_sub [1, 2, 3, 0] (L' := [(0, .ref (zad X.1 0)), (1, .int a1), (2, .int x5), (3, .int (x16 + 1))]) rfl ?_
            exact hin1 _ (Option.some.inj h1b).symm
    · have h := (if_neg c4).symm.trans h
      refine r_aload_n hX dX5_load_25 0 rfl rfl ?_
      refine r_iconst (v := 5) hX dX5_load_26 (by decide) ?_
      obtain ⟨x27, u28, e29, h⟩ := zbind2_elim h
      refine r_callV (As := [.int 5]) (rest := []) (st1 := [.int x27]) hX dX5_load_27 lv_RX5_65 (c_X5_finding 5  u _ _ e29) (by decide) rfl rfl (zRecv.of (q := 0) (ci := 5) rfl rfl) rfl (Nat.le_of_ble_eq_true rfl) rfl ?_
      obtain ⟨rfl, rfl⟩ := zinj2 (Option.some.inj h)
      exact r_iret hX hR dX5_load_30
  · have h := (if_pos c1).symm.trans h
    refine r_aload_n hX dX5_load_7 0 rfl rfl ?_
    refine r_iconst (v := 0) hX dX5_load_8 (by decide) ?_
    obtain ⟨x30, u31, e32, h⟩ := zbind2_elim h
    refine r_callV (As := [.int 0]) (rest := []) (st1 := [.int x30]) hX dX5_load_9 lv_RX5_65 (c_X5_finding 0  u _ _ e32) (by decide) rfl rfl (zRecv.of (q := 0) (ci := 5) rfl rfl) rfl (Nat.le_of_ble_eq_true rfl) rfl ?_
    obtain ⟨rfl, rfl⟩ := zinj2 (Option.some.inj h)
    exact r_iret hX hR dX5_load_12
theorem dX5_judge_0 : decode cX5_judge 0 = .ok (.iload_n 1, 1) := by decide +kernel
theorem dX5_judge_1 : decode cX5_judge 1 = .ok (.invokestatic 247, 3) := by decide +kernel
theorem dX5_judge_4 : decode cX5_judge 4 = .ok (.ifCond .ne 9, 3) := by decide +kernel
theorem dX5_judge_7 : decode cX5_judge 7 = .ok (.aload_n 0, 1) := by decide +kernel
theorem dX5_judge_8 : decode cX5_judge 8 = .ok (.iconst 0, 1) := by decide +kernel
theorem dX5_judge_9 : decode cX5_judge 9 = .ok (.invokevirtual 65, 3) := by decide +kernel
theorem dX5_judge_12 : decode cX5_judge 12 = .ok (.ireturn, 1) := by decide +kernel
theorem dX5_judge_13 : decode cX5_judge 13 = .ok (.aload_n 0, 1) := by decide +kernel
theorem dX5_judge_14 : decode cX5_judge 14 = .ok (.getfield 42, 3) := by decide +kernel
theorem dX5_judge_17 : decode cX5_judge 17 = .ok (.iload_n 1, 1) := by decide +kernel
theorem dX5_judge_18 : decode cX5_judge 18 = .ok (.aaload, 1) := by decide +kernel
theorem dX5_judge_19 : decode cX5_judge 19 = .ok (.invokevirtual 255, 3) := by decide +kernel
theorem dX5_judge_22 : decode cX5_judge 22 = .ok (.ifCond .eq 9, 3) := by decide +kernel
theorem dX5_judge_25 : decode cX5_judge 25 = .ok (.aload_n 0, 1) := by decide +kernel
theorem dX5_judge_26 : decode cX5_judge 26 = .ok (.iconst 5, 1) := by decide +kernel
theorem dX5_judge_27 : decode cX5_judge 27 = .ok (.invokevirtual 65, 3) := by decide +kernel
theorem dX5_judge_30 : decode cX5_judge 30 = .ok (.ireturn, 1) := by decide +kernel
theorem dX5_judge_31 : decode cX5_judge 31 = .ok (.aload_n 0, 1) := by decide +kernel
theorem dX5_judge_32 : decode cX5_judge 32 = .ok (.invokevirtual 125, 3) := by decide +kernel
theorem dX5_judge_35 : decode cX5_judge 35 = .ok (.ifCond .ne 9, 3) := by decide +kernel
theorem dX5_judge_38 : decode cX5_judge 38 = .ok (.aload_n 0, 1) := by decide +kernel
theorem dX5_judge_39 : decode cX5_judge 39 = .ok (.iconst 3, 1) := by decide +kernel
theorem dX5_judge_40 : decode cX5_judge 40 = .ok (.invokevirtual 65, 3) := by decide +kernel
theorem dX5_judge_43 : decode cX5_judge 43 = .ok (.ireturn, 1) := by decide +kernel
theorem dX5_judge_44 : decode cX5_judge 44 = .ok (.aload_n 0, 1) := by decide +kernel
theorem dX5_judge_45 : decode cX5_judge 45 = .ok (.getfield 42, 3) := by decide +kernel
theorem dX5_judge_48 : decode cX5_judge 48 = .ok (.iload_n 1, 1) := by decide +kernel
theorem dX5_judge_49 : decode cX5_judge 49 = .ok (.aaload, 1) := by decide +kernel
theorem dX5_judge_50 : decode cX5_judge 50 = .ok (.getfield 254, 3) := by decide +kernel
theorem dX5_judge_53 : decode cX5_judge 53 = .ok (.istore_n 2, 1) := by decide +kernel
theorem dX5_judge_54 : decode cX5_judge 54 = .ok (.iconst 0, 1) := by decide +kernel
theorem dX5_judge_55 : decode cX5_judge 55 = .ok (.istore_n 3, 1) := by decide +kernel
theorem dX5_judge_56 : decode cX5_judge 56 = .ok (.iload_n 3, 1) := by decide +kernel
theorem dX5_judge_57 : decode cX5_judge 57 = .ok (.iload_n 2, 1) := by decide +kernel
theorem dX5_judge_58 : decode cX5_judge 58 = .ok (.if_icmp .ge 46, 3) := by decide +kernel
theorem dX5_judge_61 : decode cX5_judge 61 = .ok (.iload_n 3, 1) := by decide +kernel
theorem dX5_judge_62 : decode cX5_judge 62 = .ok (.aload_n 0, 1) := by decide +kernel
theorem dX5_judge_63 : decode cX5_judge 63 = .ok (.getfield 10, 3) := by decide +kernel
theorem dX5_judge_66 : decode cX5_judge 66 = .ok (.getfield 69, 3) := by decide +kernel
theorem dX5_judge_69 : decode cX5_judge 69 = .ok (.if_icmp .ge 35, 3) := by decide +kernel
theorem dX5_judge_72 : decode cX5_judge 72 = .ok (.aload_n 0, 1) := by decide +kernel
theorem dX5_judge_73 : decode cX5_judge 73 = .ok (.getfield 42, 3) := by decide +kernel
theorem dX5_judge_76 : decode cX5_judge 76 = .ok (.iload_n 1, 1) := by decide +kernel
theorem dX5_judge_77 : decode cX5_judge 77 = .ok (.aaload, 1) := by decide +kernel
theorem dX5_judge_78 : decode cX5_judge 78 = .ok (.getfield 266, 3) := by decide +kernel
theorem dX5_judge_81 : decode cX5_judge 81 = .ok (.iload_n 3, 1) := by decide +kernel
theorem dX5_judge_82 : decode cX5_judge 82 = .ok (.iaload, 1) := by decide +kernel
theorem dX5_judge_83 : decode cX5_judge 83 = .ok (.aload_n 0, 1) := by decide +kernel
theorem dX5_judge_84 : decode cX5_judge 84 = .ok (.getfield 22, 3) := by decide +kernel
theorem dX5_judge_87 : decode cX5_judge 87 = .ok (.aload_n 0, 1) := by decide +kernel
theorem dX5_judge_88 : decode cX5_judge 88 = .ok (.getfield 10, 3) := by decide +kernel
theorem dX5_judge_91 : decode cX5_judge 91 = .ok (.iload_n 3, 1) := by decide +kernel
theorem dX5_judge_92 : decode cX5_judge 92 = .ok (.invokevirtual 145, 3) := by decide +kernel
theorem dX5_judge_95 : decode cX5_judge 95 = .ok (.if_icmp .ne 9, 3) := by decide +kernel
theorem dX5_judge_98 : decode cX5_judge 98 = .ok (.iinc 3 1, 3) := by decide +kernel
theorem dX5_judge_101 : decode cX5_judge 101 = .ok (.goto (-45), 3) := by decide +kernel
theorem dX5_judge_104 : decode cX5_judge 104 = .ok (.iload_n 3, 1) := by decide +kernel
theorem dX5_judge_105 : decode cX5_judge 105 = .ok (.iload_n 2, 1) := by decide +kernel
theorem dX5_judge_106 : decode cX5_judge 106 = .ok (.if_icmp .ne 18, 3) := by decide +kernel
theorem dX5_judge_109 : decode cX5_judge 109 = .ok (.iload_n 3, 1) := by decide +kernel
theorem dX5_judge_110 : decode cX5_judge 110 = .ok (.aload_n 0, 1) := by decide +kernel
theorem dX5_judge_111 : decode cX5_judge 111 = .ok (.getfield 10, 3) := by decide +kernel
theorem dX5_judge_114 : decode cX5_judge 114 = .ok (.getfield 69, 3) := by decide +kernel
theorem dX5_judge_117 : decode cX5_judge 117 = .ok (.if_icmp .ne 7, 3) := by decide +kernel
theorem dX5_judge_120 : decode cX5_judge 120 = .ok (.iconst 0, 1) := by decide +kernel
theorem dX5_judge_121 : decode cX5_judge 121 = .ok (.goto 6, 3) := by decide +kernel
theorem dX5_judge_124 : decode cX5_judge 124 = .ok (.iconst 1, 1) := by decide +kernel
theorem dX5_judge_125 : decode cX5_judge 125 = .ok (.iload_n 3, 1) := by decide +kernel
theorem dX5_judge_126 : decode cX5_judge 126 = .ok (.iadd, 1) := by decide +kernel
theorem dX5_judge_127 : decode cX5_judge 127 = .ok (.ireturn, 1) := by decide +kernel
def m_X5_judge_b0 (u6 : zM) (k9 : Nat) (a1 : Int32) (x11 : Int32) : Option ((Int32) ⊕ (Int32)) :=
  (if (u6 k9 2) ≤ x11 then
some (.inr x11)
else
(if (u6 1 6) ≤ x11 then
some (.inr x11)
else
zbind (zsheet a1) (fun k16 => zbind (zld u6 (k16 + 1) 40 x11) (fun x18 => zbind (m_X2_costOf x11 u6) (fun x20 => (if x18 = x20 then
some (.inl (x11 + 1))
else
some (.inr x11)))))))
def m_X5_judge (a1 : Int32) (u : zM) : Option (Int32 × zM) :=
  (if (m_X5_isSheet a1) = 0 then
zbind2 (m_X5_finding 0 u) (fun x31 u32 => some (x31, u32))
else
zbind (zsheet a1) (fun k2 => (if (m_X1_isMissing k2 u) = 0 then
zbind2 (m_X5_cutForAllHere u) (fun x5 u6 => (if x5 = 0 then
zbind2 (m_X5_finding 3 u6) (fun x25 u26 => some (x25, u26))
else
zbind (zsheet a1) (fun k9 => zbind (zit zF (fun s : Int32 => m_X5_judge_b0 u6 k9 a1 s) 0) (fun x12 =>
(if x12 = (u6 k9 2) then
(if x12 = (u6 1 6) then
some (0, u6)
else
some ((1 + x12), u6))
else
some ((1 + x12), u6))))))
else
zbind2 (m_X5_finding 5 u) (fun x28 u29 => some (x28, u29)))))
set_option maxHeartbeats 4000000 in
set_option maxRecDepth 100000 in
theorem c_X5_judge (a1 : Int32)   (u : zM) (r : Int32) (u' : zM) (h : m_X5_judge a1 u = some (r, u')) : zCt 7 yX5_judge cX5_judge 4 (some .int) (fun E => [.ref (zad E 0), .int a1]) u (fun _ => some (.int r)) u' := by
  refine zCt.of (by decide +kernel) (fun E => Nat.le_of_ble_eq_true rfl) (fun X hX hR => ?_)
  have hX : zGood X RX5 cX5_judge 4 7 := hX
  show zG X u 0 [(0, .ref (zad X.1 0)), (1, .int a1)] []
  unfold m_X5_judge at h
  refine r_iload_n hX dX5_judge_0 1 rfl rfl ?_
  refine r_callS (As := [.int a1]) (rest := []) (st1 := [.int (m_X5_isSheet a1)]) hX dX5_judge_1 ls_RX5_247 (c_X5_isSheet a1  u _ rfl) (by decide) rfl rfl rfl (Nat.le_of_ble_eq_true rfl) rfl ?_
  refine r_if_ne (tgt := 13) hX dX5_judge_4 (by decide) (fun c1 => ?_) (fun c1 => ?_)
  · have h := (if_neg c1).symm.trans h
    refine r_aload_n hX dX5_judge_13 0 rfl rfl ?_
    refine r_getR hX dX5_judge_14 f_RX5_42 zr_0_5 ?_
    refine r_iload_n hX dX5_judge_17 1 rfl rfl ?_
    obtain ⟨k2, e3, h⟩ := zbind_elim h
    have hk2 := (zsheet_ok e3).2.2
    refine r_aldS hX dX5_judge_18 e3 ?_
    refine r_callV (As := []) (rest := []) (st1 := [.int (m_X1_isMissing k2 u)]) hX dX5_judge_19 lv_RX5_255 (c_X1_isMissing k2 hk2  u _ rfl) (by decide) rfl rfl (zRecv.of (ci := 1) (zSh_c hk2) rfl) rfl (Nat.le_of_ble_eq_true rfl) rfl ?_
    refine r_if_eq (tgt := 31) hX dX5_judge_22 (by decide) (fun c4 => ?_) (fun c4 => ?_)
    · have h := (if_pos c4).symm.trans h
      refine r_aload_n hX dX5_judge_31 0 rfl rfl ?_
      obtain ⟨x5, u6, e7, h⟩ := zbind2_elim h
      refine r_callV (As := []) (rest := []) (st1 := [.int x5]) hX dX5_judge_32 lv_RX5_125 (c_X5_cutForAllHere   u _ _ e7) (by decide) rfl rfl (zRecv.of (q := 0) (ci := 5) rfl rfl) rfl (Nat.le_of_ble_eq_true rfl) rfl ?_
      refine r_if_ne (tgt := 44) hX dX5_judge_35 (by decide) (fun c8 => ?_) (fun c8 => ?_)
      · have h := (if_neg c8).symm.trans h
        refine r_aload_n hX dX5_judge_44 0 rfl rfl ?_
        refine r_getR hX dX5_judge_45 f_RX5_42 zr_0_5 ?_
        refine r_iload_n hX dX5_judge_48 1 rfl rfl ?_
        obtain ⟨k9, e10, h⟩ := zbind_elim h
        have hk9 := (zsheet_ok e10).2.2
        refine r_aldS hX dX5_judge_49 e10 ?_
        refine r_getI hX dX5_judge_50 f_RX5_254 (zSh_2 hk9) ?_
        refine r_istore_n (y := (u6 k9 2)) (L' := [(2, .int (u6 k9 2)), (0, .ref (zad X.1 0)), (1, .int a1)]) hX dX5_judge_53 rfl (by decide) rfl rfl ?_
        refine r_iconst (v := 0) hX dX5_judge_54 (by decide) ?_
        refine r_istore_n (y := 0) (L' := [(3, .int 0), (2, .int (u6 k9 2)), (0, .ref (zad X.1 0)), (1, .int a1)]) hX dX5_judge_55 rfl (by decide) rfl rfl ?_
        refine r_sub [2, 3, 1, 0] (L' := [(0, .ref (zad X.1 0)), (1, .int a1), (2, .int (u6 k9 2)), (3, .int 0)]) rfl ?_
        obtain ⟨x12, h13, h⟩ := zbind_elim h
        have Jh13 : zG X u6 104 [(0, .ref (zad X.1 0)), (2, .int (u6 k9 2)), (3, .int x12)] [] := by
            refine r_iload_n hX dX5_judge_104 2 rfl rfl ?_
            refine r_iload_n hX dX5_judge_105 1 rfl rfl ?_
            refine r_icmp_ne (tgt := 124) hX dX5_judge_106 (by decide) (fun c23 => ?_) (fun c23 => ?_)
            · have h := (if_neg c23).symm.trans h
              refine r_iconst (v := 1) hX dX5_judge_124 (by decide) ?_
              refine r_iload_n hX dX5_judge_125 2 rfl rfl ?_
              refine r_iadd hX dX5_judge_126 ?_
              obtain ⟨rfl, rfl⟩ := zinj2 (Option.some.inj h)
              exact r_iret hX hR dX5_judge_127
            · have h := (if_pos c23).symm.trans h
              refine r_iload_n hX dX5_judge_109 2 rfl rfl ?_
              refine r_aload_n hX dX5_judge_110 0 rfl rfl ?_
              refine r_getR hX dX5_judge_111 f_RX5_10 zr_0_0 ?_
              refine r_getI hX dX5_judge_114 f_RX5_69 zi_1_6 ?_
              refine r_icmp_ne (tgt := 124) hX dX5_judge_117 (by decide) (fun c24 => ?_) (fun c24 => ?_)
              · have h := (if_neg c24).symm.trans h
                refine r_iconst (v := 1) hX dX5_judge_124 (by decide) ?_
                refine r_iload_n hX dX5_judge_125 2 rfl rfl ?_
                refine r_iadd hX dX5_judge_126 ?_
                obtain ⟨rfl, rfl⟩ := zinj2 (Option.some.inj h)
                exact r_iret hX hR dX5_judge_127
              · have h := (if_pos c24).symm.trans h
                refine r_iconst (v := 0) hX dX5_judge_120 (by decide) ?_
                refine r_goto (tgt := 127) hX dX5_judge_121 (by decide) ?_
                obtain ⟨rfl, rfl⟩ := zinj2 (Option.some.inj h)
                exact r_iret hX hR dX5_judge_127
        clear h
        refine zit_walk (P := fun s0 : Int32 => zG X u6 56 [(0, .ref (zad X.1 0)), (1, .int a1), (2, .int (u6 k9 2)), (3, .int s0)] []) ?_ zF _ h13
        clear h13
        intro s0 y0 h0b hin0 hout0
        obtain ⟨x11, es0⟩ : ∃ z, z = s0 := ⟨_, rfl⟩
        subst es0
        have h0b : m_X5_judge_b0 u6 k9 a1 x11 = some y0 := h0b
        unfold m_X5_judge_b0 at h0b
        show zG X u6 56 [(0, .ref (zad X.1 0)), (1, .int a1), (2, .int (u6 k9 2)), (3, .int x11)] []
        refine r_iload_n hX dX5_judge_56 3 rfl rfl ?_
        refine r_iload_n hX dX5_judge_57 2 rfl rfl ?_
        refine r_icmp_ge (tgt := 104) hX dX5_judge_58 (by decide) (fun c14 => ?_) (fun c14 => ?_)
        · have h0b := (if_pos c14).symm.trans h0b
          refine r_sub [0, 2, 3] (L' := [(0, .ref (zad X.1 0)), (2, .int (u6 k9 2)), (3, .int x11)]) rfl ?_
          have h0b := hout0 _ (Option.some.inj h0b).symm
          obtain rfl := h0b
          exact Jh13
        · have h0b := (if_neg c14).symm.trans h0b
          refine r_iload_n hX dX5_judge_61 3 rfl rfl ?_
          refine r_aload_n hX dX5_judge_62 0 rfl rfl ?_
          refine r_getR hX dX5_judge_63 f_RX5_10 zr_0_0 ?_
          refine r_getI hX dX5_judge_66 f_RX5_69 zi_1_6 ?_
          refine r_icmp_ge (tgt := 104) hX dX5_judge_69 (by decide) (fun c15 => ?_) (fun c15 => ?_)
          · have h0b := (if_pos c15).symm.trans h0b
            refine r_sub [0, 2, 3] (L' := [(0, .ref (zad X.1 0)), (2, .int (u6 k9 2)), (3, .int x11)]) rfl ?_
            have h0b := hout0 _ (Option.some.inj h0b).symm
            obtain rfl := h0b
            exact Jh13
          · have h0b := (if_neg c15).symm.trans h0b
            refine r_aload_n hX dX5_judge_72 0 rfl rfl ?_
            refine r_getR hX dX5_judge_73 f_RX5_42 zr_0_5 ?_
            refine r_iload_n hX dX5_judge_76 1 rfl rfl ?_
            obtain ⟨k16, e17, h0b⟩ := zbind_elim h0b
            have hk16 := (zsheet_ok e17).2.2
            refine r_aldS hX dX5_judge_77 e17 ?_
            refine r_getR hX dX5_judge_78 f_RX5_266 (zSh_0 hk16) ?_
            refine r_iload_n hX dX5_judge_81 3 rfl rfl ?_
            obtain ⟨x18, e19, h0b⟩ := zbind_elim h0b
            refine r_iald hX dX5_judge_82 (zSh_n hk16) e19 ?_
            refine r_aload_n hX dX5_judge_83 0 rfl rfl ?_
            refine r_getR hX dX5_judge_84 f_RX5_22 zr_0_2 ?_
            refine r_aload_n hX dX5_judge_87 0 rfl rfl ?_
            refine r_getR hX dX5_judge_88 f_RX5_10 zr_0_0 ?_
            refine r_iload_n hX dX5_judge_91 3 rfl rfl ?_
            obtain ⟨x20, e21, h0b⟩ := zbind_elim h0b
            refine r_callV (As := [.ref (zad X.1 1), .int x11]) (rest := [.int x18]) (st1 := [.int x20, .int x18]) hX dX5_judge_92 lv_RX5_145 (c_X2_costOf x11  u6 _ e21) (by decide) rfl rfl (zRecv.of (q := 15) (ci := 2) rfl rfl) rfl (Nat.le_of_ble_eq_true rfl) rfl ?_
            refine r_icmp_ne (tgt := 104) hX dX5_judge_95 (by decide) (fun c22 => ?_) (fun c22 => ?_)
            · have h0b := (if_neg c22).symm.trans h0b
              refine r_sub [0, 2, 3] (L' := [(0, .ref (zad X.1 0)), (2, .int (u6 k9 2)), (3, .int x11)]) rfl ?_
              have h0b := hout0 _ (Option.some.inj h0b).symm
              obtain rfl := h0b
              exact Jh13
            · have h0b := (if_pos c22).symm.trans h0b
              refine r_iinc (v := (x11 + 1)) (L' := [(3, .int (x11 + 1)), (0, .ref (zad X.1 0)), (1, .int a1), (2, .int (u6 k9 2))]) hX dX5_judge_98 (by decide) 3 rfl rfl rfl ?_
              refine r_goto (tgt := 56) hX dX5_judge_101 (by decide) ?_
              refine r_sub [1, 2, 3, 0] (L' := [(0, .ref (zad X.1 0)), (1, .int a1), (2, .int (u6 k9 2)), (3, .int (x11 + 1))]) rfl ?_
              exact hin0 _ (Option.some.inj h0b).symm
      · have h := (if_pos c8).symm.trans h
        refine r_aload_n hX dX5_judge_38 0 rfl rfl ?_
        refine r_iconst (v := 3) hX dX5_judge_39 (by decide) ?_
        obtain ⟨x25, u26, e27, h⟩ := zbind2_elim h
        refine r_callV (As := [.int 3]) (rest := []) (st1 := [.int x25]) hX dX5_judge_40 lv_RX5_65 (c_X5_finding 3  u6 _ _ e27) (by decide) rfl rfl (zRecv.of (q := 0) (ci := 5) rfl rfl) rfl (Nat.le_of_ble_eq_true rfl) rfl ?_
        obtain ⟨rfl, rfl⟩ := zinj2 (Option.some.inj h)
        exact r_iret hX hR dX5_judge_43
    · have h := (if_neg c4).symm.trans h
      refine r_aload_n hX dX5_judge_25 0 rfl rfl ?_
      refine r_iconst (v := 5) hX dX5_judge_26 (by decide) ?_
      obtain ⟨x28, u29, e30, h⟩ := zbind2_elim h
      refine r_callV (As := [.int 5]) (rest := []) (st1 := [.int x28]) hX dX5_judge_27 lv_RX5_65 (c_X5_finding 5  u _ _ e30) (by decide) rfl rfl (zRecv.of (q := 0) (ci := 5) rfl rfl) rfl (Nat.le_of_ble_eq_true rfl) rfl ?_
      obtain ⟨rfl, rfl⟩ := zinj2 (Option.some.inj h)
      exact r_iret hX hR dX5_judge_30
  · have h := (if_pos c1).symm.trans h
    refine r_aload_n hX dX5_judge_7 0 rfl rfl ?_
    refine r_iconst (v := 0) hX dX5_judge_8 (by decide) ?_
    obtain ⟨x31, u32, e33, h⟩ := zbind2_elim h
    refine r_callV (As := [.int 0]) (rest := []) (st1 := [.int x31]) hX dX5_judge_9 lv_RX5_65 (c_X5_finding 0  u _ _ e33) (by decide) rfl rfl (zRecv.of (q := 0) (ci := 5) rfl rfl) rfl (Nat.le_of_ble_eq_true rfl) rfl ?_
    obtain ⟨rfl, rfl⟩ := zinj2 (Option.some.inj h)
    exact r_iret hX hR dX5_judge_12
theorem dX4_become_0 : decode cX4_become 0 = .ok (.aload_n 1, 1) := by decide +kernel
theorem dX4_become_1 : decode cX4_become 1 = .ok (.getfield 9, 3) := by decide +kernel
theorem dX4_become_4 : decode cX4_become 4 = .ok (.iconst 0, 1) := by decide +kernel
theorem dX4_become_5 : decode cX4_become 5 = .ok (.aload_n 0, 1) := by decide +kernel
theorem dX4_become_6 : decode cX4_become 6 = .ok (.getfield 9, 3) := by decide +kernel
theorem dX4_become_9 : decode cX4_become 9 = .ok (.iconst 0, 1) := by decide +kernel
theorem dX4_become_10 : decode cX4_become 10 = .ok (.bipush 12, 2) := by decide +kernel
theorem dX4_become_12 : decode cX4_become 12 = .ok (.invokestatic 52, 3) := by decide +kernel
theorem dX4_become_15 : decode cX4_become 15 = .ok (.aload_n 1, 1) := by decide +kernel
theorem dX4_become_16 : decode cX4_become 16 = .ok (.getfield 15, 3) := by decide +kernel
theorem dX4_become_19 : decode cX4_become 19 = .ok (.iconst 0, 1) := by decide +kernel
theorem dX4_become_20 : decode cX4_become 20 = .ok (.aload_n 0, 1) := by decide +kernel
theorem dX4_become_21 : decode cX4_become 21 = .ok (.getfield 15, 3) := by decide +kernel
theorem dX4_become_24 : decode cX4_become 24 = .ok (.iconst 0, 1) := by decide +kernel
theorem dX4_become_25 : decode cX4_become 25 = .ok (.bipush 36, 2) := by decide +kernel
theorem dX4_become_27 : decode cX4_become 27 = .ok (.invokestatic 52, 3) := by decide +kernel
theorem dX4_become_30 : decode cX4_become 30 = .ok (.aload_n 1, 1) := by decide +kernel
theorem dX4_become_31 : decode cX4_become 31 = .ok (.getfield 18, 3) := by decide +kernel
theorem dX4_become_34 : decode cX4_become 34 = .ok (.iconst 0, 1) := by decide +kernel
theorem dX4_become_35 : decode cX4_become 35 = .ok (.aload_n 0, 1) := by decide +kernel
theorem dX4_become_36 : decode cX4_become 36 = .ok (.getfield 18, 3) := by decide +kernel
theorem dX4_become_39 : decode cX4_become 39 = .ok (.iconst 0, 1) := by decide +kernel
theorem dX4_become_40 : decode cX4_become 40 = .ok (.bipush 12, 2) := by decide +kernel
theorem dX4_become_42 : decode cX4_become 42 = .ok (.invokestatic 52, 3) := by decide +kernel
theorem dX4_become_45 : decode cX4_become 45 = .ok (.aload_n 1, 1) := by decide +kernel
theorem dX4_become_46 : decode cX4_become 46 = .ok (.getfield 21, 3) := by decide +kernel
theorem dX4_become_49 : decode cX4_become 49 = .ok (.iconst 0, 1) := by decide +kernel
theorem dX4_become_50 : decode cX4_become 50 = .ok (.aload_n 0, 1) := by decide +kernel
theorem dX4_become_51 : decode cX4_become 51 = .ok (.getfield 21, 3) := by decide +kernel
theorem dX4_become_54 : decode cX4_become 54 = .ok (.iconst 0, 1) := by decide +kernel
theorem dX4_become_55 : decode cX4_become 55 = .ok (.bipush 12, 2) := by decide +kernel
theorem dX4_become_57 : decode cX4_become 57 = .ok (.invokestatic 52, 3) := by decide +kernel
theorem dX4_become_60 : decode cX4_become 60 = .ok (.aload_n 1, 1) := by decide +kernel
theorem dX4_become_61 : decode cX4_become 61 = .ok (.getfield 24, 3) := by decide +kernel
theorem dX4_become_64 : decode cX4_become 64 = .ok (.iconst 0, 1) := by decide +kernel
theorem dX4_become_65 : decode cX4_become 65 = .ok (.aload_n 0, 1) := by decide +kernel
theorem dX4_become_66 : decode cX4_become 66 = .ok (.getfield 24, 3) := by decide +kernel
theorem dX4_become_69 : decode cX4_become 69 = .ok (.iconst 0, 1) := by decide +kernel
theorem dX4_become_70 : decode cX4_become 70 = .ok (.bipush 60, 2) := by decide +kernel
theorem dX4_become_72 : decode cX4_become 72 = .ok (.invokestatic 52, 3) := by decide +kernel
theorem dX4_become_75 : decode cX4_become 75 = .ok (.aload_n 1, 1) := by decide +kernel
theorem dX4_become_76 : decode cX4_become 76 = .ok (.getfield 27, 3) := by decide +kernel
theorem dX4_become_79 : decode cX4_become 79 = .ok (.iconst 0, 1) := by decide +kernel
theorem dX4_become_80 : decode cX4_become 80 = .ok (.aload_n 0, 1) := by decide +kernel
theorem dX4_become_81 : decode cX4_become 81 = .ok (.getfield 27, 3) := by decide +kernel
theorem dX4_become_84 : decode cX4_become 84 = .ok (.iconst 0, 1) := by decide +kernel
theorem dX4_become_85 : decode cX4_become 85 = .ok (.bipush 10, 2) := by decide +kernel
theorem dX4_become_87 : decode cX4_become 87 = .ok (.invokestatic 52, 3) := by decide +kernel
theorem dX4_become_90 : decode cX4_become 90 = .ok (.aload_n 0, 1) := by decide +kernel
theorem dX4_become_91 : decode cX4_become 91 = .ok (.aload_n 1, 1) := by decide +kernel
theorem dX4_become_92 : decode cX4_become 92 = .ok (.getfield 30, 3) := by decide +kernel
theorem dX4_become_95 : decode cX4_become 95 = .ok (.putfield 30, 3) := by decide +kernel
theorem dX4_become_98 : decode cX4_become 98 = .ok (.aload_n 0, 1) := by decide +kernel
theorem dX4_become_99 : decode cX4_become 99 = .ok (.aload_n 1, 1) := by decide +kernel
theorem dX4_become_100 : decode cX4_become 100 = .ok (.getfield 34, 3) := by decide +kernel
theorem dX4_become_103 : decode cX4_become 103 = .ok (.putfield 34, 3) := by decide +kernel
theorem dX4_become_106 : decode cX4_become 106 = .ok (.aload_n 0, 1) := by decide +kernel
theorem dX4_become_107 : decode cX4_become 107 = .ok (.aload_n 1, 1) := by decide +kernel
theorem dX4_become_108 : decode cX4_become 108 = .ok (.getfield 37, 3) := by decide +kernel
theorem dX4_become_111 : decode cX4_become 111 = .ok (.putfield 37, 3) := by decide +kernel
theorem dX4_become_114 : decode cX4_become 114 = .ok (.aload_n 0, 1) := by decide +kernel
theorem dX4_become_115 : decode cX4_become 115 = .ok (.aload_n 1, 1) := by decide +kernel
theorem dX4_become_116 : decode cX4_become 116 = .ok (.getfield 40, 3) := by decide +kernel
theorem dX4_become_119 : decode cX4_become 119 = .ok (.putfield 40, 3) := by decide +kernel
theorem dX4_become_122 : decode cX4_become 122 = .ok (.aload_n 0, 1) := by decide +kernel
theorem dX4_become_123 : decode cX4_become 123 = .ok (.aload_n 1, 1) := by decide +kernel
theorem dX4_become_124 : decode cX4_become 124 = .ok (.getfield 43, 3) := by decide +kernel
theorem dX4_become_127 : decode cX4_become 127 = .ok (.putfield 43, 3) := by decide +kernel
theorem dX4_become_130 : decode cX4_become 130 = .ok (.aload_n 0, 1) := by decide +kernel
theorem dX4_become_131 : decode cX4_become 131 = .ok (.aload_n 1, 1) := by decide +kernel
theorem dX4_become_132 : decode cX4_become 132 = .ok (.getfield 46, 3) := by decide +kernel
theorem dX4_become_135 : decode cX4_become 135 = .ok (.putfield 46, 3) := by decide +kernel
theorem dX4_become_138 : decode cX4_become 138 = .ok (.aload_n 0, 1) := by decide +kernel
theorem dX4_become_139 : decode cX4_become 139 = .ok (.aload_n 1, 1) := by decide +kernel
theorem dX4_become_140 : decode cX4_become 140 = .ok (.getfield 49, 3) := by decide +kernel
theorem dX4_become_143 : decode cX4_become 143 = .ok (.putfield 49, 3) := by decide +kernel
theorem dX4_become_146 : decode cX4_become 146 = .ok (.return_, 1) := by decide +kernel
def m_X4_become  (u : zM) : Option (zM) :=
  zbind (zcp u 2 12 0 9 12 0 12) (fun u1 => zbind (zcp u1 3 36 0 10 36 0 36) (fun u3 => zbind (zcp u3 4 12 0 11 12 0 12) (fun u5 => zbind (zcp u5 5 12 0 12 12 0 12) (fun u7 => zbind (zcp u7 6 60 0 13 60 0 60) (fun u9 => zbind (zcp u9 7 10 0 14 10 0 10) (fun u11 => zlet (zst u11 8 6 (u11 1 6)) (fun u13 => zlet (zst u13 8 7 (u13 1 7)) (fun u15 => zlet (zst u15 8 8 (u15 1 8)) (fun u17 => zlet (zst u17 8 9 (u17 1 9)) (fun u19 => zlet (zst u19 8 10 (u19 1 10)) (fun u21 => zlet (zst u21 8 11 (u21 1 11)) (fun u23 => zlet (zst u23 8 12 (u23 1 12)) (fun u25 => some u25)))))))))))))
set_option maxHeartbeats 4000000 in
set_option maxRecDepth 100000 in
theorem c_X4_become    (u : zM) (u' : zM) (h : m_X4_become u = some (u')) : zCt 2 yX4_become cX4_become 2 none (fun E => [.ref (zad E 8), .ref (zad E 1)]) u (fun _ => none) u' := by
  refine zCt.of (by decide +kernel) (fun E => Nat.le_of_ble_eq_true rfl) (fun X hX hR => ?_)
  have hX : zGood X RX4 cX4_become 2 2 := hX
  show zG X u 0 [(0, .ref (zad X.1 8)), (1, .ref (zad X.1 1))] []
  unfold m_X4_become at h
  refine r_aload_n hX dX4_become_0 1 rfl rfl ?_
  refine r_getR hX dX4_become_1 f_RX4_9 zr_1_0 ?_
  refine r_iconst (v := 0) hX dX4_become_4 (by decide) ?_
  refine r_aload_n hX dX4_become_5 0 rfl rfl ?_
  refine r_getR hX dX4_become_6 f_RX4_9 zr_8_0 ?_
  refine r_iconst (v := 0) hX dX4_become_9 (by decide) ?_
  refine r_bipush (v := 12) hX dX4_become_10 (by decide) ?_
  obtain ⟨u1, e2, h⟩ := zbind_elim h
  refine r_copy hX dX4_become_12 la_RX4_52 rfl rfl (by decide) (Nat.le_of_ble_eq_true rfl) e2 ?_
  refine r_aload_n hX dX4_become_15 1 rfl rfl ?_
  refine r_getR hX dX4_become_16 f_RX4_15 zr_1_1 ?_
  refine r_iconst (v := 0) hX dX4_become_19 (by decide) ?_
  refine r_aload_n hX dX4_become_20 0 rfl rfl ?_
  refine r_getR hX dX4_become_21 f_RX4_15 zr_8_1 ?_
  refine r_iconst (v := 0) hX dX4_become_24 (by decide) ?_
  refine r_bipush (v := 36) hX dX4_become_25 (by decide) ?_
  obtain ⟨u3, e4, h⟩ := zbind_elim h
  refine r_copy hX dX4_become_27 la_RX4_52 rfl rfl (by decide) (Nat.le_of_ble_eq_true rfl) e4 ?_
  refine r_aload_n hX dX4_become_30 1 rfl rfl ?_
  refine r_getR hX dX4_become_31 f_RX4_18 zr_1_2 ?_
  refine r_iconst (v := 0) hX dX4_become_34 (by decide) ?_
  refine r_aload_n hX dX4_become_35 0 rfl rfl ?_
  refine r_getR hX dX4_become_36 f_RX4_18 zr_8_2 ?_
  refine r_iconst (v := 0) hX dX4_become_39 (by decide) ?_
  refine r_bipush (v := 12) hX dX4_become_40 (by decide) ?_
  obtain ⟨u5, e6, h⟩ := zbind_elim h
  refine r_copy hX dX4_become_42 la_RX4_52 rfl rfl (by decide) (Nat.le_of_ble_eq_true rfl) e6 ?_
  refine r_aload_n hX dX4_become_45 1 rfl rfl ?_
  refine r_getR hX dX4_become_46 f_RX4_21 zr_1_3 ?_
  refine r_iconst (v := 0) hX dX4_become_49 (by decide) ?_
  refine r_aload_n hX dX4_become_50 0 rfl rfl ?_
  refine r_getR hX dX4_become_51 f_RX4_21 zr_8_3 ?_
  refine r_iconst (v := 0) hX dX4_become_54 (by decide) ?_
  refine r_bipush (v := 12) hX dX4_become_55 (by decide) ?_
  obtain ⟨u7, e8, h⟩ := zbind_elim h
  refine r_copy hX dX4_become_57 la_RX4_52 rfl rfl (by decide) (Nat.le_of_ble_eq_true rfl) e8 ?_
  refine r_aload_n hX dX4_become_60 1 rfl rfl ?_
  refine r_getR hX dX4_become_61 f_RX4_24 zr_1_4 ?_
  refine r_iconst (v := 0) hX dX4_become_64 (by decide) ?_
  refine r_aload_n hX dX4_become_65 0 rfl rfl ?_
  refine r_getR hX dX4_become_66 f_RX4_24 zr_8_4 ?_
  refine r_iconst (v := 0) hX dX4_become_69 (by decide) ?_
  refine r_bipush (v := 60) hX dX4_become_70 (by decide) ?_
  obtain ⟨u9, e10, h⟩ := zbind_elim h
  refine r_copy hX dX4_become_72 la_RX4_52 rfl rfl (by decide) (Nat.le_of_ble_eq_true rfl) e10 ?_
  refine r_aload_n hX dX4_become_75 1 rfl rfl ?_
  refine r_getR hX dX4_become_76 f_RX4_27 zr_1_5 ?_
  refine r_iconst (v := 0) hX dX4_become_79 (by decide) ?_
  refine r_aload_n hX dX4_become_80 0 rfl rfl ?_
  refine r_getR hX dX4_become_81 f_RX4_27 zr_8_5 ?_
  refine r_iconst (v := 0) hX dX4_become_84 (by decide) ?_
  refine r_bipush (v := 10) hX dX4_become_85 (by decide) ?_
  obtain ⟨u11, e12, h⟩ := zbind_elim h
  refine r_copy hX dX4_become_87 la_RX4_52 rfl rfl (by decide) (Nat.le_of_ble_eq_true rfl) e12 ?_
  refine r_aload_n hX dX4_become_90 0 rfl rfl ?_
  refine r_aload_n hX dX4_become_91 1 rfl rfl ?_
  refine r_getI hX dX4_become_92 f_RX4_30 zi_1_6 ?_
  obtain ⟨u13, e14, h⟩ := zlet_elim h
  refine r_putI hX dX4_become_95 f_RX4_30 p_4_6 zi_8_6 ?_
  rw [e14]
  refine r_aload_n hX dX4_become_98 0 rfl rfl ?_
  refine r_aload_n hX dX4_become_99 1 rfl rfl ?_
  refine r_getI hX dX4_become_100 f_RX4_34 zi_1_7 ?_
  obtain ⟨u15, e16, h⟩ := zlet_elim h
  refine r_putI hX dX4_become_103 f_RX4_34 p_4_7 zi_8_7 ?_
  rw [e16]
  refine r_aload_n hX dX4_become_106 0 rfl rfl ?_
  refine r_aload_n hX dX4_become_107 1 rfl rfl ?_
  refine r_getI hX dX4_become_108 f_RX4_37 zi_1_8 ?_
  obtain ⟨u17, e18, h⟩ := zlet_elim h
  refine r_putI hX dX4_become_111 f_RX4_37 p_4_8 zi_8_8 ?_
  rw [e18]
  refine r_aload_n hX dX4_become_114 0 rfl rfl ?_
  refine r_aload_n hX dX4_become_115 1 rfl rfl ?_
  refine r_getI hX dX4_become_116 f_RX4_40 zi_1_9 ?_
  obtain ⟨u19, e20, h⟩ := zlet_elim h
  refine r_putI hX dX4_become_119 f_RX4_40 p_4_9 zi_8_9 ?_
  rw [e20]
  refine r_aload_n hX dX4_become_122 0 rfl rfl ?_
  refine r_aload_n hX dX4_become_123 1 rfl rfl ?_
  refine r_getI hX dX4_become_124 f_RX4_43 zi_1_10 ?_
  obtain ⟨u21, e22, h⟩ := zlet_elim h
  refine r_putI hX dX4_become_127 f_RX4_43 p_4_10 zi_8_10 ?_
  rw [e22]
  refine r_aload_n hX dX4_become_130 0 rfl rfl ?_
  refine r_aload_n hX dX4_become_131 1 rfl rfl ?_
  refine r_getI hX dX4_become_132 f_RX4_46 zi_1_11 ?_
  obtain ⟨u23, e24, h⟩ := zlet_elim h
  refine r_putI hX dX4_become_135 f_RX4_46 p_4_11 zi_8_11 ?_
  rw [e24]
  refine r_aload_n hX dX4_become_138 0 rfl rfl ?_
  refine r_aload_n hX dX4_become_139 1 rfl rfl ?_
  refine r_getI hX dX4_become_140 f_RX4_49 zi_1_12 ?_
  obtain ⟨u25, e26, h⟩ := zlet_elim h
  refine r_putI hX dX4_become_143 f_RX4_49 p_4_12 zi_8_12 ?_
  rw [e26]
  obtain rfl := Option.some.inj h
  exact r_vret hX hR dX4_become_146
theorem dX5_image_0 : decode cX5_image 0 = .ok (.aload_n 0, 1) := by decide +kernel
theorem dX5_image_1 : decode cX5_image 1 = .ok (.getfield 16, 3) := by decide +kernel
theorem dX5_image_4 : decode cX5_image 4 = .ok (.aload_n 0, 1) := by decide +kernel
theorem dX5_image_5 : decode cX5_image 5 = .ok (.getfield 10, 3) := by decide +kernel
theorem dX5_image_8 : decode cX5_image 8 = .ok (.invokevirtual 272, 3) := by decide +kernel
theorem dX5_image_11 : decode cX5_image 11 = .ok (.aload_n 0, 1) := by decide +kernel
theorem dX5_image_12 : decode cX5_image 12 = .ok (.iconst 1, 1) := by decide +kernel
theorem dX5_image_13 : decode cX5_image 13 = .ok (.putfield 56, 3) := by decide +kernel
theorem dX5_image_16 : decode cX5_image 16 = .ok (.iconst 1, 1) := by decide +kernel
theorem dX5_image_17 : decode cX5_image 17 = .ok (.ireturn, 1) := by decide +kernel
def m_X5_image  (u : zM) : Option (Int32 × zM) :=
  zbind (m_X4_become u) (fun u1 => zlet (zst u1 0 9 1) (fun u3 => some (1, u3)))
set_option maxHeartbeats 4000000 in
set_option maxRecDepth 100000 in
theorem c_X5_image    (u : zM) (r : Int32) (u' : zM) (h : m_X5_image u = some (r, u')) : zCt 3 yX5_image cX5_image 1 (some .int) (fun E => [.ref (zad E 0)]) u (fun _ => some (.int r)) u' := by
  refine zCt.of (by decide +kernel) (fun E => Nat.le_of_ble_eq_true rfl) (fun X hX hR => ?_)
  have hX : zGood X RX5 cX5_image 1 3 := hX
  show zG X u 0 [(0, .ref (zad X.1 0))] []
  unfold m_X5_image at h
  refine r_aload_n hX dX5_image_0 0 rfl rfl ?_
  refine r_getR hX dX5_image_1 f_RX5_16 zr_0_1 ?_
  refine r_aload_n hX dX5_image_4 0 rfl rfl ?_
  refine r_getR hX dX5_image_5 f_RX5_10 zr_0_0 ?_
  obtain ⟨u1, e2, h⟩ := zbind_elim h
  refine r_callV (As := [.ref (zad X.1 1)]) (rest := []) (st1 := []) hX dX5_image_8 lv_RX5_272 (c_X4_become   u _ e2) (by decide) rfl rfl (zRecv.of (q := 8) (ci := 4) rfl rfl) rfl (Nat.le_of_ble_eq_true rfl) rfl ?_
  refine r_aload_n hX dX5_image_11 0 rfl rfl ?_
  refine r_iconst (v := 1) hX dX5_image_12 (by decide) ?_
  obtain ⟨u3, e4, h⟩ := zlet_elim h
  refine r_putZ hX dX5_image_13 f_RX5_56 p_5_9 zi_0_9 (by first | exact Or.inl rfl | exact Or.inr rfl | simp) ?_
  rw [e4]
  refine r_iconst (v := 1) hX dX5_image_16 (by decide) ?_
  obtain ⟨rfl, rfl⟩ := zinj2 (Option.some.inj h)
  exact r_iret hX hR dX5_image_17
def m_X4_become_2  (u : zM) : Option (zM) :=
  zbind (zcp u 9 12 0 2 12 0 12) (fun u1 => zbind (zcp u1 10 36 0 3 36 0 36) (fun u3 => zbind (zcp u3 11 12 0 4 12 0 12) (fun u5 => zbind (zcp u5 12 12 0 5 12 0 12) (fun u7 => zbind (zcp u7 13 60 0 6 60 0 60) (fun u9 => zbind (zcp u9 14 10 0 7 10 0 10) (fun u11 => zlet (zst u11 1 6 (u11 8 6)) (fun u13 => zlet (zst u13 1 7 (u13 8 7)) (fun u15 => zlet (zst u15 1 8 (u15 8 8)) (fun u17 => zlet (zst u17 1 9 (u17 8 9)) (fun u19 => zlet (zst u19 1 10 (u19 8 10)) (fun u21 => zlet (zst u21 1 11 (u21 8 11)) (fun u23 => zlet (zst u23 1 12 (u23 8 12)) (fun u25 => some u25)))))))))))))
set_option maxHeartbeats 4000000 in
set_option maxRecDepth 100000 in
theorem c_X4_become_2    (u : zM) (u' : zM) (h : m_X4_become_2 u = some (u')) : zCt 2 yX4_become cX4_become 2 none (fun E => [.ref (zad E 1), .ref (zad E 8)]) u (fun _ => none) u' := by
  refine zCt.of (by decide +kernel) (fun E => Nat.le_of_ble_eq_true rfl) (fun X hX hR => ?_)
  have hX : zGood X RX4 cX4_become 2 2 := hX
  show zG X u 0 [(0, .ref (zad X.1 1)), (1, .ref (zad X.1 8))] []
  unfold m_X4_become_2 at h
  refine r_aload_n hX dX4_become_0 1 rfl rfl ?_
  refine r_getR hX dX4_become_1 f_RX4_9 zr_8_0 ?_
  refine r_iconst (v := 0) hX dX4_become_4 (by decide) ?_
  refine r_aload_n hX dX4_become_5 0 rfl rfl ?_
  refine r_getR hX dX4_become_6 f_RX4_9 zr_1_0 ?_
  refine r_iconst (v := 0) hX dX4_become_9 (by decide) ?_
  refine r_bipush (v := 12) hX dX4_become_10 (by decide) ?_
  obtain ⟨u1, e2, h⟩ := zbind_elim h
  refine r_copy hX dX4_become_12 la_RX4_52 rfl rfl (by decide) (Nat.le_of_ble_eq_true rfl) e2 ?_
  refine r_aload_n hX dX4_become_15 1 rfl rfl ?_
  refine r_getR hX dX4_become_16 f_RX4_15 zr_8_1 ?_
  refine r_iconst (v := 0) hX dX4_become_19 (by decide) ?_
  refine r_aload_n hX dX4_become_20 0 rfl rfl ?_
  refine r_getR hX dX4_become_21 f_RX4_15 zr_1_1 ?_
  refine r_iconst (v := 0) hX dX4_become_24 (by decide) ?_
  refine r_bipush (v := 36) hX dX4_become_25 (by decide) ?_
  obtain ⟨u3, e4, h⟩ := zbind_elim h
  refine r_copy hX dX4_become_27 la_RX4_52 rfl rfl (by decide) (Nat.le_of_ble_eq_true rfl) e4 ?_
  refine r_aload_n hX dX4_become_30 1 rfl rfl ?_
  refine r_getR hX dX4_become_31 f_RX4_18 zr_8_2 ?_
  refine r_iconst (v := 0) hX dX4_become_34 (by decide) ?_
  refine r_aload_n hX dX4_become_35 0 rfl rfl ?_
  refine r_getR hX dX4_become_36 f_RX4_18 zr_1_2 ?_
  refine r_iconst (v := 0) hX dX4_become_39 (by decide) ?_
  refine r_bipush (v := 12) hX dX4_become_40 (by decide) ?_
  obtain ⟨u5, e6, h⟩ := zbind_elim h
  refine r_copy hX dX4_become_42 la_RX4_52 rfl rfl (by decide) (Nat.le_of_ble_eq_true rfl) e6 ?_
  refine r_aload_n hX dX4_become_45 1 rfl rfl ?_
  refine r_getR hX dX4_become_46 f_RX4_21 zr_8_3 ?_
  refine r_iconst (v := 0) hX dX4_become_49 (by decide) ?_
  refine r_aload_n hX dX4_become_50 0 rfl rfl ?_
  refine r_getR hX dX4_become_51 f_RX4_21 zr_1_3 ?_
  refine r_iconst (v := 0) hX dX4_become_54 (by decide) ?_
  refine r_bipush (v := 12) hX dX4_become_55 (by decide) ?_
  obtain ⟨u7, e8, h⟩ := zbind_elim h
  refine r_copy hX dX4_become_57 la_RX4_52 rfl rfl (by decide) (Nat.le_of_ble_eq_true rfl) e8 ?_
  refine r_aload_n hX dX4_become_60 1 rfl rfl ?_
  refine r_getR hX dX4_become_61 f_RX4_24 zr_8_4 ?_
  refine r_iconst (v := 0) hX dX4_become_64 (by decide) ?_
  refine r_aload_n hX dX4_become_65 0 rfl rfl ?_
  refine r_getR hX dX4_become_66 f_RX4_24 zr_1_4 ?_
  refine r_iconst (v := 0) hX dX4_become_69 (by decide) ?_
  refine r_bipush (v := 60) hX dX4_become_70 (by decide) ?_
  obtain ⟨u9, e10, h⟩ := zbind_elim h
  refine r_copy hX dX4_become_72 la_RX4_52 rfl rfl (by decide) (Nat.le_of_ble_eq_true rfl) e10 ?_
  refine r_aload_n hX dX4_become_75 1 rfl rfl ?_
  refine r_getR hX dX4_become_76 f_RX4_27 zr_8_5 ?_
  refine r_iconst (v := 0) hX dX4_become_79 (by decide) ?_
  refine r_aload_n hX dX4_become_80 0 rfl rfl ?_
  refine r_getR hX dX4_become_81 f_RX4_27 zr_1_5 ?_
  refine r_iconst (v := 0) hX dX4_become_84 (by decide) ?_
  refine r_bipush (v := 10) hX dX4_become_85 (by decide) ?_
  obtain ⟨u11, e12, h⟩ := zbind_elim h
  refine r_copy hX dX4_become_87 la_RX4_52 rfl rfl (by decide) (Nat.le_of_ble_eq_true rfl) e12 ?_
  refine r_aload_n hX dX4_become_90 0 rfl rfl ?_
  refine r_aload_n hX dX4_become_91 1 rfl rfl ?_
  refine r_getI hX dX4_become_92 f_RX4_30 zi_8_6 ?_
  obtain ⟨u13, e14, h⟩ := zlet_elim h
  refine r_putI hX dX4_become_95 f_RX4_30 p_4_6 zi_1_6 ?_
  rw [e14]
  refine r_aload_n hX dX4_become_98 0 rfl rfl ?_
  refine r_aload_n hX dX4_become_99 1 rfl rfl ?_
  refine r_getI hX dX4_become_100 f_RX4_34 zi_8_7 ?_
  obtain ⟨u15, e16, h⟩ := zlet_elim h
  refine r_putI hX dX4_become_103 f_RX4_34 p_4_7 zi_1_7 ?_
  rw [e16]
  refine r_aload_n hX dX4_become_106 0 rfl rfl ?_
  refine r_aload_n hX dX4_become_107 1 rfl rfl ?_
  refine r_getI hX dX4_become_108 f_RX4_37 zi_8_8 ?_
  obtain ⟨u17, e18, h⟩ := zlet_elim h
  refine r_putI hX dX4_become_111 f_RX4_37 p_4_8 zi_1_8 ?_
  rw [e18]
  refine r_aload_n hX dX4_become_114 0 rfl rfl ?_
  refine r_aload_n hX dX4_become_115 1 rfl rfl ?_
  refine r_getI hX dX4_become_116 f_RX4_40 zi_8_9 ?_
  obtain ⟨u19, e20, h⟩ := zlet_elim h
  refine r_putI hX dX4_become_119 f_RX4_40 p_4_9 zi_1_9 ?_
  rw [e20]
  refine r_aload_n hX dX4_become_122 0 rfl rfl ?_
  refine r_aload_n hX dX4_become_123 1 rfl rfl ?_
  refine r_getI hX dX4_become_124 f_RX4_43 zi_8_10 ?_
  obtain ⟨u21, e22, h⟩ := zlet_elim h
  refine r_putI hX dX4_become_127 f_RX4_43 p_4_10 zi_1_10 ?_
  rw [e22]
  refine r_aload_n hX dX4_become_130 0 rfl rfl ?_
  refine r_aload_n hX dX4_become_131 1 rfl rfl ?_
  refine r_getI hX dX4_become_132 f_RX4_46 zi_8_11 ?_
  obtain ⟨u23, e24, h⟩ := zlet_elim h
  refine r_putI hX dX4_become_135 f_RX4_46 p_4_11 zi_1_11 ?_
  rw [e24]
  refine r_aload_n hX dX4_become_138 0 rfl rfl ?_
  refine r_aload_n hX dX4_become_139 1 rfl rfl ?_
  refine r_getI hX dX4_become_140 f_RX4_49 zi_8_12 ?_
  obtain ⟨u25, e26, h⟩ := zlet_elim h
  refine r_putI hX dX4_become_143 f_RX4_49 p_4_12 zi_1_12 ?_
  rw [e26]
  obtain rfl := Option.some.inj h
  exact r_vret hX hR dX4_become_146
