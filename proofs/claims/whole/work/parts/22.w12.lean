/-! MODELS AND CONTRACTS, by program (wip/whole/gen_all.py): X0_readPins, X0_readBody, X0_ruleTold, X0_readRule, X0_readEase, X0_readPrice, X0_readItem, X3_begin, X3_isEnd -/
theorem dX0_readPins_0 : decode cX0_readPins 0 = .ok (.aload_n 0, 1) := by decide +kernel
theorem dX0_readPins_1 : decode cX0_readPins 1 = .ok (.iconst 0, 1) := by decide +kernel
theorem dX0_readPins_2 : decode cX0_readPins 2 = .ok (.putfield 19, 3) := by decide +kernel
theorem dX0_readPins_5 : decode cX0_readPins 5 = .ok (.aload_n 1, 1) := by decide +kernel
theorem dX0_readPins_6 : decode cX0_readPins 6 = .ok (.ldc 122, 2) := by decide +kernel
theorem dX0_readPins_8 : decode cX0_readPins 8 = .ok (.invokevirtual 64, 3) := by decide +kernel
theorem dX0_readPins_11 : decode cX0_readPins 11 = .ok (.ifCond .ne 5, 3) := by decide +kernel
theorem dX0_readPins_14 : decode cX0_readPins 14 = .ok (.iconst 1, 1) := by decide +kernel
theorem dX0_readPins_15 : decode cX0_readPins 15 = .ok (.ireturn, 1) := by decide +kernel
theorem dX0_readPins_16 : decode cX0_readPins 16 = .ok (.aload_n 1, 1) := by decide +kernel
theorem dX0_readPins_17 : decode cX0_readPins 17 = .ok (.invokevirtual 51, 3) := by decide +kernel
theorem dX0_readPins_20 : decode cX0_readPins 20 = .ok (.aload_n 0, 1) := by decide +kernel
theorem dX0_readPins_21 : decode cX0_readPins 21 = .ok (.aload_n 1, 1) := by decide +kernel
theorem dX0_readPins_22 : decode cX0_readPins 22 = .ok (.iconst 0, 1) := by decide +kernel
theorem dX0_readPins_23 : decode cX0_readPins 23 = .ok (.bipush 99, 2) := by decide +kernel
theorem dX0_readPins_25 : decode cX0_readPins 25 = .ok (.invokestatic 117, 3) := by decide +kernel
theorem dX0_readPins_28 : decode cX0_readPins 28 = .ok (.putfield 19, 3) := by decide +kernel
theorem dX0_readPins_31 : decode cX0_readPins 31 = .ok (.aload_n 0, 1) := by decide +kernel
theorem dX0_readPins_32 : decode cX0_readPins 32 = .ok (.getfield 19, 3) := by decide +kernel
theorem dX0_readPins_35 : decode cX0_readPins 35 = .ok (.iconst (-1), 1) := by decide +kernel
theorem dX0_readPins_36 : decode cX0_readPins 36 = .ok (.if_icmp .eq 7, 3) := by decide +kernel
theorem dX0_readPins_39 : decode cX0_readPins 39 = .ok (.iconst 1, 1) := by decide +kernel
theorem dX0_readPins_40 : decode cX0_readPins 40 = .ok (.goto 4, 3) := by decide +kernel
theorem dX0_readPins_43 : decode cX0_readPins 43 = .ok (.iconst 0, 1) := by decide +kernel
theorem dX0_readPins_44 : decode cX0_readPins 44 = .ok (.ireturn, 1) := by decide +kernel
def m_X0_readPins  (u : zM) : Option (Int32 × zM) :=
  zlet (zst u 25 2 0) (fun u1 => zbind (m_X3_isWord 14 u1) (fun x3 => (if x3 = 0 then
some (1, u1)
else
zlet (m_X3_moveOn u1) (fun u6 => zbind2 (m_X0_takeNumber 0 99 u6) (fun x8 u9 => zlet (zst u9 25 2 x8) (fun u11 => (if (u11 25 2) = (-1) then
some (0, u11)
else
some (1, u11))))))))
set_option maxHeartbeats 4000000 in
set_option maxRecDepth 100000 in
theorem c_X0_readPins    (u : zM) (r : Int32) (u' : zM) (h : m_X0_readPins u = some (r, u')) : zCt 6 yX0_readPins cX0_readPins 2 (some .boolean) (fun E => [.ref (zad E 25), .ref (zad E 20)]) u (fun _ => some (.int r)) u' := by
  refine zCt.of (by decide +kernel) (fun E => Nat.le_of_ble_eq_true rfl) (fun X hX hR => ?_)
  have hX : zGood X RX0 cX0_readPins 2 6 := hX
  show zG X u 0 [(0, .ref (zad X.1 25)), (1, .ref (zad X.1 20))] []
  unfold m_X0_readPins at h
  refine r_aload_n hX dX0_readPins_0 0 rfl rfl ?_
  refine r_iconst (v := 0) hX dX0_readPins_1 (by decide) ?_
  obtain ⟨u1, e2, h⟩ := zlet_elim h
  refine r_putI hX dX0_readPins_2 f_RX0_19 p_0_2 zi_25_2 ?_
  rw [e2]
  refine r_aload_n hX dX0_readPins_5 1 rfl rfl ?_
  refine r_ldcS (tx := "pins") (q := 14) hX dX0_readPins_6 (List.mem_of_getElem? (i := 8) rfl) ?_
  obtain ⟨x3, e4, h⟩ := zbind_elim h
  refine r_callV (As := [.ref (zaK X.1 14)]) (rest := []) (st1 := [.int x3]) hX dX0_readPins_8 lv_RX0_64 (c_X3_isWord 14 (by decide)  u1 _ e4) (by decide) rfl rfl (zRecv.of (q := 20) (ci := 3) rfl rfl) rfl (Nat.le_of_ble_eq_true rfl) rfl ?_
  refine r_if_ne (tgt := 16) hX dX0_readPins_11 (by decide) (fun c5 => ?_) (fun c5 => ?_)
  · have h := (if_neg c5).symm.trans h
    refine r_aload_n hX dX0_readPins_16 1 rfl rfl ?_
    obtain ⟨u6, e7, h⟩ := zlet_elim h
    refine r_callV (As := []) (rest := []) (st1 := []) hX dX0_readPins_17 lv_RX0_51 (c_X3_moveOn   u1 _ e7) (by decide) rfl rfl (zRecv.of (q := 20) (ci := 3) rfl rfl) rfl (Nat.le_of_ble_eq_true rfl) rfl ?_
    refine r_aload_n hX dX0_readPins_20 0 rfl rfl ?_
    refine r_aload_n hX dX0_readPins_21 1 rfl rfl ?_
    refine r_iconst (v := 0) hX dX0_readPins_22 (by decide) ?_
    refine r_bipush (v := 99) hX dX0_readPins_23 (by decide) ?_
    obtain ⟨x8, u9, e10, h⟩ := zbind2_elim h
    refine r_callS (As := [.ref (zad X.1 20), .int 0, .int 99]) (rest := [.ref (zad X.1 25)]) (st1 := [.int x8, .ref (zad X.1 25)]) hX dX0_readPins_25 ls_RX0_117 (c_X0_takeNumber 0 99  u6 _ _ e10) (by decide) rfl rfl rfl (Nat.le_of_ble_eq_true rfl) rfl ?_
    obtain ⟨u11, e12, h⟩ := zlet_elim h
    refine r_putI hX dX0_readPins_28 f_RX0_19 p_0_2 zi_25_2 ?_
    rw [e12]
    refine r_aload_n hX dX0_readPins_31 0 rfl rfl ?_
    refine r_getI hX dX0_readPins_32 f_RX0_19 zi_25_2 ?_
    refine r_iconst (v := (-1)) hX dX0_readPins_35 (by decide) ?_
    refine r_icmp_eq (tgt := 43) hX dX0_readPins_36 (by decide) (fun c13 => ?_) (fun c13 => ?_)
    · have h := (if_pos c13).symm.trans h
      refine r_iconst (v := 0) hX dX0_readPins_43 (by decide) ?_
      obtain ⟨rfl, rfl⟩ := zinj2 (Option.some.inj h)
      exact r_zret0 hX hR dX0_readPins_44
    · have h := (if_neg c13).symm.trans h
      refine r_iconst (v := 1) hX dX0_readPins_39 (by decide) ?_
      refine r_goto (tgt := 44) hX dX0_readPins_40 (by decide) ?_
      obtain ⟨rfl, rfl⟩ := zinj2 (Option.some.inj h)
      exact r_zret1 hX hR dX0_readPins_44
  · have h := (if_pos c5).symm.trans h
    refine r_iconst (v := 1) hX dX0_readPins_14 (by decide) ?_
    obtain ⟨rfl, rfl⟩ := zinj2 (Option.some.inj h)
    exact r_zret1 hX hR dX0_readPins_15
theorem dX0_readBody_0 : decode cX0_readBody 0 = .ok (.aload_n 0, 1) := by decide +kernel
theorem dX0_readBody_1 : decode cX0_readBody 1 = .ok (.getfield 22, 3) := by decide +kernel
theorem dX0_readBody_4 : decode cX0_readBody 4 = .ok (.ifCond .gt 5, 3) := by decide +kernel
theorem dX0_readBody_7 : decode cX0_readBody 7 = .ok (.iconst 0, 1) := by decide +kernel
theorem dX0_readBody_8 : decode cX0_readBody 8 = .ok (.ireturn, 1) := by decide +kernel
theorem dX0_readBody_9 : decode cX0_readBody 9 = .ok (.aload_n 0, 1) := by decide +kernel
theorem dX0_readBody_10 : decode cX0_readBody 10 = .ok (.dup, 1) := by decide +kernel
theorem dX0_readBody_11 : decode cX0_readBody 11 = .ok (.getfield 22, 3) := by decide +kernel
theorem dX0_readBody_14 : decode cX0_readBody 14 = .ok (.iconst 1, 1) := by decide +kernel
theorem dX0_readBody_15 : decode cX0_readBody 15 = .ok (.isub, 1) := by decide +kernel
theorem dX0_readBody_16 : decode cX0_readBody 16 = .ok (.putfield 22, 3) := by decide +kernel
theorem dX0_readBody_19 : decode cX0_readBody 19 = .ok (.aload_n 1, 1) := by decide +kernel
theorem dX0_readBody_20 : decode cX0_readBody 20 = .ok (.invokevirtual 51, 3) := by decide +kernel
theorem dX0_readBody_23 : decode cX0_readBody 23 = .ok (.aload_n 0, 1) := by decide +kernel
theorem dX0_readBody_24 : decode cX0_readBody 24 = .ok (.aload_n 1, 1) := by decide +kernel
theorem dX0_readBody_25 : decode cX0_readBody 25 = .ok (.invokevirtual 99, 3) := by decide +kernel
theorem dX0_readBody_28 : decode cX0_readBody 28 = .ok (.ifCond .eq 19, 3) := by decide +kernel
theorem dX0_readBody_31 : decode cX0_readBody 31 = .ok (.aload_n 0, 1) := by decide +kernel
theorem dX0_readBody_32 : decode cX0_readBody 32 = .ok (.aload_n 1, 1) := by decide +kernel
theorem dX0_readBody_33 : decode cX0_readBody 33 = .ok (.invokevirtual 103, 3) := by decide +kernel
theorem dX0_readBody_36 : decode cX0_readBody 36 = .ok (.ifCond .eq 11, 3) := by decide +kernel
theorem dX0_readBody_39 : decode cX0_readBody 39 = .ok (.aload_n 0, 1) := by decide +kernel
theorem dX0_readBody_40 : decode cX0_readBody 40 = .ok (.aload_n 1, 1) := by decide +kernel
theorem dX0_readBody_41 : decode cX0_readBody 41 = .ok (.invokevirtual 106, 3) := by decide +kernel
theorem dX0_readBody_44 : decode cX0_readBody 44 = .ok (.ifCond .ne 5, 3) := by decide +kernel
theorem dX0_readBody_47 : decode cX0_readBody 47 = .ok (.iconst 0, 1) := by decide +kernel
theorem dX0_readBody_48 : decode cX0_readBody 48 = .ok (.ireturn, 1) := by decide +kernel
theorem dX0_readBody_49 : decode cX0_readBody 49 = .ok (.iload 4, 2) := by decide +kernel
theorem dX0_readBody_51 : decode cX0_readBody 51 = .ok (.ifCond .eq 50, 3) := by decide +kernel
theorem dX0_readBody_54 : decode cX0_readBody 54 = .ok (.aload_n 2, 1) := by decide +kernel
theorem dX0_readBody_55 : decode cX0_readBody 55 = .ok (.iload_n 3, 1) := by decide +kernel
theorem dX0_readBody_56 : decode cX0_readBody 56 = .ok (.aload_n 0, 1) := by decide +kernel
theorem dX0_readBody_57 : decode cX0_readBody 57 = .ok (.getfield 9, 3) := by decide +kernel
theorem dX0_readBody_60 : decode cX0_readBody 60 = .ok (.iconst 0, 1) := by decide +kernel
theorem dX0_readBody_61 : decode cX0_readBody 61 = .ok (.iaload, 1) := by decide +kernel
theorem dX0_readBody_62 : decode cX0_readBody 62 = .ok (.aload_n 0, 1) := by decide +kernel
theorem dX0_readBody_63 : decode cX0_readBody 63 = .ok (.getfield 9, 3) := by decide +kernel
theorem dX0_readBody_66 : decode cX0_readBody 66 = .ok (.iconst 1, 1) := by decide +kernel
theorem dX0_readBody_67 : decode cX0_readBody 67 = .ok (.iaload, 1) := by decide +kernel
theorem dX0_readBody_68 : decode cX0_readBody 68 = .ok (.aload_n 0, 1) := by decide +kernel
theorem dX0_readBody_69 : decode cX0_readBody 69 = .ok (.getfield 9, 3) := by decide +kernel
theorem dX0_readBody_72 : decode cX0_readBody 72 = .ok (.iconst 2, 1) := by decide +kernel
theorem dX0_readBody_73 : decode cX0_readBody 73 = .ok (.iaload, 1) := by decide +kernel
theorem dX0_readBody_74 : decode cX0_readBody 74 = .ok (.invokevirtual 109, 3) := by decide +kernel
theorem dX0_readBody_77 : decode cX0_readBody 77 = .ok (.istore 5, 2) := by decide +kernel
theorem dX0_readBody_79 : decode cX0_readBody 79 = .ok (.aload_n 2, 1) := by decide +kernel
theorem dX0_readBody_80 : decode cX0_readBody 80 = .ok (.iload 5, 2) := by decide +kernel
theorem dX0_readBody_82 : decode cX0_readBody 82 = .ok (.iconst 4, 1) := by decide +kernel
theorem dX0_readBody_83 : decode cX0_readBody 83 = .ok (.aload_n 0, 1) := by decide +kernel
theorem dX0_readBody_84 : decode cX0_readBody 84 = .ok (.getfield 15, 3) := by decide +kernel
theorem dX0_readBody_87 : decode cX0_readBody 87 = .ok (.invokevirtual 113, 3) := by decide +kernel
theorem dX0_readBody_90 : decode cX0_readBody 90 = .ok (.aload_n 2, 1) := by decide +kernel
theorem dX0_readBody_91 : decode cX0_readBody 91 = .ok (.iload 5, 2) := by decide +kernel
theorem dX0_readBody_93 : decode cX0_readBody 93 = .ok (.iconst 5, 1) := by decide +kernel
theorem dX0_readBody_94 : decode cX0_readBody 94 = .ok (.aload_n 0, 1) := by decide +kernel
theorem dX0_readBody_95 : decode cX0_readBody 95 = .ok (.getfield 19, 3) := by decide +kernel
theorem dX0_readBody_98 : decode cX0_readBody 98 = .ok (.invokevirtual 113, 3) := by decide +kernel
theorem dX0_readBody_101 : decode cX0_readBody 101 = .ok (.iconst 1, 1) := by decide +kernel
theorem dX0_readBody_102 : decode cX0_readBody 102 = .ok (.ireturn, 1) := by decide +kernel
def m_X0_readBody (a1 : Int32) (a2 : Int32) (u : zM) : Option (Int32 × zM) :=
  (if 0 < (u 25 3) then
zlet (zst u 25 3 ((u 25 3) - 1)) (fun u2 => zlet (m_X3_moveOn u2) (fun u4 => zbind2 (m_X0_readMeasures u4) (fun x6 u7 => (if x6 = 0 then
some (0, u7)
else
zbind2 (m_X0_readBribe u7) (fun x10 u11 => (if x10 = 0 then
some (0, u11)
else
zbind2 (m_X0_readPins u11) (fun x14 u15 => (if x14 = 0 then
some (0, u15)
else
(if a2 = 0 then
some (1, u15)
else
zbind2 (m_X4_add a1 (u15 26 0) (u15 26 1) (u15 26 2) u15) (fun x19 u20 => zbind (m_X4_put x19 4 (u20 25 1) u20) (fun u22 => zbind (m_X4_put x19 5 (u22 25 2) u22) (fun u24 => some (1, u24)))))))))))))
else
some (0, u))
set_option maxHeartbeats 4000000 in
set_option maxRecDepth 100000 in
theorem c_X0_readBody (a1 : Int32) (a2 : Int32)   (u : zM) (r : Int32) (u' : zM) (h : m_X0_readBody a1 a2 u = some (r, u')) : zCt 7 yX0_readBody cX0_readBody 6 (some .boolean) (fun E => [.ref (zad E 25), .ref (zad E 20), .ref (zad E 1), .int a1, .int a2]) u (fun _ => some (.int r)) u' := by
  refine zCt.of (by decide +kernel) (fun E => Nat.le_of_ble_eq_true rfl) (fun X hX hR => ?_)
  have hX : zGood X RX0 cX0_readBody 6 7 := hX
  show zG X u 0 [(0, .ref (zad X.1 25)), (1, .ref (zad X.1 20)), (2, .ref (zad X.1 1)), (3, .int a1), (4, .int a2)] []
  unfold m_X0_readBody at h
  refine r_aload_n hX dX0_readBody_0 0 rfl rfl ?_
  refine r_getI hX dX0_readBody_1 f_RX0_22 zi_25_3 ?_
  refine r_if_gt (tgt := 9) hX dX0_readBody_4 (by decide) (fun c1 => ?_) (fun c1 => ?_)
  · have h := (if_pos c1).symm.trans h
    refine r_aload_n hX dX0_readBody_9 0 rfl rfl ?_
    refine r_dup hX dX0_readBody_10 rfl ?_
    refine r_getI hX dX0_readBody_11 f_RX0_22 zi_25_3 ?_
    refine r_iconst (v := 1) hX dX0_readBody_14 (by decide) ?_
    refine r_isub hX dX0_readBody_15 ?_
    obtain ⟨u2, e3, h⟩ := zlet_elim h
    refine r_putI hX dX0_readBody_16 f_RX0_22 p_0_3 zi_25_3 ?_
    rw [e3]
    refine r_aload_n hX dX0_readBody_19 1 rfl rfl ?_
    obtain ⟨u4, e5, h⟩ := zlet_elim h
    refine r_callV (As := []) (rest := []) (st1 := []) hX dX0_readBody_20 lv_RX0_51 (c_X3_moveOn   u2 _ e5) (by decide) rfl rfl (zRecv.of (q := 20) (ci := 3) rfl rfl) rfl (Nat.le_of_ble_eq_true rfl) rfl ?_
    refine r_aload_n hX dX0_readBody_23 0 rfl rfl ?_
    refine r_aload_n hX dX0_readBody_24 1 rfl rfl ?_
    obtain ⟨x6, u7, e8, h⟩ := zbind2_elim h
    refine r_callV (As := [.ref (zad X.1 20)]) (rest := []) (st1 := [.int x6]) hX dX0_readBody_25 lv_RX0_99 (c_X0_readMeasures   u4 _ _ e8) (by decide) rfl rfl (zRecv.of (q := 25) (ci := 0) rfl rfl) rfl (Nat.le_of_ble_eq_true rfl) rfl ?_
    refine r_if_eq (tgt := 47) hX dX0_readBody_28 (by decide) (fun c9 => ?_) (fun c9 => ?_)
    · have h := (if_pos c9).symm.trans h
      refine r_iconst (v := 0) hX dX0_readBody_47 (by decide) ?_
      obtain ⟨rfl, rfl⟩ := zinj2 (Option.some.inj h)
      exact r_zret0 hX hR dX0_readBody_48
    · have h := (if_neg c9).symm.trans h
      refine r_aload_n hX dX0_readBody_31 0 rfl rfl ?_
      refine r_aload_n hX dX0_readBody_32 1 rfl rfl ?_
      obtain ⟨x10, u11, e12, h⟩ := zbind2_elim h
      refine r_callV (As := [.ref (zad X.1 20)]) (rest := []) (st1 := [.int x10]) hX dX0_readBody_33 lv_RX0_103 (c_X0_readBribe   u7 _ _ e12) (by decide) rfl rfl (zRecv.of (q := 25) (ci := 0) rfl rfl) rfl (Nat.le_of_ble_eq_true rfl) rfl ?_
      refine r_if_eq (tgt := 47) hX dX0_readBody_36 (by decide) (fun c13 => ?_) (fun c13 => ?_)
      · have h := (if_pos c13).symm.trans h
        refine r_iconst (v := 0) hX dX0_readBody_47 (by decide) ?_
        obtain ⟨rfl, rfl⟩ := zinj2 (Option.some.inj h)
        exact r_zret0 hX hR dX0_readBody_48
      · have h := (if_neg c13).symm.trans h
        refine r_aload_n hX dX0_readBody_39 0 rfl rfl ?_
        refine r_aload_n hX dX0_readBody_40 1 rfl rfl ?_
        obtain ⟨x14, u15, e16, h⟩ := zbind2_elim h
        refine r_callV (As := [.ref (zad X.1 20)]) (rest := []) (st1 := [.int x14]) hX dX0_readBody_41 lv_RX0_106 (c_X0_readPins   u11 _ _ e16) (by decide) rfl rfl (zRecv.of (q := 25) (ci := 0) rfl rfl) rfl (Nat.le_of_ble_eq_true rfl) rfl ?_
        refine r_if_ne (tgt := 49) hX dX0_readBody_44 (by decide) (fun c17 => ?_) (fun c17 => ?_)
        · have h := (if_neg c17).symm.trans h
          refine r_iload hX dX0_readBody_49 4 rfl ?_
          refine r_if_eq (tgt := 101) hX dX0_readBody_51 (by decide) (fun c18 => ?_) (fun c18 => ?_)
          · have h := (if_pos c18).symm.trans h
            refine r_iconst (v := 1) hX dX0_readBody_101 (by decide) ?_
            obtain ⟨rfl, rfl⟩ := zinj2 (Option.some.inj h)
            exact r_zret1 hX hR dX0_readBody_102
          · have h := (if_neg c18).symm.trans h
            refine r_aload_n hX dX0_readBody_54 2 rfl rfl ?_
            refine r_iload_n hX dX0_readBody_55 3 rfl rfl ?_
            refine r_aload_n hX dX0_readBody_56 0 rfl rfl ?_
            refine r_getR hX dX0_readBody_57 f_RX0_9 zr_25_0 ?_
            refine r_iconst (v := 0) hX dX0_readBody_60 (by decide) ?_
            refine r_ialdC (j := 0) hX dX0_readBody_61 rfl (by decide +kernel) ?_
            refine r_aload_n hX dX0_readBody_62 0 rfl rfl ?_
            refine r_getR hX dX0_readBody_63 f_RX0_9 zr_25_0 ?_
            refine r_iconst (v := 1) hX dX0_readBody_66 (by decide) ?_
            refine r_ialdC (j := 1) hX dX0_readBody_67 rfl (by decide +kernel) ?_
            refine r_aload_n hX dX0_readBody_68 0 rfl rfl ?_
            refine r_getR hX dX0_readBody_69 f_RX0_9 zr_25_0 ?_
            refine r_iconst (v := 2) hX dX0_readBody_72 (by decide) ?_
            refine r_ialdC (j := 2) hX dX0_readBody_73 rfl (by decide +kernel) ?_
            obtain ⟨x19, u20, e21, h⟩ := zbind2_elim h
            refine r_callV (As := [.int a1, .int (u15 26 0), .int (u15 26 1), .int (u15 26 2)]) (rest := []) (st1 := [.int x19]) hX dX0_readBody_74 lv_RX0_109 (c_X4_add a1 (u15 26 0) (u15 26 1) (u15 26 2)  u15 _ _ e21) (by decide) rfl rfl (zRecv.of (q := 1) (ci := 4) rfl rfl) rfl (Nat.le_of_ble_eq_true rfl) rfl ?_
            refine r_istore (y := x19) (L' := [(5, .int x19), (0, .ref (zad X.1 25)), (1, .ref (zad X.1 20)), (2, .ref (zad X.1 1)), (3, .int a1), (4, .int a2)]) hX dX0_readBody_77 (by decide) rfl rfl ?_
            refine r_aload_n hX dX0_readBody_79 3 rfl rfl ?_
            refine r_iload hX dX0_readBody_80 0 rfl ?_
            refine r_iconst (v := 4) hX dX0_readBody_82 (by decide) ?_
            refine r_aload_n hX dX0_readBody_83 1 rfl rfl ?_
            refine r_getI hX dX0_readBody_84 f_RX0_15 zi_25_1 ?_
            obtain ⟨u22, e23, h⟩ := zbind_elim h
            refine r_callV (As := [.int x19, .int 4, .int (u20 25 1)]) (rest := []) (st1 := []) hX dX0_readBody_87 lv_RX0_113 (c_X4_put x19 4 (u20 25 1)  u20 _ e23) (by decide) rfl rfl (zRecv.of (q := 1) (ci := 4) rfl rfl) rfl (Nat.le_of_ble_eq_true rfl) rfl ?_
            refine r_aload_n hX dX0_readBody_90 3 rfl rfl ?_
            refine r_iload hX dX0_readBody_91 0 rfl ?_
            refine r_iconst (v := 5) hX dX0_readBody_93 (by decide) ?_
            refine r_aload_n hX dX0_readBody_94 1 rfl rfl ?_
            refine r_getI hX dX0_readBody_95 f_RX0_19 zi_25_2 ?_
            obtain ⟨u24, e25, h⟩ := zbind_elim h
            refine r_callV (As := [.int x19, .int 5, .int (u22 25 2)]) (rest := []) (st1 := []) hX dX0_readBody_98 lv_RX0_113 (c_X4_put x19 5 (u22 25 2)  u22 _ e25) (by decide) rfl rfl (zRecv.of (q := 1) (ci := 4) rfl rfl) rfl (Nat.le_of_ble_eq_true rfl) rfl ?_
            refine r_iconst (v := 1) hX dX0_readBody_101 (by decide) ?_
            obtain ⟨rfl, rfl⟩ := zinj2 (Option.some.inj h)
            exact r_zret1 hX hR dX0_readBody_102
        · have h := (if_pos c17).symm.trans h
          refine r_iconst (v := 0) hX dX0_readBody_47 (by decide) ?_
          obtain ⟨rfl, rfl⟩ := zinj2 (Option.some.inj h)
          exact r_zret0 hX hR dX0_readBody_48
  · have h := (if_neg c1).symm.trans h
    refine r_iconst (v := 0) hX dX0_readBody_7 (by decide) ?_
    obtain ⟨rfl, rfl⟩ := zinj2 (Option.some.inj h)
    exact r_zret0 hX hR dX0_readBody_8
theorem dX0_ruleTold_0 : decode cX0_ruleTold 0 = .ok (.aload_n 0, 1) := by decide +kernel
theorem dX0_ruleTold_1 : decode cX0_ruleTold 1 = .ok (.ldc 129, 2) := by decide +kernel
theorem dX0_ruleTold_3 : decode cX0_ruleTold 3 = .ok (.invokevirtual 64, 3) := by decide +kernel
theorem dX0_ruleTold_6 : decode cX0_ruleTold 6 = .ok (.ifCond .eq 5, 3) := by decide +kernel
theorem dX0_ruleTold_9 : decode cX0_ruleTold 9 = .ok (.iconst 0, 1) := by decide +kernel
theorem dX0_ruleTold_10 : decode cX0_ruleTold 10 = .ok (.ireturn, 1) := by decide +kernel
theorem dX0_ruleTold_11 : decode cX0_ruleTold 11 = .ok (.aload_n 0, 1) := by decide +kernel
theorem dX0_ruleTold_12 : decode cX0_ruleTold 12 = .ok (.ldc 131, 2) := by decide +kernel
theorem dX0_ruleTold_14 : decode cX0_ruleTold 14 = .ok (.invokevirtual 64, 3) := by decide +kernel
theorem dX0_ruleTold_17 : decode cX0_ruleTold 17 = .ok (.ifCond .eq 5, 3) := by decide +kernel
theorem dX0_ruleTold_20 : decode cX0_ruleTold 20 = .ok (.iconst 1, 1) := by decide +kernel
theorem dX0_ruleTold_21 : decode cX0_ruleTold 21 = .ok (.ireturn, 1) := by decide +kernel
theorem dX0_ruleTold_22 : decode cX0_ruleTold 22 = .ok (.aload_n 0, 1) := by decide +kernel
theorem dX0_ruleTold_23 : decode cX0_ruleTold 23 = .ok (.ldc 133, 2) := by decide +kernel
theorem dX0_ruleTold_25 : decode cX0_ruleTold 25 = .ok (.invokevirtual 64, 3) := by decide +kernel
theorem dX0_ruleTold_28 : decode cX0_ruleTold 28 = .ok (.ifCond .eq 7, 3) := by decide +kernel
theorem dX0_ruleTold_31 : decode cX0_ruleTold 31 = .ok (.iconst 2, 1) := by decide +kernel
theorem dX0_ruleTold_32 : decode cX0_ruleTold 32 = .ok (.goto 4, 3) := by decide +kernel
theorem dX0_ruleTold_35 : decode cX0_ruleTold 35 = .ok (.iconst (-1), 1) := by decide +kernel
theorem dX0_ruleTold_36 : decode cX0_ruleTold 36 = .ok (.ireturn, 1) := by decide +kernel
def m_X0_ruleTold  (u : zM) : Option (Int32) :=
  zbind (m_X3_isWord 7 u) (fun x1 => (if x1 = 0 then
zbind (m_X3_isWord 8 u) (fun x4 => (if x4 = 0 then
zbind (m_X3_isWord 9 u) (fun x7 => (if x7 = 0 then
some (-1)
else
some 2))
else
some 1))
else
some 0))
set_option maxHeartbeats 4000000 in
set_option maxRecDepth 100000 in
theorem c_X0_ruleTold    (u : zM) (r : Int32) (h : m_X0_ruleTold u = some r) : zCt 6 yX0_ruleTold cX0_ruleTold 1 (some .int) (fun E => [.ref (zad E 20)]) u (fun _ => some (.int r)) u := by
  refine zCt.of (by decide +kernel) (fun E => Nat.le_of_ble_eq_true rfl) (fun X hX hR => ?_)
  have hX : zGood X RX0 cX0_ruleTold 1 6 := hX
  show zG X u 0 [(0, .ref (zad X.1 20))] []
  unfold m_X0_ruleTold at h
  refine r_aload_n hX dX0_ruleTold_0 0 rfl rfl ?_
  refine r_ldcS (tx := "mean") (q := 7) hX dX0_ruleTold_1 (List.mem_of_getElem? (i := 10) rfl) ?_
  obtain ⟨x1, e2, h⟩ := zbind_elim h
  refine r_callV (As := [.ref (zaK X.1 7)]) (rest := []) (st1 := [.int x1]) hX dX0_ruleTold_3 lv_RX0_64 (c_X3_isWord 7 (by decide)  u _ e2) (by decide) rfl rfl (zRecv.of (q := 20) (ci := 3) rfl rfl) rfl (Nat.le_of_ble_eq_true rfl) rfl ?_
  refine r_if_eq (tgt := 11) hX dX0_ruleTold_6 (by decide) (fun c3 => ?_) (fun c3 => ?_)
  · have h := (if_pos c3).symm.trans h
    refine r_aload_n hX dX0_ruleTold_11 0 rfl rfl ?_
    refine r_ldcS (tx := "middle") (q := 8) hX dX0_ruleTold_12 (List.mem_of_getElem? (i := 11) rfl) ?_
    obtain ⟨x4, e5, h⟩ := zbind_elim h
    refine r_callV (As := [.ref (zaK X.1 8)]) (rest := []) (st1 := [.int x4]) hX dX0_ruleTold_14 lv_RX0_64 (c_X3_isWord 8 (by decide)  u _ e5) (by decide) rfl rfl (zRecv.of (q := 20) (ci := 3) rfl rfl) rfl (Nat.le_of_ble_eq_true rfl) rfl ?_
    refine r_if_eq (tgt := 22) hX dX0_ruleTold_17 (by decide) (fun c6 => ?_) (fun c6 => ?_)
    · have h := (if_pos c6).symm.trans h
      refine r_aload_n hX dX0_ruleTold_22 0 rfl rfl ?_
      refine r_ldcS (tx := "most") (q := 9) hX dX0_ruleTold_23 (List.mem_of_getElem? (i := 12) rfl) ?_
      obtain ⟨x7, e8, h⟩ := zbind_elim h
      refine r_callV (As := [.ref (zaK X.1 9)]) (rest := []) (st1 := [.int x7]) hX dX0_ruleTold_25 lv_RX0_64 (c_X3_isWord 9 (by decide)  u _ e8) (by decide) rfl rfl (zRecv.of (q := 20) (ci := 3) rfl rfl) rfl (Nat.le_of_ble_eq_true rfl) rfl ?_
      refine r_if_eq (tgt := 35) hX dX0_ruleTold_28 (by decide) (fun c9 => ?_) (fun c9 => ?_)
      · have h := (if_pos c9).symm.trans h
        refine r_iconst (v := (-1)) hX dX0_ruleTold_35 (by decide) ?_
        obtain rfl := Option.some.inj h
        exact r_iret hX hR dX0_ruleTold_36
      · have h := (if_neg c9).symm.trans h
        refine r_iconst (v := 2) hX dX0_ruleTold_31 (by decide) ?_
        refine r_goto (tgt := 36) hX dX0_ruleTold_32 (by decide) ?_
        obtain rfl := Option.some.inj h
        exact r_iret hX hR dX0_ruleTold_36
    · have h := (if_neg c6).symm.trans h
      refine r_iconst (v := 1) hX dX0_ruleTold_20 (by decide) ?_
      obtain rfl := Option.some.inj h
      exact r_iret hX hR dX0_ruleTold_21
  · have h := (if_neg c3).symm.trans h
    refine r_iconst (v := 0) hX dX0_ruleTold_9 (by decide) ?_
    obtain rfl := Option.some.inj h
    exact r_iret hX hR dX0_ruleTold_10
theorem dX0_readRule_0 : decode cX0_readRule 0 = .ok (.aload_n 1, 1) := by decide +kernel
theorem dX0_readRule_1 : decode cX0_readRule 1 = .ok (.invokevirtual 51, 3) := by decide +kernel
theorem dX0_readRule_4 : decode cX0_readRule 4 = .ok (.aload_n 1, 1) := by decide +kernel
theorem dX0_readRule_5 : decode cX0_readRule 5 = .ok (.invokestatic 124, 3) := by decide +kernel
theorem dX0_readRule_8 : decode cX0_readRule 8 = .ok (.istore 4, 2) := by decide +kernel
theorem dX0_readRule_10 : decode cX0_readRule 10 = .ok (.iload 4, 2) := by decide +kernel
theorem dX0_readRule_12 : decode cX0_readRule 12 = .ok (.iconst (-1), 1) := by decide +kernel
theorem dX0_readRule_13 : decode cX0_readRule 13 = .ok (.if_icmp .ne 5, 3) := by decide +kernel
theorem dX0_readRule_16 : decode cX0_readRule 16 = .ok (.iconst 0, 1) := by decide +kernel
theorem dX0_readRule_17 : decode cX0_readRule 17 = .ok (.ireturn, 1) := by decide +kernel
theorem dX0_readRule_18 : decode cX0_readRule 18 = .ok (.aload_n 2, 1) := by decide +kernel
theorem dX0_readRule_19 : decode cX0_readRule 19 = .ok (.iload_n 3, 1) := by decide +kernel
theorem dX0_readRule_20 : decode cX0_readRule 20 = .ok (.ifCond .eq 8, 3) := by decide +kernel
theorem dX0_readRule_23 : decode cX0_readRule 23 = .ok (.iload 4, 2) := by decide +kernel
theorem dX0_readRule_25 : decode cX0_readRule 25 = .ok (.goto 7, 3) := by decide +kernel
theorem dX0_readRule_28 : decode cX0_readRule 28 = .ok (.aload_n 2, 1) := by decide +kernel
theorem dX0_readRule_29 : decode cX0_readRule 29 = .ok (.getfield 127, 3) := by decide +kernel
theorem dX0_readRule_32 : decode cX0_readRule 32 = .ok (.putfield 127, 3) := by decide +kernel
theorem dX0_readRule_35 : decode cX0_readRule 35 = .ok (.aload_n 1, 1) := by decide +kernel
theorem dX0_readRule_36 : decode cX0_readRule 36 = .ok (.invokevirtual 51, 3) := by decide +kernel
theorem dX0_readRule_39 : decode cX0_readRule 39 = .ok (.iconst 1, 1) := by decide +kernel
theorem dX0_readRule_40 : decode cX0_readRule 40 = .ok (.ireturn, 1) := by decide +kernel
def m_X0_readRule (a1 : Int32) (u : zM) : Option (Int32 × zM) :=
  zlet (m_X3_moveOn u) (fun u1 => zbind (m_X0_ruleTold u1) (fun x3 => (if x3 = (-1) then
some (0, u1)
else
(if a1 = 0 then
zlet (zst u1 1 8 (u1 1 8)) (fun u7 => zlet (m_X3_moveOn u7) (fun u9 => some (1, u9)))
else
zlet (zst u1 1 8 x3) (fun u11 => zlet (m_X3_moveOn u11) (fun u13 => some (1, u13)))))))
set_option maxHeartbeats 4000000 in
set_option maxRecDepth 100000 in
theorem c_X0_readRule (a1 : Int32)   (u : zM) (r : Int32) (u' : zM) (h : m_X0_readRule a1 u = some (r, u')) : zCt 7 yX0_readRule cX0_readRule 5 (some .boolean) (fun E => [.ref (zad E 25), .ref (zad E 20), .ref (zad E 1), .int a1]) u (fun _ => some (.int r)) u' := by
  refine zCt.of (by decide +kernel) (fun E => Nat.le_of_ble_eq_true rfl) (fun X hX hR => ?_)
  have hX : zGood X RX0 cX0_readRule 5 7 := hX
  show zG X u 0 [(0, .ref (zad X.1 25)), (1, .ref (zad X.1 20)), (2, .ref (zad X.1 1)), (3, .int a1)] []
  unfold m_X0_readRule at h
  refine r_aload_n hX dX0_readRule_0 1 rfl rfl ?_
  obtain ⟨u1, e2, h⟩ := zlet_elim h
  refine r_callV (As := []) (rest := []) (st1 := []) hX dX0_readRule_1 lv_RX0_51 (c_X3_moveOn   u _ e2) (by decide) rfl rfl (zRecv.of (q := 20) (ci := 3) rfl rfl) rfl (Nat.le_of_ble_eq_true rfl) rfl ?_
  refine r_aload_n hX dX0_readRule_4 1 rfl rfl ?_
  obtain ⟨x3, e4, h⟩ := zbind_elim h
  refine r_callS (As := [.ref (zad X.1 20)]) (rest := []) (st1 := [.int x3]) hX dX0_readRule_5 ls_RX0_124 (c_X0_ruleTold   u1 _ e4) (by decide) rfl rfl rfl (Nat.le_of_ble_eq_true rfl) rfl ?_
  refine r_istore (y := x3) (L' := [(4, .int x3), (0, .ref (zad X.1 25)), (1, .ref (zad X.1 20)), (2, .ref (zad X.1 1)), (3, .int a1)]) hX dX0_readRule_8 (by decide) rfl rfl ?_
  refine r_iload hX dX0_readRule_10 0 rfl ?_
  refine r_iconst (v := (-1)) hX dX0_readRule_12 (by decide) ?_
  refine r_icmp_ne (tgt := 18) hX dX0_readRule_13 (by decide) (fun c5 => ?_) (fun c5 => ?_)
  · have h := (if_neg c5).symm.trans h
    refine r_aload_n hX dX0_readRule_18 3 rfl rfl ?_
    refine r_iload_n hX dX0_readRule_19 4 rfl rfl ?_
    refine r_if_eq (tgt := 28) hX dX0_readRule_20 (by decide) (fun c6 => ?_) (fun c6 => ?_)
    · have h := (if_pos c6).symm.trans h
      refine r_aload_n hX dX0_readRule_28 3 rfl rfl ?_
      refine r_getI hX dX0_readRule_29 f_RX0_127 zi_1_8 ?_
      obtain ⟨u7, e8, h⟩ := zlet_elim h
      refine r_putI hX dX0_readRule_32 f_RX0_127 p_4_8 zi_1_8 ?_
      rw [e8]
      refine r_aload_n hX dX0_readRule_35 2 rfl rfl ?_
      obtain ⟨u9, e10, h⟩ := zlet_elim h
      refine r_callV (As := []) (rest := []) (st1 := []) hX dX0_readRule_36 lv_RX0_51 (c_X3_moveOn   u7 _ e10) (by decide) rfl rfl (zRecv.of (q := 20) (ci := 3) rfl rfl) rfl (Nat.le_of_ble_eq_true rfl) rfl ?_
      refine r_iconst (v := 1) hX dX0_readRule_39 (by decide) ?_
      obtain ⟨rfl, rfl⟩ := zinj2 (Option.some.inj h)
      exact r_zret1 hX hR dX0_readRule_40
    · have h := (if_neg c6).symm.trans h
      refine r_iload hX dX0_readRule_23 0 rfl ?_
      refine r_goto (tgt := 32) hX dX0_readRule_25 (by decide) ?_
      obtain ⟨u11, e12, h⟩ := zlet_elim h
      refine r_putI hX dX0_readRule_32 f_RX0_127 p_4_8 zi_1_8 ?_
      rw [e12]
      refine r_aload_n hX dX0_readRule_35 2 rfl rfl ?_
      obtain ⟨u13, e14, h⟩ := zlet_elim h
      refine r_callV (As := []) (rest := []) (st1 := []) hX dX0_readRule_36 lv_RX0_51 (c_X3_moveOn   u11 _ e14) (by decide) rfl rfl (zRecv.of (q := 20) (ci := 3) rfl rfl) rfl (Nat.le_of_ble_eq_true rfl) rfl ?_
      refine r_iconst (v := 1) hX dX0_readRule_39 (by decide) ?_
      obtain ⟨rfl, rfl⟩ := zinj2 (Option.some.inj h)
      exact r_zret1 hX hR dX0_readRule_40
  · have h := (if_pos c5).symm.trans h
    refine r_iconst (v := 0) hX dX0_readRule_16 (by decide) ?_
    obtain ⟨rfl, rfl⟩ := zinj2 (Option.some.inj h)
    exact r_zret0 hX hR dX0_readRule_17
theorem dX0_readEase_0 : decode cX0_readEase 0 = .ok (.aload_n 1, 1) := by decide +kernel
theorem dX0_readEase_1 : decode cX0_readEase 1 = .ok (.invokevirtual 51, 3) := by decide +kernel
theorem dX0_readEase_4 : decode cX0_readEase 4 = .ok (.aload_n 1, 1) := by decide +kernel
theorem dX0_readEase_5 : decode cX0_readEase 5 = .ok (.iconst 0, 1) := by decide +kernel
theorem dX0_readEase_6 : decode cX0_readEase 6 = .ok (.sipush 999, 3) := by decide +kernel
theorem dX0_readEase_9 : decode cX0_readEase 9 = .ok (.invokestatic 117, 3) := by decide +kernel
theorem dX0_readEase_12 : decode cX0_readEase 12 = .ok (.istore 4, 2) := by decide +kernel
theorem dX0_readEase_14 : decode cX0_readEase 14 = .ok (.aload_n 2, 1) := by decide +kernel
theorem dX0_readEase_15 : decode cX0_readEase 15 = .ok (.iload_n 3, 1) := by decide +kernel
theorem dX0_readEase_16 : decode cX0_readEase 16 = .ok (.ifCond .eq 8, 3) := by decide +kernel
theorem dX0_readEase_19 : decode cX0_readEase 19 = .ok (.iload 4, 2) := by decide +kernel
theorem dX0_readEase_21 : decode cX0_readEase 21 = .ok (.goto 7, 3) := by decide +kernel
theorem dX0_readEase_24 : decode cX0_readEase 24 = .ok (.aload_n 2, 1) := by decide +kernel
theorem dX0_readEase_25 : decode cX0_readEase 25 = .ok (.getfield 135, 3) := by decide +kernel
theorem dX0_readEase_28 : decode cX0_readEase 28 = .ok (.putfield 135, 3) := by decide +kernel
theorem dX0_readEase_31 : decode cX0_readEase 31 = .ok (.iload 4, 2) := by decide +kernel
theorem dX0_readEase_33 : decode cX0_readEase 33 = .ok (.iconst (-1), 1) := by decide +kernel
theorem dX0_readEase_34 : decode cX0_readEase 34 = .ok (.if_icmp .eq 7, 3) := by decide +kernel
theorem dX0_readEase_37 : decode cX0_readEase 37 = .ok (.iconst 1, 1) := by decide +kernel
theorem dX0_readEase_38 : decode cX0_readEase 38 = .ok (.goto 4, 3) := by decide +kernel
theorem dX0_readEase_41 : decode cX0_readEase 41 = .ok (.iconst 0, 1) := by decide +kernel
theorem dX0_readEase_42 : decode cX0_readEase 42 = .ok (.ireturn, 1) := by decide +kernel
def m_X0_readEase (a1 : Int32) (u : zM) : Option (Int32 × zM) :=
  zlet (m_X3_moveOn u) (fun u1 => zbind2 (m_X0_takeNumber 0 999 u1) (fun x3 u4 => (if a1 = 0 then
zlet (zst u4 1 9 (u4 1 9)) (fun u7 => (if x3 = (-1) then
some (0, u7)
else
some (1, u7)))
else
zlet (zst u4 1 9 x3) (fun u10 => (if x3 = (-1) then
some (0, u10)
else
some (1, u10))))))
set_option maxHeartbeats 4000000 in
set_option maxRecDepth 100000 in
theorem c_X0_readEase (a1 : Int32)   (u : zM) (r : Int32) (u' : zM) (h : m_X0_readEase a1 u = some (r, u')) : zCt 4 yX0_readEase cX0_readEase 5 (some .boolean) (fun E => [.ref (zad E 25), .ref (zad E 20), .ref (zad E 1), .int a1]) u (fun _ => some (.int r)) u' := by
  refine zCt.of (by decide +kernel) (fun E => Nat.le_of_ble_eq_true rfl) (fun X hX hR => ?_)
  have hX : zGood X RX0 cX0_readEase 5 4 := hX
  show zG X u 0 [(0, .ref (zad X.1 25)), (1, .ref (zad X.1 20)), (2, .ref (zad X.1 1)), (3, .int a1)] []
  unfold m_X0_readEase at h
  refine r_aload_n hX dX0_readEase_0 1 rfl rfl ?_
  obtain ⟨u1, e2, h⟩ := zlet_elim h
  refine r_callV (As := []) (rest := []) (st1 := []) hX dX0_readEase_1 lv_RX0_51 (c_X3_moveOn   u _ e2) (by decide) rfl rfl (zRecv.of (q := 20) (ci := 3) rfl rfl) rfl (Nat.le_of_ble_eq_true rfl) rfl ?_
  refine r_aload_n hX dX0_readEase_4 1 rfl rfl ?_
  refine r_iconst (v := 0) hX dX0_readEase_5 (by decide) ?_
  refine r_sipush (v := 999) hX dX0_readEase_6 (by decide) ?_
  obtain ⟨x3, u4, e5, h⟩ := zbind2_elim h
  refine r_callS (As := [.ref (zad X.1 20), .int 0, .int 999]) (rest := []) (st1 := [.int x3]) hX dX0_readEase_9 ls_RX0_117 (c_X0_takeNumber 0 999  u1 _ _ e5) (by decide) rfl rfl rfl (Nat.le_of_ble_eq_true rfl) rfl ?_
  refine r_istore (y := x3) (L' := [(4, .int x3), (0, .ref (zad X.1 25)), (1, .ref (zad X.1 20)), (2, .ref (zad X.1 1)), (3, .int a1)]) hX dX0_readEase_12 (by decide) rfl rfl ?_
  refine r_aload_n hX dX0_readEase_14 3 rfl rfl ?_
  refine r_iload_n hX dX0_readEase_15 4 rfl rfl ?_
  refine r_if_eq (tgt := 24) hX dX0_readEase_16 (by decide) (fun c6 => ?_) (fun c6 => ?_)
  · have h := (if_pos c6).symm.trans h
    refine r_aload_n hX dX0_readEase_24 3 rfl rfl ?_
    refine r_getI hX dX0_readEase_25 f_RX0_135 zi_1_9 ?_
    obtain ⟨u7, e8, h⟩ := zlet_elim h
    refine r_putI hX dX0_readEase_28 f_RX0_135 p_4_9 zi_1_9 ?_
    rw [e8]
    refine r_iload hX dX0_readEase_31 0 rfl ?_
    refine r_iconst (v := (-1)) hX dX0_readEase_33 (by decide) ?_
    refine r_icmp_eq (tgt := 41) hX dX0_readEase_34 (by decide) (fun c9 => ?_) (fun c9 => ?_)
    · have h := (if_pos c9).symm.trans h
      refine r_iconst (v := 0) hX dX0_readEase_41 (by decide) ?_
      obtain ⟨rfl, rfl⟩ := zinj2 (Option.some.inj h)
      exact r_zret0 hX hR dX0_readEase_42
    · have h := (if_neg c9).symm.trans h
      refine r_iconst (v := 1) hX dX0_readEase_37 (by decide) ?_
      refine r_goto (tgt := 42) hX dX0_readEase_38 (by decide) ?_
      obtain ⟨rfl, rfl⟩ := zinj2 (Option.some.inj h)
      exact r_zret1 hX hR dX0_readEase_42
  · have h := (if_neg c6).symm.trans h
    refine r_iload hX dX0_readEase_19 0 rfl ?_
    refine r_goto (tgt := 28) hX dX0_readEase_21 (by decide) ?_
    obtain ⟨u10, e11, h⟩ := zlet_elim h
    refine r_putI hX dX0_readEase_28 f_RX0_135 p_4_9 zi_1_9 ?_
    rw [e11]
    refine r_iload hX dX0_readEase_31 0 rfl ?_
    refine r_iconst (v := (-1)) hX dX0_readEase_33 (by decide) ?_
    refine r_icmp_eq (tgt := 41) hX dX0_readEase_34 (by decide) (fun c12 => ?_) (fun c12 => ?_)
    · have h := (if_pos c12).symm.trans h
      refine r_iconst (v := 0) hX dX0_readEase_41 (by decide) ?_
      obtain ⟨rfl, rfl⟩ := zinj2 (Option.some.inj h)
      exact r_zret0 hX hR dX0_readEase_42
    · have h := (if_neg c12).symm.trans h
      refine r_iconst (v := 1) hX dX0_readEase_37 (by decide) ?_
      refine r_goto (tgt := 42) hX dX0_readEase_38 (by decide) ?_
      obtain ⟨rfl, rfl⟩ := zinj2 (Option.some.inj h)
      exact r_zret1 hX hR dX0_readEase_42
theorem dX0_readPrice_0 : decode cX0_readPrice 0 = .ok (.aload_n 1, 1) := by decide +kernel
theorem dX0_readPrice_1 : decode cX0_readPrice 1 = .ok (.invokevirtual 51, 3) := by decide +kernel
theorem dX0_readPrice_4 : decode cX0_readPrice 4 = .ok (.aload_n 1, 1) := by decide +kernel
theorem dX0_readPrice_5 : decode cX0_readPrice 5 = .ok (.iconst 0, 1) := by decide +kernel
theorem dX0_readPrice_6 : decode cX0_readPrice 6 = .ok (.bipush 99, 2) := by decide +kernel
theorem dX0_readPrice_8 : decode cX0_readPrice 8 = .ok (.invokestatic 117, 3) := by decide +kernel
theorem dX0_readPrice_11 : decode cX0_readPrice 11 = .ok (.istore 4, 2) := by decide +kernel
theorem dX0_readPrice_13 : decode cX0_readPrice 13 = .ok (.aload_n 2, 1) := by decide +kernel
theorem dX0_readPrice_14 : decode cX0_readPrice 14 = .ok (.iload_n 3, 1) := by decide +kernel
theorem dX0_readPrice_15 : decode cX0_readPrice 15 = .ok (.ifCond .eq 8, 3) := by decide +kernel
theorem dX0_readPrice_18 : decode cX0_readPrice 18 = .ok (.iload 4, 2) := by decide +kernel
theorem dX0_readPrice_20 : decode cX0_readPrice 20 = .ok (.goto 7, 3) := by decide +kernel
theorem dX0_readPrice_23 : decode cX0_readPrice 23 = .ok (.aload_n 2, 1) := by decide +kernel
theorem dX0_readPrice_24 : decode cX0_readPrice 24 = .ok (.getfield 137, 3) := by decide +kernel
theorem dX0_readPrice_27 : decode cX0_readPrice 27 = .ok (.putfield 137, 3) := by decide +kernel
theorem dX0_readPrice_30 : decode cX0_readPrice 30 = .ok (.iload 4, 2) := by decide +kernel
theorem dX0_readPrice_32 : decode cX0_readPrice 32 = .ok (.iconst (-1), 1) := by decide +kernel
theorem dX0_readPrice_33 : decode cX0_readPrice 33 = .ok (.if_icmp .eq 7, 3) := by decide +kernel
theorem dX0_readPrice_36 : decode cX0_readPrice 36 = .ok (.iconst 1, 1) := by decide +kernel
theorem dX0_readPrice_37 : decode cX0_readPrice 37 = .ok (.goto 4, 3) := by decide +kernel
theorem dX0_readPrice_40 : decode cX0_readPrice 40 = .ok (.iconst 0, 1) := by decide +kernel
theorem dX0_readPrice_41 : decode cX0_readPrice 41 = .ok (.ireturn, 1) := by decide +kernel
def m_X0_readPrice (a1 : Int32) (u : zM) : Option (Int32 × zM) :=
  zlet (m_X3_moveOn u) (fun u1 => zbind2 (m_X0_takeNumber 0 99 u1) (fun x3 u4 => (if a1 = 0 then
zlet (zst u4 1 10 (u4 1 10)) (fun u7 => (if x3 = (-1) then
some (0, u7)
else
some (1, u7)))
else
zlet (zst u4 1 10 x3) (fun u10 => (if x3 = (-1) then
some (0, u10)
else
some (1, u10))))))
set_option maxHeartbeats 4000000 in
set_option maxRecDepth 100000 in
theorem c_X0_readPrice (a1 : Int32)   (u : zM) (r : Int32) (u' : zM) (h : m_X0_readPrice a1 u = some (r, u')) : zCt 4 yX0_readPrice cX0_readPrice 5 (some .boolean) (fun E => [.ref (zad E 25), .ref (zad E 20), .ref (zad E 1), .int a1]) u (fun _ => some (.int r)) u' := by
  refine zCt.of (by decide +kernel) (fun E => Nat.le_of_ble_eq_true rfl) (fun X hX hR => ?_)
  have hX : zGood X RX0 cX0_readPrice 5 4 := hX
  show zG X u 0 [(0, .ref (zad X.1 25)), (1, .ref (zad X.1 20)), (2, .ref (zad X.1 1)), (3, .int a1)] []
  unfold m_X0_readPrice at h
  refine r_aload_n hX dX0_readPrice_0 1 rfl rfl ?_
  obtain ⟨u1, e2, h⟩ := zlet_elim h
  refine r_callV (As := []) (rest := []) (st1 := []) hX dX0_readPrice_1 lv_RX0_51 (c_X3_moveOn   u _ e2) (by decide) rfl rfl (zRecv.of (q := 20) (ci := 3) rfl rfl) rfl (Nat.le_of_ble_eq_true rfl) rfl ?_
  refine r_aload_n hX dX0_readPrice_4 1 rfl rfl ?_
  refine r_iconst (v := 0) hX dX0_readPrice_5 (by decide) ?_
  refine r_bipush (v := 99) hX dX0_readPrice_6 (by decide) ?_
  obtain ⟨x3, u4, e5, h⟩ := zbind2_elim h
  refine r_callS (As := [.ref (zad X.1 20), .int 0, .int 99]) (rest := []) (st1 := [.int x3]) hX dX0_readPrice_8 ls_RX0_117 (c_X0_takeNumber 0 99  u1 _ _ e5) (by decide) rfl rfl rfl (Nat.le_of_ble_eq_true rfl) rfl ?_
  refine r_istore (y := x3) (L' := [(4, .int x3), (0, .ref (zad X.1 25)), (1, .ref (zad X.1 20)), (2, .ref (zad X.1 1)), (3, .int a1)]) hX dX0_readPrice_11 (by decide) rfl rfl ?_
  refine r_aload_n hX dX0_readPrice_13 3 rfl rfl ?_
  refine r_iload_n hX dX0_readPrice_14 4 rfl rfl ?_
  refine r_if_eq (tgt := 23) hX dX0_readPrice_15 (by decide) (fun c6 => ?_) (fun c6 => ?_)
  · have h := (if_pos c6).symm.trans h
    refine r_aload_n hX dX0_readPrice_23 3 rfl rfl ?_
    refine r_getI hX dX0_readPrice_24 f_RX0_137 zi_1_10 ?_
    obtain ⟨u7, e8, h⟩ := zlet_elim h
    refine r_putI hX dX0_readPrice_27 f_RX0_137 p_4_10 zi_1_10 ?_
    rw [e8]
    refine r_iload hX dX0_readPrice_30 0 rfl ?_
    refine r_iconst (v := (-1)) hX dX0_readPrice_32 (by decide) ?_
    refine r_icmp_eq (tgt := 40) hX dX0_readPrice_33 (by decide) (fun c9 => ?_) (fun c9 => ?_)
    · have h := (if_pos c9).symm.trans h
      refine r_iconst (v := 0) hX dX0_readPrice_40 (by decide) ?_
      obtain ⟨rfl, rfl⟩ := zinj2 (Option.some.inj h)
      exact r_zret0 hX hR dX0_readPrice_41
    · have h := (if_neg c9).symm.trans h
      refine r_iconst (v := 1) hX dX0_readPrice_36 (by decide) ?_
      refine r_goto (tgt := 41) hX dX0_readPrice_37 (by decide) ?_
      obtain ⟨rfl, rfl⟩ := zinj2 (Option.some.inj h)
      exact r_zret1 hX hR dX0_readPrice_41
  · have h := (if_neg c6).symm.trans h
    refine r_iload hX dX0_readPrice_18 0 rfl ?_
    refine r_goto (tgt := 27) hX dX0_readPrice_20 (by decide) ?_
    obtain ⟨u10, e11, h⟩ := zlet_elim h
    refine r_putI hX dX0_readPrice_27 f_RX0_137 p_4_10 zi_1_10 ?_
    rw [e11]
    refine r_iload hX dX0_readPrice_30 0 rfl ?_
    refine r_iconst (v := (-1)) hX dX0_readPrice_32 (by decide) ?_
    refine r_icmp_eq (tgt := 40) hX dX0_readPrice_33 (by decide) (fun c12 => ?_) (fun c12 => ?_)
    · have h := (if_pos c12).symm.trans h
      refine r_iconst (v := 0) hX dX0_readPrice_40 (by decide) ?_
      obtain ⟨rfl, rfl⟩ := zinj2 (Option.some.inj h)
      exact r_zret0 hX hR dX0_readPrice_41
    · have h := (if_neg c12).symm.trans h
      refine r_iconst (v := 1) hX dX0_readPrice_36 (by decide) ?_
      refine r_goto (tgt := 41) hX dX0_readPrice_37 (by decide) ?_
      obtain ⟨rfl, rfl⟩ := zinj2 (Option.some.inj h)
      exact r_zret1 hX hR dX0_readPrice_41
theorem dX0_readItem_0 : decode cX0_readItem 0 = .ok (.aload_n 1, 1) := by decide +kernel
theorem dX0_readItem_1 : decode cX0_readItem 1 = .ok (.invokestatic 54, 3) := by decide +kernel
theorem dX0_readItem_4 : decode cX0_readItem 4 = .ok (.istore 4, 2) := by decide +kernel
theorem dX0_readItem_6 : decode cX0_readItem 6 = .ok (.iload 4, 2) := by decide +kernel
theorem dX0_readItem_8 : decode cX0_readItem 8 = .ok (.iconst (-1), 1) := by decide +kernel
theorem dX0_readItem_9 : decode cX0_readItem 9 = .ok (.if_icmp .eq 13, 3) := by decide +kernel
theorem dX0_readItem_12 : decode cX0_readItem 12 = .ok (.aload_n 0, 1) := by decide +kernel
theorem dX0_readItem_13 : decode cX0_readItem 13 = .ok (.aload_n 1, 1) := by decide +kernel
theorem dX0_readItem_14 : decode cX0_readItem 14 = .ok (.aload_n 2, 1) := by decide +kernel
theorem dX0_readItem_15 : decode cX0_readItem 15 = .ok (.iload 4, 2) := by decide +kernel
theorem dX0_readItem_17 : decode cX0_readItem 17 = .ok (.iload_n 3, 1) := by decide +kernel
theorem dX0_readItem_18 : decode cX0_readItem 18 = .ok (.invokevirtual 58, 3) := by decide +kernel
theorem dX0_readItem_21 : decode cX0_readItem 21 = .ok (.ireturn, 1) := by decide +kernel
theorem dX0_readItem_22 : decode cX0_readItem 22 = .ok (.aload_n 1, 1) := by decide +kernel
theorem dX0_readItem_23 : decode cX0_readItem 23 = .ok (.ldc 62, 2) := by decide +kernel
theorem dX0_readItem_25 : decode cX0_readItem 25 = .ok (.invokevirtual 64, 3) := by decide +kernel
theorem dX0_readItem_28 : decode cX0_readItem 28 = .ok (.ifCond .eq 11, 3) := by decide +kernel
theorem dX0_readItem_31 : decode cX0_readItem 31 = .ok (.aload_n 0, 1) := by decide +kernel
theorem dX0_readItem_32 : decode cX0_readItem 32 = .ok (.aload_n 1, 1) := by decide +kernel
theorem dX0_readItem_33 : decode cX0_readItem 33 = .ok (.aload_n 2, 1) := by decide +kernel
theorem dX0_readItem_34 : decode cX0_readItem 34 = .ok (.iload_n 3, 1) := by decide +kernel
theorem dX0_readItem_35 : decode cX0_readItem 35 = .ok (.invokevirtual 68, 3) := by decide +kernel
theorem dX0_readItem_38 : decode cX0_readItem 38 = .ok (.ireturn, 1) := by decide +kernel
theorem dX0_readItem_39 : decode cX0_readItem 39 = .ok (.aload_n 1, 1) := by decide +kernel
theorem dX0_readItem_40 : decode cX0_readItem 40 = .ok (.ldc 71, 2) := by decide +kernel
theorem dX0_readItem_42 : decode cX0_readItem 42 = .ok (.invokevirtual 64, 3) := by decide +kernel
theorem dX0_readItem_45 : decode cX0_readItem 45 = .ok (.ifCond .eq 11, 3) := by decide +kernel
theorem dX0_readItem_48 : decode cX0_readItem 48 = .ok (.aload_n 0, 1) := by decide +kernel
theorem dX0_readItem_49 : decode cX0_readItem 49 = .ok (.aload_n 1, 1) := by decide +kernel
theorem dX0_readItem_50 : decode cX0_readItem 50 = .ok (.aload_n 2, 1) := by decide +kernel
theorem dX0_readItem_51 : decode cX0_readItem 51 = .ok (.iload_n 3, 1) := by decide +kernel
theorem dX0_readItem_52 : decode cX0_readItem 52 = .ok (.invokevirtual 73, 3) := by decide +kernel
theorem dX0_readItem_55 : decode cX0_readItem 55 = .ok (.ireturn, 1) := by decide +kernel
theorem dX0_readItem_56 : decode cX0_readItem 56 = .ok (.aload_n 1, 1) := by decide +kernel
theorem dX0_readItem_57 : decode cX0_readItem 57 = .ok (.ldc 76, 2) := by decide +kernel
theorem dX0_readItem_59 : decode cX0_readItem 59 = .ok (.invokevirtual 64, 3) := by decide +kernel
theorem dX0_readItem_62 : decode cX0_readItem 62 = .ok (.ifCond .eq 17, 3) := by decide +kernel
theorem dX0_readItem_65 : decode cX0_readItem 65 = .ok (.aload_n 0, 1) := by decide +kernel
theorem dX0_readItem_66 : decode cX0_readItem 66 = .ok (.aload_n 1, 1) := by decide +kernel
theorem dX0_readItem_67 : decode cX0_readItem 67 = .ok (.aload_n 2, 1) := by decide +kernel
theorem dX0_readItem_68 : decode cX0_readItem 68 = .ok (.iload_n 3, 1) := by decide +kernel
theorem dX0_readItem_69 : decode cX0_readItem 69 = .ok (.invokevirtual 78, 3) := by decide +kernel
theorem dX0_readItem_72 : decode cX0_readItem 72 = .ok (.ifCond .eq 7, 3) := by decide +kernel
theorem dX0_readItem_75 : decode cX0_readItem 75 = .ok (.iconst 1, 1) := by decide +kernel
theorem dX0_readItem_76 : decode cX0_readItem 76 = .ok (.goto 4, 3) := by decide +kernel
theorem dX0_readItem_79 : decode cX0_readItem 79 = .ok (.iconst 0, 1) := by decide +kernel
theorem dX0_readItem_80 : decode cX0_readItem 80 = .ok (.ireturn, 1) := by decide +kernel
def m_X0_readItem (a1 : Int32) (u : zM) : Option (Int32 × zM) :=
  zbind (m_X0_kindTold u) (fun x1 => (if x1 = (-1) then
zbind (m_X3_isWord 10 u) (fun x4 => (if x4 = 0 then
zbind (m_X3_isWord 11 u) (fun x7 => (if x7 = 0 then
zbind (m_X3_isWord 12 u) (fun x10 => (if x10 = 0 then
some (0, u)
else
zbind2 (m_X0_readPrice a1 u) (fun x13 u14 => (if x13 = 0 then
some (0, u14)
else
some (1, u14)))))
else
zbind2 (m_X0_readEase a1 u) (fun x17 u18 => some ((zb x17), u18))))
else
zbind2 (m_X0_readRule a1 u) (fun x20 u21 => some ((zb x20), u21))))
else
zbind2 (m_X0_readBody x1 a1 u) (fun x23 u24 => some ((zb x23), u24))))
set_option maxHeartbeats 4000000 in
set_option maxRecDepth 100000 in
theorem c_X0_readItem (a1 : Int32)   (u : zM) (r : Int32) (u' : zM) (h : m_X0_readItem a1 u = some (r, u')) : zCt 8 yX0_readItem cX0_readItem 5 (some .boolean) (fun E => [.ref (zad E 25), .ref (zad E 20), .ref (zad E 1), .int a1]) u (fun _ => some (.int r)) u' := by
  refine zCt.of (by decide +kernel) (fun E => Nat.le_of_ble_eq_true rfl) (fun X hX hR => ?_)
  have hX : zGood X RX0 cX0_readItem 5 8 := hX
  show zG X u 0 [(0, .ref (zad X.1 25)), (1, .ref (zad X.1 20)), (2, .ref (zad X.1 1)), (3, .int a1)] []
  unfold m_X0_readItem at h
  refine r_aload_n hX dX0_readItem_0 1 rfl rfl ?_
  obtain ⟨x1, e2, h⟩ := zbind_elim h
  refine r_callS (As := [.ref (zad X.1 20)]) (rest := []) (st1 := [.int x1]) hX dX0_readItem_1 ls_RX0_54 (c_X0_kindTold   u _ e2) (by decide) rfl rfl rfl (Nat.le_of_ble_eq_true rfl) rfl ?_
  refine r_istore (y := x1) (L' := [(4, .int x1), (0, .ref (zad X.1 25)), (1, .ref (zad X.1 20)), (2, .ref (zad X.1 1)), (3, .int a1)]) hX dX0_readItem_4 (by decide) rfl rfl ?_
  refine r_iload hX dX0_readItem_6 0 rfl ?_
  refine r_iconst (v := (-1)) hX dX0_readItem_8 (by decide) ?_
  refine r_icmp_eq (tgt := 22) hX dX0_readItem_9 (by decide) (fun c3 => ?_) (fun c3 => ?_)
  · have h := (if_pos c3).symm.trans h
    refine r_aload_n hX dX0_readItem_22 2 rfl rfl ?_
    refine r_ldcS (tx := "rule") (q := 10) hX dX0_readItem_23 (List.mem_of_getElem? (i := 9) rfl) ?_
    obtain ⟨x4, e5, h⟩ := zbind_elim h
    refine r_callV (As := [.ref (zaK X.1 10)]) (rest := []) (st1 := [.int x4]) hX dX0_readItem_25 lv_RX0_64 (c_X3_isWord 10 (by decide)  u _ e5) (by decide) rfl rfl (zRecv.of (q := 20) (ci := 3) rfl rfl) rfl (Nat.le_of_ble_eq_true rfl) rfl ?_
    refine r_if_eq (tgt := 39) hX dX0_readItem_28 (by decide) (fun c6 => ?_) (fun c6 => ?_)
    · have h := (if_pos c6).symm.trans h
      refine r_aload_n hX dX0_readItem_39 2 rfl rfl ?_
      refine r_ldcS (tx := "ease") (q := 11) hX dX0_readItem_40 (List.mem_of_getElem? (i := 13) rfl) ?_
      obtain ⟨x7, e8, h⟩ := zbind_elim h
      refine r_callV (As := [.ref (zaK X.1 11)]) (rest := []) (st1 := [.int x7]) hX dX0_readItem_42 lv_RX0_64 (c_X3_isWord 11 (by decide)  u _ e8) (by decide) rfl rfl (zRecv.of (q := 20) (ci := 3) rfl rfl) rfl (Nat.le_of_ble_eq_true rfl) rfl ?_
      refine r_if_eq (tgt := 56) hX dX0_readItem_45 (by decide) (fun c9 => ?_) (fun c9 => ?_)
      · have h := (if_pos c9).symm.trans h
        refine r_aload_n hX dX0_readItem_56 2 rfl rfl ?_
        refine r_ldcS (tx := "price") (q := 12) hX dX0_readItem_57 (List.mem_of_getElem? (i := 14) rfl) ?_
        obtain ⟨x10, e11, h⟩ := zbind_elim h
        refine r_callV (As := [.ref (zaK X.1 12)]) (rest := []) (st1 := [.int x10]) hX dX0_readItem_59 lv_RX0_64 (c_X3_isWord 12 (by decide)  u _ e11) (by decide) rfl rfl (zRecv.of (q := 20) (ci := 3) rfl rfl) rfl (Nat.le_of_ble_eq_true rfl) rfl ?_
        refine r_if_eq (tgt := 79) hX dX0_readItem_62 (by decide) (fun c12 => ?_) (fun c12 => ?_)
        · have h := (if_pos c12).symm.trans h
          refine r_iconst (v := 0) hX dX0_readItem_79 (by decide) ?_
          obtain ⟨rfl, rfl⟩ := zinj2 (Option.some.inj h)
          exact r_zret0 hX hR dX0_readItem_80
        · have h := (if_neg c12).symm.trans h
          refine r_aload_n hX dX0_readItem_65 1 rfl rfl ?_
          refine r_aload_n hX dX0_readItem_66 2 rfl rfl ?_
          refine r_aload_n hX dX0_readItem_67 3 rfl rfl ?_
          refine r_iload_n hX dX0_readItem_68 4 rfl rfl ?_
          obtain ⟨x13, u14, e15, h⟩ := zbind2_elim h
          refine r_callV (As := [.ref (zad X.1 20), .ref (zad X.1 1), .int a1]) (rest := []) (st1 := [.int x13]) hX dX0_readItem_69 lv_RX0_78 (c_X0_readPrice a1  u _ _ e15) (by decide) rfl rfl (zRecv.of (q := 25) (ci := 0) rfl rfl) rfl (Nat.le_of_ble_eq_true rfl) rfl ?_
          refine r_if_eq (tgt := 79) hX dX0_readItem_72 (by decide) (fun c16 => ?_) (fun c16 => ?_)
          · have h := (if_pos c16).symm.trans h
            refine r_iconst (v := 0) hX dX0_readItem_79 (by decide) ?_
            obtain ⟨rfl, rfl⟩ := zinj2 (Option.some.inj h)
            exact r_zret0 hX hR dX0_readItem_80
          · have h := (if_neg c16).symm.trans h
            refine r_iconst (v := 1) hX dX0_readItem_75 (by decide) ?_
            refine r_goto (tgt := 80) hX dX0_readItem_76 (by decide) ?_
            obtain ⟨rfl, rfl⟩ := zinj2 (Option.some.inj h)
            exact r_zret1 hX hR dX0_readItem_80
      · have h := (if_neg c9).symm.trans h
        refine r_aload_n hX dX0_readItem_48 1 rfl rfl ?_
        refine r_aload_n hX dX0_readItem_49 2 rfl rfl ?_
        refine r_aload_n hX dX0_readItem_50 3 rfl rfl ?_
        refine r_iload_n hX dX0_readItem_51 4 rfl rfl ?_
        obtain ⟨x17, u18, e19, h⟩ := zbind2_elim h
        refine r_callV (As := [.ref (zad X.1 20), .ref (zad X.1 1), .int a1]) (rest := []) (st1 := [.int x17]) hX dX0_readItem_52 lv_RX0_73 (c_X0_readEase a1  u _ _ e19) (by decide) rfl rfl (zRecv.of (q := 25) (ci := 0) rfl rfl) rfl (Nat.le_of_ble_eq_true rfl) rfl ?_
        obtain ⟨rfl, rfl⟩ := zinj2 (Option.some.inj h)
        exact r_zret hX hR dX0_readItem_55
    · have h := (if_neg c6).symm.trans h
      refine r_aload_n hX dX0_readItem_31 1 rfl rfl ?_
      refine r_aload_n hX dX0_readItem_32 2 rfl rfl ?_
      refine r_aload_n hX dX0_readItem_33 3 rfl rfl ?_
      refine r_iload_n hX dX0_readItem_34 4 rfl rfl ?_
      obtain ⟨x20, u21, e22, h⟩ := zbind2_elim h
      refine r_callV (As := [.ref (zad X.1 20), .ref (zad X.1 1), .int a1]) (rest := []) (st1 := [.int x20]) hX dX0_readItem_35 lv_RX0_68 (c_X0_readRule a1  u _ _ e22) (by decide) rfl rfl (zRecv.of (q := 25) (ci := 0) rfl rfl) rfl (Nat.le_of_ble_eq_true rfl) rfl ?_
      obtain ⟨rfl, rfl⟩ := zinj2 (Option.some.inj h)
      exact r_zret hX hR dX0_readItem_38
  · have h := (if_neg c3).symm.trans h
    refine r_aload_n hX dX0_readItem_12 1 rfl rfl ?_
    refine r_aload_n hX dX0_readItem_13 2 rfl rfl ?_
    refine r_aload_n hX dX0_readItem_14 3 rfl rfl ?_
    refine r_iload hX dX0_readItem_15 0 rfl ?_
    refine r_iload_n hX dX0_readItem_17 4 rfl rfl ?_
    obtain ⟨x23, u24, e25, h⟩ := zbind2_elim h
    refine r_callV (As := [.ref (zad X.1 20), .ref (zad X.1 1), .int x1, .int a1]) (rest := []) (st1 := [.int x23]) hX dX0_readItem_18 lv_RX0_58 (c_X0_readBody x1 a1  u _ _ e25) (by decide) rfl rfl (zRecv.of (q := 25) (ci := 0) rfl rfl) rfl (Nat.le_of_ble_eq_true rfl) rfl ?_
    obtain ⟨rfl, rfl⟩ := zinj2 (Option.some.inj h)
    exact r_zret hX hR dX0_readItem_21
theorem dX3_begin_0 : decode cX3_begin 0 = .ok (.aload_n 0, 1) := by decide +kernel
theorem dX3_begin_1 : decode cX3_begin 1 = .ok (.getfield 15, 3) := by decide +kernel
theorem dX3_begin_4 : decode cX3_begin 4 = .ok (.aload_n 0, 1) := by decide +kernel
theorem dX3_begin_5 : decode cX3_begin 5 = .ok (.getfield 31, 3) := by decide +kernel
theorem dX3_begin_8 : decode cX3_begin 8 = .ok (.iaload, 1) := by decide +kernel
theorem dX3_begin_9 : decode cX3_begin 9 = .ok (.ireturn, 1) := by decide +kernel
def m_X3_begin  (u : zM) : Option (Int32) :=
  zbind (zld u 22 121 (u 20 6)) (fun x1 => some x1)
set_option maxHeartbeats 4000000 in
set_option maxRecDepth 100000 in
theorem c_X3_begin    (u : zM) (r : Int32) (h : m_X3_begin u = some r) : zCt 1 yX3_begin cX3_begin 1 (some .int) (fun E => [.ref (zad E 20)]) u (fun _ => some (.int r)) u := by
  refine zCt.of (by decide +kernel) (fun E => Nat.le_of_ble_eq_true rfl) (fun X hX hR => ?_)
  have hX : zGood X RX3 cX3_begin 1 1 := hX
  show zG X u 0 [(0, .ref (zad X.1 20))] []
  unfold m_X3_begin at h
  refine r_aload_n hX dX3_begin_0 0 rfl rfl ?_
  refine r_getR hX dX3_begin_1 f_RX3_15 zr_20_1 ?_
  refine r_aload_n hX dX3_begin_4 0 rfl rfl ?_
  refine r_getI hX dX3_begin_5 f_RX3_31 zi_20_6 ?_
  obtain ⟨x1, e2, h⟩ := zbind_elim h
  refine r_iald hX dX3_begin_8 rfl e2 ?_
  obtain rfl := Option.some.inj h
  exact r_iret hX hR dX3_begin_9
theorem dX3_isEnd_0 : decode cX3_isEnd 0 = .ok (.aload_n 0, 1) := by decide +kernel
theorem dX3_isEnd_1 : decode cX3_isEnd 1 = .ok (.getfield 21, 3) := by decide +kernel
theorem dX3_isEnd_4 : decode cX3_isEnd 4 = .ok (.aload_n 0, 1) := by decide +kernel
theorem dX3_isEnd_5 : decode cX3_isEnd 5 = .ok (.getfield 31, 3) := by decide +kernel
theorem dX3_isEnd_8 : decode cX3_isEnd 8 = .ok (.iaload, 1) := by decide +kernel
theorem dX3_isEnd_9 : decode cX3_isEnd 9 = .ok (.ifCond .ne 7, 3) := by decide +kernel
theorem dX3_isEnd_12 : decode cX3_isEnd 12 = .ok (.iconst 1, 1) := by decide +kernel
theorem dX3_isEnd_13 : decode cX3_isEnd 13 = .ok (.goto 4, 3) := by decide +kernel
theorem dX3_isEnd_16 : decode cX3_isEnd 16 = .ok (.iconst 0, 1) := by decide +kernel
theorem dX3_isEnd_17 : decode cX3_isEnd 17 = .ok (.ireturn, 1) := by decide +kernel
def m_X3_isEnd  (u : zM) : Option (Int32) :=
  zbind (zld u 24 121 (u 20 6)) (fun x1 => (if x1 = 0 then
some 1
else
some 0))
set_option maxHeartbeats 4000000 in
set_option maxRecDepth 100000 in
theorem c_X3_isEnd    (u : zM) (r : Int32) (h : m_X3_isEnd u = some r) : zCt 1 yX3_isEnd cX3_isEnd 1 (some .boolean) (fun E => [.ref (zad E 20)]) u (fun _ => some (.int r)) u := by
  refine zCt.of (by decide +kernel) (fun E => Nat.le_of_ble_eq_true rfl) (fun X hX hR => ?_)
  have hX : zGood X RX3 cX3_isEnd 1 1 := hX
  show zG X u 0 [(0, .ref (zad X.1 20))] []
  unfold m_X3_isEnd at h
  refine r_aload_n hX dX3_isEnd_0 0 rfl rfl ?_
  refine r_getR hX dX3_isEnd_1 f_RX3_21 zr_20_3 ?_
  refine r_aload_n hX dX3_isEnd_4 0 rfl rfl ?_
  refine r_getI hX dX3_isEnd_5 f_RX3_31 zi_20_6 ?_
  obtain ⟨x1, e2, h⟩ := zbind_elim h
  refine r_iald hX dX3_isEnd_8 rfl e2 ?_
  refine r_if_ne (tgt := 16) hX dX3_isEnd_9 (by decide) (fun c3 => ?_) (fun c3 => ?_)
  · have h := (if_neg c3).symm.trans h
    refine r_iconst (v := 0) hX dX3_isEnd_16 (by decide) ?_
    obtain rfl := Option.some.inj h
    exact r_zret0 hX hR dX3_isEnd_17
  · have h := (if_pos c3).symm.trans h
    refine r_iconst (v := 1) hX dX3_isEnd_12 (by decide) ?_
    refine r_goto (tgt := 17) hX dX3_isEnd_13 (by decide) ?_
    obtain rfl := Option.some.inj h
    exact r_zret1 hX hR dX3_isEnd_17
