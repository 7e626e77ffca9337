/-! MODELS AND CONTRACTS, by program (wip/whole/gen_all.py): X5_sheet, X1_isMissing, X1_put, X5_write, X1_has, X5_copy -/
theorem dX5_sheet_0 : decode cX5_sheet 0 = .ok (.iload_n 1, 1) := by decide +kernel
theorem dX5_sheet_1 : decode cX5_sheet 1 = .ok (.invokestatic 247, 3) := by decide +kernel
theorem dX5_sheet_4 : decode cX5_sheet 4 = .ok (.ifCond .eq 25, 3) := by decide +kernel
theorem dX5_sheet_7 : decode cX5_sheet 7 = .ok (.iload_n 2, 1) := by decide +kernel
theorem dX5_sheet_8 : decode cX5_sheet 8 = .ok (.ifCond .eq 27, 3) := by decide +kernel
theorem dX5_sheet_11 : decode cX5_sheet 11 = .ok (.iload_n 2, 1) := by decide +kernel
theorem dX5_sheet_12 : decode cX5_sheet 12 = .ok (.bipush 8, 2) := by decide +kernel
theorem dX5_sheet_14 : decode cX5_sheet 14 = .ok (.if_icmp .eq 21, 3) := by decide +kernel
theorem dX5_sheet_17 : decode cX5_sheet 17 = .ok (.iload_n 2, 1) := by decide +kernel
theorem dX5_sheet_18 : decode cX5_sheet 18 = .ok (.bipush 16, 2) := by decide +kernel
theorem dX5_sheet_20 : decode cX5_sheet 20 = .ok (.if_icmp .eq 15, 3) := by decide +kernel
theorem dX5_sheet_23 : decode cX5_sheet 23 = .ok (.iload_n 2, 1) := by decide +kernel
theorem dX5_sheet_24 : decode cX5_sheet 24 = .ok (.bipush 32, 2) := by decide +kernel
theorem dX5_sheet_26 : decode cX5_sheet 26 = .ok (.if_icmp .eq 9, 3) := by decide +kernel
theorem dX5_sheet_29 : decode cX5_sheet 29 = .ok (.aload_n 0, 1) := by decide +kernel
theorem dX5_sheet_30 : decode cX5_sheet 30 = .ok (.iconst 0, 1) := by decide +kernel
theorem dX5_sheet_31 : decode cX5_sheet 31 = .ok (.invokevirtual 65, 3) := by decide +kernel
theorem dX5_sheet_34 : decode cX5_sheet 34 = .ok (.ireturn, 1) := by decide +kernel
theorem dX5_sheet_35 : decode cX5_sheet 35 = .ok (.iload_n 3, 1) := by decide +kernel
theorem dX5_sheet_36 : decode cX5_sheet 36 = .ok (.ifCond .ge 10, 3) := by decide +kernel
theorem dX5_sheet_39 : decode cX5_sheet 39 = .ok (.aload_n 0, 1) := by decide +kernel
theorem dX5_sheet_40 : decode cX5_sheet 40 = .ok (.bipush 6, 2) := by decide +kernel
theorem dX5_sheet_42 : decode cX5_sheet 42 = .ok (.invokevirtual 65, 3) := by decide +kernel
theorem dX5_sheet_45 : decode cX5_sheet 45 = .ok (.ireturn, 1) := by decide +kernel
theorem dX5_sheet_46 : decode cX5_sheet 46 = .ok (.iload_n 3, 1) := by decide +kernel
theorem dX5_sheet_47 : decode cX5_sheet 47 = .ok (.bipush 40, 2) := by decide +kernel
theorem dX5_sheet_49 : decode cX5_sheet 49 = .ok (.if_icmp .le 9, 3) := by decide +kernel
theorem dX5_sheet_52 : decode cX5_sheet 52 = .ok (.aload_n 0, 1) := by decide +kernel
theorem dX5_sheet_53 : decode cX5_sheet 53 = .ok (.iconst 0, 1) := by decide +kernel
theorem dX5_sheet_54 : decode cX5_sheet 54 = .ok (.invokevirtual 65, 3) := by decide +kernel
theorem dX5_sheet_57 : decode cX5_sheet 57 = .ok (.ireturn, 1) := by decide +kernel
theorem dX5_sheet_58 : decode cX5_sheet 58 = .ok (.aload_n 0, 1) := by decide +kernel
theorem dX5_sheet_59 : decode cX5_sheet 59 = .ok (.getfield 42, 3) := by decide +kernel
theorem dX5_sheet_62 : decode cX5_sheet 62 = .ok (.iload_n 1, 1) := by decide +kernel
theorem dX5_sheet_63 : decode cX5_sheet 63 = .ok (.aaload, 1) := by decide +kernel
theorem dX5_sheet_64 : decode cX5_sheet 64 = .ok (.iload_n 2, 1) := by decide +kernel
theorem dX5_sheet_65 : decode cX5_sheet 65 = .ok (.iload_n 2, 1) := by decide +kernel
theorem dX5_sheet_66 : decode cX5_sheet 66 = .ok (.ifCond .ne 7, 3) := by decide +kernel
theorem dX5_sheet_69 : decode cX5_sheet 69 = .ok (.iconst 0, 1) := by decide +kernel
theorem dX5_sheet_70 : decode cX5_sheet 70 = .ok (.goto 4, 3) := by decide +kernel
theorem dX5_sheet_73 : decode cX5_sheet 73 = .ok (.iload_n 3, 1) := by decide +kernel
theorem dX5_sheet_74 : decode cX5_sheet 74 = .ok (.invokevirtual 250, 3) := by decide +kernel
theorem dX5_sheet_77 : decode cX5_sheet 77 = .ok (.aload_n 0, 1) := by decide +kernel
theorem dX5_sheet_78 : decode cX5_sheet 78 = .ok (.getfield 42, 3) := by decide +kernel
theorem dX5_sheet_81 : decode cX5_sheet 81 = .ok (.iload_n 1, 1) := by decide +kernel
theorem dX5_sheet_82 : decode cX5_sheet 82 = .ok (.aaload, 1) := by decide +kernel
theorem dX5_sheet_83 : decode cX5_sheet 83 = .ok (.getfield 254, 3) := by decide +kernel
theorem dX5_sheet_86 : decode cX5_sheet 86 = .ok (.ireturn, 1) := by decide +kernel
def m_X5_sheet (a1 : Int32) (a2 : Int32) (a3 : Int32) (u : zM) : Option (Int32 × zM) :=
  (if (m_X5_isSheet a1) = 0 then
zbind2 (m_X5_finding 0 u) (fun x2 u3 => some (x2, u3))
else
(if a2 = 0 then
(if 0 ≤ a3 then
(if a3 ≤ 40 then
zbind (zsheet a1) (fun k8 => (if a2 = 0 then
zbind (m_X1_lay k8 a2 0 u) (fun u15 => zbind (zsheet a1) (fun k17 => some ((u15 k17 2), u15)))
else
zbind (m_X1_lay k8 a2 a3 u) (fun u11 => zbind (zsheet a1) (fun k13 => some ((u11 k13 2), u11)))))
else
zbind2 (m_X5_finding 0 u) (fun x19 u20 => some (x19, u20)))
else
zbind2 (m_X5_finding 6 u) (fun x22 u23 => some (x22, u23)))
else
(if a2 = 8 then
(if 0 ≤ a3 then
(if a3 ≤ 40 then
zbind (zsheet a1) (fun k28 => (if a2 = 0 then
zbind (m_X1_lay k28 a2 0 u) (fun u35 => zbind (zsheet a1) (fun k37 => some ((u35 k37 2), u35)))
else
zbind (m_X1_lay k28 a2 a3 u) (fun u31 => zbind (zsheet a1) (fun k33 => some ((u31 k33 2), u31)))))
else
zbind2 (m_X5_finding 0 u) (fun x39 u40 => some (x39, u40)))
else
zbind2 (m_X5_finding 6 u) (fun x42 u43 => some (x42, u43)))
else
(if a2 = 16 then
(if 0 ≤ a3 then
(if a3 ≤ 40 then
zbind (zsheet a1) (fun k48 => (if a2 = 0 then
zbind (m_X1_lay k48 a2 0 u) (fun u55 => zbind (zsheet a1) (fun k57 => some ((u55 k57 2), u55)))
else
zbind (m_X1_lay k48 a2 a3 u) (fun u51 => zbind (zsheet a1) (fun k53 => some ((u51 k53 2), u51)))))
else
zbind2 (m_X5_finding 0 u) (fun x59 u60 => some (x59, u60)))
else
zbind2 (m_X5_finding 6 u) (fun x62 u63 => some (x62, u63)))
else
(if a2 = 32 then
(if 0 ≤ a3 then
(if a3 ≤ 40 then
zbind (zsheet a1) (fun k68 => (if a2 = 0 then
zbind (m_X1_lay k68 a2 0 u) (fun u75 => zbind (zsheet a1) (fun k77 => some ((u75 k77 2), u75)))
else
zbind (m_X1_lay k68 a2 a3 u) (fun u71 => zbind (zsheet a1) (fun k73 => some ((u71 k73 2), u71)))))
else
zbind2 (m_X5_finding 0 u) (fun x79 u80 => some (x79, u80)))
else
zbind2 (m_X5_finding 6 u) (fun x82 u83 => some (x82, u83)))
else
zbind2 (m_X5_finding 0 u) (fun x85 u86 => some (x85, u86)))))))
set_option maxHeartbeats 4000000 in
set_option maxRecDepth 100000 in
theorem c_X5_sheet (a1 : Int32) (a2 : Int32) (a3 : Int32)   (u : zM) (r : Int32) (u' : zM) (h : m_X5_sheet a1 a2 a3 u = some (r, u')) : zCt 3 yX5_sheet cX5_sheet 4 (some .int) (fun E => [.ref (zad E 0), .int a1, .int a2, .int a3]) u (fun _ => some (.int r)) u' := by
  refine zCt.of (by decide +kernel) (fun E => Nat.le_of_ble_eq_true rfl) (fun X hX hR => ?_)
  have hX : zGood X RX5 cX5_sheet 4 3 := hX
  show zG X u 0 [(0, .ref (zad X.1 0)), (1, .int a1), (2, .int a2), (3, .int a3)] []
  unfold m_X5_sheet at h
  refine r_iload_n hX dX5_sheet_0 1 rfl rfl ?_
  refine r_callS (As := [.int a1]) (rest := []) (st1 := [.int (m_X5_isSheet a1)]) hX dX5_sheet_1 ls_RX5_247 (c_X5_isSheet a1  u _ rfl) (by decide) rfl rfl rfl (Nat.le_of_ble_eq_true rfl) rfl ?_
  refine r_if_eq (tgt := 29) hX dX5_sheet_4 (by decide) (fun c1 => ?_) (fun c1 => ?_)
  · have h := (if_pos c1).symm.trans h
    refine r_aload_n hX dX5_sheet_29 0 rfl rfl ?_
    refine r_iconst (v := 0) hX dX5_sheet_30 (by decide) ?_
    obtain ⟨x2, u3, e4, h⟩ := zbind2_elim h
    refine r_callV (As := [.int 0]) (rest := []) (st1 := [.int x2]) hX dX5_sheet_31 lv_RX5_65 (c_X5_finding 0  u _ _ e4) (by decide) rfl rfl (zRecv.of (q := 0) (ci := 5) rfl rfl) rfl (Nat.le_of_ble_eq_true rfl) rfl ?_
    obtain ⟨rfl, rfl⟩ := zinj2 (Option.some.inj h)
    exact r_iret hX hR dX5_sheet_34
  · have h := (if_neg c1).symm.trans h
    refine r_iload_n hX dX5_sheet_7 2 rfl rfl ?_
    refine r_if_eq (tgt := 35) hX dX5_sheet_8 (by decide) (fun c5 => ?_) (fun c5 => ?_)
    · have h := (if_pos c5).symm.trans h
      refine r_iload_n hX dX5_sheet_35 3 rfl rfl ?_
      refine r_if_ge (tgt := 46) hX dX5_sheet_36 (by decide) (fun c6 => ?_) (fun c6 => ?_)
      · have h := (if_pos c6).symm.trans h
        refine r_iload_n hX dX5_sheet_46 3 rfl rfl ?_
        refine r_bipush (v := 40) hX dX5_sheet_47 (by decide) ?_
        refine r_icmp_le (tgt := 58) hX dX5_sheet_49 (by decide) (fun c7 => ?_) (fun c7 => ?_)
        · have h := (if_pos c7).symm.trans h
          refine r_aload_n hX dX5_sheet_58 0 rfl rfl ?_
          refine r_getR hX dX5_sheet_59 f_RX5_42 zr_0_5 ?_
          refine r_iload_n hX dX5_sheet_62 1 rfl rfl ?_
          obtain ⟨k8, e9, h⟩ := zbind_elim h
          have hk8 := (zsheet_ok e9).2.2
          refine r_aldS hX dX5_sheet_63 e9 ?_
          refine r_iload_n hX dX5_sheet_64 2 rfl rfl ?_
          refine r_iload_n hX dX5_sheet_65 2 rfl rfl ?_
          refine r_if_ne (tgt := 73) hX dX5_sheet_66 (by decide) (fun c10 => ?_) (fun c10 => ?_)
          · have h := (if_neg c10).symm.trans h
            refine r_iload_n hX dX5_sheet_73 3 rfl rfl ?_
            obtain ⟨u11, e12, h⟩ := zbind_elim h
            refine r_callV (As := [.int a2, .int a3]) (rest := []) (st1 := []) hX dX5_sheet_74 lv_RX5_250 (c_X1_lay k8 a2 a3 hk8  u _ e12) (by decide) rfl rfl (zRecv.of (ci := 1) (zSh_c hk8) rfl) rfl (Nat.le_of_ble_eq_true rfl) rfl ?_
            refine r_aload_n hX dX5_sheet_77 0 rfl rfl ?_
            refine r_getR hX dX5_sheet_78 f_RX5_42 zr_0_5 ?_
            refine r_iload_n hX dX5_sheet_81 1 rfl rfl ?_
            obtain ⟨k13, e14, h⟩ := zbind_elim h
            have hk13 := (zsheet_ok e14).2.2
            refine r_aldS hX dX5_sheet_82 e14 ?_
            refine r_getI hX dX5_sheet_83 f_RX5_254 (zSh_2 hk13) ?_
            obtain ⟨rfl, rfl⟩ := zinj2 (Option.some.inj h)
            exact r_iret hX hR dX5_sheet_86
          · have h := (if_pos c10).symm.trans h
            refine r_iconst (v := 0) hX dX5_sheet_69 (by decide) ?_
            refine r_goto (tgt := 74) hX dX5_sheet_70 (by decide) ?_
            obtain ⟨u15, e16, h⟩ := zbind_elim h
            refine r_callV (As := [.int a2, .int 0]) (rest := []) (st1 := []) hX dX5_sheet_74 lv_RX5_250 (c_X1_lay k8 a2 0 hk8  u _ e16) (by decide) rfl rfl (zRecv.of (ci := 1) (zSh_c hk8) rfl) rfl (Nat.le_of_ble_eq_true rfl) rfl ?_
            refine r_aload_n hX dX5_sheet_77 0 rfl rfl ?_
            refine r_getR hX dX5_sheet_78 f_RX5_42 zr_0_5 ?_
            refine r_iload_n hX dX5_sheet_81 1 rfl rfl ?_
            obtain ⟨k17, e18, h⟩ := zbind_elim h
            have hk17 := (zsheet_ok e18).2.2
            refine r_aldS hX dX5_sheet_82 e18 ?_
            refine r_getI hX dX5_sheet_83 f_RX5_254 (zSh_2 hk17) ?_
            obtain ⟨rfl, rfl⟩ := zinj2 (Option.some.inj h)
            exact r_iret hX hR dX5_sheet_86
        · have h := (if_neg c7).symm.trans h
          refine r_aload_n hX dX5_sheet_52 0 rfl rfl ?_
          refine r_iconst (v := 0) hX dX5_sheet_53 (by decide) ?_
          obtain ⟨x19, u20, e21, h⟩ := zbind2_elim h
          refine r_callV (As := [.int 0]) (rest := []) (st1 := [.int x19]) hX dX5_sheet_54 lv_RX5_65 (c_X5_finding 0  u _ _ e21) (by decide) rfl rfl (zRecv.of (q := 0) (ci := 5) rfl rfl) rfl (Nat.le_of_ble_eq_true rfl) rfl ?_
          obtain ⟨rfl, rfl⟩ := zinj2 (Option.some.inj h)
          exact r_iret hX hR dX5_sheet_57
      · have h := (if_neg c6).symm.trans h
        refine r_aload_n hX dX5_sheet_39 0 rfl rfl ?_
        refine r_bipush (v := 6) hX dX5_sheet_40 (by decide) ?_
        obtain ⟨x22, u23, e24, h⟩ := zbind2_elim h
        refine r_callV (As := [.int 6]) (rest := []) (st1 := [.int x22]) hX dX5_sheet_42 lv_RX5_65 (c_X5_finding 6  u _ _ e24) (by decide) rfl rfl (zRecv.of (q := 0) (ci := 5) rfl rfl) rfl (Nat.le_of_ble_eq_true rfl) rfl ?_
        obtain ⟨rfl, rfl⟩ := zinj2 (Option.some.inj h)
        exact r_iret hX hR dX5_sheet_45
    · have h := (if_neg c5).symm.trans h
      refine r_iload_n hX dX5_sheet_11 2 rfl rfl ?_
      refine r_bipush (v := 8) hX dX5_sheet_12 (by decide) ?_
      refine r_icmp_eq (tgt := 35) hX dX5_sheet_14 (by decide) (fun c25 => ?_) (fun c25 => ?_)
      · have h := (if_pos c25).symm.trans h
        refine r_iload_n hX dX5_sheet_35 3 rfl rfl ?_
        refine r_if_ge (tgt := 46) hX dX5_sheet_36 (by decide) (fun c26 => ?_) (fun c26 => ?_)
        · have h := (if_pos c26).symm.trans h
          refine r_iload_n hX dX5_sheet_46 3 rfl rfl ?_
          refine r_bipush (v := 40) hX dX5_sheet_47 (by decide) ?_
          refine r_icmp_le (tgt := 58) hX dX5_sheet_49 (by decide) (fun c27 => ?_) (fun c27 => ?_)
          · have h := (if_pos c27).symm.trans h
            refine r_aload_n hX dX5_sheet_58 0 rfl rfl ?_
            refine r_getR hX dX5_sheet_59 f_RX5_42 zr_0_5 ?_
            refine r_iload_n hX dX5_sheet_62 1 rfl rfl ?_
            obtain ⟨k28, e29, h⟩ := zbind_elim h
            have hk28 := (zsheet_ok e29).2.2
            refine r_aldS hX dX5_sheet_63 e29 ?_
            refine r_iload_n hX dX5_sheet_64 2 rfl rfl ?_
            refine r_iload_n hX dX5_sheet_65 2 rfl rfl ?_
            refine r_if_ne (tgt := 73) hX dX5_sheet_66 (by decide) (fun c30 => ?_) (fun c30 => ?_)
            · have h := (if_neg c30).symm.trans h
              refine r_iload_n hX dX5_sheet_73 3 rfl rfl ?_
              obtain ⟨u31, e32, h⟩ := zbind_elim h
              refine r_callV (As := [.int a2, .int a3]) (rest := []) (st1 := []) hX dX5_sheet_74 lv_RX5_250 (c_X1_lay k28 a2 a3 hk28  u _ e32) (by decide) rfl rfl (zRecv.of (ci := 1) (zSh_c hk28) rfl) rfl (Nat.le_of_ble_eq_true rfl) rfl ?_
              refine r_aload_n hX dX5_sheet_77 0 rfl rfl ?_
              refine r_getR hX dX5_sheet_78 f_RX5_42 zr_0_5 ?_
              refine r_iload_n hX dX5_sheet_81 1 rfl rfl ?_
              obtain ⟨k33, e34, h⟩ := zbind_elim h
              have hk33 := (zsheet_ok e34).2.2
              refine r_aldS hX dX5_sheet_82 e34 ?_
              refine r_getI hX dX5_sheet_83 f_RX5_254 (zSh_2 hk33) ?_
              obtain ⟨rfl, rfl⟩ := zinj2 (Option.some.inj h)
              exact r_iret hX hR dX5_sheet_86
            · have h := (if_pos c30).symm.trans h
              refine r_iconst (v := 0) hX dX5_sheet_69 (by decide) ?_
              refine r_goto (tgt := 74) hX dX5_sheet_70 (by decide) ?_
              obtain ⟨u35, e36, h⟩ := zbind_elim h
              refine r_callV (As := [.int a2, .int 0]) (rest := []) (st1 := []) hX dX5_sheet_74 lv_RX5_250 (c_X1_lay k28 a2 0 hk28  u _ e36) (by decide) rfl rfl (zRecv.of (ci := 1) (zSh_c hk28) rfl) rfl (Nat.le_of_ble_eq_true rfl) rfl ?_
              refine r_aload_n hX dX5_sheet_77 0 rfl rfl ?_
              refine r_getR hX dX5_sheet_78 f_RX5_42 zr_0_5 ?_
              refine r_iload_n hX dX5_sheet_81 1 rfl rfl ?_
              obtain ⟨k37, e38, h⟩ := zbind_elim h
              have hk37 := (zsheet_ok e38).2.2
              refine r_aldS hX dX5_sheet_82 e38 ?_
              refine r_getI hX dX5_sheet_83 f_RX5_254 (zSh_2 hk37) ?_
              obtain ⟨rfl, rfl⟩ := zinj2 (Option.some.inj h)
              exact r_iret hX hR dX5_sheet_86
          · have h := (if_neg c27).symm.trans h
            refine r_aload_n hX dX5_sheet_52 0 rfl rfl ?_
            refine r_iconst (v := 0) hX dX5_sheet_53 (by decide) ?_
            obtain ⟨x39, u40, e41, h⟩ := zbind2_elim h
            refine r_callV (As := [.int 0]) (rest := []) (st1 := [.int x39]) hX dX5_sheet_54 lv_RX5_65 (c_X5_finding 0  u _ _ e41) (by decide) rfl rfl (zRecv.of (q := 0) (ci := 5) rfl rfl) rfl (Nat.le_of_ble_eq_true rfl) rfl ?_
            obtain ⟨rfl, rfl⟩ := zinj2 (Option.some.inj h)
            exact r_iret hX hR dX5_sheet_57
        · have h := (if_neg c26).symm.trans h
          refine r_aload_n hX dX5_sheet_39 0 rfl rfl ?_
          refine r_bipush (v := 6) hX dX5_sheet_40 (by decide) ?_
          obtain ⟨x42, u43, e44, h⟩ := zbind2_elim h
          refine r_callV (As := [.int 6]) (rest := []) (st1 := [.int x42]) hX dX5_sheet_42 lv_RX5_65 (c_X5_finding 6  u _ _ e44) (by decide) rfl rfl (zRecv.of (q := 0) (ci := 5) rfl rfl) rfl (Nat.le_of_ble_eq_true rfl) rfl ?_
          obtain ⟨rfl, rfl⟩ := zinj2 (Option.some.inj h)
          exact r_iret hX hR dX5_sheet_45
      · have h := (if_neg c25).symm.trans h
        refine r_iload_n hX dX5_sheet_17 2 rfl rfl ?_
        refine r_bipush (v := 16) hX dX5_sheet_18 (by decide) ?_
        refine r_icmp_eq (tgt := 35) hX dX5_sheet_20 (by decide) (fun c45 => ?_) (fun c45 => ?_)
        · have h := (if_pos c45).symm.trans h
          refine r_iload_n hX dX5_sheet_35 3 rfl rfl ?_
          refine r_if_ge (tgt := 46) hX dX5_sheet_36 (by decide) (fun c46 => ?_) (fun c46 => ?_)
          · have h := (if_pos c46).symm.trans h
            refine r_iload_n hX dX5_sheet_46 3 rfl rfl ?_
            refine r_bipush (v := 40) hX dX5_sheet_47 (by decide) ?_
            refine r_icmp_le (tgt := 58) hX dX5_sheet_49 (by decide) (fun c47 => ?_) (fun c47 => ?_)
            · have h := (if_pos c47).symm.trans h
              refine r_aload_n hX dX5_sheet_58 0 rfl rfl ?_
              refine r_getR hX dX5_sheet_59 f_RX5_42 zr_0_5 ?_
              refine r_iload_n hX dX5_sheet_62 1 rfl rfl ?_
              obtain ⟨k48, e49, h⟩ := zbind_elim h
              have hk48 := (zsheet_ok e49).2.2
              refine r_aldS hX dX5_sheet_63 e49 ?_
              refine r_iload_n hX dX5_sheet_64 2 rfl rfl ?_
              refine r_iload_n hX dX5_sheet_65 2 rfl rfl ?_
              refine r_if_ne (tgt := 73) hX dX5_sheet_66 (by decide) (fun c50 => ?_) (fun c50 => ?_)
              · have h := (if_neg c50).symm.trans h
                refine r_iload_n hX dX5_sheet_73 3 rfl rfl ?_
                obtain ⟨u51, e52, h⟩ := zbind_elim h
                refine r_callV (As := [.int a2, .int a3]) (rest := []) (st1 := []) hX dX5_sheet_74 lv_RX5_250 (c_X1_lay k48 a2 a3 hk48  u _ e52) (by decide) rfl rfl (zRecv.of (ci := 1) (zSh_c hk48) rfl) rfl (Nat.le_of_ble_eq_true rfl) rfl ?_
                refine r_aload_n hX dX5_sheet_77 0 rfl rfl ?_
                refine r_getR hX dX5_sheet_78 f_RX5_42 zr_0_5 ?_
                refine r_iload_n hX dX5_sheet_81 1 rfl rfl ?_
                obtain ⟨k53, e54, h⟩ := zbind_elim h
                have hk53 := (zsheet_ok e54).2.2
                refine r_aldS hX dX5_sheet_82 e54 ?_
                refine r_getI hX dX5_sheet_83 f_RX5_254 (zSh_2 hk53) ?_
                obtain ⟨rfl, rfl⟩ := zinj2 (Option.some.inj h)
                exact r_iret hX hR dX5_sheet_86
              · have h := (if_pos c50).symm.trans h
                refine r_iconst (v := 0) hX dX5_sheet_69 (by decide) ?_
                refine r_goto (tgt := 74) hX dX5_sheet_70 (by decide) ?_
                obtain ⟨u55, e56, h⟩ := zbind_elim h
                refine r_callV (As := [.int a2, .int 0]) (rest := []) (st1 := []) hX dX5_sheet_74 lv_RX5_250 (c_X1_lay k48 a2 0 hk48  u _ e56) (by decide) rfl rfl (zRecv.of (ci := 1) (zSh_c hk48) rfl) rfl (Nat.le_of_ble_eq_true rfl) rfl ?_
                refine r_aload_n hX dX5_sheet_77 0 rfl rfl ?_
                refine r_getR hX dX5_sheet_78 f_RX5_42 zr_0_5 ?_
                refine r_iload_n hX dX5_sheet_81 1 rfl rfl ?_
                obtain ⟨k57, e58, h⟩ := zbind_elim h
                have hk57 := (zsheet_ok e58).2.2
                refine r_aldS hX dX5_sheet_82 e58 ?_
                refine r_getI hX dX5_sheet_83 f_RX5_254 (zSh_2 hk57) ?_
                obtain ⟨rfl, rfl⟩ := zinj2 (Option.some.inj h)
                exact r_iret hX hR dX5_sheet_86
            · have h := (if_neg c47).symm.trans h
              refine r_aload_n hX dX5_sheet_52 0 rfl rfl ?_
              refine r_iconst (v := 0) hX dX5_sheet_53 (by decide) ?_
              obtain ⟨x59, u60, e61, h⟩ := zbind2_elim h
              refine r_callV (As := [.int 0]) (rest := []) (st1 := [.int x59]) hX dX5_sheet_54 lv_RX5_65 (c_X5_finding 0  u _ _ e61) (by decide) rfl rfl (zRecv.of (q := 0) (ci := 5) rfl rfl) rfl (Nat.le_of_ble_eq_true rfl) rfl ?_
              obtain ⟨rfl, rfl⟩ := zinj2 (Option.some.inj h)
              exact r_iret hX hR dX5_sheet_57
          · have h := (if_neg c46).symm.trans h
            refine r_aload_n hX dX5_sheet_39 0 rfl rfl ?_
            refine r_bipush (v := 6) hX dX5_sheet_40 (by decide) ?_
            obtain ⟨x62, u63, e64, h⟩ := zbind2_elim h
            refine r_callV (As := [.int 6]) (rest := []) (st1 := [.int x62]) hX dX5_sheet_42 lv_RX5_65 (c_X5_finding 6  u _ _ e64) (by decide) rfl rfl (zRecv.of (q := 0) (ci := 5) rfl rfl) rfl (Nat.le_of_ble_eq_true rfl) rfl ?_
            obtain ⟨rfl, rfl⟩ := zinj2 (Option.some.inj h)
            exact r_iret hX hR dX5_sheet_45
        · have h := (if_neg c45).symm.trans h
          refine r_iload_n hX dX5_sheet_23 2 rfl rfl ?_
          refine r_bipush (v := 32) hX dX5_sheet_24 (by decide) ?_
          refine r_icmp_eq (tgt := 35) hX dX5_sheet_26 (by decide) (fun c65 => ?_) (fun c65 => ?_)
          · have h := (if_pos c65).symm.trans h
            refine r_iload_n hX dX5_sheet_35 3 rfl rfl ?_
            refine r_if_ge (tgt := 46) hX dX5_sheet_36 (by decide) (fun c66 => ?_) (fun c66 => ?_)
            · have h := (if_pos c66).symm.trans h
              refine r_iload_n hX dX5_sheet_46 3 rfl rfl ?_
              refine r_bipush (v := 40) hX dX5_sheet_47 (by decide) ?_
              refine r_icmp_le (tgt := 58) hX dX5_sheet_49 (by decide) (fun c67 => ?_) (fun c67 => ?_)
              · have h := (if_pos c67).symm.trans h
                refine r_aload_n hX dX5_sheet_58 0 rfl rfl ?_
                refine r_getR hX dX5_sheet_59 f_RX5_42 zr_0_5 ?_
                refine r_iload_n hX dX5_sheet_62 1 rfl rfl ?_
                obtain ⟨k68, e69, h⟩ := zbind_elim h
                have hk68 := (zsheet_ok e69).2.2
                refine r_aldS hX dX5_sheet_63 e69 ?_
                refine r_iload_n hX dX5_sheet_64 2 rfl rfl ?_
                refine r_iload_n hX dX5_sheet_65 2 rfl rfl ?_
                refine r_if_ne (tgt := 73) hX dX5_sheet_66 (by decide) (fun c70 => ?_) (fun c70 => ?_)
                · have h := (if_neg c70).symm.trans h
                  refine r_iload_n hX dX5_sheet_73 3 rfl rfl ?_
                  obtain ⟨u71, e72, h⟩ := zbind_elim h
                  refine r_callV (As := [.int a2, .int a3]) (rest := []) (st1 := []) hX dX5_sheet_74 lv_RX5_250 (c_X1_lay k68 a2 a3 hk68  u _ e72) (by decide) rfl rfl (zRecv.of (ci := 1) (zSh_c hk68) rfl) rfl (Nat.le_of_ble_eq_true rfl) rfl ?_
                  refine r_aload_n hX dX5_sheet_77 0 rfl rfl ?_
                  refine r_getR hX dX5_sheet_78 f_RX5_42 zr_0_5 ?_
                  refine r_iload_n hX dX5_sheet_81 1 rfl rfl ?_
                  obtain ⟨k73, e74, h⟩ := zbind_elim h
                  have hk73 := (zsheet_ok e74).2.2
                  refine r_aldS hX dX5_sheet_82 e74 ?_
                  refine r_getI hX dX5_sheet_83 f_RX5_254 (zSh_2 hk73) ?_
                  obtain ⟨rfl, rfl⟩ := zinj2 (Option.some.inj h)
                  exact r_iret hX hR dX5_sheet_86
                · have h := (if_pos c70).symm.trans h
                  refine r_iconst (v := 0) hX dX5_sheet_69 (by decide) ?_
                  refine r_goto (tgt := 74) hX dX5_sheet_70 (by decide) ?_
                  obtain ⟨u75, e76, h⟩ := zbind_elim h
                  refine r_callV (As := [.int a2, .int 0]) (rest := []) (st1 := []) hX dX5_sheet_74 lv_RX5_250 (c_X1_lay k68 a2 0 hk68  u _ e76) (by decide) rfl rfl (zRecv.of (ci := 1) (zSh_c hk68) rfl) rfl (Nat.le_of_ble_eq_true rfl) rfl ?_
                  refine r_aload_n hX dX5_sheet_77 0 rfl rfl ?_
                  refine r_getR hX dX5_sheet_78 f_RX5_42 zr_0_5 ?_
                  refine r_iload_n hX dX5_sheet_81 1 rfl rfl ?_
                  obtain ⟨k77, e78, h⟩ := zbind_elim h
                  have hk77 := (zsheet_ok e78).2.2
                  refine r_aldS hX dX5_sheet_82 e78 ?_
                  refine r_getI hX dX5_sheet_83 f_RX5_254 (zSh_2 hk77) ?_
                  obtain ⟨rfl, rfl⟩ := zinj2 (Option.some.inj h)
                  exact r_iret hX hR dX5_sheet_86
              · have h := (if_neg c67).symm.trans h
                refine r_aload_n hX dX5_sheet_52 0 rfl rfl ?_
                refine r_iconst (v := 0) hX dX5_sheet_53 (by decide) ?_
                obtain ⟨x79, u80, e81, h⟩ := zbind2_elim h
                refine r_callV (As := [.int 0]) (rest := []) (st1 := [.int x79]) hX dX5_sheet_54 lv_RX5_65 (c_X5_finding 0  u _ _ e81) (by decide) rfl rfl (zRecv.of (q := 0) (ci := 5) rfl rfl) rfl (Nat.le_of_ble_eq_true rfl) rfl ?_
                obtain ⟨rfl, rfl⟩ := zinj2 (Option.some.inj h)
                exact r_iret hX hR dX5_sheet_57
            · have h := (if_neg c66).symm.trans h
              refine r_aload_n hX dX5_sheet_39 0 rfl rfl ?_
              refine r_bipush (v := 6) hX dX5_sheet_40 (by decide) ?_
              obtain ⟨x82, u83, e84, h⟩ := zbind2_elim h
              refine r_callV (As := [.int 6]) (rest := []) (st1 := [.int x82]) hX dX5_sheet_42 lv_RX5_65 (c_X5_finding 6  u _ _ e84) (by decide) rfl rfl (zRecv.of (q := 0) (ci := 5) rfl rfl) rfl (Nat.le_of_ble_eq_true rfl) rfl ?_
              obtain ⟨rfl, rfl⟩ := zinj2 (Option.some.inj h)
              exact r_iret hX hR dX5_sheet_45
          · have h := (if_neg c65).symm.trans h
            refine r_aload_n hX dX5_sheet_29 0 rfl rfl ?_
            refine r_iconst (v := 0) hX dX5_sheet_30 (by decide) ?_
            obtain ⟨x85, u86, e87, h⟩ := zbind2_elim h
            refine r_callV (As := [.int 0]) (rest := []) (st1 := [.int x85]) hX dX5_sheet_31 lv_RX5_65 (c_X5_finding 0  u _ _ e87) (by decide) rfl rfl (zRecv.of (q := 0) (ci := 5) rfl rfl) rfl (Nat.le_of_ble_eq_true rfl) rfl ?_
            obtain ⟨rfl, rfl⟩ := zinj2 (Option.some.inj h)
            exact r_iret hX hR dX5_sheet_34
theorem dX1_isMissing_0 : decode cX1_isMissing 0 = .ok (.aload_n 0, 1) := by decide +kernel
theorem dX1_isMissing_1 : decode cX1_isMissing 1 = .ok (.getfield 15, 3) := by decide +kernel
theorem dX1_isMissing_4 : decode cX1_isMissing 4 = .ok (.ifCond .ne 7, 3) := by decide +kernel
theorem dX1_isMissing_7 : decode cX1_isMissing 7 = .ok (.iconst 1, 1) := by decide +kernel
theorem dX1_isMissing_8 : decode cX1_isMissing 8 = .ok (.goto 4, 3) := by decide +kernel
theorem dX1_isMissing_11 : decode cX1_isMissing 11 = .ok (.iconst 0, 1) := by decide +kernel
theorem dX1_isMissing_12 : decode cX1_isMissing 12 = .ok (.ireturn, 1) := by decide +kernel
def m_X1_isMissing (k0 : Nat) (u : zM) : Int32 :=
  (if (u k0 1) = 0 then
1
else
0)
set_option maxHeartbeats 4000000 in
set_option maxRecDepth 100000 in
theorem c_X1_isMissing (k0 : Nat) (hk0 : zSh k0)  (u : zM) (r : Int32) (h : m_X1_isMissing k0 u = r) : zCt 1 yX1_isMissing cX1_isMissing 1 (some .boolean) (fun E => [.ref (zad E k0)]) u (fun _ => some (.int r)) u := by
  refine zCt.of (by decide +kernel) (fun E => Nat.le_of_ble_eq_true rfl) (fun X hX hR => ?_)
  have hX : zGood X RX1 cX1_isMissing 1 1 := hX
  show zG X u 0 [(0, .ref (zad X.1 k0))] []
  unfold m_X1_isMissing at h
  refine r_aload_n hX dX1_isMissing_0 0 rfl rfl ?_
  refine r_getI hX dX1_isMissing_1 f_RX1_15 (zSh_1 hk0) ?_
  refine r_if_ne (tgt := 11) hX dX1_isMissing_4 (by decide) (fun c1 => ?_) (fun c1 => ?_)
  · have h := (if_neg c1).symm.trans h
    refine r_iconst (v := 0) hX dX1_isMissing_11 (by decide) ?_
    obtain rfl := h
    exact r_zret0 hX hR dX1_isMissing_12
  · have h := (if_pos c1).symm.trans h
    refine r_iconst (v := 1) hX dX1_isMissing_7 (by decide) ?_
    refine r_goto (tgt := 12) hX dX1_isMissing_8 (by decide) ?_
    obtain rfl := h
    exact r_zret1 hX hR dX1_isMissing_12
theorem dX1_put_0 : decode cX1_put 0 = .ok (.bipush 32, 2) := by decide +kernel
theorem dX1_put_2 : decode cX1_put 2 = .ok (.aload_n 0, 1) := by decide +kernel
theorem dX1_put_3 : decode cX1_put 3 = .ok (.getfield 15, 3) := by decide +kernel
theorem dX1_put_6 : decode cX1_put 6 = .ok (.isub, 1) := by decide +kernel
theorem dX1_put_7 : decode cX1_put 7 = .ok (.istore_n 3, 1) := by decide +kernel
theorem dX1_put_8 : decode cX1_put 8 = .ok (.aload_n 0, 1) := by decide +kernel
theorem dX1_put_9 : decode cX1_put 9 = .ok (.getfield 9, 3) := by decide +kernel
theorem dX1_put_12 : decode cX1_put 12 = .ok (.iload_n 1, 1) := by decide +kernel
theorem dX1_put_13 : decode cX1_put 13 = .ok (.iload_n 2, 1) := by decide +kernel
theorem dX1_put_14 : decode cX1_put 14 = .ok (.iload_n 3, 1) := by decide +kernel
theorem dX1_put_15 : decode cX1_put 15 = .ok (.ishl, 1) := by decide +kernel
theorem dX1_put_16 : decode cX1_put 16 = .ok (.iload_n 3, 1) := by decide +kernel
theorem dX1_put_17 : decode cX1_put 17 = .ok (.ishr, 1) := by decide +kernel
theorem dX1_put_18 : decode cX1_put 18 = .ok (.iastore, 1) := by decide +kernel
theorem dX1_put_19 : decode cX1_put 19 = .ok (.return_, 1) := by decide +kernel
def m_X1_put (k0 : Nat) (a1 : Int32) (a2 : Int32) (u : zM) : Option (zM) :=
  zbind (zsv u (k0 + 1) 40 a1 (zshr (zshl a2 (32 - (u k0 1))) (32 - (u k0 1)))) (fun u1 => some u1)
set_option maxHeartbeats 4000000 in
set_option maxRecDepth 100000 in
theorem c_X1_put (k0 : Nat) (a1 : Int32) (a2 : Int32) (hk0 : zSh k0)  (u : zM) (u' : zM) (h : m_X1_put k0 a1 a2 u = some (u')) : zCt 1 yX1_put cX1_put 4 none (fun E => [.ref (zad E k0), .int a1, .int a2]) u (fun _ => none) u' := by
  refine zCt.of (by decide +kernel) (fun E => Nat.le_of_ble_eq_true rfl) (fun X hX hR => ?_)
  have hX : zGood X RX1 cX1_put 4 1 := hX
  show zG X u 0 [(0, .ref (zad X.1 k0)), (1, .int a1), (2, .int a2)] []
  unfold m_X1_put at h
  refine r_bipush (v := 32) hX dX1_put_0 (by decide) ?_
  refine r_aload_n hX dX1_put_2 0 rfl rfl ?_
  refine r_getI hX dX1_put_3 f_RX1_15 (zSh_1 hk0) ?_
  refine r_isub hX dX1_put_6 ?_
  refine r_istore_n (y := (32 - (u k0 1))) (L' := [(3, .int (32 - (u k0 1))), (0, .ref (zad X.1 k0)), (1, .int a1), (2, .int a2)]) hX dX1_put_7 rfl (by decide) rfl rfl ?_
  refine r_aload_n hX dX1_put_8 1 rfl rfl ?_
  refine r_getR hX dX1_put_9 f_RX1_9 (zSh_0 hk0) ?_
  refine r_iload_n hX dX1_put_12 2 rfl rfl ?_
  refine r_iload_n hX dX1_put_13 3 rfl rfl ?_
  refine r_iload_n hX dX1_put_14 0 rfl rfl ?_
  refine r_ishl hX dX1_put_15 ?_
  refine r_iload_n hX dX1_put_16 0 rfl rfl ?_
  refine r_ishr hX dX1_put_17 ?_
  obtain ⟨u1, e2, h⟩ := zbind_elim h
  refine r_iast hX dX1_put_18 (zSh_n hk0) e2 ?_
  obtain rfl := Option.some.inj h
  exact r_vret hX hR dX1_put_19
theorem dX5_write_0 : decode cX5_write 0 = .ok (.iload_n 1, 1) := by decide +kernel
theorem dX5_write_1 : decode cX5_write 1 = .ok (.invokestatic 247, 3) := by decide +kernel
theorem dX5_write_4 : decode cX5_write 4 = .ok (.ifCond .ne 9, 3) := by decide +kernel
theorem dX5_write_7 : decode cX5_write 7 = .ok (.aload_n 0, 1) := by decide +kernel
theorem dX5_write_8 : decode cX5_write 8 = .ok (.iconst 0, 1) := by decide +kernel
theorem dX5_write_9 : decode cX5_write 9 = .ok (.invokevirtual 65, 3) := by decide +kernel
theorem dX5_write_12 : decode cX5_write 12 = .ok (.ireturn, 1) := by decide +kernel
theorem dX5_write_13 : decode cX5_write 13 = .ok (.aload_n 0, 1) := by decide +kernel
theorem dX5_write_14 : decode cX5_write 14 = .ok (.getfield 42, 3) := by decide +kernel
theorem dX5_write_17 : decode cX5_write 17 = .ok (.iload_n 1, 1) := by decide +kernel
theorem dX5_write_18 : decode cX5_write 18 = .ok (.aaload, 1) := by decide +kernel
theorem dX5_write_19 : decode cX5_write 19 = .ok (.invokevirtual 255, 3) := by decide +kernel
theorem dX5_write_22 : decode cX5_write 22 = .ok (.ifCond .eq 9, 3) := by decide +kernel
theorem dX5_write_25 : decode cX5_write 25 = .ok (.aload_n 0, 1) := by decide +kernel
theorem dX5_write_26 : decode cX5_write 26 = .ok (.iconst 5, 1) := by decide +kernel
theorem dX5_write_27 : decode cX5_write 27 = .ok (.invokevirtual 65, 3) := by decide +kernel
theorem dX5_write_30 : decode cX5_write 30 = .ok (.ireturn, 1) := by decide +kernel
theorem dX5_write_31 : decode cX5_write 31 = .ok (.iload_n 2, 1) := by decide +kernel
theorem dX5_write_32 : decode cX5_write 32 = .ok (.iconst 0, 1) := by decide +kernel
theorem dX5_write_33 : decode cX5_write 33 = .ok (.aload_n 0, 1) := by decide +kernel
theorem dX5_write_34 : decode cX5_write 34 = .ok (.getfield 42, 3) := by decide +kernel
theorem dX5_write_37 : decode cX5_write 37 = .ok (.iload_n 1, 1) := by decide +kernel
theorem dX5_write_38 : decode cX5_write 38 = .ok (.aaload, 1) := by decide +kernel
theorem dX5_write_39 : decode cX5_write 39 = .ok (.getfield 254, 3) := by decide +kernel
theorem dX5_write_42 : decode cX5_write 42 = .ok (.iconst 1, 1) := by decide +kernel
theorem dX5_write_43 : decode cX5_write 43 = .ok (.isub, 1) := by decide +kernel
theorem dX5_write_44 : decode cX5_write 44 = .ok (.invokestatic 80, 3) := by decide +kernel
theorem dX5_write_47 : decode cX5_write 47 = .ok (.ifCond .ne 9, 3) := by decide +kernel
theorem dX5_write_50 : decode cX5_write 50 = .ok (.aload_n 0, 1) := by decide +kernel
theorem dX5_write_51 : decode cX5_write 51 = .ok (.iconst 0, 1) := by decide +kernel
theorem dX5_write_52 : decode cX5_write 52 = .ok (.invokevirtual 65, 3) := by decide +kernel
theorem dX5_write_55 : decode cX5_write 55 = .ok (.ireturn, 1) := by decide +kernel
theorem dX5_write_56 : decode cX5_write 56 = .ok (.aload_n 0, 1) := by decide +kernel
theorem dX5_write_57 : decode cX5_write 57 = .ok (.getfield 42, 3) := by decide +kernel
theorem dX5_write_60 : decode cX5_write 60 = .ok (.iload_n 1, 1) := by decide +kernel
theorem dX5_write_61 : decode cX5_write 61 = .ok (.aaload, 1) := by decide +kernel
theorem dX5_write_62 : decode cX5_write 62 = .ok (.iload_n 2, 1) := by decide +kernel
theorem dX5_write_63 : decode cX5_write 63 = .ok (.iload_n 3, 1) := by decide +kernel
theorem dX5_write_64 : decode cX5_write 64 = .ok (.invokevirtual 258, 3) := by decide +kernel
theorem dX5_write_67 : decode cX5_write 67 = .ok (.iconst 1, 1) := by decide +kernel
theorem dX5_write_68 : decode cX5_write 68 = .ok (.ireturn, 1) := by decide +kernel
def m_X5_write (a1 : Int32) (a2 : Int32) (a3 : Int32) (u : zM) : Option (Int32 × zM) :=
  (if (m_X5_isSheet a1) = 0 then
zbind2 (m_X5_finding 0 u) (fun x18 u19 => some (x18, u19))
else
zbind (zsheet a1) (fun k2 => (if (m_X1_isMissing k2 u) = 0 then
zbind (zsheet a1) (fun k5 => (if (m_X5_within a2 0 ((u k5 2) - 1)) = 0 then
zbind2 (m_X5_finding 0 u) (fun x12 u13 => some (x12, u13))
else
zbind (zsheet a1) (fun k8 => zbind (m_X1_put k8 a2 a3 u) (fun u10 => some (1, u10)))))
else
zbind2 (m_X5_finding 5 u) (fun x15 u16 => some (x15, u16)))))
set_option maxHeartbeats 4000000 in
set_option maxRecDepth 100000 in
theorem c_X5_write (a1 : Int32) (a2 : Int32) (a3 : Int32)   (u : zM) (r : Int32) (u' : zM) (h : m_X5_write a1 a2 a3 u = some (r, u')) : zCt 3 yX5_write cX5_write 4 (some .int) (fun E => [.ref (zad E 0), .int a1, .int a2, .int a3]) u (fun _ => some (.int r)) u' := by
  refine zCt.of (by decide +kernel) (fun E => Nat.le_of_ble_eq_true rfl) (fun X hX hR => ?_)
  have hX : zGood X RX5 cX5_write 4 3 := hX
  show zG X u 0 [(0, .ref (zad X.1 0)), (1, .int a1), (2, .int a2), (3, .int a3)] []
  unfold m_X5_write at h
  refine r_iload_n hX dX5_write_0 1 rfl rfl ?_
  refine r_callS (As := [.int a1]) (rest := []) (st1 := [.int (m_X5_isSheet a1)]) hX dX5_write_1 ls_RX5_247 (c_X5_isSheet a1  u _ rfl) (by decide) rfl rfl rfl (Nat.le_of_ble_eq_true rfl) rfl ?_
  refine r_if_ne (tgt := 13) hX dX5_write_4 (by decide) (fun c1 => ?_) (fun c1 => ?_)
  · have h := (if_neg c1).symm.trans h
    refine r_aload_n hX dX5_write_13 0 rfl rfl ?_
    refine r_getR hX dX5_write_14 f_RX5_42 zr_0_5 ?_
    refine r_iload_n hX dX5_write_17 1 rfl rfl ?_
    obtain ⟨k2, e3, h⟩ := zbind_elim h
    have hk2 := (zsheet_ok e3).2.2
    refine r_aldS hX dX5_write_18 e3 ?_
    refine r_callV (As := []) (rest := []) (st1 := [.int (m_X1_isMissing k2 u)]) hX dX5_write_19 lv_RX5_255 (c_X1_isMissing k2 hk2  u _ rfl) (by decide) rfl rfl (zRecv.of (ci := 1) (zSh_c hk2) rfl) rfl (Nat.le_of_ble_eq_true rfl) rfl ?_
    refine r_if_eq (tgt := 31) hX dX5_write_22 (by decide) (fun c4 => ?_) (fun c4 => ?_)
    · have h := (if_pos c4).symm.trans h
      refine r_iload_n hX dX5_write_31 2 rfl rfl ?_
      refine r_iconst (v := 0) hX dX5_write_32 (by decide) ?_
      refine r_aload_n hX dX5_write_33 0 rfl rfl ?_
      refine r_getR hX dX5_write_34 f_RX5_42 zr_0_5 ?_
      refine r_iload_n hX dX5_write_37 1 rfl rfl ?_
      obtain ⟨k5, e6, h⟩ := zbind_elim h
      have hk5 := (zsheet_ok e6).2.2
      refine r_aldS hX dX5_write_38 e6 ?_
      refine r_getI hX dX5_write_39 f_RX5_254 (zSh_2 hk5) ?_
      refine r_iconst (v := 1) hX dX5_write_42 (by decide) ?_
      refine r_isub hX dX5_write_43 ?_
      refine r_callS (As := [.int a2, .int 0, .int ((u k5 2) - 1)]) (rest := []) (st1 := [.int (m_X5_within a2 0 ((u k5 2) - 1))]) hX dX5_write_44 ls_RX5_80 (c_X5_within a2 0 ((u k5 2) - 1)  u _ rfl) (by decide) rfl rfl rfl (Nat.le_of_ble_eq_true rfl) rfl ?_
      refine r_if_ne (tgt := 56) hX dX5_write_47 (by decide) (fun c7 => ?_) (fun c7 => ?_)
      · have h := (if_neg c7).symm.trans h
        refine r_aload_n hX dX5_write_56 0 rfl rfl ?_
        refine r_getR hX dX5_write_57 f_RX5_42 zr_0_5 ?_
        refine r_iload_n hX dX5_write_60 1 rfl rfl ?_
        obtain ⟨k8, e9, h⟩ := zbind_elim h
        have hk8 := (zsheet_ok e9).2.2
        refine r_aldS hX dX5_write_61 e9 ?_
        refine r_iload_n hX dX5_write_62 2 rfl rfl ?_
        refine r_iload_n hX dX5_write_63 3 rfl rfl ?_
        obtain ⟨u10, e11, h⟩ := zbind_elim h
        refine r_callV (As := [.int a2, .int a3]) (rest := []) (st1 := []) hX dX5_write_64 lv_RX5_258 (c_X1_put k8 a2 a3 hk8  u _ e11) (by decide) rfl rfl (zRecv.of (ci := 1) (zSh_c hk8) rfl) rfl (Nat.le_of_ble_eq_true rfl) rfl ?_
        refine r_iconst (v := 1) hX dX5_write_67 (by decide) ?_
        obtain ⟨rfl, rfl⟩ := zinj2 (Option.some.inj h)
        exact r_iret hX hR dX5_write_68
      · have h := (if_pos c7).symm.trans h
        refine r_aload_n hX dX5_write_50 0 rfl rfl ?_
        refine r_iconst (v := 0) hX dX5_write_51 (by decide) ?_
        obtain ⟨x12, u13, e14, h⟩ := zbind2_elim h
        refine r_callV (As := [.int 0]) (rest := []) (st1 := [.int x12]) hX dX5_write_52 lv_RX5_65 (c_X5_finding 0  u _ _ e14) (by decide) rfl rfl (zRecv.of (q := 0) (ci := 5) rfl rfl) rfl (Nat.le_of_ble_eq_true rfl) rfl ?_
        obtain ⟨rfl, rfl⟩ := zinj2 (Option.some.inj h)
        exact r_iret hX hR dX5_write_55
    · have h := (if_neg c4).symm.trans h
      refine r_aload_n hX dX5_write_25 0 rfl rfl ?_
      refine r_iconst (v := 5) hX dX5_write_26 (by decide) ?_
      obtain ⟨x15, u16, e17, h⟩ := zbind2_elim h
      refine r_callV (As := [.int 5]) (rest := []) (st1 := [.int x15]) hX dX5_write_27 lv_RX5_65 (c_X5_finding 5  u _ _ e17) (by decide) rfl rfl (zRecv.of (q := 0) (ci := 5) rfl rfl) rfl (Nat.le_of_ble_eq_true rfl) rfl ?_
      obtain ⟨rfl, rfl⟩ := zinj2 (Option.some.inj h)
      exact r_iret hX hR dX5_write_30
  · have h := (if_pos c1).symm.trans h
    refine r_aload_n hX dX5_write_7 0 rfl rfl ?_
    refine r_iconst (v := 0) hX dX5_write_8 (by decide) ?_
    obtain ⟨x18, u19, e20, h⟩ := zbind2_elim h
    refine r_callV (As := [.int 0]) (rest := []) (st1 := [.int x18]) hX dX5_write_9 lv_RX5_65 (c_X5_finding 0  u _ _ e20) (by decide) rfl rfl (zRecv.of (q := 0) (ci := 5) rfl rfl) rfl (Nat.le_of_ble_eq_true rfl) rfl ?_
    obtain ⟨rfl, rfl⟩ := zinj2 (Option.some.inj h)
    exact r_iret hX hR dX5_write_12
theorem dX1_has_0 : decode cX1_has 0 = .ok (.iload_n 1, 1) := by decide +kernel
theorem dX1_has_1 : decode cX1_has 1 = .ok (.ifCond .lt 21, 3) := by decide +kernel
theorem dX1_has_4 : decode cX1_has 4 = .ok (.iload_n 2, 1) := by decide +kernel
theorem dX1_has_5 : decode cX1_has 5 = .ok (.ifCond .lt 17, 3) := by decide +kernel
theorem dX1_has_8 : decode cX1_has 8 = .ok (.iload_n 2, 1) := by decide +kernel
theorem dX1_has_9 : decode cX1_has 9 = .ok (.aload_n 0, 1) := by decide +kernel
theorem dX1_has_10 : decode cX1_has 10 = .ok (.getfield 19, 3) := by decide +kernel
theorem dX1_has_13 : decode cX1_has 13 = .ok (.iload_n 1, 1) := by decide +kernel
theorem dX1_has_14 : decode cX1_has 14 = .ok (.isub, 1) := by decide +kernel
theorem dX1_has_15 : decode cX1_has 15 = .ok (.if_icmp .gt 7, 3) := by decide +kernel
theorem dX1_has_18 : decode cX1_has 18 = .ok (.iconst 1, 1) := by decide +kernel
theorem dX1_has_19 : decode cX1_has 19 = .ok (.goto 4, 3) := by decide +kernel
theorem dX1_has_22 : decode cX1_has 22 = .ok (.iconst 0, 1) := by decide +kernel
theorem dX1_has_23 : decode cX1_has 23 = .ok (.ireturn, 1) := by decide +kernel
def m_X1_has (k0 : Nat) (a1 : Int32) (a2 : Int32) (u : zM) : Int32 :=
  (if a1 < 0 then
0
else
(if a2 < 0 then
0
else
(if ((u k0 2) - a1) < a2 then
0
else
1)))
set_option maxHeartbeats 4000000 in
set_option maxRecDepth 100000 in
theorem c_X1_has (k0 : Nat) (a1 : Int32) (a2 : Int32) (hk0 : zSh k0)  (u : zM) (r : Int32) (h : m_X1_has k0 a1 a2 u = r) : zCt 1 yX1_has cX1_has 3 (some .boolean) (fun E => [.ref (zad E k0), .int a1, .int a2]) u (fun _ => some (.int r)) u := by
  refine zCt.of (by decide +kernel) (fun E => Nat.le_of_ble_eq_true rfl) (fun X hX hR => ?_)
  have hX : zGood X RX1 cX1_has 3 1 := hX
  show zG X u 0 [(0, .ref (zad X.1 k0)), (1, .int a1), (2, .int a2)] []
  unfold m_X1_has at h
  refine r_iload_n hX dX1_has_0 1 rfl rfl ?_
  refine r_if_lt (tgt := 22) hX dX1_has_1 (by decide) (fun c1 => ?_) (fun c1 => ?_)
  · have h := (if_pos c1).symm.trans h
    refine r_iconst (v := 0) hX dX1_has_22 (by decide) ?_
    obtain rfl := h
    exact r_zret0 hX hR dX1_has_23
  · have h := (if_neg c1).symm.trans h
    refine r_iload_n hX dX1_has_4 2 rfl rfl ?_
    refine r_if_lt (tgt := 22) hX dX1_has_5 (by decide) (fun c2 => ?_) (fun c2 => ?_)
    · have h := (if_pos c2).symm.trans h
      refine r_iconst (v := 0) hX dX1_has_22 (by decide) ?_
      obtain rfl := h
      exact r_zret0 hX hR dX1_has_23
    · have h := (if_neg c2).symm.trans h
      refine r_iload_n hX dX1_has_8 2 rfl rfl ?_
      refine r_aload_n hX dX1_has_9 0 rfl rfl ?_
      refine r_getI hX dX1_has_10 f_RX1_19 (zSh_2 hk0) ?_
      refine r_iload_n hX dX1_has_13 1 rfl rfl ?_
      refine r_isub hX dX1_has_14 ?_
      refine r_icmp_gt (tgt := 22) hX dX1_has_15 (by decide) (fun c3 => ?_) (fun c3 => ?_)
      · have h := (if_pos c3).symm.trans h
        refine r_iconst (v := 0) hX dX1_has_22 (by decide) ?_
        obtain rfl := h
        exact r_zret0 hX hR dX1_has_23
      · have h := (if_neg c3).symm.trans h
        refine r_iconst (v := 1) hX dX1_has_18 (by decide) ?_
        refine r_goto (tgt := 23) hX dX1_has_19 (by decide) ?_
        obtain rfl := h
        exact r_zret1 hX hR dX1_has_23
theorem dX5_copy_0 : decode cX5_copy 0 = .ok (.iload_n 1, 1) := by decide +kernel
theorem dX5_copy_1 : decode cX5_copy 1 = .ok (.invokestatic 247, 3) := by decide +kernel
theorem dX5_copy_4 : decode cX5_copy 4 = .ok (.ifCond .eq 10, 3) := by decide +kernel
theorem dX5_copy_7 : decode cX5_copy 7 = .ok (.iload_n 3, 1) := by decide +kernel
theorem dX5_copy_8 : decode cX5_copy 8 = .ok (.invokestatic 247, 3) := by decide +kernel
theorem dX5_copy_11 : decode cX5_copy 11 = .ok (.ifCond .ne 9, 3) := by decide +kernel
theorem dX5_copy_14 : decode cX5_copy 14 = .ok (.aload_n 0, 1) := by decide +kernel
theorem dX5_copy_15 : decode cX5_copy 15 = .ok (.iconst 0, 1) := by decide +kernel
theorem dX5_copy_16 : decode cX5_copy 16 = .ok (.invokevirtual 65, 3) := by decide +kernel
theorem dX5_copy_19 : decode cX5_copy 19 = .ok (.ireturn, 1) := by decide +kernel
theorem dX5_copy_20 : decode cX5_copy 20 = .ok (.aload_n 0, 1) := by decide +kernel
theorem dX5_copy_21 : decode cX5_copy 21 = .ok (.getfield 42, 3) := by decide +kernel
theorem dX5_copy_24 : decode cX5_copy 24 = .ok (.iload_n 1, 1) := by decide +kernel
theorem dX5_copy_25 : decode cX5_copy 25 = .ok (.aaload, 1) := by decide +kernel
theorem dX5_copy_26 : decode cX5_copy 26 = .ok (.invokevirtual 255, 3) := by decide +kernel
theorem dX5_copy_29 : decode cX5_copy 29 = .ok (.ifCond .ne 15, 3) := by decide +kernel
theorem dX5_copy_32 : decode cX5_copy 32 = .ok (.aload_n 0, 1) := by decide +kernel
theorem dX5_copy_33 : decode cX5_copy 33 = .ok (.getfield 42, 3) := by decide +kernel
theorem dX5_copy_36 : decode cX5_copy 36 = .ok (.iload_n 3, 1) := by decide +kernel
theorem dX5_copy_37 : decode cX5_copy 37 = .ok (.aaload, 1) := by decide +kernel
theorem dX5_copy_38 : decode cX5_copy 38 = .ok (.invokevirtual 255, 3) := by decide +kernel
theorem dX5_copy_41 : decode cX5_copy 41 = .ok (.ifCond .eq 9, 3) := by decide +kernel
theorem dX5_copy_44 : decode cX5_copy 44 = .ok (.aload_n 0, 1) := by decide +kernel
theorem dX5_copy_45 : decode cX5_copy 45 = .ok (.iconst 5, 1) := by decide +kernel
theorem dX5_copy_46 : decode cX5_copy 46 = .ok (.invokevirtual 65, 3) := by decide +kernel
theorem dX5_copy_49 : decode cX5_copy 49 = .ok (.ireturn, 1) := by decide +kernel
theorem dX5_copy_50 : decode cX5_copy 50 = .ok (.aload_n 0, 1) := by decide +kernel
theorem dX5_copy_51 : decode cX5_copy 51 = .ok (.getfield 42, 3) := by decide +kernel
theorem dX5_copy_54 : decode cX5_copy 54 = .ok (.iload_n 1, 1) := by decide +kernel
theorem dX5_copy_55 : decode cX5_copy 55 = .ok (.aaload, 1) := by decide +kernel
theorem dX5_copy_56 : decode cX5_copy 56 = .ok (.getfield 260, 3) := by decide +kernel
theorem dX5_copy_59 : decode cX5_copy 59 = .ok (.aload_n 0, 1) := by decide +kernel
theorem dX5_copy_60 : decode cX5_copy 60 = .ok (.getfield 42, 3) := by decide +kernel
theorem dX5_copy_63 : decode cX5_copy 63 = .ok (.iload_n 3, 1) := by decide +kernel
theorem dX5_copy_64 : decode cX5_copy 64 = .ok (.aaload, 1) := by decide +kernel
theorem dX5_copy_65 : decode cX5_copy 65 = .ok (.getfield 260, 3) := by decide +kernel
theorem dX5_copy_68 : decode cX5_copy 68 = .ok (.if_icmp .eq 9, 3) := by decide +kernel
theorem dX5_copy_71 : decode cX5_copy 71 = .ok (.aload_n 0, 1) := by decide +kernel
theorem dX5_copy_72 : decode cX5_copy 72 = .ok (.iconst 2, 1) := by decide +kernel
theorem dX5_copy_73 : decode cX5_copy 73 = .ok (.invokevirtual 65, 3) := by decide +kernel
theorem dX5_copy_76 : decode cX5_copy 76 = .ok (.ireturn, 1) := by decide +kernel
theorem dX5_copy_77 : decode cX5_copy 77 = .ok (.aload_n 0, 1) := by decide +kernel
theorem dX5_copy_78 : decode cX5_copy 78 = .ok (.getfield 42, 3) := by decide +kernel
theorem dX5_copy_81 : decode cX5_copy 81 = .ok (.iload_n 1, 1) := by decide +kernel
theorem dX5_copy_82 : decode cX5_copy 82 = .ok (.aaload, 1) := by decide +kernel
theorem dX5_copy_83 : decode cX5_copy 83 = .ok (.iload_n 2, 1) := by decide +kernel
theorem dX5_copy_84 : decode cX5_copy 84 = .ok (.iload 5, 2) := by decide +kernel
theorem dX5_copy_86 : decode cX5_copy 86 = .ok (.invokevirtual 263, 3) := by decide +kernel
theorem dX5_copy_89 : decode cX5_copy 89 = .ok (.ifCond .eq 19, 3) := by decide +kernel
theorem dX5_copy_92 : decode cX5_copy 92 = .ok (.aload_n 0, 1) := by decide +kernel
theorem dX5_copy_93 : decode cX5_copy 93 = .ok (.getfield 42, 3) := by decide +kernel
theorem dX5_copy_96 : decode cX5_copy 96 = .ok (.iload_n 3, 1) := by decide +kernel
theorem dX5_copy_97 : decode cX5_copy 97 = .ok (.aaload, 1) := by decide +kernel
theorem dX5_copy_98 : decode cX5_copy 98 = .ok (.iload 4, 2) := by decide +kernel
theorem dX5_copy_100 : decode cX5_copy 100 = .ok (.iload 5, 2) := by decide +kernel
theorem dX5_copy_102 : decode cX5_copy 102 = .ok (.invokevirtual 263, 3) := by decide +kernel
theorem dX5_copy_105 : decode cX5_copy 105 = .ok (.ifCond .ne 9, 3) := by decide +kernel
theorem dX5_copy_108 : decode cX5_copy 108 = .ok (.aload_n 0, 1) := by decide +kernel
theorem dX5_copy_109 : decode cX5_copy 109 = .ok (.iconst 0, 1) := by decide +kernel
theorem dX5_copy_110 : decode cX5_copy 110 = .ok (.invokevirtual 65, 3) := by decide +kernel
theorem dX5_copy_113 : decode cX5_copy 113 = .ok (.ireturn, 1) := by decide +kernel
theorem dX5_copy_114 : decode cX5_copy 114 = .ok (.aload_n 0, 1) := by decide +kernel
theorem dX5_copy_115 : decode cX5_copy 115 = .ok (.getfield 42, 3) := by decide +kernel
theorem dX5_copy_118 : decode cX5_copy 118 = .ok (.iload_n 1, 1) := by decide +kernel
theorem dX5_copy_119 : decode cX5_copy 119 = .ok (.aaload, 1) := by decide +kernel
theorem dX5_copy_120 : decode cX5_copy 120 = .ok (.getfield 266, 3) := by decide +kernel
theorem dX5_copy_123 : decode cX5_copy 123 = .ok (.iload_n 2, 1) := by decide +kernel
theorem dX5_copy_124 : decode cX5_copy 124 = .ok (.aload_n 0, 1) := by decide +kernel
theorem dX5_copy_125 : decode cX5_copy 125 = .ok (.getfield 42, 3) := by decide +kernel
theorem dX5_copy_128 : decode cX5_copy 128 = .ok (.iload_n 3, 1) := by decide +kernel
theorem dX5_copy_129 : decode cX5_copy 129 = .ok (.aaload, 1) := by decide +kernel
theorem dX5_copy_130 : decode cX5_copy 130 = .ok (.getfield 266, 3) := by decide +kernel
theorem dX5_copy_133 : decode cX5_copy 133 = .ok (.iload 4, 2) := by decide +kernel
theorem dX5_copy_135 : decode cX5_copy 135 = .ok (.iload 5, 2) := by decide +kernel
theorem dX5_copy_137 : decode cX5_copy 137 = .ok (.invokestatic 210, 3) := by decide +kernel
theorem dX5_copy_140 : decode cX5_copy 140 = .ok (.iload 5, 2) := by decide +kernel
theorem dX5_copy_142 : decode cX5_copy 142 = .ok (.ireturn, 1) := by decide +kernel
def m_X5_copy (a1 : Int32) (a2 : Int32) (a3 : Int32) (a4 : Int32) (a5 : Int32) (u : zM) : Option (Int32 × zM) :=
  (if (m_X5_isSheet a1) = 0 then
zbind2 (m_X5_finding 0 u) (fun x2 u3 => some (x2, u3))
else
(if (m_X5_isSheet a3) = 0 then
zbind2 (m_X5_finding 0 u) (fun x44 u45 => some (x44, u45))
else
zbind (zsheet a1) (fun k6 => (if (m_X1_isMissing k6 u) = 0 then
zbind (zsheet a3) (fun k12 => (if (m_X1_isMissing k12 u) = 0 then
zbind (zsheet a1) (fun k15 => zbind (zsheet a3) (fun k17 => (if (u k15 1) = (u k17 1) then
zbind (zsheet a1) (fun k20 => (if (m_X1_has k20 a2 a5 u) = 0 then
zbind2 (m_X5_finding 0 u) (fun x23 u24 => some (x23, u24))
else
zbind (zsheet a3) (fun k26 => (if (m_X1_has k26 a4 a5 u) = 0 then
zbind2 (m_X5_finding 0 u) (fun x35 u36 => some (x35, u36))
else
zbind (zsheet a1) (fun k29 => zbind (zsheet a3) (fun k31 => zbind (zcp u (k29 + 1) 40 a2 (k31 + 1) 40 a4 a5) (fun u33 => some (a5, u33))))))))
else
zbind2 (m_X5_finding 2 u) (fun x38 u39 => some (x38, u39)))))
else
zbind2 (m_X5_finding 5 u) (fun x41 u42 => some (x41, u42))))
else
zbind2 (m_X5_finding 5 u) (fun x9 u10 => some (x9, u10))))))
set_option maxHeartbeats 4000000 in
set_option maxRecDepth 100000 in
theorem c_X5_copy (a1 : Int32) (a2 : Int32) (a3 : Int32) (a4 : Int32) (a5 : Int32)   (u : zM) (r : Int32) (u' : zM) (h : m_X5_copy a1 a2 a3 a4 a5 u = some (r, u')) : zCt 3 yX5_copy cX5_copy 6 (some .int) (fun E => [.ref (zad E 0), .int a1, .int a2, .int a3, .int a4, .int a5]) u (fun _ => some (.int r)) u' := by
  refine zCt.of (by decide +kernel) (fun E => Nat.le_of_ble_eq_true rfl) (fun X hX hR => ?_)
  have hX : zGood X RX5 cX5_copy 6 3 := hX
  show zG X u 0 [(0, .ref (zad X.1 0)), (1, .int a1), (2, .int a2), (3, .int a3), (4, .int a4), (5, .int a5)] []
  unfold m_X5_copy at h
  refine r_iload_n hX dX5_copy_0 1 rfl rfl ?_
  refine r_callS (As := [.int a1]) (rest := []) (st1 := [.int (m_X5_isSheet a1)]) hX dX5_copy_1 ls_RX5_247 (c_X5_isSheet a1  u _ rfl) (by decide) rfl rfl rfl (Nat.le_of_ble_eq_true rfl) rfl ?_
  refine r_if_eq (tgt := 14) hX dX5_copy_4 (by decide) (fun c1 => ?_) (fun c1 => ?_)
  · have h := (if_pos c1).symm.trans h
    refine r_aload_n hX dX5_copy_14 0 rfl rfl ?_
    refine r_iconst (v := 0) hX dX5_copy_15 (by decide) ?_
    obtain ⟨x2, u3, e4, h⟩ := zbind2_elim h
    refine r_callV (As := [.int 0]) (rest := []) (st1 := [.int x2]) hX dX5_copy_16 lv_RX5_65 (c_X5_finding 0  u _ _ e4) (by decide) rfl rfl (zRecv.of (q := 0) (ci := 5) rfl rfl) rfl (Nat.le_of_ble_eq_true rfl) rfl ?_
    obtain ⟨rfl, rfl⟩ := zinj2 (Option.some.inj h)
    exact r_iret hX hR dX5_copy_19
  · have h := (if_neg c1).symm.trans h
    refine r_iload_n hX dX5_copy_7 3 rfl rfl ?_
    refine r_callS (As := [.int a3]) (rest := []) (st1 := [.int (m_X5_isSheet a3)]) hX dX5_copy_8 ls_RX5_247 (c_X5_isSheet a3  u _ rfl) (by decide) rfl rfl rfl (Nat.le_of_ble_eq_true rfl) rfl ?_
    refine r_if_ne (tgt := 20) hX dX5_copy_11 (by decide) (fun c5 => ?_) (fun c5 => ?_)
    · have h := (if_neg c5).symm.trans h
      refine r_aload_n hX dX5_copy_20 0 rfl rfl ?_
      refine r_getR hX dX5_copy_21 f_RX5_42 zr_0_5 ?_
      refine r_iload_n hX dX5_copy_24 1 rfl rfl ?_
      obtain ⟨k6, e7, h⟩ := zbind_elim h
      have hk6 := (zsheet_ok e7).2.2
      refine r_aldS hX dX5_copy_25 e7 ?_
      refine r_callV (As := []) (rest := []) (st1 := [.int (m_X1_isMissing k6 u)]) hX dX5_copy_26 lv_RX5_255 (c_X1_isMissing k6 hk6  u _ rfl) (by decide) rfl rfl (zRecv.of (ci := 1) (zSh_c hk6) rfl) rfl (Nat.le_of_ble_eq_true rfl) rfl ?_
      refine r_if_ne (tgt := 44) hX dX5_copy_29 (by decide) (fun c8 => ?_) (fun c8 => ?_)
      · have h := (if_neg c8).symm.trans h
        refine r_aload_n hX dX5_copy_44 0 rfl rfl ?_
        refine r_iconst (v := 5) hX dX5_copy_45 (by decide) ?_
        obtain ⟨x9, u10, e11, h⟩ := zbind2_elim h
        refine r_callV (As := [.int 5]) (rest := []) (st1 := [.int x9]) hX dX5_copy_46 lv_RX5_65 (c_X5_finding 5  u _ _ e11) (by decide) rfl rfl (zRecv.of (q := 0) (ci := 5) rfl rfl) rfl (Nat.le_of_ble_eq_true rfl) rfl ?_
        obtain ⟨rfl, rfl⟩ := zinj2 (Option.some.inj h)
        exact r_iret hX hR dX5_copy_49
      · have h := (if_pos c8).symm.trans h
        refine r_aload_n hX dX5_copy_32 0 rfl rfl ?_
        refine r_getR hX dX5_copy_33 f_RX5_42 zr_0_5 ?_
        refine r_iload_n hX dX5_copy_36 3 rfl rfl ?_
        obtain ⟨k12, e13, h⟩ := zbind_elim h
        have hk12 := (zsheet_ok e13).2.2
        refine r_aldS hX dX5_copy_37 e13 ?_
        refine r_callV (As := []) (rest := []) (st1 := [.int (m_X1_isMissing k12 u)]) hX dX5_copy_38 lv_RX5_255 (c_X1_isMissing k12 hk12  u _ rfl) (by decide) rfl rfl (zRecv.of (ci := 1) (zSh_c hk12) rfl) rfl (Nat.le_of_ble_eq_true rfl) rfl ?_
        refine r_if_eq (tgt := 50) hX dX5_copy_41 (by decide) (fun c14 => ?_) (fun c14 => ?_)
        · have h := (if_pos c14).symm.trans h
          refine r_aload_n hX dX5_copy_50 0 rfl rfl ?_
          refine r_getR hX dX5_copy_51 f_RX5_42 zr_0_5 ?_
          refine r_iload_n hX dX5_copy_54 1 rfl rfl ?_
          obtain ⟨k15, e16, h⟩ := zbind_elim h
          have hk15 := (zsheet_ok e16).2.2
          refine r_aldS hX dX5_copy_55 e16 ?_
          refine r_getI hX dX5_copy_56 f_RX5_260 (zSh_1 hk15) ?_
          refine r_aload_n hX dX5_copy_59 0 rfl rfl ?_
          refine r_getR hX dX5_copy_60 f_RX5_42 zr_0_5 ?_
          refine r_iload_n hX dX5_copy_63 3 rfl rfl ?_
          obtain ⟨k17, e18, h⟩ := zbind_elim h
          have hk17 := (zsheet_ok e18).2.2
          refine r_aldS hX dX5_copy_64 e18 ?_
          refine r_getI hX dX5_copy_65 f_RX5_260 (zSh_1 hk17) ?_
          refine r_icmp_eq (tgt := 77) hX dX5_copy_68 (by decide) (fun c19 => ?_) (fun c19 => ?_)
          · have h := (if_pos c19).symm.trans h
            refine r_aload_n hX dX5_copy_77 0 rfl rfl ?_
            refine r_getR hX dX5_copy_78 f_RX5_42 zr_0_5 ?_
            refine r_iload_n hX dX5_copy_81 1 rfl rfl ?_
            obtain ⟨k20, e21, h⟩ := zbind_elim h
            have hk20 := (zsheet_ok e21).2.2
            refine r_aldS hX dX5_copy_82 e21 ?_
            refine r_iload_n hX dX5_copy_83 2 rfl rfl ?_
            refine r_iload hX dX5_copy_84 5 rfl ?_
            refine r_callV (As := [.int a2, .int a5]) (rest := []) (st1 := [.int (m_X1_has k20 a2 a5 u)]) hX dX5_copy_86 lv_RX5_263 (c_X1_has k20 a2 a5 hk20  u _ rfl) (by decide) rfl rfl (zRecv.of (ci := 1) (zSh_c hk20) rfl) rfl (Nat.le_of_ble_eq_true rfl) rfl ?_
            refine r_if_eq (tgt := 108) hX dX5_copy_89 (by decide) (fun c22 => ?_) (fun c22 => ?_)
            · have h := (if_pos c22).symm.trans h
              refine r_aload_n hX dX5_copy_108 0 rfl rfl ?_
              refine r_iconst (v := 0) hX dX5_copy_109 (by decide) ?_
              obtain ⟨x23, u24, e25, h⟩ := zbind2_elim h
              refine r_callV (As := [.int 0]) (rest := []) (st1 := [.int x23]) hX dX5_copy_110 lv_RX5_65 (c_X5_finding 0  u _ _ e25) (by decide) rfl rfl (zRecv.of (q := 0) (ci := 5) rfl rfl) rfl (Nat.le_of_ble_eq_true rfl) rfl ?_
              obtain ⟨rfl, rfl⟩ := zinj2 (Option.some.inj h)
              exact r_iret hX hR dX5_copy_113
            · have h := (if_neg c22).symm.trans h
              refine r_aload_n hX dX5_copy_92 0 rfl rfl ?_
              refine r_getR hX dX5_copy_93 f_RX5_42 zr_0_5 ?_
              refine r_iload_n hX dX5_copy_96 3 rfl rfl ?_
              obtain ⟨k26, e27, h⟩ := zbind_elim h
              have hk26 := (zsheet_ok e27).2.2
              refine r_aldS hX dX5_copy_97 e27 ?_
              refine r_iload hX dX5_copy_98 4 rfl ?_
              refine r_iload hX dX5_copy_100 5 rfl ?_
              refine r_callV (As := [.int a4, .int a5]) (rest := []) (st1 := [.int (m_X1_has k26 a4 a5 u)]) hX dX5_copy_102 lv_RX5_263 (c_X1_has k26 a4 a5 hk26  u _ rfl) (by decide) rfl rfl (zRecv.of (ci := 1) (zSh_c hk26) rfl) rfl (Nat.le_of_ble_eq_true rfl) rfl ?_
              refine r_if_ne (tgt := 114) hX dX5_copy_105 (by decide) (fun c28 => ?_) (fun c28 => ?_)
              · have h := (if_neg c28).symm.trans h
                refine r_aload_n hX dX5_copy_114 0 rfl rfl ?_
                refine r_getR hX dX5_copy_115 f_RX5_42 zr_0_5 ?_
                refine r_iload_n hX dX5_copy_118 1 rfl rfl ?_
                obtain ⟨k29, e30, h⟩ := zbind_elim h
                have hk29 := (zsheet_ok e30).2.2
                refine r_aldS hX dX5_copy_119 e30 ?_
                refine r_getR hX dX5_copy_120 f_RX5_266 (zSh_0 hk29) ?_
                refine r_iload_n hX dX5_copy_123 2 rfl rfl ?_
                refine r_aload_n hX dX5_copy_124 0 rfl rfl ?_
                refine r_getR hX dX5_copy_125 f_RX5_42 zr_0_5 ?_
                refine r_iload_n hX dX5_copy_128 3 rfl rfl ?_
                obtain ⟨k31, e32, h⟩ := zbind_elim h
                have hk31 := (zsheet_ok e32).2.2
                refine r_aldS hX dX5_copy_129 e32 ?_
                refine r_getR hX dX5_copy_130 f_RX5_266 (zSh_0 hk31) ?_
                refine r_iload hX dX5_copy_133 4 rfl ?_
                refine r_iload hX dX5_copy_135 5 rfl ?_
                obtain ⟨u33, e34, h⟩ := zbind_elim h
                refine r_copy hX dX5_copy_137 la_RX5_210 (zSh_n hk29) (zSh_n hk31) (by decide) (Nat.le_of_ble_eq_true rfl) e34 ?_
                refine r_iload hX dX5_copy_140 5 rfl ?_
                obtain ⟨rfl, rfl⟩ := zinj2 (Option.some.inj h)
                exact r_iret hX hR dX5_copy_142
              · have h := (if_pos c28).symm.trans h
                refine r_aload_n hX dX5_copy_108 0 rfl rfl ?_
                refine r_iconst (v := 0) hX dX5_copy_109 (by decide) ?_
                obtain ⟨x35, u36, e37, h⟩ := zbind2_elim h
                refine r_callV (As := [.int 0]) (rest := []) (st1 := [.int x35]) hX dX5_copy_110 lv_RX5_65 (c_X5_finding 0  u _ _ e37) (by decide) rfl rfl (zRecv.of (q := 0) (ci := 5) rfl rfl) rfl (Nat.le_of_ble_eq_true rfl) rfl ?_
                obtain ⟨rfl, rfl⟩ := zinj2 (Option.some.inj h)
                exact r_iret hX hR dX5_copy_113
          · have h := (if_neg c19).symm.trans h
            refine r_aload_n hX dX5_copy_71 0 rfl rfl ?_
            refine r_iconst (v := 2) hX dX5_copy_72 (by decide) ?_
            obtain ⟨x38, u39, e40, h⟩ := zbind2_elim h
            refine r_callV (As := [.int 2]) (rest := []) (st1 := [.int x38]) hX dX5_copy_73 lv_RX5_65 (c_X5_finding 2  u _ _ e40) (by decide) rfl rfl (zRecv.of (q := 0) (ci := 5) rfl rfl) rfl (Nat.le_of_ble_eq_true rfl) rfl ?_
            obtain ⟨rfl, rfl⟩ := zinj2 (Option.some.inj h)
            exact r_iret hX hR dX5_copy_76
        · have h := (if_neg c14).symm.trans h
          refine r_aload_n hX dX5_copy_44 0 rfl rfl ?_
          refine r_iconst (v := 5) hX dX5_copy_45 (by decide) ?_
          obtain ⟨x41, u42, e43, h⟩ := zbind2_elim h
          refine r_callV (As := [.int 5]) (rest := []) (st1 := [.int x41]) hX dX5_copy_46 lv_RX5_65 (c_X5_finding 5  u _ _ e43) (by decide) rfl rfl (zRecv.of (q := 0) (ci := 5) rfl rfl) rfl (Nat.le_of_ble_eq_true rfl) rfl ?_
          obtain ⟨rfl, rfl⟩ := zinj2 (Option.some.inj h)
          exact r_iret hX hR dX5_copy_49
    · have h := (if_pos c5).symm.trans h
      refine r_aload_n hX dX5_copy_14 0 rfl rfl ?_
      refine r_iconst (v := 0) hX dX5_copy_15 (by decide) ?_
      obtain ⟨x44, u45, e46, h⟩ := zbind2_elim h
      refine r_callV (As := [.int 0]) (rest := []) (st1 := [.int x44]) hX dX5_copy_16 lv_RX5_65 (c_X5_finding 0  u _ _ e46) (by decide) rfl rfl (zRecv.of (q := 0) (ci := 5) rfl rfl) rfl (Nat.le_of_ble_eq_true rfl) rfl ?_
      obtain ⟨rfl, rfl⟩ := zinj2 (Option.some.inj h)
      exact r_iret hX hR dX5_copy_19
