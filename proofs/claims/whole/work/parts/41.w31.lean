/-! MODELS AND CONTRACTS, by program (wip/whole/gen_all.py): X6_judge, X6_copyRow, X6_image, X6_copyRow_2, X6_undo, X6_tear, X6_count, X6_status -/
theorem dX6_judge_0 : decode cX6_judge 0 = .ok (.iload_n 1, 1) := by decide +kernel
theorem dX6_judge_1 : decode cX6_judge 1 = .ok (.invokestatic 293, 3) := by decide +kernel
theorem dX6_judge_4 : decode cX6_judge 4 = .ok (.ifCond .ne 10, 3) := by decide +kernel
theorem dX6_judge_7 : decode cX6_judge 7 = .ok (.aload_n 0, 1) := by decide +kernel
theorem dX6_judge_8 : decode cX6_judge 8 = .ok (.ldc 78, 2) := by decide +kernel
theorem dX6_judge_10 : decode cX6_judge 10 = .ok (.invokevirtual 83, 3) := by decide +kernel
theorem dX6_judge_13 : decode cX6_judge 13 = .ok (.ireturn, 1) := by decide +kernel
theorem dX6_judge_14 : decode cX6_judge 14 = .ok (.aload_n 0, 1) := by decide +kernel
theorem dX6_judge_15 : decode cX6_judge 15 = .ok (.getfield 66, 3) := by decide +kernel
theorem dX6_judge_18 : decode cX6_judge 18 = .ok (.iload_n 1, 1) := by decide +kernel
theorem dX6_judge_19 : decode cX6_judge 19 = .ok (.iaload, 1) := by decide +kernel
theorem dX6_judge_20 : decode cX6_judge 20 = .ok (.ifCond .ne 11, 3) := by decide +kernel
theorem dX6_judge_23 : decode cX6_judge 23 = .ok (.aload_n 0, 1) := by decide +kernel
theorem dX6_judge_24 : decode cX6_judge 24 = .ok (.ldc_w 288, 3) := by decide +kernel
theorem dX6_judge_27 : decode cX6_judge 27 = .ok (.invokevirtual 83, 3) := by decide +kernel
theorem dX6_judge_30 : decode cX6_judge 30 = .ok (.ireturn, 1) := by decide +kernel
theorem dX6_judge_31 : decode cX6_judge 31 = .ok (.aload_n 0, 1) := by decide +kernel
theorem dX6_judge_32 : decode cX6_judge 32 = .ok (.invokevirtual 139, 3) := by decide +kernel
theorem dX6_judge_35 : decode cX6_judge 35 = .ok (.istore_n 2, 1) := by decide +kernel
theorem dX6_judge_36 : decode cX6_judge 36 = .ok (.iload_n 2, 1) := by decide +kernel
theorem dX6_judge_37 : decode cX6_judge 37 = .ok (.ifCond .ne 10, 3) := by decide +kernel
theorem dX6_judge_40 : decode cX6_judge 40 = .ok (.aload_n 0, 1) := by decide +kernel
theorem dX6_judge_41 : decode cX6_judge 41 = .ok (.ldc 142, 2) := by decide +kernel
theorem dX6_judge_43 : decode cX6_judge 43 = .ok (.invokevirtual 83, 3) := by decide +kernel
theorem dX6_judge_46 : decode cX6_judge 46 = .ok (.ireturn, 1) := by decide +kernel
theorem dX6_judge_47 : decode cX6_judge 47 = .ok (.aload_n 0, 1) := by decide +kernel
theorem dX6_judge_48 : decode cX6_judge 48 = .ok (.iload_n 2, 1) := by decide +kernel
theorem dX6_judge_49 : decode cX6_judge 49 = .ok (.invokevirtual 152, 3) := by decide +kernel
theorem dX6_judge_52 : decode cX6_judge 52 = .ok (.iconst 0, 1) := by decide +kernel
theorem dX6_judge_53 : decode cX6_judge 53 = .ok (.istore_n 3, 1) := by decide +kernel
theorem dX6_judge_54 : decode cX6_judge 54 = .ok (.iload_n 3, 1) := by decide +kernel
theorem dX6_judge_55 : decode cX6_judge 55 = .ok (.aload_n 0, 1) := by decide +kernel
theorem dX6_judge_56 : decode cX6_judge 56 = .ok (.getfield 69, 3) := by decide +kernel
theorem dX6_judge_59 : decode cX6_judge 59 = .ok (.iload_n 1, 1) := by decide +kernel
theorem dX6_judge_60 : decode cX6_judge 60 = .ok (.iaload, 1) := by decide +kernel
theorem dX6_judge_61 : decode cX6_judge 61 = .ok (.if_icmp .ge 38, 3) := by decide +kernel
theorem dX6_judge_64 : decode cX6_judge 64 = .ok (.iload_n 3, 1) := by decide +kernel
theorem dX6_judge_65 : decode cX6_judge 65 = .ok (.aload_n 0, 1) := by decide +kernel
theorem dX6_judge_66 : decode cX6_judge 66 = .ok (.getfield 9, 3) := by decide +kernel
theorem dX6_judge_69 : decode cX6_judge 69 = .ok (.iconst 0, 1) := by decide +kernel
theorem dX6_judge_70 : decode cX6_judge 70 = .ok (.iaload, 1) := by decide +kernel
theorem dX6_judge_71 : decode cX6_judge 71 = .ok (.if_icmp .ge 28, 3) := by decide +kernel
theorem dX6_judge_74 : decode cX6_judge 74 = .ok (.aload_n 0, 1) := by decide +kernel
theorem dX6_judge_75 : decode cX6_judge 75 = .ok (.getfield 72, 3) := by decide +kernel
theorem dX6_judge_78 : decode cX6_judge 78 = .ok (.bipush 40, 2) := by decide +kernel
theorem dX6_judge_80 : decode cX6_judge 80 = .ok (.iload_n 1, 1) := by decide +kernel
theorem dX6_judge_81 : decode cX6_judge 81 = .ok (.imul, 1) := by decide +kernel
theorem dX6_judge_82 : decode cX6_judge 82 = .ok (.iload_n 3, 1) := by decide +kernel
theorem dX6_judge_83 : decode cX6_judge 83 = .ok (.iadd, 1) := by decide +kernel
theorem dX6_judge_84 : decode cX6_judge 84 = .ok (.iaload, 1) := by decide +kernel
theorem dX6_judge_85 : decode cX6_judge 85 = .ok (.aload_n 0, 1) := by decide +kernel
theorem dX6_judge_86 : decode cX6_judge 86 = .ok (.iload_n 3, 1) := by decide +kernel
theorem dX6_judge_87 : decode cX6_judge 87 = .ok (.invokevirtual 156, 3) := by decide +kernel
theorem dX6_judge_90 : decode cX6_judge 90 = .ok (.if_icmp .ne 9, 3) := by decide +kernel
theorem dX6_judge_93 : decode cX6_judge 93 = .ok (.iinc 3 1, 3) := by decide +kernel
theorem dX6_judge_96 : decode cX6_judge 96 = .ok (.goto (-42), 3) := by decide +kernel
theorem dX6_judge_99 : decode cX6_judge 99 = .ok (.iload_n 3, 1) := by decide +kernel
theorem dX6_judge_100 : decode cX6_judge 100 = .ok (.aload_n 0, 1) := by decide +kernel
theorem dX6_judge_101 : decode cX6_judge 101 = .ok (.getfield 69, 3) := by decide +kernel
theorem dX6_judge_104 : decode cX6_judge 104 = .ok (.iload_n 1, 1) := by decide +kernel
theorem dX6_judge_105 : decode cX6_judge 105 = .ok (.iaload, 1) := by decide +kernel
theorem dX6_judge_106 : decode cX6_judge 106 = .ok (.if_icmp .ne 17, 3) := by decide +kernel
theorem dX6_judge_109 : decode cX6_judge 109 = .ok (.iload_n 3, 1) := by decide +kernel
theorem dX6_judge_110 : decode cX6_judge 110 = .ok (.aload_n 0, 1) := by decide +kernel
theorem dX6_judge_111 : decode cX6_judge 111 = .ok (.getfield 9, 3) := by decide +kernel
theorem dX6_judge_114 : decode cX6_judge 114 = .ok (.iconst 0, 1) := by decide +kernel
theorem dX6_judge_115 : decode cX6_judge 115 = .ok (.iaload, 1) := by decide +kernel
theorem dX6_judge_116 : decode cX6_judge 116 = .ok (.if_icmp .ne 7, 3) := by decide +kernel
theorem dX6_judge_119 : decode cX6_judge 119 = .ok (.iconst 0, 1) := by decide +kernel
theorem dX6_judge_120 : decode cX6_judge 120 = .ok (.goto 6, 3) := by decide +kernel
theorem dX6_judge_123 : decode cX6_judge 123 = .ok (.iconst 1, 1) := by decide +kernel
theorem dX6_judge_124 : decode cX6_judge 124 = .ok (.iload_n 3, 1) := by decide +kernel
theorem dX6_judge_125 : decode cX6_judge 125 = .ok (.iadd, 1) := by decide +kernel
theorem dX6_judge_126 : decode cX6_judge 126 = .ok (.ireturn, 1) := by decide +kernel
def m_X6_judge_b0 (u8 : zM) (a1 : Int32) (x10 : Int32) : Option ((Int32) ⊕ (Int32)) :=
  zbind (zld u8 52 4 a1) (fun x13 => (if x13 ≤ x10 then
some (.inr x10)
else
(if (u8 40 0) ≤ x10 then
some (.inr x10)
else
zbind (zld u8 53 160 ((40 * a1) + x10)) (fun x17 => zbind (m_X6_costOf x10 u8) (fun x19 => (if x17 = x19 then
some (.inl (x10 + 1))
else
some (.inr x10)))))))
def m_X6_judge (a1 : Int32) (u : zM) : Option (Int32 × zM) :=
  (if (m_X6_isSheet a1) = 0 then
zbind2 (m_X6_finding (-1000001) u) (fun x32 u33 => some (x32, u33))
else
zbind (zld u 51 4 a1) (fun x2 => (if x2 = 0 then
zbind2 (m_X6_finding (-1000006) u) (fun x29 u30 => some (x29, u30))
else
zbind (m_X6_hereSet u) (fun x5 => (if x5 = 0 then
zbind2 (m_X6_finding (-1000004) u) (fun x26 u27 => some (x26, u27))
else
zbind (m_X6_cut x5 u) (fun u8 => zbind (zit zF (fun s : Int32 => m_X6_judge_b0 u8 a1 s) 0) (fun x11 =>
zbind (zld u8 52 4 a1) (fun x22 => (if x11 = x22 then
(if x11 = (u8 40 0) then
some (0, u8)
else
some ((1 + x11), u8))
else
some ((1 + x11), u8))))))))))
set_option maxHeartbeats 4000000 in
set_option maxRecDepth 100000 in
theorem c_X6_judge (a1 : Int32)   (u : zM) (r : Int32) (u' : zM) (h : m_X6_judge a1 u = some (r, u')) : zCt 6 yX6_judge cX6_judge 4 (some .int) (fun E => [.ref (zad E 39), .int a1]) u (fun _ => some (.int r)) u' := by
  refine zCt.of (by decide +kernel) (fun E => Nat.le_of_ble_eq_true rfl) (fun X hX hR => ?_)
  have hX : zGood X RX6 cX6_judge 4 6 := hX
  show zG X u 0 [(0, .ref (zad X.1 39)), (1, .int a1)] []
  unfold m_X6_judge at h
  refine r_iload_n hX dX6_judge_0 1 rfl rfl ?_
  refine r_callS (As := [.int a1]) (rest := []) (st1 := [.int (m_X6_isSheet a1)]) hX dX6_judge_1 ls_RX6_293 (c_X6_isSheet a1  u _ rfl) (by decide) rfl rfl rfl (Nat.le_of_ble_eq_true rfl) rfl ?_
  refine r_if_ne (tgt := 14) hX dX6_judge_4 (by decide) (fun c1 => ?_) (fun c1 => ?_)
  · have h := (if_neg c1).symm.trans h
    refine r_aload_n hX dX6_judge_14 0 rfl rfl ?_
    refine r_getR hX dX6_judge_15 f_RX6_66 zr_39_23 ?_
    refine r_iload_n hX dX6_judge_18 1 rfl rfl ?_
    obtain ⟨x2, e3, h⟩ := zbind_elim h
    refine r_iald hX dX6_judge_19 rfl e3 ?_
    refine r_if_ne (tgt := 31) hX dX6_judge_20 (by decide) (fun c4 => ?_) (fun c4 => ?_)
    · have h := (if_neg c4).symm.trans h
      refine r_aload_n hX dX6_judge_31 0 rfl rfl ?_
      obtain ⟨x5, e6, h⟩ := zbind_elim h
      refine r_callV (As := []) (rest := []) (st1 := [.int x5]) hX dX6_judge_32 lv_RX6_139 (c_X6_hereSet   u _ e6) (by decide) rfl rfl (zRecv.of (q := 39) (ci := 6) rfl rfl) rfl (Nat.le_of_ble_eq_true rfl) rfl ?_
      refine r_istore_n (y := x5) (L' := [(2, .int x5), (0, .ref (zad X.1 39)), (1, .int a1)]) hX dX6_judge_35 rfl (by decide) rfl rfl ?_
      refine r_iload_n hX dX6_judge_36 0 rfl rfl ?_
      refine r_if_ne (tgt := 47) hX dX6_judge_37 (by decide) (fun c7 => ?_) (fun c7 => ?_)
      · have h := (if_neg c7).symm.trans h
        refine r_aload_n hX dX6_judge_47 1 rfl rfl ?_
        refine r_iload_n hX dX6_judge_48 0 rfl rfl ?_
        obtain ⟨u8, e9, h⟩ := zbind_elim h
        refine r_callV (As := [.int x5]) (rest := []) (st1 := []) hX dX6_judge_49 lv_RX6_152 (c_X6_cut x5  u _ e9) (by decide) rfl rfl (zRecv.of (q := 39) (ci := 6) rfl rfl) rfl (Nat.le_of_ble_eq_true rfl) rfl ?_
        refine r_iconst (v := 0) hX dX6_judge_52 (by decide) ?_
        refine r_istore_n (y := 0) (L' := [(3, .int 0), (2, .int x5), (0, .ref (zad X.1 39)), (1, .int a1)]) hX dX6_judge_53 rfl (by decide) rfl rfl ?_
        refine r_sub [2, 3, 0] (L' := [(0, .ref (zad X.1 39)), (1, .int a1), (3, .int 0)]) rfl ?_
        obtain ⟨x11, h12, h⟩ := zbind_elim h
        have Jh12 : zG X u8 99 [(0, .ref (zad X.1 39)), (1, .int a1), (3, .int x11)] [] := by
            refine r_iload_n hX dX6_judge_99 2 rfl rfl ?_
            refine r_aload_n hX dX6_judge_100 0 rfl rfl ?_
            refine r_getR hX dX6_judge_101 f_RX6_69 zr_39_24 ?_
            refine r_iload_n hX dX6_judge_104 1 rfl rfl ?_
            obtain ⟨x22, e23, h⟩ := zbind_elim h
            refine r_iald hX dX6_judge_105 rfl e23 ?_
            refine r_icmp_ne (tgt := 123) hX dX6_judge_106 (by decide) (fun c24 => ?_) (fun c24 => ?_)
            · have h := (if_neg c24).symm.trans h
              refine r_iconst (v := 1) hX dX6_judge_123 (by decide) ?_
              refine r_iload_n hX dX6_judge_124 2 rfl rfl ?_
              refine r_iadd hX dX6_judge_125 ?_
              obtain ⟨rfl, rfl⟩ := zinj2 (Option.some.inj h)
              exact r_iret hX hR dX6_judge_126
            · have h := (if_pos c24).symm.trans h
              refine r_iload_n hX dX6_judge_109 2 rfl rfl ?_
              refine r_aload_n hX dX6_judge_110 0 rfl rfl ?_
              refine r_getR hX dX6_judge_111 f_RX6_9 zr_39_0 ?_
              refine r_iconst (v := 0) hX dX6_judge_114 (by decide) ?_
              refine r_ialdC (j := 0) hX dX6_judge_115 rfl (by decide +kernel) ?_
              refine r_icmp_ne (tgt := 123) hX dX6_judge_116 (by decide) (fun c25 => ?_) (fun c25 => ?_)
              · have h := (if_neg c25).symm.trans h
                refine r_iconst (v := 1) hX dX6_judge_123 (by decide) ?_
                refine r_iload_n hX dX6_judge_124 2 rfl rfl ?_
                refine r_iadd hX dX6_judge_125 ?_
                obtain ⟨rfl, rfl⟩ := zinj2 (Option.some.inj h)
                exact r_iret hX hR dX6_judge_126
              · have h := (if_pos c25).symm.trans h
                refine r_iconst (v := 0) hX dX6_judge_119 (by decide) ?_
                refine r_goto (tgt := 126) hX dX6_judge_120 (by decide) ?_
                obtain ⟨rfl, rfl⟩ := zinj2 (Option.some.inj h)
                exact r_iret hX hR dX6_judge_126
        clear h
        refine zit_walk (P := fun s0 : Int32 => zG X u8 54 [(0, .ref (zad X.1 39)), (1, .int a1), (3, .int s0)] []) ?_ zF _ h12
        clear h12
        intro s0 y0 h0b hin0 hout0
        obtain ⟨x10, es0⟩ : ∃ z, z = s0 := ⟨_, rfl⟩
        subst es0
        have h0b : m_X6_judge_b0 u8 a1 x10 = some y0 := h0b
        unfold m_X6_judge_b0 at h0b
        show zG X u8 54 [(0, .ref (zad X.1 39)), (1, .int a1), (3, .int x10)] []
        refine r_iload_n hX dX6_judge_54 2 rfl rfl ?_
        refine r_aload_n hX dX6_judge_55 0 rfl rfl ?_
        refine r_getR hX dX6_judge_56 f_RX6_69 zr_39_24 ?_
        refine r_iload_n hX dX6_judge_59 1 rfl rfl ?_
        obtain ⟨x13, e14, h0b⟩ := zbind_elim h0b
        refine r_iald hX dX6_judge_60 rfl e14 ?_
        refine r_icmp_ge (tgt := 99) hX dX6_judge_61 (by decide) (fun c15 => ?_) (fun c15 => ?_)
        · have h0b := (if_pos c15).symm.trans h0b
          have h0b := hout0 _ (Option.some.inj h0b).symm
          obtain rfl := h0b
          exact Jh12
        · have h0b := (if_neg c15).symm.trans h0b
          refine r_iload_n hX dX6_judge_64 2 rfl rfl ?_
          refine r_aload_n hX dX6_judge_65 0 rfl rfl ?_
          refine r_getR hX dX6_judge_66 f_RX6_9 zr_39_0 ?_
          refine r_iconst (v := 0) hX dX6_judge_69 (by decide) ?_
          refine r_ialdC (j := 0) hX dX6_judge_70 rfl (by decide +kernel) ?_
          refine r_icmp_ge (tgt := 99) hX dX6_judge_71 (by decide) (fun c16 => ?_) (fun c16 => ?_)
          · have h0b := (if_pos c16).symm.trans h0b
            have h0b := hout0 _ (Option.some.inj h0b).symm
            obtain rfl := h0b
            exact Jh12
          · have h0b := (if_neg c16).symm.trans h0b
            refine r_aload_n hX dX6_judge_74 0 rfl rfl ?_
            refine r_getR hX dX6_judge_75 f_RX6_72 zr_39_25 ?_
            refine r_bipush (v := 40) hX dX6_judge_78 (by decide) ?_
            refine r_iload_n hX dX6_judge_80 1 rfl rfl ?_
            refine r_imul hX dX6_judge_81 ?_
            refine r_iload_n hX dX6_judge_82 2 rfl rfl ?_
            refine r_iadd hX dX6_judge_83 ?_
            obtain ⟨x17, e18, h0b⟩ := zbind_elim h0b
            refine r_iald hX dX6_judge_84 rfl e18 ?_
            refine r_aload_n hX dX6_judge_85 0 rfl rfl ?_
            refine r_iload_n hX dX6_judge_86 2 rfl rfl ?_
            obtain ⟨x19, e20, h0b⟩ := zbind_elim h0b
            refine r_callV (As := [.int x10]) (rest := [.int x17]) (st1 := [.int x19, .int x17]) hX dX6_judge_87 lv_RX6_156 (c_X6_costOf x10  u8 _ e20) (by decide) rfl rfl (zRecv.of (q := 39) (ci := 6) rfl rfl) rfl (Nat.le_of_ble_eq_true rfl) rfl ?_
            refine r_icmp_ne (tgt := 99) hX dX6_judge_90 (by decide) (fun c21 => ?_) (fun c21 => ?_)
            · have h0b := (if_neg c21).symm.trans h0b
              have h0b := hout0 _ (Option.some.inj h0b).symm
              obtain rfl := h0b
              exact Jh12
            · have h0b := (if_pos c21).symm.trans h0b
              refine r_iinc (v := (x10 + 1)) (L' := [(3, .int (x10 + 1)), (0, .ref (zad X.1 39)), (1, .int a1)]) hX dX6_judge_93 (by decide) 2 rfl rfl rfl ?_
              refine r_goto (tgt := 54) hX dX6_judge_96 (by decide) ?_
              refine r_sub [1, 2, 0] (L' := [(0, .ref (zad X.1 39)), (1, .int a1), (3, .int (x10 + 1))]) rfl ?_
              exact hin0 _ (Option.some.inj h0b).symm
      · have h := (if_pos c7).symm.trans h
        refine r_aload_n hX dX6_judge_40 1 rfl rfl ?_
        refine r_ldc (v := (-1000004)) hX dX6_judge_41 (zT_in 1114 (by decide +kernel) rfl) ?_
        obtain ⟨x26, u27, e28, h⟩ := zbind2_elim h
        refine r_callV (As := [.int (-1000004)]) (rest := []) (st1 := [.int x26]) hX dX6_judge_43 lv_RX6_83 (c_X6_finding (-1000004)  u _ _ e28) (by decide) rfl rfl (zRecv.of (q := 39) (ci := 6) rfl rfl) rfl (Nat.le_of_ble_eq_true rfl) rfl ?_
        obtain ⟨rfl, rfl⟩ := zinj2 (Option.some.inj h)
        exact r_iret hX hR dX6_judge_46
    · have h := (if_pos c4).symm.trans h
      refine r_aload_n hX dX6_judge_23 0 rfl rfl ?_
      refine r_ldcw (v := (-1000006)) hX dX6_judge_24 (zT_in 1367 (by decide +kernel) rfl) ?_
      obtain ⟨x29, u30, e31, h⟩ := zbind2_elim h
      refine r_callV (As := [.int (-1000006)]) (rest := []) (st1 := [.int x29]) hX dX6_judge_27 lv_RX6_83 (c_X6_finding (-1000006)  u _ _ e31) (by decide) rfl rfl (zRecv.of (q := 39) (ci := 6) rfl rfl) rfl (Nat.le_of_ble_eq_true rfl) rfl ?_
      obtain ⟨rfl, rfl⟩ := zinj2 (Option.some.inj h)
      exact r_iret hX hR dX6_judge_30
  · have h := (if_pos c1).symm.trans h
    refine r_aload_n hX dX6_judge_7 0 rfl rfl ?_
    refine r_ldc (v := (-1000001)) hX dX6_judge_8 (zT_in 1041 (by decide +kernel) rfl) ?_
    obtain ⟨x32, u33, e34, h⟩ := zbind2_elim h
    refine r_callV (As := [.int (-1000001)]) (rest := []) (st1 := [.int x32]) hX dX6_judge_10 lv_RX6_83 (c_X6_finding (-1000001)  u _ _ e34) (by decide) rfl rfl (zRecv.of (q := 39) (ci := 6) rfl rfl) rfl (Nat.le_of_ble_eq_true rfl) rfl ?_
    obtain ⟨rfl, rfl⟩ := zinj2 (Option.some.inj h)
    exact r_iret hX hR dX6_judge_13
theorem dX6_copyRow_0 : decode cX6_copyRow 0 = .ok (.iconst 0, 1) := by decide +kernel
theorem dX6_copyRow_1 : decode cX6_copyRow 1 = .ok (.istore_n 2, 1) := by decide +kernel
theorem dX6_copyRow_2 : decode cX6_copyRow 2 = .ok (.iload_n 2, 1) := by decide +kernel
theorem dX6_copyRow_3 : decode cX6_copyRow 3 = .ok (.sipush 160, 3) := by decide +kernel
theorem dX6_copyRow_6 : decode cX6_copyRow 6 = .ok (.if_icmp .ge 15, 3) := by decide +kernel
theorem dX6_copyRow_9 : decode cX6_copyRow 9 = .ok (.aload_n 1, 1) := by decide +kernel
theorem dX6_copyRow_10 : decode cX6_copyRow 10 = .ok (.iload_n 2, 1) := by decide +kernel
theorem dX6_copyRow_11 : decode cX6_copyRow 11 = .ok (.aload_n 0, 1) := by decide +kernel
theorem dX6_copyRow_12 : decode cX6_copyRow 12 = .ok (.iload_n 2, 1) := by decide +kernel
theorem dX6_copyRow_13 : decode cX6_copyRow 13 = .ok (.iaload, 1) := by decide +kernel
theorem dX6_copyRow_14 : decode cX6_copyRow 14 = .ok (.iastore, 1) := by decide +kernel
theorem dX6_copyRow_15 : decode cX6_copyRow 15 = .ok (.iinc 2 1, 3) := by decide +kernel
theorem dX6_copyRow_18 : decode cX6_copyRow 18 = .ok (.goto (-16), 3) := by decide +kernel
theorem dX6_copyRow_21 : decode cX6_copyRow 21 = .ok (.return_, 1) := by decide +kernel
def m_X6_copyRow_b0  (x1 : Int32) (u2 : zM) : Option ((Int32 × zM) ⊕ (zM)) :=
  (if 160 ≤ x1 then
some (.inr u2)
else
zbind (zld u2 40 160 x1) (fun x6 => zbind (zsv u2 41 160 x1 x6) (fun u8 => some (.inl ((x1 + 1), u8)))))
def m_X6_copyRow  (u : zM) : Option (zM) :=
  zbind (zit zF (fun s : Int32 × zM => m_X6_copyRow_b0 s.1 s.2) (0, u)) (fun u3 =>
some u3)
set_option maxHeartbeats 4000000 in
set_option maxRecDepth 100000 in
theorem c_X6_copyRow    (u : zM) (u' : zM) (h : m_X6_copyRow u = some (u')) : zCt 1 yX6_copyRow cX6_copyRow 3 none (fun E => [.ref (zad E 40), .ref (zad E 41)]) u (fun _ => none) u' := by
  refine zCt.of (by decide +kernel) (fun E => Nat.le_of_ble_eq_true rfl) (fun X hX hR => ?_)
  have hX : zGood X RX6 cX6_copyRow 3 1 := hX
  show zG X u 0 [(0, .ref (zad X.1 40)), (1, .ref (zad X.1 41))] []
  unfold m_X6_copyRow at h
  refine r_iconst (v := 0) hX dX6_copyRow_0 (by decide) ?_
  refine r_istore_n (y := 0) (L' := [(2, .int 0), (0, .ref (zad X.1 40)), (1, .ref (zad X.1 41))]) hX dX6_copyRow_1 rfl (by decide) rfl rfl ?_
  refine r_sub [1, 2, 0] (L' := [(0, .ref (zad X.1 40)), (1, .ref (zad X.1 41)), (2, .int 0)]) rfl ?_
  obtain ⟨u3, h4, h⟩ := zbind_elim h
  have Jh4 : zG X u3 21 [] [] := by
      obtain rfl := Option.some.inj h
      exact r_vret hX hR dX6_copyRow_21
  clear h
  refine zit_walk (P := fun s0 : Int32 × zM => zG X s0.2 2 [(0, .ref (zad X.1 40)), (1, .ref (zad X.1 41)), (2, .int (s0.1))] []) ?_ zF _ h4
  clear h4
  intro s0 y0 h0b hin0 hout0
  obtain ⟨x1, u2⟩ := s0
  have h0b : m_X6_copyRow_b0 x1 u2 = some y0 := h0b
  unfold m_X6_copyRow_b0 at h0b
  show zG X u2 2 [(0, .ref (zad X.1 40)), (1, .ref (zad X.1 41)), (2, .int x1)] []
  refine r_iload_n hX dX6_copyRow_2 2 rfl rfl ?_
  refine r_sipush (v := 160) hX dX6_copyRow_3 (by decide) ?_
  refine r_icmp_ge (tgt := 21) hX dX6_copyRow_6 (by decide) (fun c5 => ?_) (fun c5 => ?_)
  · have h0b := (if_pos c5).symm.trans h0b
    refine r_sub [] (L' := []) rfl ?_
    have h0b := hout0 _ (Option.some.inj h0b).symm
    obtain rfl := h0b
    exact Jh4
  · have h0b := (if_neg c5).symm.trans h0b
    refine r_aload_n hX dX6_copyRow_9 1 rfl rfl ?_
    refine r_iload_n hX dX6_copyRow_10 2 rfl rfl ?_
    refine r_aload_n hX dX6_copyRow_11 0 rfl rfl ?_
    refine r_iload_n hX dX6_copyRow_12 2 rfl rfl ?_
    obtain ⟨x6, e7, h0b⟩ := zbind_elim h0b
    refine r_iald hX dX6_copyRow_13 rfl e7 ?_
    obtain ⟨u8, e9, h0b⟩ := zbind_elim h0b
    refine r_iast hX dX6_copyRow_14 rfl e9 ?_
    refine r_iinc (v := (x1 + 1)) (L' := [(2, .int (x1 + 1)), (0, .ref (zad X.1 40)), (1, .ref (zad X.1 41))]) hX dX6_copyRow_15 (by decide) 2 rfl rfl rfl ?_
    refine r_goto (tgt := 2) hX dX6_copyRow_18 (by decide) ?_
    refine r_sub [1, 2, 0] (L' := [(0, .ref (zad X.1 40)), (1, .ref (zad X.1 41)), (2, .int (x1 + 1))]) rfl ?_
    exact hin0 _ (Option.some.inj h0b).symm
theorem dX6_image_0 : decode cX6_image 0 = .ok (.aload_n 0, 1) := by decide +kernel
theorem dX6_image_1 : decode cX6_image 1 = .ok (.getfield 9, 3) := by decide +kernel
theorem dX6_image_4 : decode cX6_image 4 = .ok (.aload_n 0, 1) := by decide +kernel
theorem dX6_image_5 : decode cX6_image 5 = .ok (.getfield 13, 3) := by decide +kernel
theorem dX6_image_8 : decode cX6_image 8 = .ok (.invokestatic 300, 3) := by decide +kernel
theorem dX6_image_11 : decode cX6_image 11 = .ok (.aload_n 0, 1) := by decide +kernel
theorem dX6_image_12 : decode cX6_image 12 = .ok (.iconst 1, 1) := by decide +kernel
theorem dX6_image_13 : decode cX6_image 13 = .ok (.putfield 304, 3) := by decide +kernel
theorem dX6_image_16 : decode cX6_image 16 = .ok (.iconst 1, 1) := by decide +kernel
theorem dX6_image_17 : decode cX6_image 17 = .ok (.ireturn, 1) := by decide +kernel
def m_X6_image  (u : zM) : Option (Int32 × zM) :=
  zbind (m_X6_copyRow u) (fun u1 => zlet (zst u1 39 2 1) (fun u3 => some (1, u3)))
set_option maxHeartbeats 4000000 in
set_option maxRecDepth 100000 in
theorem c_X6_image    (u : zM) (r : Int32) (u' : zM) (h : m_X6_image u = some (r, u')) : zCt 2 yX6_image cX6_image 1 (some .int) (fun E => [.ref (zad E 39)]) u (fun _ => some (.int r)) u' := by
  refine zCt.of (by decide +kernel) (fun E => Nat.le_of_ble_eq_true rfl) (fun X hX hR => ?_)
  have hX : zGood X RX6 cX6_image 1 2 := hX
  show zG X u 0 [(0, .ref (zad X.1 39))] []
  unfold m_X6_image at h
  refine r_aload_n hX dX6_image_0 0 rfl rfl ?_
  refine r_getR hX dX6_image_1 f_RX6_9 zr_39_0 ?_
  refine r_aload_n hX dX6_image_4 0 rfl rfl ?_
  refine r_getR hX dX6_image_5 f_RX6_13 zr_39_1 ?_
  obtain ⟨u1, e2, h⟩ := zbind_elim h
  refine r_callS (As := [.ref (zad X.1 40), .ref (zad X.1 41)]) (rest := []) (st1 := []) hX dX6_image_8 ls_RX6_300 (c_X6_copyRow   u _ e2) (by decide) rfl rfl rfl (Nat.le_of_ble_eq_true rfl) rfl ?_
  refine r_aload_n hX dX6_image_11 0 rfl rfl ?_
  refine r_iconst (v := 1) hX dX6_image_12 (by decide) ?_
  obtain ⟨u3, e4, h⟩ := zlet_elim h
  refine r_putZ hX dX6_image_13 f_RX6_304 p_6_2 zi_39_2 (by first | exact Or.inl rfl | exact Or.inr rfl | simp) ?_
  rw [e4]
  refine r_iconst (v := 1) hX dX6_image_16 (by decide) ?_
  obtain ⟨rfl, rfl⟩ := zinj2 (Option.some.inj h)
  exact r_iret hX hR dX6_image_17
def m_X6_copyRow_2_b0  (x1 : Int32) (u2 : zM) : Option ((Int32 × zM) ⊕ (zM)) :=
  (if 160 ≤ x1 then
some (.inr u2)
else
zbind (zld u2 41 160 x1) (fun x6 => zbind (zsv u2 40 160 x1 x6) (fun u8 => some (.inl ((x1 + 1), u8)))))
def m_X6_copyRow_2  (u : zM) : Option (zM) :=
  zbind (zit zF (fun s : Int32 × zM => m_X6_copyRow_2_b0 s.1 s.2) (0, u)) (fun u3 =>
some u3)
set_option maxHeartbeats 4000000 in
set_option maxRecDepth 100000 in
theorem c_X6_copyRow_2    (u : zM) (u' : zM) (h : m_X6_copyRow_2 u = some (u')) : zCt 1 yX6_copyRow cX6_copyRow 3 none (fun E => [.ref (zad E 41), .ref (zad E 40)]) u (fun _ => none) u' := by
  refine zCt.of (by decide +kernel) (fun E => Nat.le_of_ble_eq_true rfl) (fun X hX hR => ?_)
  have hX : zGood X RX6 cX6_copyRow 3 1 := hX
  show zG X u 0 [(0, .ref (zad X.1 41)), (1, .ref (zad X.1 40))] []
  unfold m_X6_copyRow_2 at h
  refine r_iconst (v := 0) hX dX6_copyRow_0 (by decide) ?_
  refine r_istore_n (y := 0) (L' := [(2, .int 0), (0, .ref (zad X.1 41)), (1, .ref (zad X.1 40))]) hX dX6_copyRow_1 rfl (by decide) rfl rfl ?_
  refine r_sub [1, 2, 0] (L' := [(0, .ref (zad X.1 41)), (1, .ref (zad X.1 40)), (2, .int 0)]) rfl ?_
  obtain ⟨u3, h4, h⟩ := zbind_elim h
  have Jh4 : zG X u3 21 [] [] := by
      obtain rfl := Option.some.inj h
      exact r_vret hX hR dX6_copyRow_21
  clear h
  refine zit_walk (P := fun s0 : Int32 × zM => zG X s0.2 2 [(0, .ref (zad X.1 41)), (1, .ref (zad X.1 40)), (2, .int (s0.1))] []) ?_ zF _ h4
  clear h4
  intro s0 y0 h0b hin0 hout0
  obtain ⟨x1, u2⟩ := s0
  have h0b : m_X6_copyRow_2_b0 x1 u2 = some y0 := h0b
  unfold m_X6_copyRow_2_b0 at h0b
  show zG X u2 2 [(0, .ref (zad X.1 41)), (1, .ref (zad X.1 40)), (2, .int x1)] []
  refine r_iload_n hX dX6_copyRow_2 2 rfl rfl ?_
  refine r_sipush (v := 160) hX dX6_copyRow_3 (by decide) ?_
  refine r_icmp_ge (tgt := 21) hX dX6_copyRow_6 (by decide) (fun c5 => ?_) (fun c5 => ?_)
  · have h0b := (if_pos c5).symm.trans h0b
    refine r_sub [] (L' := []) rfl ?_
    have h0b := hout0 _ (Option.some.inj h0b).symm
    obtain rfl := h0b
    exact Jh4
  · have h0b := (if_neg c5).symm.trans h0b
    refine r_aload_n hX dX6_copyRow_9 1 rfl rfl ?_
    refine r_iload_n hX dX6_copyRow_10 2 rfl rfl ?_
    refine r_aload_n hX dX6_copyRow_11 0 rfl rfl ?_
    refine r_iload_n hX dX6_copyRow_12 2 rfl rfl ?_
    obtain ⟨x6, e7, h0b⟩ := zbind_elim h0b
    refine r_iald hX dX6_copyRow_13 rfl e7 ?_
    obtain ⟨u8, e9, h0b⟩ := zbind_elim h0b
    refine r_iast hX dX6_copyRow_14 rfl e9 ?_
    refine r_iinc (v := (x1 + 1)) (L' := [(2, .int (x1 + 1)), (0, .ref (zad X.1 41)), (1, .ref (zad X.1 40))]) hX dX6_copyRow_15 (by decide) 2 rfl rfl rfl ?_
    refine r_goto (tgt := 2) hX dX6_copyRow_18 (by decide) ?_
    refine r_sub [1, 2, 0] (L' := [(0, .ref (zad X.1 41)), (1, .ref (zad X.1 40)), (2, .int (x1 + 1))]) rfl ?_
    exact hin0 _ (Option.some.inj h0b).symm
theorem dX6_undo_0 : decode cX6_undo 0 = .ok (.aload_n 0, 1) := by decide +kernel
theorem dX6_undo_1 : decode cX6_undo 1 = .ok (.getfield 304, 3) := by decide +kernel
theorem dX6_undo_4 : decode cX6_undo 4 = .ok (.ifCond .ne 10, 3) := by decide +kernel
theorem dX6_undo_7 : decode cX6_undo 7 = .ok (.aload_n 0, 1) := by decide +kernel
theorem dX6_undo_8 : decode cX6_undo 8 = .ok (.ldc 142, 2) := by decide +kernel
theorem dX6_undo_10 : decode cX6_undo 10 = .ok (.invokevirtual 83, 3) := by decide +kernel
theorem dX6_undo_13 : decode cX6_undo 13 = .ok (.ireturn, 1) := by decide +kernel
theorem dX6_undo_14 : decode cX6_undo 14 = .ok (.aload_n 0, 1) := by decide +kernel
theorem dX6_undo_15 : decode cX6_undo 15 = .ok (.getfield 13, 3) := by decide +kernel
theorem dX6_undo_18 : decode cX6_undo 18 = .ok (.aload_n 0, 1) := by decide +kernel
theorem dX6_undo_19 : decode cX6_undo 19 = .ok (.getfield 9, 3) := by decide +kernel
theorem dX6_undo_22 : decode cX6_undo 22 = .ok (.invokestatic 300, 3) := by decide +kernel
theorem dX6_undo_25 : decode cX6_undo 25 = .ok (.aload_n 0, 1) := by decide +kernel
theorem dX6_undo_26 : decode cX6_undo 26 = .ok (.getfield 9, 3) := by decide +kernel
theorem dX6_undo_29 : decode cX6_undo 29 = .ok (.iconst 0, 1) := by decide +kernel
theorem dX6_undo_30 : decode cX6_undo 30 = .ok (.iaload, 1) := by decide +kernel
theorem dX6_undo_31 : decode cX6_undo 31 = .ok (.ireturn, 1) := by decide +kernel
def m_X6_undo  (u : zM) : Option (Int32 × zM) :=
  (if (u 39 2) = 0 then
zbind2 (m_X6_finding (-1000004) u) (fun x4 u5 => some (x4, u5))
else
zbind (m_X6_copyRow_2 u) (fun u2 => some ((u2 40 0), u2)))
set_option maxHeartbeats 4000000 in
set_option maxRecDepth 100000 in
theorem c_X6_undo    (u : zM) (r : Int32) (u' : zM) (h : m_X6_undo u = some (r, u')) : zCt 2 yX6_undo cX6_undo 1 (some .int) (fun E => [.ref (zad E 39)]) u (fun _ => some (.int r)) u' := by
  refine zCt.of (by decide +kernel) (fun E => Nat.le_of_ble_eq_true rfl) (fun X hX hR => ?_)
  have hX : zGood X RX6 cX6_undo 1 2 := hX
  show zG X u 0 [(0, .ref (zad X.1 39))] []
  unfold m_X6_undo at h
  refine r_aload_n hX dX6_undo_0 0 rfl rfl ?_
  refine r_getI hX dX6_undo_1 f_RX6_304 zi_39_2 ?_
  refine r_if_ne (tgt := 14) hX dX6_undo_4 (by decide) (fun c1 => ?_) (fun c1 => ?_)
  · have h := (if_neg c1).symm.trans h
    refine r_aload_n hX dX6_undo_14 0 rfl rfl ?_
    refine r_getR hX dX6_undo_15 f_RX6_13 zr_39_1 ?_
    refine r_aload_n hX dX6_undo_18 0 rfl rfl ?_
    refine r_getR hX dX6_undo_19 f_RX6_9 zr_39_0 ?_
    obtain ⟨u2, e3, h⟩ := zbind_elim h
    refine r_callS (As := [.ref (zad X.1 41), .ref (zad X.1 40)]) (rest := []) (st1 := []) hX dX6_undo_22 ls_RX6_300 (c_X6_copyRow_2   u _ e3) (by decide) rfl rfl rfl (Nat.le_of_ble_eq_true rfl) rfl ?_
    refine r_aload_n hX dX6_undo_25 0 rfl rfl ?_
    refine r_getR hX dX6_undo_26 f_RX6_9 zr_39_0 ?_
    refine r_iconst (v := 0) hX dX6_undo_29 (by decide) ?_
    refine r_ialdC (j := 0) hX dX6_undo_30 rfl (by decide +kernel) ?_
    obtain ⟨rfl, rfl⟩ := zinj2 (Option.some.inj h)
    exact r_iret hX hR dX6_undo_31
  · have h := (if_pos c1).symm.trans h
    refine r_aload_n hX dX6_undo_7 0 rfl rfl ?_
    refine r_ldc (v := (-1000004)) hX dX6_undo_8 (zT_in 1114 (by decide +kernel) rfl) ?_
    obtain ⟨x4, u5, e6, h⟩ := zbind2_elim h
    refine r_callV (As := [.int (-1000004)]) (rest := []) (st1 := [.int x4]) hX dX6_undo_10 lv_RX6_83 (c_X6_finding (-1000004)  u _ _ e6) (by decide) rfl rfl (zRecv.of (q := 39) (ci := 6) rfl rfl) rfl (Nat.le_of_ble_eq_true rfl) rfl ?_
    obtain ⟨rfl, rfl⟩ := zinj2 (Option.some.inj h)
    exact r_iret hX hR dX6_undo_13
theorem dX6_tear_0 : decode cX6_tear 0 = .ok (.aload_n 0, 1) := by decide +kernel
theorem dX6_tear_1 : decode cX6_tear 1 = .ok (.getfield 304, 3) := by decide +kernel
theorem dX6_tear_4 : decode cX6_tear 4 = .ok (.ifCond .eq 7, 3) := by decide +kernel
theorem dX6_tear_7 : decode cX6_tear 7 = .ok (.iconst 1, 1) := by decide +kernel
theorem dX6_tear_8 : decode cX6_tear 8 = .ok (.goto 4, 3) := by decide +kernel
theorem dX6_tear_11 : decode cX6_tear 11 = .ok (.iconst 0, 1) := by decide +kernel
theorem dX6_tear_12 : decode cX6_tear 12 = .ok (.istore_n 1, 1) := by decide +kernel
theorem dX6_tear_13 : decode cX6_tear 13 = .ok (.aload_n 0, 1) := by decide +kernel
theorem dX6_tear_14 : decode cX6_tear 14 = .ok (.iconst 0, 1) := by decide +kernel
theorem dX6_tear_15 : decode cX6_tear 15 = .ok (.putfield 304, 3) := by decide +kernel
theorem dX6_tear_18 : decode cX6_tear 18 = .ok (.iload_n 1, 1) := by decide +kernel
theorem dX6_tear_19 : decode cX6_tear 19 = .ok (.ireturn, 1) := by decide +kernel
def m_X6_tear  (u : zM) : Int32 × zM :=
  (if (u 39 2) = 0 then
zlet (zst u 39 2 0) (fun u2 => (0, u2))
else
zlet (zst u 39 2 0) (fun u4 => (1, u4)))
set_option maxHeartbeats 4000000 in
set_option maxRecDepth 100000 in
theorem c_X6_tear    (u : zM) (r : Int32) (u' : zM) (h : m_X6_tear u = (r, u')) : zCt 1 yX6_tear cX6_tear 2 (some .int) (fun E => [.ref (zad E 39)]) u (fun _ => some (.int r)) u' := by
  refine zCt.of (by decide +kernel) (fun E => Nat.le_of_ble_eq_true rfl) (fun X hX hR => ?_)
  have hX : zGood X RX6 cX6_tear 2 1 := hX
  show zG X u 0 [(0, .ref (zad X.1 39))] []
  unfold m_X6_tear at h
  refine r_aload_n hX dX6_tear_0 0 rfl rfl ?_
  refine r_getI hX dX6_tear_1 f_RX6_304 zi_39_2 ?_
  refine r_if_eq (tgt := 11) hX dX6_tear_4 (by decide) (fun c1 => ?_) (fun c1 => ?_)
  · have h := (if_pos c1).symm.trans h
    refine r_iconst (v := 0) hX dX6_tear_11 (by decide) ?_
    refine r_istore_n (y := 0) (L' := [(1, .int 0), (0, .ref (zad X.1 39))]) hX dX6_tear_12 rfl (by decide) rfl rfl ?_
    refine r_aload_n hX dX6_tear_13 1 rfl rfl ?_
    refine r_iconst (v := 0) hX dX6_tear_14 (by decide) ?_
    obtain ⟨u2, e3, h⟩ := zlet_elim h
    refine r_putZ hX dX6_tear_15 f_RX6_304 p_6_2 zi_39_2 (by first | exact Or.inl rfl | exact Or.inr rfl | simp) ?_
    rw [e3]
    refine r_iload_n hX dX6_tear_18 0 rfl rfl ?_
    obtain ⟨rfl, rfl⟩ := zinj2 h
    exact r_iret hX hR dX6_tear_19
  · have h := (if_neg c1).symm.trans h
    refine r_iconst (v := 1) hX dX6_tear_7 (by decide) ?_
    refine r_goto (tgt := 12) hX dX6_tear_8 (by decide) ?_
    refine r_istore_n (y := 1) (L' := [(1, .int 1), (0, .ref (zad X.1 39))]) hX dX6_tear_12 rfl (by decide) rfl rfl ?_
    refine r_aload_n hX dX6_tear_13 1 rfl rfl ?_
    refine r_iconst (v := 0) hX dX6_tear_14 (by decide) ?_
    obtain ⟨u4, e5, h⟩ := zlet_elim h
    refine r_putZ hX dX6_tear_15 f_RX6_304 p_6_2 zi_39_2 (by first | exact Or.inl rfl | exact Or.inr rfl | simp) ?_
    rw [e5]
    refine r_iload_n hX dX6_tear_18 0 rfl rfl ?_
    obtain ⟨rfl, rfl⟩ := zinj2 h
    exact r_iret hX hR dX6_tear_19
theorem dX6_count_0 : decode cX6_count 0 = .ok (.iconst 0, 1) := by decide +kernel
theorem dX6_count_1 : decode cX6_count 1 = .ok (.istore_n 2, 1) := by decide +kernel
theorem dX6_count_2 : decode cX6_count 2 = .ok (.iload_n 1, 1) := by decide +kernel
theorem dX6_count_3 : decode cX6_count 3 = .ok (.tableswitch 124 0 6 #[41, 48, 56, 68, 75, 80, 87], 41) := by decide +kernel
theorem dX6_count_44 : decode cX6_count 44 = .ok (.aload_n 0, 1) := by decide +kernel
theorem dX6_count_45 : decode cX6_count 45 = .ok (.getfield 9, 3) := by decide +kernel
theorem dX6_count_48 : decode cX6_count 48 = .ok (.iconst 0, 1) := by decide +kernel
theorem dX6_count_49 : decode cX6_count 49 = .ok (.iaload, 1) := by decide +kernel
theorem dX6_count_50 : decode cX6_count 50 = .ok (.ireturn, 1) := by decide +kernel
theorem dX6_count_51 : decode cX6_count 51 = .ok (.aload_n 0, 1) := by decide +kernel
theorem dX6_count_52 : decode cX6_count 52 = .ok (.invokevirtual 139, 3) := by decide +kernel
theorem dX6_count_55 : decode cX6_count 55 = .ok (.invokestatic 165, 3) := by decide +kernel
theorem dX6_count_58 : decode cX6_count 58 = .ok (.ireturn, 1) := by decide +kernel
theorem dX6_count_59 : decode cX6_count 59 = .ok (.aload_n 0, 1) := by decide +kernel
theorem dX6_count_60 : decode cX6_count 60 = .ok (.aload_n 0, 1) := by decide +kernel
theorem dX6_count_61 : decode cX6_count 61 = .ok (.invokevirtual 139, 3) := by decide +kernel
theorem dX6_count_64 : decode cX6_count 64 = .ok (.invokevirtual 159, 3) := by decide +kernel
theorem dX6_count_67 : decode cX6_count 67 = .ok (.invokestatic 165, 3) := by decide +kernel
theorem dX6_count_70 : decode cX6_count 70 = .ok (.ireturn, 1) := by decide +kernel
theorem dX6_count_71 : decode cX6_count 71 = .ok (.aload_n 0, 1) := by decide +kernel
theorem dX6_count_72 : decode cX6_count 72 = .ok (.getfield 9, 3) := by decide +kernel
theorem dX6_count_75 : decode cX6_count 75 = .ok (.iconst 4, 1) := by decide +kernel
theorem dX6_count_76 : decode cX6_count 76 = .ok (.iaload, 1) := by decide +kernel
theorem dX6_count_77 : decode cX6_count 77 = .ok (.ireturn, 1) := by decide +kernel
theorem dX6_count_78 : decode cX6_count 78 = .ok (.aload_n 0, 1) := by decide +kernel
theorem dX6_count_79 : decode cX6_count 79 = .ok (.getfield 213, 3) := by decide +kernel
theorem dX6_count_82 : decode cX6_count 82 = .ok (.ireturn, 1) := by decide +kernel
theorem dX6_count_83 : decode cX6_count 83 = .ok (.aload_n 0, 1) := by decide +kernel
theorem dX6_count_84 : decode cX6_count 84 = .ok (.getfield 9, 3) := by decide +kernel
theorem dX6_count_87 : decode cX6_count 87 = .ok (.iconst 5, 1) := by decide +kernel
theorem dX6_count_88 : decode cX6_count 88 = .ok (.iaload, 1) := by decide +kernel
theorem dX6_count_89 : decode cX6_count 89 = .ok (.ireturn, 1) := by decide +kernel
theorem dX6_count_90 : decode cX6_count 90 = .ok (.iconst 0, 1) := by decide +kernel
theorem dX6_count_91 : decode cX6_count 91 = .ok (.istore_n 3, 1) := by decide +kernel
theorem dX6_count_92 : decode cX6_count 92 = .ok (.iload_n 3, 1) := by decide +kernel
theorem dX6_count_93 : decode cX6_count 93 = .ok (.bipush 10, 2) := by decide +kernel
theorem dX6_count_95 : decode cX6_count 95 = .ok (.if_icmp .ge 30, 3) := by decide +kernel
theorem dX6_count_98 : decode cX6_count 98 = .ok (.iload_n 2, 1) := by decide +kernel
theorem dX6_count_99 : decode cX6_count 99 = .ok (.aload_n 0, 1) := by decide +kernel
theorem dX6_count_100 : decode cX6_count 100 = .ok (.getfield 9, 3) := by decide +kernel
theorem dX6_count_103 : decode cX6_count 103 = .ok (.sipush 150, 3) := by decide +kernel
theorem dX6_count_106 : decode cX6_count 106 = .ok (.iload_n 3, 1) := by decide +kernel
theorem dX6_count_107 : decode cX6_count 107 = .ok (.iadd, 1) := by decide +kernel
theorem dX6_count_108 : decode cX6_count 108 = .ok (.iaload, 1) := by decide +kernel
theorem dX6_count_109 : decode cX6_count 109 = .ok (.ifCond .le 7, 3) := by decide +kernel
theorem dX6_count_112 : decode cX6_count 112 = .ok (.iconst 1, 1) := by decide +kernel
theorem dX6_count_113 : decode cX6_count 113 = .ok (.goto 4, 3) := by decide +kernel
theorem dX6_count_116 : decode cX6_count 116 = .ok (.iconst 0, 1) := by decide +kernel
theorem dX6_count_117 : decode cX6_count 117 = .ok (.iadd, 1) := by decide +kernel
theorem dX6_count_118 : decode cX6_count 118 = .ok (.istore_n 2, 1) := by decide +kernel
theorem dX6_count_119 : decode cX6_count 119 = .ok (.iinc 3 1, 3) := by decide +kernel
theorem dX6_count_122 : decode cX6_count 122 = .ok (.goto (-30), 3) := by decide +kernel
theorem dX6_count_125 : decode cX6_count 125 = .ok (.iload_n 2, 1) := by decide +kernel
theorem dX6_count_126 : decode cX6_count 126 = .ok (.ireturn, 1) := by decide +kernel
theorem dX6_count_127 : decode cX6_count 127 = .ok (.aload_n 0, 1) := by decide +kernel
theorem dX6_count_128 : decode cX6_count 128 = .ok (.ldc 78, 2) := by decide +kernel
theorem dX6_count_130 : decode cX6_count 130 = .ok (.invokevirtual 83, 3) := by decide +kernel
theorem dX6_count_133 : decode cX6_count 133 = .ok (.ireturn, 1) := by decide +kernel
def m_X6_count_b0 (u : zM) (x19 : Int32) (x20 : Int32) : Option ((Int32 × Int32) ⊕ (Int32)) :=
  (if 10 ≤ x20 then
some (.inr x19)
else
zbind (zld u 40 160 (150 + x20)) (fun x24 => (if x24 ≤ 0 then
some (.inl ((x19 + 0), (x20 + 1)))
else
some (.inl ((x19 + 1), (x20 + 1))))))
def m_X6_count (a1 : Int32) (u : zM) : Option (Int32 × zM) :=
  (if a1 = 0 then
some ((u 40 0), u)
else
if a1 = 1 then
zbind (m_X6_hereSet u) (fun x3 => zbind (m_X6_bits x3) (fun x5 => some (x5, u)))
else
if a1 = 2 then
zbind (m_X6_hereSet u) (fun x8 => zbind2 (m_X6_fitOf x8 u) (fun x10 u11 => zbind (m_X6_bits x10) (fun x13 => some (x13, u11))))
else
if a1 = 3 then
some ((u 40 4), u)
else
if a1 = 4 then
some ((u 39 12), u)
else
if a1 = 5 then
some ((u 40 5), u)
else
if a1 = 6 then
zbind (zit zF (fun s : Int32 × Int32 => m_X6_count_b0 u s.1 s.2) (0, 0)) (fun x21 =>
some (x21, u))
else
zbind2 (m_X6_finding (-1000001) u) (fun x27 u28 => some (x27, u28)))
set_option maxHeartbeats 4000000 in
set_option maxRecDepth 100000 in
theorem c_X6_count (a1 : Int32)   (u : zM) (r : Int32) (u' : zM) (h : m_X6_count a1 u = some (r, u')) : zCt 7 yX6_count cX6_count 4 (some .int) (fun E => [.ref (zad E 39), .int a1]) u (fun _ => some (.int r)) u' := by
  refine zCt.of (by decide +kernel) (fun E => Nat.le_of_ble_eq_true rfl) (fun X hX hR => ?_)
  have hX : zGood X RX6 cX6_count 4 7 := hX
  show zG X u 0 [(0, .ref (zad X.1 39)), (1, .int a1)] []
  unfold m_X6_count at h
  refine r_iconst (v := 0) hX dX6_count_0 (by decide) ?_
  refine r_istore_n (y := 0) (L' := [(2, .int 0), (0, .ref (zad X.1 39)), (1, .int a1)]) hX dX6_count_1 rfl (by decide) rfl rfl ?_
  refine r_iload_n hX dX6_count_2 2 rfl rfl ?_
  by_cases c1 : a1 = 0
  · have h := (if_pos c1).symm.trans h
    refine r_tsIn (v := 0) (off := 41) (tgt := 44) hX dX6_count_3 c1 (by decide) (by decide) (by decide +kernel) (by decide) ?_
    refine r_aload_n hX dX6_count_44 1 rfl rfl ?_
    refine r_getR hX dX6_count_45 f_RX6_9 zr_39_0 ?_
    refine r_iconst (v := 0) hX dX6_count_48 (by decide) ?_
    refine r_ialdC (j := 0) hX dX6_count_49 rfl (by decide +kernel) ?_
    obtain ⟨rfl, rfl⟩ := zinj2 (Option.some.inj h)
    exact r_iret hX hR dX6_count_50
  have h := (if_neg c1).symm.trans h
  by_cases c2 : a1 = 1
  · have h := (if_pos c2).symm.trans h
    refine r_tsIn (v := 1) (off := 48) (tgt := 51) hX dX6_count_3 c2 (by decide) (by decide) (by decide +kernel) (by decide) ?_
    refine r_aload_n hX dX6_count_51 1 rfl rfl ?_
    obtain ⟨x3, e4, h⟩ := zbind_elim h
    refine r_callV (As := []) (rest := []) (st1 := [.int x3]) hX dX6_count_52 lv_RX6_139 (c_X6_hereSet   u _ e4) (by decide) rfl rfl (zRecv.of (q := 39) (ci := 6) rfl rfl) rfl (Nat.le_of_ble_eq_true rfl) rfl ?_
    obtain ⟨x5, e6, h⟩ := zbind_elim h
    refine r_callS (As := [.int x3]) (rest := []) (st1 := [.int x5]) hX dX6_count_55 ls_RX6_165 (c_X6_bits x3  u _ e6) (by decide) rfl rfl rfl (Nat.le_of_ble_eq_true rfl) rfl ?_
    obtain ⟨rfl, rfl⟩ := zinj2 (Option.some.inj h)
    exact r_iret hX hR dX6_count_58
  have h := (if_neg c2).symm.trans h
  by_cases c7 : a1 = 2
  · have h := (if_pos c7).symm.trans h
    refine r_tsIn (v := 2) (off := 56) (tgt := 59) hX dX6_count_3 c7 (by decide) (by decide) (by decide +kernel) (by decide) ?_
    refine r_aload_n hX dX6_count_59 1 rfl rfl ?_
    refine r_aload_n hX dX6_count_60 1 rfl rfl ?_
    obtain ⟨x8, e9, h⟩ := zbind_elim h
    refine r_callV (As := []) (rest := [.ref (zad X.1 39)]) (st1 := [.int x8, .ref (zad X.1 39)]) hX dX6_count_61 lv_RX6_139 (c_X6_hereSet   u _ e9) (by decide) rfl rfl (zRecv.of (q := 39) (ci := 6) rfl rfl) rfl (Nat.le_of_ble_eq_true rfl) rfl ?_
    obtain ⟨x10, u11, e12, h⟩ := zbind2_elim h
    refine r_callV (As := [.int x8]) (rest := []) (st1 := [.int x10]) hX dX6_count_64 lv_RX6_159 (c_X6_fitOf x8  u _ _ e12) (by decide) rfl rfl (zRecv.of (q := 39) (ci := 6) rfl rfl) rfl (Nat.le_of_ble_eq_true rfl) rfl ?_
    obtain ⟨x13, e14, h⟩ := zbind_elim h
    refine r_callS (As := [.int x10]) (rest := []) (st1 := [.int x13]) hX dX6_count_67 ls_RX6_165 (c_X6_bits x10  u11 _ e14) (by decide) rfl rfl rfl (Nat.le_of_ble_eq_true rfl) rfl ?_
    obtain ⟨rfl, rfl⟩ := zinj2 (Option.some.inj h)
    exact r_iret hX hR dX6_count_70
  have h := (if_neg c7).symm.trans h
  by_cases c15 : a1 = 3
  · have h := (if_pos c15).symm.trans h
    refine r_tsIn (v := 3) (off := 68) (tgt := 71) hX dX6_count_3 c15 (by decide) (by decide) (by decide +kernel) (by decide) ?_
    refine r_aload_n hX dX6_count_71 1 rfl rfl ?_
    refine r_getR hX dX6_count_72 f_RX6_9 zr_39_0 ?_
    refine r_iconst (v := 4) hX dX6_count_75 (by decide) ?_
    refine r_ialdC (j := 4) hX dX6_count_76 rfl (by decide +kernel) ?_
    obtain ⟨rfl, rfl⟩ := zinj2 (Option.some.inj h)
    exact r_iret hX hR dX6_count_77
  have h := (if_neg c15).symm.trans h
  by_cases c16 : a1 = 4
  · have h := (if_pos c16).symm.trans h
    refine r_tsIn (v := 4) (off := 75) (tgt := 78) hX dX6_count_3 c16 (by decide) (by decide) (by decide +kernel) (by decide) ?_
    refine r_aload_n hX dX6_count_78 1 rfl rfl ?_
    refine r_getI hX dX6_count_79 f_RX6_213 zi_39_12 ?_
    obtain ⟨rfl, rfl⟩ := zinj2 (Option.some.inj h)
    exact r_iret hX hR dX6_count_82
  have h := (if_neg c16).symm.trans h
  by_cases c17 : a1 = 5
  · have h := (if_pos c17).symm.trans h
    refine r_tsIn (v := 5) (off := 80) (tgt := 83) hX dX6_count_3 c17 (by decide) (by decide) (by decide +kernel) (by decide) ?_
    refine r_aload_n hX dX6_count_83 1 rfl rfl ?_
    refine r_getR hX dX6_count_84 f_RX6_9 zr_39_0 ?_
    refine r_iconst (v := 5) hX dX6_count_87 (by decide) ?_
    refine r_ialdC (j := 5) hX dX6_count_88 rfl (by decide +kernel) ?_
    obtain ⟨rfl, rfl⟩ := zinj2 (Option.some.inj h)
    exact r_iret hX hR dX6_count_89
  have h := (if_neg c17).symm.trans h
  by_cases c18 : a1 = 6
  · have h := (if_pos c18).symm.trans h
    refine r_tsIn (v := 6) (off := 87) (tgt := 90) hX dX6_count_3 c18 (by decide) (by decide) (by decide +kernel) (by decide) ?_
    refine r_iconst (v := 0) hX dX6_count_90 (by decide) ?_
    refine r_istore_n (y := 0) (L' := [(3, .int 0), (2, .int 0), (0, .ref (zad X.1 39)), (1, .int a1)]) hX dX6_count_91 rfl (by decide) rfl rfl ?_
    refine r_sub [2, 1, 0] (L' := [(0, .ref (zad X.1 39)), (2, .int 0), (3, .int 0)]) rfl ?_
    obtain ⟨x21, h22, h⟩ := zbind_elim h
    have Jh22 : zG X u 125 [(2, .int x21)] [] := by
        refine r_iload_n hX dX6_count_125 0 rfl rfl ?_
        obtain ⟨rfl, rfl⟩ := zinj2 (Option.some.inj h)
        exact r_iret hX hR dX6_count_126
    clear h
    refine zit_walk (P := fun s0 : Int32 × Int32 => zG X u 92 [(0, .ref (zad X.1 39)), (2, .int (s0.1)), (3, .int (s0.2))] []) ?_ zF _ h22
    clear h22
    intro s0 y0 h0b hin0 hout0
    obtain ⟨x19, x20⟩ := s0
    have h0b : m_X6_count_b0 u x19 x20 = some y0 := h0b
    unfold m_X6_count_b0 at h0b
    show zG X u 92 [(0, .ref (zad X.1 39)), (2, .int x19), (3, .int x20)] []
    refine r_iload_n hX dX6_count_92 2 rfl rfl ?_
    refine r_bipush (v := 10) hX dX6_count_93 (by decide) ?_
    refine r_icmp_ge (tgt := 125) hX dX6_count_95 (by decide) (fun c23 => ?_) (fun c23 => ?_)
    · have h0b := (if_pos c23).symm.trans h0b
      refine r_sub [1] (L' := [(2, .int x19)]) rfl ?_
      have h0b := hout0 _ (Option.some.inj h0b).symm
      obtain rfl := h0b
      exact Jh22
    · have h0b := (if_neg c23).symm.trans h0b
      refine r_iload_n hX dX6_count_98 1 rfl rfl ?_
      refine r_aload_n hX dX6_count_99 0 rfl rfl ?_
      refine r_getR hX dX6_count_100 f_RX6_9 zr_39_0 ?_
      refine r_sipush (v := 150) hX dX6_count_103 (by decide) ?_
      refine r_iload_n hX dX6_count_106 2 rfl rfl ?_
      refine r_iadd hX dX6_count_107 ?_
      obtain ⟨x24, e25, h0b⟩ := zbind_elim h0b
      refine r_iald hX dX6_count_108 rfl e25 ?_
      refine r_if_le (tgt := 116) hX dX6_count_109 (by decide) (fun c26 => ?_) (fun c26 => ?_)
      · have h0b := (if_pos c26).symm.trans h0b
        refine r_iconst (v := 0) hX dX6_count_116 (by decide) ?_
        refine r_iadd hX dX6_count_117 ?_
        refine r_istore_n (y := (x19 + 0)) (L' := [(2, .int (x19 + 0)), (0, .ref (zad X.1 39)), (3, .int x20)]) hX dX6_count_118 rfl (by decide) rfl rfl ?_
        refine r_iinc (v := (x20 + 1)) (L' := [(3, .int (x20 + 1)), (2, .int (x19 + 0)), (0, .ref (zad X.1 39))]) hX dX6_count_119 (by decide) 2 rfl rfl rfl ?_
        refine r_goto (tgt := 92) hX dX6_count_122 (by decide) ?_
        refine r_sub [2, 1, 0] (L' := [(0, .ref (zad X.1 39)), (2, .int (x19 + 0)), (3, .int (x20 + 1))]) rfl ?_
        exact hin0 _ (Option.some.inj h0b).symm
      · have h0b := (if_neg c26).symm.trans h0b
        refine r_iconst (v := 1) hX dX6_count_112 (by decide) ?_
        refine r_goto (tgt := 117) hX dX6_count_113 (by decide) ?_
        refine r_iadd hX dX6_count_117 ?_
        refine r_istore_n (y := (x19 + 1)) (L' := [(2, .int (x19 + 1)), (0, .ref (zad X.1 39)), (3, .int x20)]) hX dX6_count_118 rfl (by decide) rfl rfl ?_
        refine r_iinc (v := (x20 + 1)) (L' := [(3, .int (x20 + 1)), (2, .int (x19 + 1)), (0, .ref (zad X.1 39))]) hX dX6_count_119 (by decide) 2 rfl rfl rfl ?_
        refine r_goto (tgt := 92) hX dX6_count_122 (by decide) ?_
        refine r_sub [2, 1, 0] (L' := [(0, .ref (zad X.1 39)), (2, .int (x19 + 1)), (3, .int (x20 + 1))]) rfl ?_
        exact hin0 _ (Option.some.inj h0b).symm
  have h := (if_neg c18).symm.trans h
  refine r_tsOut (tgt := 127) hX dX6_count_3 (by first | exact zts_out a1 0 (by decide) 7 (by decide) (fun k hk => match k, hk with | 0, _ => c1 | 1, _ => c2 | 2, _ => c7 | 3, _ => c15 | 4, _ => c16 | 5, _ => c17 | 6, _ => c18 | k + 7, hk => absurd hk (by omega))) (by decide) ?_
  refine r_aload_n hX dX6_count_127 1 rfl rfl ?_
  refine r_ldc (v := (-1000001)) hX dX6_count_128 (zT_in 1041 (by decide +kernel) rfl) ?_
  obtain ⟨x27, u28, e29, h⟩ := zbind2_elim h
  refine r_callV (As := [.int (-1000001)]) (rest := []) (st1 := [.int x27]) hX dX6_count_130 lv_RX6_83 (c_X6_finding (-1000001)  u _ _ e29) (by decide) rfl rfl (zRecv.of (q := 39) (ci := 6) rfl rfl) rfl (Nat.le_of_ble_eq_true rfl) rfl ?_
  obtain ⟨rfl, rfl⟩ := zinj2 (Option.some.inj h)
  exact r_iret hX hR dX6_count_133
theorem dX6_status_0 : decode cX6_status 0 = .ok (.iload_n 1, 1) := by decide +kernel
theorem dX6_status_1 : decode cX6_status 1 = .ok (.iconst (-1), 1) := by decide +kernel
theorem dX6_status_2 : decode cX6_status 2 = .ok (.bipush 6, 2) := by decide +kernel
theorem dX6_status_4 : decode cX6_status 4 = .ok (.invokestatic 79, 3) := by decide +kernel
theorem dX6_status_7 : decode cX6_status 7 = .ok (.ifCond .eq 14, 3) := by decide +kernel
theorem dX6_status_10 : decode cX6_status 10 = .ok (.aload_n 0, 1) := by decide +kernel
theorem dX6_status_11 : decode cX6_status 11 = .ok (.getfield 16, 3) := by decide +kernel
theorem dX6_status_14 : decode cX6_status 14 = .ok (.iload_n 1, 1) := by decide +kernel
theorem dX6_status_15 : decode cX6_status 15 = .ok (.iconst 1, 1) := by decide +kernel
theorem dX6_status_16 : decode cX6_status 16 = .ok (.iadd, 1) := by decide +kernel
theorem dX6_status_17 : decode cX6_status 17 = .ok (.iaload, 1) := by decide +kernel
theorem dX6_status_18 : decode cX6_status 18 = .ok (.goto 9, 3) := by decide +kernel
theorem dX6_status_21 : decode cX6_status 21 = .ok (.aload_n 0, 1) := by decide +kernel
theorem dX6_status_22 : decode cX6_status 22 = .ok (.ldc 78, 2) := by decide +kernel
theorem dX6_status_24 : decode cX6_status 24 = .ok (.invokevirtual 83, 3) := by decide +kernel
theorem dX6_status_27 : decode cX6_status 27 = .ok (.ireturn, 1) := by decide +kernel
def m_X6_status (a1 : Int32) (u : zM) : Option (Int32 × zM) :=
  (if (m_X6_within a1 (-1) 6) = 0 then
zbind2 (m_X6_finding (-1000001) u) (fun x2 u3 => some (x2, u3))
else
zbind (zld u 42 8 (a1 + 1)) (fun x5 => some (x5, u)))
set_option maxHeartbeats 4000000 in
set_option maxRecDepth 100000 in
theorem c_X6_status (a1 : Int32)   (u : zM) (r : Int32) (u' : zM) (h : m_X6_status a1 u = some (r, u')) : zCt 2 yX6_status cX6_status 2 (some .int) (fun E => [.ref (zad E 39), .int a1]) u (fun _ => some (.int r)) u' := by
  refine zCt.of (by decide +kernel) (fun E => Nat.le_of_ble_eq_true rfl) (fun X hX hR => ?_)
  have hX : zGood X RX6 cX6_status 2 2 := hX
  show zG X u 0 [(0, .ref (zad X.1 39)), (1, .int a1)] []
  unfold m_X6_status at h
  refine r_iload_n hX dX6_status_0 1 rfl rfl ?_
  refine r_iconst (v := (-1)) hX dX6_status_1 (by decide) ?_
  refine r_bipush (v := 6) hX dX6_status_2 (by decide) ?_
  refine r_callS (As := [.int a1, .int (-1), .int 6]) (rest := []) (st1 := [.int (m_X6_within a1 (-1) 6)]) hX dX6_status_4 ls_RX6_79 (c_X6_within a1 (-1) 6  u _ rfl) (by decide) rfl rfl rfl (Nat.le_of_ble_eq_true rfl) rfl ?_
  refine r_if_eq (tgt := 21) hX dX6_status_7 (by decide) (fun c1 => ?_) (fun c1 => ?_)
  · have h := (if_pos c1).symm.trans h
    refine r_aload_n hX dX6_status_21 0 rfl rfl ?_
    refine r_ldc (v := (-1000001)) hX dX6_status_22 (zT_in 1041 (by decide +kernel) rfl) ?_
    obtain ⟨x2, u3, e4, h⟩ := zbind2_elim h
    refine r_callV (As := [.int (-1000001)]) (rest := []) (st1 := [.int x2]) hX dX6_status_24 lv_RX6_83 (c_X6_finding (-1000001)  u _ _ e4) (by decide) rfl rfl (zRecv.of (q := 39) (ci := 6) rfl rfl) rfl (Nat.le_of_ble_eq_true rfl) rfl ?_
    obtain ⟨rfl, rfl⟩ := zinj2 (Option.some.inj h)
    exact r_iret hX hR dX6_status_27
  · have h := (if_neg c1).symm.trans h
    refine r_aload_n hX dX6_status_10 0 rfl rfl ?_
    refine r_getR hX dX6_status_11 f_RX6_16 zr_39_3 ?_
    refine r_iload_n hX dX6_status_14 1 rfl rfl ?_
    refine r_iconst (v := 1) hX dX6_status_15 (by decide) ?_
    refine r_iadd hX dX6_status_16 ?_
    obtain ⟨x5, e6, h⟩ := zbind_elim h
    refine r_iald hX dX6_status_17 rfl e6 ?_
    refine r_goto (tgt := 27) hX dX6_status_18 (by decide) ?_
    obtain ⟨rfl, rfl⟩ := zinj2 (Option.some.inj h)
    exact r_iret hX hR dX6_status_27
