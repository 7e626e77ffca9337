/-! MODELS AND CONTRACTS, by program (wip/whole/gen_all.py): X6_findLived, X6_lived, X6_surely, X6_drawn, X6_slip -/
theorem dX6_findLived_0 : decode cX6_findLived 0 = .ok (.iconst 0, 1) := by decide +kernel
theorem dX6_findLived_1 : decode cX6_findLived 1 = .ok (.istore_n 2, 1) := by decide +kernel
theorem dX6_findLived_2 : decode cX6_findLived 2 = .ok (.aload_n 0, 1) := by decide +kernel
theorem dX6_findLived_3 : decode cX6_findLived 3 = .ok (.sipush 4095, 3) := by decide +kernel
theorem dX6_findLived_6 : decode cX6_findLived 6 = .ok (.putfield 197, 3) := by decide +kernel
theorem dX6_findLived_9 : decode cX6_findLived 9 = .ok (.aload_n 0, 1) := by decide +kernel
theorem dX6_findLived_10 : decode cX6_findLived 10 = .ok (.iconst 0, 1) := by decide +kernel
theorem dX6_findLived_11 : decode cX6_findLived 11 = .ok (.putfield 200, 3) := by decide +kernel
theorem dX6_findLived_14 : decode cX6_findLived 14 = .ok (.iconst 1, 1) := by decide +kernel
theorem dX6_findLived_15 : decode cX6_findLived 15 = .ok (.istore_n 3, 1) := by decide +kernel
theorem dX6_findLived_16 : decode cX6_findLived 16 = .ok (.iload_n 3, 1) := by decide +kernel
theorem dX6_findLived_17 : decode cX6_findLived 17 = .ok (.iconst 1, 1) := by decide +kernel
theorem dX6_findLived_18 : decode cX6_findLived 18 = .ok (.aload_n 0, 1) := by decide +kernel
theorem dX6_findLived_19 : decode cX6_findLived 19 = .ok (.getfield 9, 3) := by decide +kernel
theorem dX6_findLived_22 : decode cX6_findLived 22 = .ok (.iconst 0, 1) := by decide +kernel
theorem dX6_findLived_23 : decode cX6_findLived 23 = .ok (.iaload, 1) := by decide +kernel
theorem dX6_findLived_24 : decode cX6_findLived 24 = .ok (.ishl, 1) := by decide +kernel
theorem dX6_findLived_25 : decode cX6_findLived 25 = .ok (.if_icmp .ge 117, 3) := by decide +kernel
theorem dX6_findLived_28 : decode cX6_findLived 28 = .ok (.iconst 1, 1) := by decide +kernel
theorem dX6_findLived_29 : decode cX6_findLived 29 = .ok (.istore 4, 2) := by decide +kernel
theorem dX6_findLived_31 : decode cX6_findLived 31 = .ok (.iconst 0, 1) := by decide +kernel
theorem dX6_findLived_32 : decode cX6_findLived 32 = .ok (.istore 5, 2) := by decide +kernel
theorem dX6_findLived_34 : decode cX6_findLived 34 = .ok (.iload 5, 2) := by decide +kernel
theorem dX6_findLived_36 : decode cX6_findLived 36 = .ok (.iconst 3, 1) := by decide +kernel
theorem dX6_findLived_37 : decode cX6_findLived 37 = .ok (.if_icmp .ge 45, 3) := by decide +kernel
theorem dX6_findLived_40 : decode cX6_findLived 40 = .ok (.iload 4, 2) := by decide +kernel
theorem dX6_findLived_42 : decode cX6_findLived 42 = .ok (.ifCond .eq 40, 3) := by decide +kernel
theorem dX6_findLived_45 : decode cX6_findLived 45 = .ok (.aload_n 0, 1) := by decide +kernel
theorem dX6_findLived_46 : decode cX6_findLived 46 = .ok (.iload_n 3, 1) := by decide +kernel
theorem dX6_findLived_47 : decode cX6_findLived 47 = .ok (.iload 5, 2) := by decide +kernel
theorem dX6_findLived_49 : decode cX6_findLived 49 = .ok (.invokevirtual 133, 3) := by decide +kernel
theorem dX6_findLived_52 : decode cX6_findLived 52 = .ok (.aload_n 0, 1) := by decide +kernel
theorem dX6_findLived_53 : decode cX6_findLived 53 = .ok (.getfield 9, 3) := by decide +kernel
theorem dX6_findLived_56 : decode cX6_findLived 56 = .ok (.bipush 90, 2) := by decide +kernel
theorem dX6_findLived_58 : decode cX6_findLived 58 = .ok (.iconst 3, 1) := by decide +kernel
theorem dX6_findLived_59 : decode cX6_findLived 59 = .ok (.iload_n 1, 1) := by decide +kernel
theorem dX6_findLived_60 : decode cX6_findLived 60 = .ok (.imul, 1) := by decide +kernel
theorem dX6_findLived_61 : decode cX6_findLived 61 = .ok (.iadd, 1) := by decide +kernel
theorem dX6_findLived_62 : decode cX6_findLived 62 = .ok (.iload 5, 2) := by decide +kernel
theorem dX6_findLived_64 : decode cX6_findLived 64 = .ok (.iadd, 1) := by decide +kernel
theorem dX6_findLived_65 : decode cX6_findLived 65 = .ok (.iaload, 1) := by decide +kernel
theorem dX6_findLived_66 : decode cX6_findLived 66 = .ok (.if_icmp .ne 7, 3) := by decide +kernel
theorem dX6_findLived_69 : decode cX6_findLived 69 = .ok (.iconst 1, 1) := by decide +kernel
theorem dX6_findLived_70 : decode cX6_findLived 70 = .ok (.goto 4, 3) := by decide +kernel
theorem dX6_findLived_73 : decode cX6_findLived 73 = .ok (.iconst 0, 1) := by decide +kernel
theorem dX6_findLived_74 : decode cX6_findLived 74 = .ok (.istore 4, 2) := by decide +kernel
theorem dX6_findLived_76 : decode cX6_findLived 76 = .ok (.iinc 5 1, 3) := by decide +kernel
theorem dX6_findLived_79 : decode cX6_findLived 79 = .ok (.goto (-45), 3) := by decide +kernel
theorem dX6_findLived_82 : decode cX6_findLived 82 = .ok (.iload_n 2, 1) := by decide +kernel
theorem dX6_findLived_83 : decode cX6_findLived 83 = .ok (.iload 4, 2) := by decide +kernel
theorem dX6_findLived_85 : decode cX6_findLived 85 = .ok (.ifCond .eq 7, 3) := by decide +kernel
theorem dX6_findLived_88 : decode cX6_findLived 88 = .ok (.iconst 1, 1) := by decide +kernel
theorem dX6_findLived_89 : decode cX6_findLived 89 = .ok (.goto 4, 3) := by decide +kernel
theorem dX6_findLived_92 : decode cX6_findLived 92 = .ok (.iconst 0, 1) := by decide +kernel
theorem dX6_findLived_93 : decode cX6_findLived 93 = .ok (.iadd, 1) := by decide +kernel
theorem dX6_findLived_94 : decode cX6_findLived 94 = .ok (.istore_n 2, 1) := by decide +kernel
theorem dX6_findLived_95 : decode cX6_findLived 95 = .ok (.aload_n 0, 1) := by decide +kernel
theorem dX6_findLived_96 : decode cX6_findLived 96 = .ok (.dup, 1) := by decide +kernel
theorem dX6_findLived_97 : decode cX6_findLived 97 = .ok (.getfield 197, 3) := by decide +kernel
theorem dX6_findLived_100 : decode cX6_findLived 100 = .ok (.iload 4, 2) := by decide +kernel
theorem dX6_findLived_102 : decode cX6_findLived 102 = .ok (.ifCond .eq 7, 3) := by decide +kernel
theorem dX6_findLived_105 : decode cX6_findLived 105 = .ok (.iload_n 3, 1) := by decide +kernel
theorem dX6_findLived_106 : decode cX6_findLived 106 = .ok (.goto 7, 3) := by decide +kernel
theorem dX6_findLived_109 : decode cX6_findLived 109 = .ok (.aload_n 0, 1) := by decide +kernel
theorem dX6_findLived_110 : decode cX6_findLived 110 = .ok (.getfield 197, 3) := by decide +kernel
theorem dX6_findLived_113 : decode cX6_findLived 113 = .ok (.iand, 1) := by decide +kernel
theorem dX6_findLived_114 : decode cX6_findLived 114 = .ok (.putfield 197, 3) := by decide +kernel
theorem dX6_findLived_117 : decode cX6_findLived 117 = .ok (.aload_n 0, 1) := by decide +kernel
theorem dX6_findLived_118 : decode cX6_findLived 118 = .ok (.dup, 1) := by decide +kernel
theorem dX6_findLived_119 : decode cX6_findLived 119 = .ok (.getfield 200, 3) := by decide +kernel
theorem dX6_findLived_122 : decode cX6_findLived 122 = .ok (.iload 4, 2) := by decide +kernel
theorem dX6_findLived_124 : decode cX6_findLived 124 = .ok (.ifCond .eq 7, 3) := by decide +kernel
theorem dX6_findLived_127 : decode cX6_findLived 127 = .ok (.iload_n 3, 1) := by decide +kernel
theorem dX6_findLived_128 : decode cX6_findLived 128 = .ok (.goto 4, 3) := by decide +kernel
theorem dX6_findLived_131 : decode cX6_findLived 131 = .ok (.iconst 0, 1) := by decide +kernel
theorem dX6_findLived_132 : decode cX6_findLived 132 = .ok (.ior, 1) := by decide +kernel
theorem dX6_findLived_133 : decode cX6_findLived 133 = .ok (.putfield 200, 3) := by decide +kernel
theorem dX6_findLived_136 : decode cX6_findLived 136 = .ok (.iinc 3 1, 3) := by decide +kernel
theorem dX6_findLived_139 : decode cX6_findLived 139 = .ok (.goto (-123), 3) := by decide +kernel
theorem dX6_findLived_142 : decode cX6_findLived 142 = .ok (.iload_n 2, 1) := by decide +kernel
theorem dX6_findLived_143 : decode cX6_findLived 143 = .ok (.ireturn, 1) := by decide +kernel
def m_X6_findLived_b1 (x6 : Int32) (a1 : Int32) (x12 : Int32) (x13 : Int32) (u14 : zM) : Option ((Int32 × Int32 × zM) ⊕ (Int32 × zM)) :=
  (if 3 ≤ x13 then
some (.inr (x12, u14))
else
(if x12 = 0 then
some (.inr (x12, u14))
else
zbind2 (m_X6_cutFor x6 x13 u14) (fun x20 u21 => zbind (zld u21 40 160 ((90 + (3 * a1)) + x13)) (fun x23 => (if x20 = x23 then
some (.inl (1, (x13 + 1), u21))
else
some (.inl (0, (x13 + 1), u21)))))))
def m_X6_findLived_b0 (a1 : Int32) (x5 : Int32) (x6 : Int32) (u7 : zM) : Option ((Int32 × Int32 × zM) ⊕ (Int32 × zM)) :=
  (if (zshl 1 (u7 40 0)) ≤ x6 then
some (.inr (x5, u7))
else
zbind2 (zit zF (fun s : Int32 × Int32 × zM => m_X6_findLived_b1 x6 a1 s.1 s.2.1 s.2.2) (1, 0, u7)) (fun x15 u16 =>
zlet ((if x15 = 0 then
0
else
1) : Int32) (fun x26 =>
(if x15 = 0 then
zlet (zst u16 39 9 ((u16 39 9) &&& (u16 39 9))) (fun u30 => (if x15 = 0 then
zlet (zst u30 39 10 ((u30 39 10) ||| 0)) (fun u33 => some (.inl ((x5 + x26), (x6 + 1), u33)))
else
zlet (zst u30 39 10 ((u30 39 10) ||| x6)) (fun u35 => some (.inl ((x5 + x26), (x6 + 1), u35)))))
else
zlet (zst u16 39 9 ((u16 39 9) &&& x6)) (fun u37 => (if x15 = 0 then
zlet (zst u37 39 10 ((u37 39 10) ||| 0)) (fun u40 => some (.inl ((x5 + x26), (x6 + 1), u40)))
else
zlet (zst u37 39 10 ((u37 39 10) ||| x6)) (fun u42 => some (.inl ((x5 + x26), (x6 + 1), u42)))))))))
def m_X6_findLived (a1 : Int32) (u : zM) : Option (Int32 × zM) :=
  zlet (zst u 39 9 4095) (fun u1 => zlet (zst u1 39 10 0) (fun u3 => zbind2 (zit zF (fun s : Int32 × Int32 × zM => m_X6_findLived_b0 a1 s.1 s.2.1 s.2.2) (0, 1, u3)) (fun x8 u9 =>
some (x8, u9))))
set_option maxHeartbeats 4000000 in
set_option maxRecDepth 100000 in
theorem c_X6_findLived (a1 : Int32)   (u : zM) (r : Int32) (u' : zM) (h : m_X6_findLived a1 u = some (r, u')) : zCt 5 yX6_findLived cX6_findLived 6 (some .int) (fun E => [.ref (zad E 39), .int a1]) u (fun _ => some (.int r)) u' := by
  refine zCt.of (by decide +kernel) (fun E => Nat.le_of_ble_eq_true rfl) (fun X hX hR => ?_)
  have hX : zGood X RX6 cX6_findLived 6 5 := hX
  show zG X u 0 [(0, .ref (zad X.1 39)), (1, .int a1)] []
  unfold m_X6_findLived at h
  refine r_iconst (v := 0) hX dX6_findLived_0 (by decide) ?_
  refine r_istore_n (y := 0) (L' := [(2, .int 0), (0, .ref (zad X.1 39)), (1, .int a1)]) hX dX6_findLived_1 rfl (by decide) rfl rfl ?_
  refine r_aload_n hX dX6_findLived_2 1 rfl rfl ?_
  refine r_sipush (v := 4095) hX dX6_findLived_3 (by decide) ?_
  obtain ⟨u1, e2, h⟩ := zlet_elim h
  refine r_putI hX dX6_findLived_6 f_RX6_197 p_6_9 zi_39_9 ?_
  rw [e2]
  refine r_aload_n hX dX6_findLived_9 1 rfl rfl ?_
  refine r_iconst (v := 0) hX dX6_findLived_10 (by decide) ?_
  obtain ⟨u3, e4, h⟩ := zlet_elim h
  refine r_putI hX dX6_findLived_11 f_RX6_200 p_6_10 zi_39_10 ?_
  rw [e4]
  refine r_iconst (v := 1) hX dX6_findLived_14 (by decide) ?_
  refine r_istore_n (y := 1) (L' := [(3, .int 1), (2, .int 0), (0, .ref (zad X.1 39)), (1, .int a1)]) hX dX6_findLived_15 rfl (by decide) rfl rfl ?_
  refine r_sub [2, 3, 1, 0] (L' := [(0, .ref (zad X.1 39)), (1, .int a1), (2, .int 0), (3, .int 1)]) rfl ?_
  obtain ⟨x8, u9, h10, h⟩ := zbind2_elim h
  have Jh10 : zG X u9 142 [(2, .int x8)] [] := by
      refine r_iload_n hX dX6_findLived_142 0 rfl rfl ?_
      obtain ⟨rfl, rfl⟩ := zinj2 (Option.some.inj h)
      exact r_iret hX hR dX6_findLived_143
  clear h
  refine zit_walk (P := fun s0 : Int32 × Int32 × zM => zG X s0.2.2 16 [(0, .ref (zad X.1 39)), (1, .int a1), (2, .int (s0.1)), (3, .int (s0.2.1))] []) ?_ zF _ h10
  clear h10
  intro s0 y0 h0b hin0 hout0
  obtain ⟨x5, x6, u7⟩ := s0
  have h0b : m_X6_findLived_b0 a1 x5 x6 u7 = some y0 := h0b
  unfold m_X6_findLived_b0 at h0b
  show zG X u7 16 [(0, .ref (zad X.1 39)), (1, .int a1), (2, .int x5), (3, .int x6)] []
  refine r_iload_n hX dX6_findLived_16 3 rfl rfl ?_
  refine r_iconst (v := 1) hX dX6_findLived_17 (by decide) ?_
  refine r_aload_n hX dX6_findLived_18 0 rfl rfl ?_
  refine r_getR hX dX6_findLived_19 f_RX6_9 zr_39_0 ?_
  refine r_iconst (v := 0) hX dX6_findLived_22 (by decide) ?_
  refine r_ialdC (j := 0) hX dX6_findLived_23 rfl (by decide +kernel) ?_
  refine r_ishl hX dX6_findLived_24 ?_
  refine r_icmp_ge (tgt := 142) hX dX6_findLived_25 (by decide) (fun c11 => ?_) (fun c11 => ?_)
  · have h0b := (if_pos c11).symm.trans h0b
    refine r_sub [2] (L' := [(2, .int x5)]) rfl ?_
    have h0b := hout0 _ (Option.some.inj h0b).symm
    obtain ⟨rfl, rfl⟩ := zinj2 h0b
    exact Jh10
  · have h0b := (if_neg c11).symm.trans h0b
    refine r_iconst (v := 1) hX dX6_findLived_28 (by decide) ?_
    refine r_istore (y := 1) (L' := [(4, .int 1), (0, .ref (zad X.1 39)), (1, .int a1), (2, .int x5), (3, .int x6)]) hX dX6_findLived_29 (by decide) rfl rfl ?_
    refine r_iconst (v := 0) hX dX6_findLived_31 (by decide) ?_
    refine r_istore (y := 0) (L' := [(5, .int 0), (4, .int 1), (0, .ref (zad X.1 39)), (1, .int a1), (2, .int x5), (3, .int x6)]) hX dX6_findLived_32 (by decide) rfl rfl ?_
    refine r_sub [2, 3, 4, 5, 1, 0] (L' := [(0, .ref (zad X.1 39)), (1, .int a1), (2, .int x5), (3, .int x6), (4, .int 1), (5, .int 0)]) rfl ?_
    obtain ⟨x15, u16, h17, h0b⟩ := zbind2_elim h0b
    have Jh17 : zG X u16 82 [(0, .ref (zad X.1 39)), (1, .int a1), (2, .int x5), (3, .int x6), (4, .int x15)] [] := by
        refine r_iload_n hX dX6_findLived_82 2 rfl rfl ?_
        refine r_iload hX dX6_findLived_83 4 rfl ?_
        obtain ⟨x26, h27, h0b⟩ := zlet_elim h0b
        have Jh27 : zG X u16 93 [(0, .ref (zad X.1 39)), (1, .int a1), (3, .int x6), (4, .int x15)] [.int x26, .int x5] := by
            refine r_iadd hX dX6_findLived_93 ?_
            refine r_istore_n (y := (x5 + x26)) (L' := [(2, .int (x5 + x26)), (0, .ref (zad X.1 39)), (1, .int a1), (3, .int x6), (4, .int x15)]) hX dX6_findLived_94 rfl (by decide) rfl rfl ?_
            refine r_aload_n hX dX6_findLived_95 1 rfl rfl ?_
            refine r_dup hX dX6_findLived_96 rfl ?_
            refine r_getI hX dX6_findLived_97 f_RX6_197 zi_39_9 ?_
            refine r_iload hX dX6_findLived_100 4 rfl ?_
            refine r_if_eq (tgt := 109) hX dX6_findLived_102 (by decide) (fun c29 => ?_) (fun c29 => ?_)
            · have h0b := (if_pos c29).symm.trans h0b
              refine r_aload_n hX dX6_findLived_109 1 rfl rfl ?_
              refine r_getI hX dX6_findLived_110 f_RX6_197 zi_39_9 ?_
              refine r_iand hX dX6_findLived_113 ?_
              obtain ⟨u30, e31, h0b⟩ := zlet_elim h0b
              refine r_putI hX dX6_findLived_114 f_RX6_197 p_6_9 zi_39_9 ?_
              rw [e31]
              refine r_aload_n hX dX6_findLived_117 1 rfl rfl ?_
              refine r_dup hX dX6_findLived_118 rfl ?_
              refine r_getI hX dX6_findLived_119 f_RX6_200 zi_39_10 ?_
              refine r_iload hX dX6_findLived_122 4 rfl ?_
              refine r_if_eq (tgt := 131) hX dX6_findLived_124 (by decide) (fun c32 => ?_) (fun c32 => ?_)
              · have h0b := (if_pos c32).symm.trans h0b
                refine r_iconst (v := 0) hX dX6_findLived_131 (by decide) ?_
                refine r_ior hX dX6_findLived_132 ?_
                obtain ⟨u33, e34, h0b⟩ := zlet_elim h0b
                refine r_putI hX dX6_findLived_133 f_RX6_200 p_6_10 zi_39_10 ?_
                rw [e34]
                refine r_iinc (v := (x6 + 1)) (L' := [(3, .int (x6 + 1)), (2, .int (x5 + x26)), (0, .ref (zad X.1 39)), (1, .int a1), (4, .int x15)]) hX dX6_findLived_136 (by decide) 3 rfl rfl rfl ?_
                refine r_goto (tgt := 16) hX dX6_findLived_139 (by decide) ?_
                refine r_sub [2, 3, 1, 0] (L' := [(0, .ref (zad X.1 39)), (1, .int a1), (2, .int (x5 + x26)), (3, .int (x6 + 1))]) rfl ?_
                exact hin0 _ (Option.some.inj h0b).symm
              · have h0b := (if_neg c32).symm.trans h0b
                refine r_iload_n hX dX6_findLived_127 3 rfl rfl ?_
                refine r_goto (tgt := 132) hX dX6_findLived_128 (by decide) ?_
                refine r_ior hX dX6_findLived_132 ?_
                obtain ⟨u35, e36, h0b⟩ := zlet_elim h0b
                refine r_putI hX dX6_findLived_133 f_RX6_200 p_6_10 zi_39_10 ?_
                rw [e36]
                refine r_iinc (v := (x6 + 1)) (L' := [(3, .int (x6 + 1)), (2, .int (x5 + x26)), (0, .ref (zad X.1 39)), (1, .int a1), (4, .int x15)]) hX dX6_findLived_136 (by decide) 3 rfl rfl rfl ?_
                refine r_goto (tgt := 16) hX dX6_findLived_139 (by decide) ?_
                refine r_sub [2, 3, 1, 0] (L' := [(0, .ref (zad X.1 39)), (1, .int a1), (2, .int (x5 + x26)), (3, .int (x6 + 1))]) rfl ?_
                exact hin0 _ (Option.some.inj h0b).symm
            · have h0b := (if_neg c29).symm.trans h0b
              refine r_iload_n hX dX6_findLived_105 3 rfl rfl ?_
              refine r_goto (tgt := 113) hX dX6_findLived_106 (by decide) ?_
              refine r_iand hX dX6_findLived_113 ?_
              obtain ⟨u37, e38, h0b⟩ := zlet_elim h0b
              refine r_putI hX dX6_findLived_114 f_RX6_197 p_6_9 zi_39_9 ?_
              rw [e38]
              refine r_aload_n hX dX6_findLived_117 1 rfl rfl ?_
              refine r_dup hX dX6_findLived_118 rfl ?_
              refine r_getI hX dX6_findLived_119 f_RX6_200 zi_39_10 ?_
              refine r_iload hX dX6_findLived_122 4 rfl ?_
              refine r_if_eq (tgt := 131) hX dX6_findLived_124 (by decide) (fun c39 => ?_) (fun c39 => ?_)
              · have h0b := (if_pos c39).symm.trans h0b
                refine r_iconst (v := 0) hX dX6_findLived_131 (by decide) ?_
                refine r_ior hX dX6_findLived_132 ?_
                obtain ⟨u40, e41, h0b⟩ := zlet_elim h0b
                refine r_putI hX dX6_findLived_133 f_RX6_200 p_6_10 zi_39_10 ?_
                rw [e41]
                refine r_iinc (v := (x6 + 1)) (L' := [(3, .int (x6 + 1)), (2, .int (x5 + x26)), (0, .ref (zad X.1 39)), (1, .int a1), (4, .int x15)]) hX dX6_findLived_136 (by decide) 3 rfl rfl rfl ?_
                refine r_goto (tgt := 16) hX dX6_findLived_139 (by decide) ?_
                refine r_sub [2, 3, 1, 0] (L' := [(0, .ref (zad X.1 39)), (1, .int a1), (2, .int (x5 + x26)), (3, .int (x6 + 1))]) rfl ?_
                exact hin0 _ (Option.some.inj h0b).symm
              · have h0b := (if_neg c39).symm.trans h0b
                refine r_iload_n hX dX6_findLived_127 3 rfl rfl ?_
                refine r_goto (tgt := 132) hX dX6_findLived_128 (by decide) ?_
                refine r_ior hX dX6_findLived_132 ?_
                obtain ⟨u42, e43, h0b⟩ := zlet_elim h0b
                refine r_putI hX dX6_findLived_133 f_RX6_200 p_6_10 zi_39_10 ?_
                rw [e43]
                refine r_iinc (v := (x6 + 1)) (L' := [(3, .int (x6 + 1)), (2, .int (x5 + x26)), (0, .ref (zad X.1 39)), (1, .int a1), (4, .int x15)]) hX dX6_findLived_136 (by decide) 3 rfl rfl rfl ?_
                refine r_goto (tgt := 16) hX dX6_findLived_139 (by decide) ?_
                refine r_sub [2, 3, 1, 0] (L' := [(0, .ref (zad X.1 39)), (1, .int a1), (2, .int (x5 + x26)), (3, .int (x6 + 1))]) rfl ?_
                exact hin0 _ (Option.some.inj h0b).symm
        clear h0b
        refine r_if_eq (tgt := 92) hX dX6_findLived_85 (by decide) (fun c28 => ?_) (fun c28 => ?_)
        · have h27 := (if_pos c28).symm.trans h27
          refine r_iconst (v := 0) hX dX6_findLived_92 (by decide) ?_
          refine r_sub [0, 1, 3, 4] (L' := [(0, .ref (zad X.1 39)), (1, .int a1), (3, .int x6), (4, .int x15)]) rfl ?_
          obtain rfl := h27
          exact Jh27
        · have h27 := (if_neg c28).symm.trans h27
          refine r_iconst (v := 1) hX dX6_findLived_88 (by decide) ?_
          refine r_goto (tgt := 93) hX dX6_findLived_89 (by decide) ?_
          refine r_sub [0, 1, 3, 4] (L' := [(0, .ref (zad X.1 39)), (1, .int a1), (3, .int x6), (4, .int x15)]) rfl ?_
          obtain rfl := h27
          exact Jh27
    clear h0b
    refine zit_walk (P := fun s1 : Int32 × Int32 × zM => zG X s1.2.2 34 [(0, .ref (zad X.1 39)), (1, .int a1), (2, .int x5), (3, .int x6), (4, .int (s1.1)), (5, .int (s1.2.1))] []) ?_ zF _ h17
    clear h17
    intro s1 y1 h1b hin1 hout1
    obtain ⟨x12, x13, u14⟩ := s1
    have h1b : m_X6_findLived_b1 x6 a1 x12 x13 u14 = some y1 := h1b
    unfold m_X6_findLived_b1 at h1b
    show zG X u14 34 [(0, .ref (zad X.1 39)), (1, .int a1), (2, .int x5), (3, .int x6), (4, .int x12), (5, .int x13)] []
    refine r_iload hX dX6_findLived_34 5 rfl ?_
    refine r_iconst (v := 3) hX dX6_findLived_36 (by decide) ?_
    refine r_icmp_ge (tgt := 82) hX dX6_findLived_37 (by decide) (fun c18 => ?_) (fun c18 => ?_)
    · have h1b := (if_pos c18).symm.trans h1b
      refine r_sub [0, 1, 2, 3, 4] (L' := [(0, .ref (zad X.1 39)), (1, .int a1), (2, .int x5), (3, .int x6), (4, .int x12)]) rfl ?_
      have h1b := hout1 _ (Option.some.inj h1b).symm
      obtain ⟨rfl, rfl⟩ := zinj2 h1b
      exact Jh17
    · have h1b := (if_neg c18).symm.trans h1b
      refine r_iload hX dX6_findLived_40 4 rfl ?_
      refine r_if_eq (tgt := 82) hX dX6_findLived_42 (by decide) (fun c19 => ?_) (fun c19 => ?_)
      · have h1b := (if_pos c19).symm.trans h1b
        refine r_sub [0, 1, 2, 3, 4] (L' := [(0, .ref (zad X.1 39)), (1, .int a1), (2, .int x5), (3, .int x6), (4, .int x12)]) rfl ?_
        have h1b := hout1 _ (Option.some.inj h1b).symm
        obtain ⟨rfl, rfl⟩ := zinj2 h1b
        exact Jh17
      · have h1b := (if_neg c19).symm.trans h1b
        refine r_aload_n hX dX6_findLived_45 0 rfl rfl ?_
        refine r_iload_n hX dX6_findLived_46 3 rfl rfl ?_
        refine r_iload hX dX6_findLived_47 5 rfl ?_
        obtain ⟨x20, u21, e22, h1b⟩ := zbind2_elim h1b
        refine r_callV (As := [.int x6, .int x13]) (rest := []) (st1 := [.int x20]) hX dX6_findLived_49 lv_RX6_133 (c_X6_cutFor x6 x13  u14 _ _ e22) (by decide) rfl rfl (zRecv.of (q := 39) (ci := 6) rfl rfl) rfl (Nat.le_of_ble_eq_true rfl) rfl ?_
        refine r_aload_n hX dX6_findLived_52 0 rfl rfl ?_
        refine r_getR hX dX6_findLived_53 f_RX6_9 zr_39_0 ?_
        refine r_bipush (v := 90) hX dX6_findLived_56 (by decide) ?_
        refine r_iconst (v := 3) hX dX6_findLived_58 (by decide) ?_
        refine r_iload_n hX dX6_findLived_59 1 rfl rfl ?_
        refine r_imul hX dX6_findLived_60 ?_
        refine r_iadd hX dX6_findLived_61 ?_
        refine r_iload hX dX6_findLived_62 5 rfl ?_
        refine r_iadd hX dX6_findLived_64 ?_
        obtain ⟨x23, e24, h1b⟩ := zbind_elim h1b
        refine r_iald hX dX6_findLived_65 rfl e24 ?_
        refine r_icmp_ne (tgt := 73) hX dX6_findLived_66 (by decide) (fun c25 => ?_) (fun c25 => ?_)
        · have h1b := (if_neg c25).symm.trans h1b
          refine r_iconst (v := 0) hX dX6_findLived_73 (by decide) ?_
          refine r_istore (y := 0) (L' := [(4, .int 0), (0, .ref (zad X.1 39)), (1, .int a1), (2, .int x5), (3, .int x6), (5, .int x13)]) hX dX6_findLived_74 (by decide) rfl rfl ?_
          refine r_iinc (v := (x13 + 1)) (L' := [(5, .int (x13 + 1)), (4, .int 0), (0, .ref (zad X.1 39)), (1, .int a1), (2, .int x5), (3, .int x6)]) hX dX6_findLived_76 (by decide) 5 rfl rfl rfl ?_
          refine r_goto (tgt := 34) hX dX6_findLived_79 (by decide) ?_
          refine r_sub [2, 3, 4, 5, 1, 0] (L' := [(0, .ref (zad X.1 39)), (1, .int a1), (2, .int x5), (3, .int x6), (4, .int 0), (5, .int (x13 + 1))]) rfl ?_
          exact hin1 _ (Option.some.inj h1b).symm
        · have h1b := (if_pos c25).symm.trans h1b
          refine r_iconst (v := 1) hX dX6_findLived_69 (by decide) ?_
          refine r_goto (tgt := 74) hX dX6_findLived_70 (by decide) ?_
          refine r_istore (y := 1) (L' := [(4, .int 1), (0, .ref (zad X.1 39)), (1, .int a1), (2, .int x5), (3, .int x6), (5, .int x13)]) hX dX6_findLived_74 (by decide) rfl rfl ?_
          refine r_iinc (v := (x13 + 1)) (L' := [(5, .int (x13 + 1)), (4, .int 1), (0, .ref (zad X.1 39)), (1, .int a1), (2, .int x5), (3, .int x6)]) hX dX6_findLived_76 (by decide) 5 rfl rfl rfl ?_
          refine r_goto (tgt := 34) hX dX6_findLived_79 (by decide) ?_
          refine r_sub [2, 3, 4, 5, 1, 0] (L' := [(0, .ref (zad X.1 39)), (1, .int a1), (2, .int x5), (3, .int x6), (4, .int 1), (5, .int (x13 + 1))]) rfl ?_
          exact hin1 _ (Option.some.inj h1b).symm
theorem dX6_lived_0 : decode cX6_lived 0 = .ok (.aload_n 0, 1) := by decide +kernel
theorem dX6_lived_1 : decode cX6_lived 1 = .ok (.iload_n 1, 1) := by decide +kernel
theorem dX6_lived_2 : decode cX6_lived 2 = .ok (.invokevirtual 194, 3) := by decide +kernel
theorem dX6_lived_5 : decode cX6_lived 5 = .ok (.ifCond .eq 11, 3) := by decide +kernel
theorem dX6_lived_8 : decode cX6_lived 8 = .ok (.aload_n 0, 1) := by decide +kernel
theorem dX6_lived_9 : decode cX6_lived 9 = .ok (.iload_n 1, 1) := by decide +kernel
theorem dX6_lived_10 : decode cX6_lived 10 = .ok (.invokevirtual 203, 3) := by decide +kernel
theorem dX6_lived_13 : decode cX6_lived 13 = .ok (.goto 9, 3) := by decide +kernel
theorem dX6_lived_16 : decode cX6_lived 16 = .ok (.aload_n 0, 1) := by decide +kernel
theorem dX6_lived_17 : decode cX6_lived 17 = .ok (.ldc 78, 2) := by decide +kernel
theorem dX6_lived_19 : decode cX6_lived 19 = .ok (.invokevirtual 83, 3) := by decide +kernel
theorem dX6_lived_22 : decode cX6_lived 22 = .ok (.ireturn, 1) := by decide +kernel
def m_X6_lived (a1 : Int32) (u : zM) : Option (Int32 × zM) :=
  (if (m_X6_isSpring a1 u) = 0 then
zbind2 (m_X6_finding (-1000001) u) (fun x2 u3 => some (x2, u3))
else
zbind2 (m_X6_findLived a1 u) (fun x5 u6 => some (x5, u6)))
set_option maxHeartbeats 4000000 in
set_option maxRecDepth 100000 in
theorem c_X6_lived (a1 : Int32)   (u : zM) (r : Int32) (u' : zM) (h : m_X6_lived a1 u = some (r, u')) : zCt 6 yX6_lived cX6_lived 2 (some .int) (fun E => [.ref (zad E 39), .int a1]) u (fun _ => some (.int r)) u' := by
  refine zCt.of (by decide +kernel) (fun E => Nat.le_of_ble_eq_true rfl) (fun X hX hR => ?_)
  have hX : zGood X RX6 cX6_lived 2 6 := hX
  show zG X u 0 [(0, .ref (zad X.1 39)), (1, .int a1)] []
  unfold m_X6_lived at h
  refine r_aload_n hX dX6_lived_0 0 rfl rfl ?_
  refine r_iload_n hX dX6_lived_1 1 rfl rfl ?_
  refine r_callV (As := [.int a1]) (rest := []) (st1 := [.int (m_X6_isSpring a1 u)]) hX dX6_lived_2 lv_RX6_194 (c_X6_isSpring a1  u _ rfl) (by decide) rfl rfl (zRecv.of (q := 39) (ci := 6) rfl rfl) rfl (Nat.le_of_ble_eq_true rfl) rfl ?_
  refine r_if_eq (tgt := 16) hX dX6_lived_5 (by decide) (fun c1 => ?_) (fun c1 => ?_)
  · have h := (if_pos c1).symm.trans h
    refine r_aload_n hX dX6_lived_16 0 rfl rfl ?_
    refine r_ldc (v := (-1000001)) hX dX6_lived_17 (zT_in 1041 (by decide +kernel) rfl) ?_
    obtain ⟨x2, u3, e4, h⟩ := zbind2_elim h
    refine r_callV (As := [.int (-1000001)]) (rest := []) (st1 := [.int x2]) hX dX6_lived_19 lv_RX6_83 (c_X6_finding (-1000001)  u _ _ e4) (by decide) rfl rfl (zRecv.of (q := 39) (ci := 6) rfl rfl) rfl (Nat.le_of_ble_eq_true rfl) rfl ?_
    obtain ⟨rfl, rfl⟩ := zinj2 (Option.some.inj h)
    exact r_iret hX hR dX6_lived_22
  · have h := (if_neg c1).symm.trans h
    refine r_aload_n hX dX6_lived_8 0 rfl rfl ?_
    refine r_iload_n hX dX6_lived_9 1 rfl rfl ?_
    obtain ⟨x5, u6, e7, h⟩ := zbind2_elim h
    refine r_callV (As := [.int a1]) (rest := []) (st1 := [.int x5]) hX dX6_lived_10 lv_RX6_203 (c_X6_findLived a1  u _ _ e7) (by decide) rfl rfl (zRecv.of (q := 39) (ci := 6) rfl rfl) rfl (Nat.le_of_ble_eq_true rfl) rfl ?_
    refine r_goto (tgt := 22) hX dX6_lived_13 (by decide) ?_
    obtain ⟨rfl, rfl⟩ := zinj2 (Option.some.inj h)
    exact r_iret hX hR dX6_lived_22
theorem dX6_surely_0 : decode cX6_surely 0 = .ok (.aload_n 0, 1) := by decide +kernel
theorem dX6_surely_1 : decode cX6_surely 1 = .ok (.iload_n 1, 1) := by decide +kernel
theorem dX6_surely_2 : decode cX6_surely 2 = .ok (.invokevirtual 194, 3) := by decide +kernel
theorem dX6_surely_5 : decode cX6_surely 5 = .ok (.ifCond .eq 12, 3) := by decide +kernel
theorem dX6_surely_8 : decode cX6_surely 8 = .ok (.iload_n 2, 1) := by decide +kernel
theorem dX6_surely_9 : decode cX6_surely 9 = .ok (.iconst 0, 1) := by decide +kernel
theorem dX6_surely_10 : decode cX6_surely 10 = .ok (.iconst 1, 1) := by decide +kernel
theorem dX6_surely_11 : decode cX6_surely 11 = .ok (.invokestatic 79, 3) := by decide +kernel
theorem dX6_surely_14 : decode cX6_surely 14 = .ok (.ifCond .ne 10, 3) := by decide +kernel
theorem dX6_surely_17 : decode cX6_surely 17 = .ok (.aload_n 0, 1) := by decide +kernel
theorem dX6_surely_18 : decode cX6_surely 18 = .ok (.ldc 78, 2) := by decide +kernel
theorem dX6_surely_20 : decode cX6_surely 20 = .ok (.invokevirtual 83, 3) := by decide +kernel
theorem dX6_surely_23 : decode cX6_surely 23 = .ok (.ireturn, 1) := by decide +kernel
theorem dX6_surely_24 : decode cX6_surely 24 = .ok (.aload_n 0, 1) := by decide +kernel
theorem dX6_surely_25 : decode cX6_surely 25 = .ok (.iload_n 1, 1) := by decide +kernel
theorem dX6_surely_26 : decode cX6_surely 26 = .ok (.invokevirtual 203, 3) := by decide +kernel
theorem dX6_surely_29 : decode cX6_surely 29 = .ok (.ifCond .ne 12, 3) := by decide +kernel
theorem dX6_surely_32 : decode cX6_surely 32 = .ok (.aload_n 0, 1) := by decide +kernel
theorem dX6_surely_33 : decode cX6_surely 33 = .ok (.ldc 142, 2) := by decide +kernel
theorem dX6_surely_35 : decode cX6_surely 35 = .ok (.invokevirtual 83, 3) := by decide +kernel
theorem dX6_surely_38 : decode cX6_surely 38 = .ok (.goto 18, 3) := by decide +kernel
theorem dX6_surely_41 : decode cX6_surely 41 = .ok (.iload_n 2, 1) := by decide +kernel
theorem dX6_surely_42 : decode cX6_surely 42 = .ok (.ifCond .ne 10, 3) := by decide +kernel
theorem dX6_surely_45 : decode cX6_surely 45 = .ok (.aload_n 0, 1) := by decide +kernel
theorem dX6_surely_46 : decode cX6_surely 46 = .ok (.getfield 197, 3) := by decide +kernel
theorem dX6_surely_49 : decode cX6_surely 49 = .ok (.goto 7, 3) := by decide +kernel
theorem dX6_surely_52 : decode cX6_surely 52 = .ok (.aload_n 0, 1) := by decide +kernel
theorem dX6_surely_53 : decode cX6_surely 53 = .ok (.getfield 200, 3) := by decide +kernel
theorem dX6_surely_56 : decode cX6_surely 56 = .ok (.ireturn, 1) := by decide +kernel
def m_X6_surely (a1 : Int32) (a2 : Int32) (u : zM) : Option (Int32 × zM) :=
  (if (m_X6_isSpring a1 u) = 0 then
zbind2 (m_X6_finding (-1000001) u) (fun x2 u3 => some (x2, u3))
else
(if (m_X6_within a2 0 1) = 0 then
zbind2 (m_X6_finding (-1000001) u) (fun x14 u15 => some (x14, u15))
else
zbind2 (m_X6_findLived a1 u) (fun x6 u7 => (if x6 = 0 then
zbind2 (m_X6_finding (-1000004) u7) (fun x11 u12 => some (x11, u12))
else
(if a2 = 0 then
some ((u7 39 9), u7)
else
some ((u7 39 10), u7))))))
set_option maxHeartbeats 4000000 in
set_option maxRecDepth 100000 in
theorem c_X6_surely (a1 : Int32) (a2 : Int32)   (u : zM) (r : Int32) (u' : zM) (h : m_X6_surely a1 a2 u = some (r, u')) : zCt 6 yX6_surely cX6_surely 3 (some .int) (fun E => [.ref (zad E 39), .int a1, .int a2]) u (fun _ => some (.int r)) u' := by
  refine zCt.of (by decide +kernel) (fun E => Nat.le_of_ble_eq_true rfl) (fun X hX hR => ?_)
  have hX : zGood X RX6 cX6_surely 3 6 := hX
  show zG X u 0 [(0, .ref (zad X.1 39)), (1, .int a1), (2, .int a2)] []
  unfold m_X6_surely at h
  refine r_aload_n hX dX6_surely_0 0 rfl rfl ?_
  refine r_iload_n hX dX6_surely_1 1 rfl rfl ?_
  refine r_callV (As := [.int a1]) (rest := []) (st1 := [.int (m_X6_isSpring a1 u)]) hX dX6_surely_2 lv_RX6_194 (c_X6_isSpring a1  u _ rfl) (by decide) rfl rfl (zRecv.of (q := 39) (ci := 6) rfl rfl) rfl (Nat.le_of_ble_eq_true rfl) rfl ?_
  refine r_if_eq (tgt := 17) hX dX6_surely_5 (by decide) (fun c1 => ?_) (fun c1 => ?_)
  · have h := (if_pos c1).symm.trans h
    refine r_aload_n hX dX6_surely_17 0 rfl rfl ?_
    refine r_ldc (v := (-1000001)) hX dX6_surely_18 (zT_in 1041 (by decide +kernel) rfl) ?_
    obtain ⟨x2, u3, e4, h⟩ := zbind2_elim h
    refine r_callV (As := [.int (-1000001)]) (rest := []) (st1 := [.int x2]) hX dX6_surely_20 lv_RX6_83 (c_X6_finding (-1000001)  u _ _ e4) (by decide) rfl rfl (zRecv.of (q := 39) (ci := 6) rfl rfl) rfl (Nat.le_of_ble_eq_true rfl) rfl ?_
    obtain ⟨rfl, rfl⟩ := zinj2 (Option.some.inj h)
    exact r_iret hX hR dX6_surely_23
  · have h := (if_neg c1).symm.trans h
    refine r_iload_n hX dX6_surely_8 2 rfl rfl ?_
    refine r_iconst (v := 0) hX dX6_surely_9 (by decide) ?_
    refine r_iconst (v := 1) hX dX6_surely_10 (by decide) ?_
    refine r_callS (As := [.int a2, .int 0, .int 1]) (rest := []) (st1 := [.int (m_X6_within a2 0 1)]) hX dX6_surely_11 ls_RX6_79 (c_X6_within a2 0 1  u _ rfl) (by decide) rfl rfl rfl (Nat.le_of_ble_eq_true rfl) rfl ?_
    refine r_if_ne (tgt := 24) hX dX6_surely_14 (by decide) (fun c5 => ?_) (fun c5 => ?_)
    · have h := (if_neg c5).symm.trans h
      refine r_aload_n hX dX6_surely_24 0 rfl rfl ?_
      refine r_iload_n hX dX6_surely_25 1 rfl rfl ?_
      obtain ⟨x6, u7, e8, h⟩ := zbind2_elim h
      refine r_callV (As := [.int a1]) (rest := []) (st1 := [.int x6]) hX dX6_surely_26 lv_RX6_203 (c_X6_findLived a1  u _ _ e8) (by decide) rfl rfl (zRecv.of (q := 39) (ci := 6) rfl rfl) rfl (Nat.le_of_ble_eq_true rfl) rfl ?_
      refine r_if_ne (tgt := 41) hX dX6_surely_29 (by decide) (fun c9 => ?_) (fun c9 => ?_)
      · have h := (if_neg c9).symm.trans h
        refine r_iload_n hX dX6_surely_41 2 rfl rfl ?_
        refine r_if_ne (tgt := 52) hX dX6_surely_42 (by decide) (fun c10 => ?_) (fun c10 => ?_)
        · have h := (if_neg c10).symm.trans h
          refine r_aload_n hX dX6_surely_52 0 rfl rfl ?_
          refine r_getI hX dX6_surely_53 f_RX6_200 zi_39_10 ?_
          obtain ⟨rfl, rfl⟩ := zinj2 (Option.some.inj h)
          exact r_iret hX hR dX6_surely_56
        · have h := (if_pos c10).symm.trans h
          refine r_aload_n hX dX6_surely_45 0 rfl rfl ?_
          refine r_getI hX dX6_surely_46 f_RX6_197 zi_39_9 ?_
          refine r_goto (tgt := 56) hX dX6_surely_49 (by decide) ?_
          obtain ⟨rfl, rfl⟩ := zinj2 (Option.some.inj h)
          exact r_iret hX hR dX6_surely_56
      · have h := (if_pos c9).symm.trans h
        refine r_aload_n hX dX6_surely_32 0 rfl rfl ?_
        refine r_ldc (v := (-1000004)) hX dX6_surely_33 (zT_in 1114 (by decide +kernel) rfl) ?_
        obtain ⟨x11, u12, e13, h⟩ := zbind2_elim h
        refine r_callV (As := [.int (-1000004)]) (rest := []) (st1 := [.int x11]) hX dX6_surely_35 lv_RX6_83 (c_X6_finding (-1000004)  u7 _ _ e13) (by decide) rfl rfl (zRecv.of (q := 39) (ci := 6) rfl rfl) rfl (Nat.le_of_ble_eq_true rfl) rfl ?_
        refine r_goto (tgt := 56) hX dX6_surely_38 (by decide) ?_
        obtain ⟨rfl, rfl⟩ := zinj2 (Option.some.inj h)
        exact r_iret hX hR dX6_surely_56
    · have h := (if_pos c5).symm.trans h
      refine r_aload_n hX dX6_surely_17 0 rfl rfl ?_
      refine r_ldc (v := (-1000001)) hX dX6_surely_18 (zT_in 1041 (by decide +kernel) rfl) ?_
      obtain ⟨x14, u15, e16, h⟩ := zbind2_elim h
      refine r_callV (As := [.int (-1000001)]) (rest := []) (st1 := [.int x14]) hX dX6_surely_20 lv_RX6_83 (c_X6_finding (-1000001)  u _ _ e16) (by decide) rfl rfl (zRecv.of (q := 39) (ci := 6) rfl rfl) rfl (Nat.le_of_ble_eq_true rfl) rfl ?_
      obtain ⟨rfl, rfl⟩ := zinj2 (Option.some.inj h)
      exact r_iret hX hR dX6_surely_23
theorem dX6_drawn_0 : decode cX6_drawn 0 = .ok (.aload_n 0, 1) := by decide +kernel
theorem dX6_drawn_1 : decode cX6_drawn 1 = .ok (.getfield 9, 3) := by decide +kernel
theorem dX6_drawn_4 : decode cX6_drawn 4 = .ok (.iconst 5, 1) := by decide +kernel
theorem dX6_drawn_5 : decode cX6_drawn 5 = .ok (.aload_n 0, 1) := by decide +kernel
theorem dX6_drawn_6 : decode cX6_drawn 6 = .ok (.getfield 9, 3) := by decide +kernel
theorem dX6_drawn_9 : decode cX6_drawn 9 = .ok (.iconst 5, 1) := by decide +kernel
theorem dX6_drawn_10 : decode cX6_drawn 10 = .ok (.iaload, 1) := by decide +kernel
theorem dX6_drawn_11 : decode cX6_drawn 11 = .ok (.ldc 206, 2) := by decide +kernel
theorem dX6_drawn_13 : decode cX6_drawn 13 = .ok (.imul, 1) := by decide +kernel
theorem dX6_drawn_14 : decode cX6_drawn 14 = .ok (.sipush 12345, 3) := by decide +kernel
theorem dX6_drawn_17 : decode cX6_drawn 17 = .ok (.iadd, 1) := by decide +kernel
theorem dX6_drawn_18 : decode cX6_drawn 18 = .ok (.iastore, 1) := by decide +kernel
theorem dX6_drawn_19 : decode cX6_drawn 19 = .ok (.aload_n 0, 1) := by decide +kernel
theorem dX6_drawn_20 : decode cX6_drawn 20 = .ok (.getfield 9, 3) := by decide +kernel
theorem dX6_drawn_23 : decode cX6_drawn 23 = .ok (.iconst 5, 1) := by decide +kernel
theorem dX6_drawn_24 : decode cX6_drawn 24 = .ok (.iaload, 1) := by decide +kernel
theorem dX6_drawn_25 : decode cX6_drawn 25 = .ok (.bipush 8, 2) := by decide +kernel
theorem dX6_drawn_27 : decode cX6_drawn 27 = .ok (.iushr, 1) := by decide +kernel
theorem dX6_drawn_28 : decode cX6_drawn 28 = .ok (.iload_n 1, 1) := by decide +kernel
theorem dX6_drawn_29 : decode cX6_drawn 29 = .ok (.irem, 1) := by decide +kernel
theorem dX6_drawn_30 : decode cX6_drawn 30 = .ok (.ireturn, 1) := by decide +kernel
def m_X6_drawn (a1 : Int32) (u : zM) : Option (Int32 × zM) :=
  zlet (zst u 40 5 (((u 40 5) * 1103515245) + 12345)) (fun u1 => if a1 = 0 then none else (some ((zrem (zushr (u1 40 5) 8) a1), u1)))
set_option maxHeartbeats 4000000 in
set_option maxRecDepth 100000 in
theorem c_X6_drawn (a1 : Int32)   (u : zM) (r : Int32) (u' : zM) (h : m_X6_drawn a1 u = some (r, u')) : zCt 1 yX6_drawn cX6_drawn 2 (some .int) (fun E => [.ref (zad E 39), .int a1]) u (fun _ => some (.int r)) u' := by
  refine zCt.of (by decide +kernel) (fun E => Nat.le_of_ble_eq_true rfl) (fun X hX hR => ?_)
  have hX : zGood X RX6 cX6_drawn 2 1 := hX
  show zG X u 0 [(0, .ref (zad X.1 39)), (1, .int a1)] []
  unfold m_X6_drawn at h
  refine r_aload_n hX dX6_drawn_0 0 rfl rfl ?_
  refine r_getR hX dX6_drawn_1 f_RX6_9 zr_39_0 ?_
  refine r_iconst (v := 5) hX dX6_drawn_4 (by decide) ?_
  refine r_aload_n hX dX6_drawn_5 0 rfl rfl ?_
  refine r_getR hX dX6_drawn_6 f_RX6_9 zr_39_0 ?_
  refine r_iconst (v := 5) hX dX6_drawn_9 (by decide) ?_
  refine r_ialdC (j := 5) hX dX6_drawn_10 rfl (by decide +kernel) ?_
  refine r_ldc (v := 1103515245) hX dX6_drawn_11 (zT_in 1295 (by decide +kernel) rfl) ?_
  refine r_imul hX dX6_drawn_13 ?_
  refine r_sipush (v := 12345) hX dX6_drawn_14 (by decide) ?_
  refine r_iadd hX dX6_drawn_17 ?_
  obtain ⟨u1, e2, h⟩ := zlet_elim h
  refine r_iastC (j := 5) hX dX6_drawn_18 rfl (by decide +kernel) ?_
  rw [e2]
  refine r_aload_n hX dX6_drawn_19 0 rfl rfl ?_
  refine r_getR hX dX6_drawn_20 f_RX6_9 zr_39_0 ?_
  refine r_iconst (v := 5) hX dX6_drawn_23 (by decide) ?_
  refine r_ialdC (j := 5) hX dX6_drawn_24 rfl (by decide +kernel) ?_
  refine r_bipush (v := 8) hX dX6_drawn_25 (by decide) ?_
  refine r_iushr hX dX6_drawn_27 ?_
  refine r_iload_n hX dX6_drawn_28 1 rfl rfl ?_
  by_cases c3 : a1 = 0
  · rw [if_pos c3] at h; cases h
  have h := (if_neg c3).symm.trans h
  refine r_irem hX dX6_drawn_29 c3 ?_
  obtain ⟨rfl, rfl⟩ := zinj2 (Option.some.inj h)
  exact r_iret hX hR dX6_drawn_30
theorem dX6_slip_0 : decode cX6_slip 0 = .ok (.iconst 0, 1) := by decide +kernel
theorem dX6_slip_1 : decode cX6_slip 1 = .ok (.istore_n 1, 1) := by decide +kernel
theorem dX6_slip_2 : decode cX6_slip 2 = .ok (.iload_n 1, 1) := by decide +kernel
theorem dX6_slip_3 : decode cX6_slip 3 = .ok (.aload_n 0, 1) := by decide +kernel
theorem dX6_slip_4 : decode cX6_slip 4 = .ok (.getfield 9, 3) := by decide +kernel
theorem dX6_slip_7 : decode cX6_slip 7 = .ok (.iconst 0, 1) := by decide +kernel
theorem dX6_slip_8 : decode cX6_slip 8 = .ok (.iaload, 1) := by decide +kernel
theorem dX6_slip_9 : decode cX6_slip 9 = .ok (.if_icmp .ge 54, 3) := by decide +kernel
theorem dX6_slip_12 : decode cX6_slip 12 = .ok (.iconst 0, 1) := by decide +kernel
theorem dX6_slip_13 : decode cX6_slip 13 = .ok (.istore_n 2, 1) := by decide +kernel
theorem dX6_slip_14 : decode cX6_slip 14 = .ok (.iload_n 2, 1) := by decide +kernel
theorem dX6_slip_15 : decode cX6_slip 15 = .ok (.iconst 3, 1) := by decide +kernel
theorem dX6_slip_16 : decode cX6_slip 16 = .ok (.if_icmp .ge 41, 3) := by decide +kernel
theorem dX6_slip_19 : decode cX6_slip 19 = .ok (.aload_n 0, 1) := by decide +kernel
theorem dX6_slip_20 : decode cX6_slip 20 = .ok (.getfield 22, 3) := by decide +kernel
theorem dX6_slip_23 : decode cX6_slip 23 = .ok (.iconst 3, 1) := by decide +kernel
theorem dX6_slip_24 : decode cX6_slip 24 = .ok (.iload_n 1, 1) := by decide +kernel
theorem dX6_slip_25 : decode cX6_slip 25 = .ok (.imul, 1) := by decide +kernel
theorem dX6_slip_26 : decode cX6_slip 26 = .ok (.iload_n 2, 1) := by decide +kernel
theorem dX6_slip_27 : decode cX6_slip 27 = .ok (.iadd, 1) := by decide +kernel
theorem dX6_slip_28 : decode cX6_slip 28 = .ok (.aload_n 0, 1) := by decide +kernel
theorem dX6_slip_29 : decode cX6_slip 29 = .ok (.iload_n 1, 1) := by decide +kernel
theorem dX6_slip_30 : decode cX6_slip 30 = .ok (.bipush 6, 2) := by decide +kernel
theorem dX6_slip_32 : decode cX6_slip 32 = .ok (.invokevirtual 92, 3) := by decide +kernel
theorem dX6_slip_35 : decode cX6_slip 35 = .ok (.iconst 1, 1) := by decide +kernel
theorem dX6_slip_36 : decode cX6_slip 36 = .ok (.if_icmp .ne 13, 3) := by decide +kernel
theorem dX6_slip_39 : decode cX6_slip 39 = .ok (.aload_n 0, 1) := by decide +kernel
theorem dX6_slip_40 : decode cX6_slip 40 = .ok (.iconst 3, 1) := by decide +kernel
theorem dX6_slip_41 : decode cX6_slip 41 = .ok (.invokevirtual 207, 3) := by decide +kernel
theorem dX6_slip_44 : decode cX6_slip 44 = .ok (.iconst 1, 1) := by decide +kernel
theorem dX6_slip_45 : decode cX6_slip 45 = .ok (.isub, 1) := by decide +kernel
theorem dX6_slip_46 : decode cX6_slip 46 = .ok (.goto 4, 3) := by decide +kernel
theorem dX6_slip_49 : decode cX6_slip 49 = .ok (.iconst 0, 1) := by decide +kernel
theorem dX6_slip_50 : decode cX6_slip 50 = .ok (.iastore, 1) := by decide +kernel
theorem dX6_slip_51 : decode cX6_slip 51 = .ok (.iinc 2 1, 3) := by decide +kernel
theorem dX6_slip_54 : decode cX6_slip 54 = .ok (.goto (-40), 3) := by decide +kernel
theorem dX6_slip_57 : decode cX6_slip 57 = .ok (.iinc 1 1, 3) := by decide +kernel
theorem dX6_slip_60 : decode cX6_slip 60 = .ok (.goto (-58), 3) := by decide +kernel
theorem dX6_slip_63 : decode cX6_slip 63 = .ok (.return_, 1) := by decide +kernel
def m_X6_slip_b1 (x1 : Int32) (x6 : Int32) (u7 : zM) : Option ((Int32 × zM) ⊕ (zM)) :=
  (if 3 ≤ x6 then
some (.inr u7)
else
zbind (m_X6_bodyIs x1 6 u7) (fun x11 => (if x11 = 1 then
zbind2 (m_X6_drawn 3 u7) (fun x16 u17 => zbind (zsv u17 44 36 ((3 * x1) + x6) (x16 - 1)) (fun u19 => some (.inl ((x6 + 1), u19))))
else
zbind (zsv u7 44 36 ((3 * x1) + x6) 0) (fun u14 => some (.inl ((x6 + 1), u14))))))
def m_X6_slip_b0  (x1 : Int32) (u2 : zM) : Option ((Int32 × zM) ⊕ (zM)) :=
  (if (u2 40 0) ≤ x1 then
some (.inr u2)
else
zbind (zit zF (fun s : Int32 × zM => m_X6_slip_b1 x1 s.1 s.2) (0, u2)) (fun u8 =>
some (.inl ((x1 + 1), u8))))
def m_X6_slip  (u : zM) : Option (zM) :=
  zbind (zit zF (fun s : Int32 × zM => m_X6_slip_b0 s.1 s.2) (0, u)) (fun u3 =>
some u3)
set_option maxHeartbeats 4000000 in
set_option maxRecDepth 100000 in
theorem c_X6_slip    (u : zM) (u' : zM) (h : m_X6_slip u = some (u')) : zCt 2 yX6_slip cX6_slip 3 none (fun E => [.ref (zad E 39)]) u (fun _ => none) u' := by
  refine zCt.of (by decide +kernel) (fun E => Nat.le_of_ble_eq_true rfl) (fun X hX hR => ?_)
  have hX : zGood X RX6 cX6_slip 3 2 := hX
  show zG X u 0 [(0, .ref (zad X.1 39))] []
  unfold m_X6_slip at h
  refine r_iconst (v := 0) hX dX6_slip_0 (by decide) ?_
  refine r_istore_n (y := 0) (L' := [(1, .int 0), (0, .ref (zad X.1 39))]) hX dX6_slip_1 rfl (by decide) rfl rfl ?_
  refine r_sub [1, 0] (L' := [(0, .ref (zad X.1 39)), (1, .int 0)]) rfl ?_
  obtain ⟨u3, h4, h⟩ := zbind_elim h
  have Jh4 : zG X u3 63 [] [] := by
      obtain rfl := Option.some.inj h
      exact r_vret hX hR dX6_slip_63
  clear h
  refine zit_walk (P := fun s0 : Int32 × zM => zG X s0.2 2 [(0, .ref (zad X.1 39)), (1, .int (s0.1))] []) ?_ zF _ h4
  clear h4
  intro s0 y0 h0b hin0 hout0
  obtain ⟨x1, u2⟩ := s0
  have h0b : m_X6_slip_b0 x1 u2 = some y0 := h0b
  unfold m_X6_slip_b0 at h0b
  show zG X u2 2 [(0, .ref (zad X.1 39)), (1, .int x1)] []
  refine r_iload_n hX dX6_slip_2 1 rfl rfl ?_
  refine r_aload_n hX dX6_slip_3 0 rfl rfl ?_
  refine r_getR hX dX6_slip_4 f_RX6_9 zr_39_0 ?_
  refine r_iconst (v := 0) hX dX6_slip_7 (by decide) ?_
  refine r_ialdC (j := 0) hX dX6_slip_8 rfl (by decide +kernel) ?_
  refine r_icmp_ge (tgt := 63) hX dX6_slip_9 (by decide) (fun c5 => ?_) (fun c5 => ?_)
  · have h0b := (if_pos c5).symm.trans h0b
    refine r_sub [] (L' := []) rfl ?_
    have h0b := hout0 _ (Option.some.inj h0b).symm
    obtain rfl := h0b
    exact Jh4
  · have h0b := (if_neg c5).symm.trans h0b
    refine r_iconst (v := 0) hX dX6_slip_12 (by decide) ?_
    refine r_istore_n (y := 0) (L' := [(2, .int 0), (0, .ref (zad X.1 39)), (1, .int x1)]) hX dX6_slip_13 rfl (by decide) rfl rfl ?_
    refine r_sub [1, 2, 0] (L' := [(0, .ref (zad X.1 39)), (1, .int x1), (2, .int 0)]) rfl ?_
    obtain ⟨u8, h9, h0b⟩ := zbind_elim h0b
    have Jh9 : zG X u8 57 [(0, .ref (zad X.1 39)), (1, .int x1)] [] := by
        refine r_iinc (v := (x1 + 1)) (L' := [(1, .int (x1 + 1)), (0, .ref (zad X.1 39))]) hX dX6_slip_57 (by decide) 1 rfl rfl rfl ?_
        refine r_goto (tgt := 2) hX dX6_slip_60 (by decide) ?_
        refine r_sub [1, 0] (L' := [(0, .ref (zad X.1 39)), (1, .int (x1 + 1))]) rfl ?_
        exact hin0 _ (Option.some.inj h0b).symm
    clear h0b
    refine zit_walk (P := fun s1 : Int32 × zM => zG X s1.2 14 [(0, .ref (zad X.1 39)), (1, .int x1), (2, .int (s1.1))] []) ?_ zF _ h9
    clear h9
    intro s1 y1 h1b hin1 hout1
    obtain ⟨x6, u7⟩ := s1
    have h1b : m_X6_slip_b1 x1 x6 u7 = some y1 := h1b
    unfold m_X6_slip_b1 at h1b
    show zG X u7 14 [(0, .ref (zad X.1 39)), (1, .int x1), (2, .int x6)] []
    refine r_iload_n hX dX6_slip_14 2 rfl rfl ?_
    refine r_iconst (v := 3) hX dX6_slip_15 (by decide) ?_
    refine r_icmp_ge (tgt := 57) hX dX6_slip_16 (by decide) (fun c10 => ?_) (fun c10 => ?_)
    · have h1b := (if_pos c10).symm.trans h1b
      refine r_sub [0, 1] (L' := [(0, .ref (zad X.1 39)), (1, .int x1)]) rfl ?_
      have h1b := hout1 _ (Option.some.inj h1b).symm
      obtain rfl := h1b
      exact Jh9
    · have h1b := (if_neg c10).symm.trans h1b
      refine r_aload_n hX dX6_slip_19 0 rfl rfl ?_
      refine r_getR hX dX6_slip_20 f_RX6_22 zr_39_5 ?_
      refine r_iconst (v := 3) hX dX6_slip_23 (by decide) ?_
      refine r_iload_n hX dX6_slip_24 1 rfl rfl ?_
      refine r_imul hX dX6_slip_25 ?_
      refine r_iload_n hX dX6_slip_26 2 rfl rfl ?_
      refine r_iadd hX dX6_slip_27 ?_
      refine r_aload_n hX dX6_slip_28 0 rfl rfl ?_
      refine r_iload_n hX dX6_slip_29 1 rfl rfl ?_
      refine r_bipush (v := 6) hX dX6_slip_30 (by decide) ?_
      obtain ⟨x11, e12, h1b⟩ := zbind_elim h1b
      refine r_callV (As := [.int x1, .int 6]) (rest := [.int ((3 * x1) + x6), .ref (zad X.1 44)]) (st1 := [.int x11, .int ((3 * x1) + x6), .ref (zad X.1 44)]) hX dX6_slip_32 lv_RX6_92 (c_X6_bodyIs x1 6  u7 _ e12) (by decide) rfl rfl (zRecv.of (q := 39) (ci := 6) rfl rfl) rfl (Nat.le_of_ble_eq_true rfl) rfl ?_
      refine r_iconst (v := 1) hX dX6_slip_35 (by decide) ?_
      refine r_icmp_ne (tgt := 49) hX dX6_slip_36 (by decide) (fun c13 => ?_) (fun c13 => ?_)
      · have h1b := (if_neg c13).symm.trans h1b
        refine r_iconst (v := 0) hX dX6_slip_49 (by decide) ?_
        obtain ⟨u14, e15, h1b⟩ := zbind_elim h1b
        refine r_iast hX dX6_slip_50 rfl e15 ?_
        refine r_iinc (v := (x6 + 1)) (L' := [(2, .int (x6 + 1)), (0, .ref (zad X.1 39)), (1, .int x1)]) hX dX6_slip_51 (by decide) 2 rfl rfl rfl ?_
        refine r_goto (tgt := 14) hX dX6_slip_54 (by decide) ?_
        refine r_sub [1, 2, 0] (L' := [(0, .ref (zad X.1 39)), (1, .int x1), (2, .int (x6 + 1))]) rfl ?_
        exact hin1 _ (Option.some.inj h1b).symm
      · have h1b := (if_pos c13).symm.trans h1b
        refine r_aload_n hX dX6_slip_39 0 rfl rfl ?_
        refine r_iconst (v := 3) hX dX6_slip_40 (by decide) ?_
        obtain ⟨x16, u17, e18, h1b⟩ := zbind2_elim h1b
        refine r_callV (As := [.int 3]) (rest := [.int ((3 * x1) + x6), .ref (zad X.1 44)]) (st1 := [.int x16, .int ((3 * x1) + x6), .ref (zad X.1 44)]) hX dX6_slip_41 lv_RX6_207 (c_X6_drawn 3  u7 _ _ e18) (by decide) rfl rfl (zRecv.of (q := 39) (ci := 6) rfl rfl) rfl (Nat.le_of_ble_eq_true rfl) rfl ?_
        refine r_iconst (v := 1) hX dX6_slip_44 (by decide) ?_
        refine r_isub hX dX6_slip_45 ?_
        refine r_goto (tgt := 50) hX dX6_slip_46 (by decide) ?_
        obtain ⟨u19, e20, h1b⟩ := zbind_elim h1b
        refine r_iast hX dX6_slip_50 rfl e20 ?_
        refine r_iinc (v := (x6 + 1)) (L' := [(2, .int (x6 + 1)), (0, .ref (zad X.1 39)), (1, .int x1)]) hX dX6_slip_51 (by decide) 2 rfl rfl rfl ?_
        refine r_goto (tgt := 14) hX dX6_slip_54 (by decide) ?_
        refine r_sub [1, 2, 0] (L' := [(0, .ref (zad X.1 39)), (1, .int x1), (2, .int (x6 + 1))]) rfl ?_
        exact hin1 _ (Option.some.inj h1b).symm
