/-! COPY -/
theorem sub_toInt {a b : Nat} (ha : a < 2147483648) (hb : b < 2147483648) : (nI a - nI b).toInt = (a : Int) - b := by
  rw [Int32.toInt_sub, nI_toInt ha, nI_toInt hb]
  show ((a : Int) - b).bmod (2 ^ 32) = (a : Int) - b
  rw [Int.bmod_eq_of_le] <;> omega
theorem has5_eq {u : zM} {k l : Nat} (h : u k 2 = nI l) (hl : l ≤ 40) (a n : Int32) : m_X1_has k a n u = if 0 ≤ a ∧ 0 ≤ n ∧ a.toInt + n.toInt ≤ (l : Int) then 1 else 0 := by
  unfold m_X1_has
  rw [h]
  by_cases c1 : a < 0
  · rw [if_pos c1, if_neg (fun z => i_nlt.mpr z.1 c1)]
  · rw [if_neg c1]
    by_cases c2 : n < 0
    · rw [if_pos c2, if_neg (fun z => i_nlt.mpr z.2.1 c2)]
    · rw [if_neg c2]
      obtain ⟨f, hf, rfl⟩ := q_nat (i_nlt.mp c1)
      obtain ⟨c, hc, rfl⟩ := q_nat (i_nlt.mp c2)
      rw [nI_toInt hf, nI_toInt hc]
      by_cases c3 : nI l - nI f < nI c
      · rw [if_pos c3]
        have h1 := Int32.lt_iff_toInt_lt.mp c3
        rw [sub_toInt (by omega) hf, nI_toInt hc] at h1
        rw [if_neg (fun z => by have := z.2.2; omega)]
      · rw [if_neg c3]
        rw [Int32.lt_iff_toInt_lt, sub_toInt (by omega) hf, nI_toInt hc] at c3
        rw [if_pos ⟨i_nlt.mp c1, i_nlt.mp c2, by omega⟩]
theorem lg_gt (x y : Int64) : (0 : Int32) < lg_cmp x y ↔ y.toInt < x.toInt := by
  unfold lg_cmp
  by_cases c : x > y
  · rw [if_pos c]
    exact ⟨fun _ => Int64.lt_iff_toInt_lt.mp c, fun _ => by decide⟩
  · rw [if_neg c]
    have c' : ¬ y.toInt < x.toInt := fun z => c (Int64.lt_iff_toInt_lt.mpr z)
    by_cases c2 : x = y
    · rw [if_pos c2]
      exact ⟨fun z => absurd z (by decide), fun z => absurd z c'⟩
    · rw [if_neg c2]
      exact ⟨fun z => absurd z (by decide), fun z => absurd z c'⟩
theorem lg_le (x y : Int64) : lg_cmp x y ≤ (0 : Int32) ↔ x.toInt ≤ y.toInt := by
  rw [← i_nlt, lg_gt]
  omega
theorem long_sum {a n : Int32} (ha : 0 ≤ a) (hn : 0 ≤ n) : (Int32.toInt64 a + Int32.toInt64 n).toInt = a.toInt + n.toInt := by
  obtain ⟨f, hf, rfl⟩ := q_nat ha
  obtain ⟨c, hc, rfl⟩ := q_nat hn
  rw [Int64.toInt_add, Int32.toInt_toInt64, Int32.toInt_toInt64, nI_toInt hf, nI_toInt hc]
  show ((f : Int) + c).bmod (2 ^ 64) = _
  rw [Int.bmod_eq_of_le] <;> omega
theorem mv1 {s f c : Nat} (hs : s < 4) (hc : f + c ≤ 40) (u : zM) : ∃ v, zit zF (fun x : Int32 × zM => m_X6_copy_b0 (nI c) (nI s) (nI f) x.1 x.2) (0, u) = some v ∧ (∀ q, q ≠ 54 → v q = u q) ∧ ∀ j, j < c → v 54 j = u 53 (40 * s + f + j) := by
  obtain ⟨v, e, h1, h2⟩ := zit_inv (body := fun x : Int32 × zM => m_X6_copy_b0 (nI c) (nI s) (nI f) x.1 x.2) (fun k x => x.1 = nI k ∧ (∀ q, q ≠ 54 → x.2 q = u q) ∧ ∀ j, j < k → x.2 54 j = u 53 (40 * s + f + j)) c (fun r => (∀ q, q ≠ 54 → r q = u q) ∧ ∀ j, j < c → r 54 j = u 53 (40 * s + f + j)) (0, u) (by omega) ⟨rfl, fun _ _ => rfl, fun j hj => absurd hj (by omega)⟩ (by
    rintro k ⟨i, v⟩ hk ⟨rfl, h1, h2⟩
    simp only at h1 h2 ⊢
    unfold m_X6_copy_b0
    rw [if_neg (fun z => by have := (q_le (by omega) (by omega)).mp z; omega), idx40, q_add, zld_n (by omega) (by decide), zbind_s, zsv_n (by omega) (by decide), zbind_s, show nI k + 1 = nI (k + 1) from q_add k 1]
    refine ⟨_, rfl, rfl, fun q hq => (zst_o _ hq).trans (h1 q hq), fun j hj => ?_⟩
    show zst v 54 k (v 53 (40 * s + f + k)) 54 j = _
    rw [zst_g, h1 53 (by decide)]
    by_cases c : j = k
    · subst c; simp
    · rw [if_neg (by simp [c])]; exact h2 j (by omega)) (by
    rintro ⟨i, v⟩ ⟨rfl, h1, h2⟩
    simp only at h1 h2 ⊢
    unfold m_X6_copy_b0
    rw [if_pos (i_le_refl _)]
    exact ⟨_, rfl, h1, h2⟩)
  exact ⟨v, e, h1, h2⟩
theorem mv2 {t g c : Nat} (ht : t < 4) (hc : g + c ≤ 40) (u : zM) : ∃ v, zit zF (fun x : Int32 × zM => m_X6_copy_b1 (nI c) (nI t) (nI g) x.1 x.2) (0, u) = some v ∧ (∀ q, q ≠ 53 → v q = u q) ∧ ∀ j, v 53 j = if 40 * t + g ≤ j ∧ j < 40 * t + g + c then u 54 (j - (40 * t + g)) else u 53 j := by
  obtain ⟨v, e, h1, h2⟩ := zit_inv (body := fun x : Int32 × zM => m_X6_copy_b1 (nI c) (nI t) (nI g) x.1 x.2) (fun k x => x.1 = nI k ∧ (∀ q, q ≠ 53 → x.2 q = u q) ∧ ∀ j, x.2 53 j = if 40 * t + g ≤ j ∧ j < 40 * t + g + k then u 54 (j - (40 * t + g)) else u 53 j) c (fun r => (∀ q, q ≠ 53 → r q = u q) ∧ ∀ j, r 53 j = if 40 * t + g ≤ j ∧ j < 40 * t + g + c then u 54 (j - (40 * t + g)) else u 53 j) (0, u) (by omega) ⟨rfl, fun _ _ => rfl, fun j => by rw [if_neg (by omega)]⟩ (by
    rintro k ⟨i, v⟩ hk ⟨rfl, h1, h2⟩
    simp only at h1 h2 ⊢
    unfold m_X6_copy_b1
    rw [if_neg (fun z => by have := (q_le (by omega) (by omega)).mp z; omega), zld_n (by omega) (by decide), zbind_s, idx40, q_add, zsv_n (by omega) (by decide), zbind_s, show nI k + 1 = nI (k + 1) from q_add k 1]
    refine ⟨_, rfl, rfl, fun q hq => (zst_o _ hq).trans (h1 q hq), fun j => ?_⟩
    show zst v 53 (40 * t + g + k) (v 54 k) 53 j = _
    rw [zst_g, h1 54 (by decide)]
    by_cases c : j = 40 * t + g + k
    · subst c
      rw [if_pos ⟨rfl, rfl⟩, if_pos (by omega), show 40 * t + g + k - (40 * t + g) = k by omega]
    · rw [if_neg (by simp [c]), h2 j]
      by_cases c2 : 40 * t + g ≤ j ∧ j < 40 * t + g + k
      · rw [if_pos c2, if_pos (by omega)]
      · rw [if_neg c2, if_neg (by omega)]) (by
    rintro ⟨i, v⟩ ⟨rfl, h1, h2⟩
    simp only at h1 h2 ⊢
    unfold m_X6_copy_b1
    rw [if_pos (i_le_refl _)]
    exact ⟨_, rfl, h1, h2⟩)
  exact ⟨v, e, h1, h2⟩
def cp6 (a1 a2 a3 a4 a5 : Int32) (u : zM) : Option (Int32 × zM) := zbind (zld u 51 4 a1) (fun x6 => (if x6 = 0 then zbind2 (m_X6_finding (-1000006) u) (fun x9 u10 => some (x9, u10)) else zbind (zld u 51 4 a3) (fun x12 => (if x12 = 0 then zbind2 (m_X6_finding (-1000006) u) (fun x65 u66 => some (x65, u66)) else zbind (zld u 51 4 a1) (fun x15 => zbind (zld u 51 4 a3) (fun x17 => (if x15 = x17 then (if a2 < 0 then zbind2 (m_X6_finding (-1000001) u) (fun x21 u22 => some (x21, u22)) else (if a4 < 0 then zbind2 (m_X6_finding (-1000001) u) (fun x25 u26 => some (x25, u26)) else (if a5 < 0 then zbind2 (m_X6_finding (-1000001) u) (fun x29 u30 => some (x29, u30)) else zbind (zld u 52 4 a1) (fun x32 => (if 0 < (lg_cmp ((Int32.toInt64 a2) + (Int32.toInt64 a5)) (Int32.toInt64 x32)) then zbind2 (m_X6_finding (-1000001) u) (fun x35 u36 => some (x35, u36)) else zbind (zld u 52 4 a3) (fun x38 => (if (lg_cmp ((Int32.toInt64 a4) + (Int32.toInt64 a5)) (Int32.toInt64 x38)) ≤ 0 then zbind (zit zF (fun s : Int32 × zM => m_X6_copy_b0 a5 a1 a2 s.1 s.2) (0, u)) (fun u43 => zbind (zit zF (fun s : Int32 × zM => m_X6_copy_b1 a5 a3 a4 s.1 s.2) (0, u43)) (fun u52 => some (a5, u52))) else zbind2 (m_X6_finding (-1000001) u) (fun x59 u60 => some (x59, u60))))))))) else zbind2 (m_X6_finding (-1000003) u) (fun x62 u63 => some (x62, u63)))))))))
theorem p_copy : B_copy Inv := by
  intro a1 a2 a3 a4 a5 u hu
  unfold m_X5_copy m_X6_copy m_X5_isSheet m_X6_isSheet m_X1_isMissing
  simp only [w5_eq, w6_eq, zb_if, if_0]
  by_cases c1 : (0 : Int32) ≤ a1 ∧ a1 ≤ 3
  · rw [if_neg (fun z => z c1)]
    simp only [if_neg (fun z : ¬ (0 ≤ a1 ∧ a1 ≤ 3) => z c1)]
    by_cases c3 : (0 : Int32) ≤ a3 ∧ a3 ≤ 3
    · rw [if_neg (fun z => z c3)]
      simp only [if_neg (fun z : ¬ (0 ≤ a3 ∧ a3 ≤ 3) => z c3)]
      obtain ⟨s, -, hs3, rfl⟩ := (btw a1 0 3 (by decide) (by decide)).mp c1
      obtain ⟨t, -, ht3, rfl⟩ := (btw a3 0 3 (by decide) (by decide)).mp c3
      have hs : s < 4 := by omega
      have ht : t < 4 := by omega
      obtain ⟨p1, p2, ⟨l, hl, p3, p3'⟩, p4⟩ := hu.2.2.2.2.1 s hs
      obtain ⟨r1, r2, ⟨m, hm, r3, r3'⟩, r4⟩ := hu.2.2.2.2.1 t ht
      simp only [zsheet_n hs, zsheet_n ht, zbind_s, p1, r1, has5_eq p3 hl, has5_eq r3 hm, if_0]
      have ef : ∀ j q, q ≠ 28 → fnd5 j u q = u q := fun j q h => fnd5_c j u h
      by_cases d1 : u 51 s = 0
      · rw [if_neg (fun z => z d1)]
        refine fin (j := 5) (by decide) hu (g := fun u1 => _) rfl ?_
        rw [zld_n hs (by decide), zbind_s, ef _ _ (by decide), if_pos d1]
        rfl
      · rw [if_pos d1]
        by_cases d2 : u 51 t = 0
        · rw [if_neg (fun z => z d2)]
          refine fin (j := 5) (by decide) hu (g := fun u1 => _) rfl ?_
          rw [zld_n hs (by decide), zbind_s, ef _ _ (by decide), if_neg d1, zld_n ht (by decide), zbind_s, ef _ _ (by decide), if_pos d2]
          rfl
        · rw [if_pos d2]
          by_cases d3 : u 51 s = u 51 t
          · rw [if_pos d3]
            -- what the reference answers where the two have not so many
            have bad : ¬ ((0 ≤ a2 ∧ 0 ≤ a5 ∧ a2.toInt + a5.toInt ≤ (l : Int)) ∧ (0 ≤ a4 ∧ 0 ≤ a5 ∧ a4.toInt + a5.toInt ≤ (m : Int))) → ∀ w : zM, w 51 = u 51 → w 52 = u 52 → cp6 (nI s) a2 (nI t) a4 a5 w = zbind2 (m_X6_finding (-1000001) w) (fun x y => some (x, y)) := by
              intro hbad w e51 e52
              unfold cp6
              rw [zld_n hs (by decide), zbind_s, e51, if_neg d1, zld_n ht (by decide), zbind_s, e51, if_neg d2, zbind_s, zbind_s, if_pos d3]
              by_cases b1 : a2 < 0
              · rw [if_pos b1]
              · rw [if_neg b1]
                by_cases b2 : a4 < 0
                · rw [if_pos b2]
                · rw [if_neg b2]
                  by_cases b3 : a5 < 0
                  · rw [if_pos b3]
                  · rw [if_neg b3, zld_n hs (by decide), zbind_s, e52, p3']
                    have g1 := i_nlt.mp b1
                    have g2 := i_nlt.mp b2
                    have g3 := i_nlt.mp b3
                    by_cases b4 : 0 < lg_cmp (Int32.toInt64 a2 + Int32.toInt64 a5) (Int32.toInt64 (nI l))
                    · rw [if_pos b4]
                    · rw [if_neg b4, zld_n ht (by decide), zbind_s, e52, r3', if_neg (fun b5 => ?_)]
                      rw [lg_gt, long_sum g1 g3, Int32.toInt_toInt64, nI_toInt (by omega)] at b4
                      rw [lg_le, long_sum g2 g3, Int32.toInt_toInt64, nI_toInt (by omega)] at b5
                      exact hbad ⟨⟨g1, g3, by omega⟩, g2, g3, b5⟩
            by_cases ok1 : 0 ≤ a2 ∧ 0 ≤ a5 ∧ a2.toInt + a5.toInt ≤ (l : Int)
            · rw [if_neg (fun z => z ok1)]
              by_cases ok2 : 0 ≤ a4 ∧ 0 ≤ a5 ∧ a4.toInt + a5.toInt ≤ (m : Int)
              · rw [if_neg (fun z => z ok2)]
                obtain ⟨f, hf, rfl⟩ := q_nat ok1.1
                obtain ⟨c, hc, rfl⟩ := q_nat ok1.2.1
                obtain ⟨g, hg, rfl⟩ := q_nat ok2.1
                have o1 := ok1.2.2
                have o2 := ok2.2.2
                rw [nI_toInt hf, nI_toInt hc] at o1
                rw [nI_toInt hg, nI_toInt hc] at o2
                rw [zcp_n (by omega) (by omega) (by decide), zbind_s]
                generalize hv : zup u (31 + 2 * t + 1) (va_cpy (u (31 + 2 * s + 1)) (u (31 + 2 * t + 1)) f g c) = v
                have ov : ∀ q, q ≠ 31 + 2 * t + 1 → v q = u q := fun q hq => by rw [← hv]; exact zup_o _ _ hq
                have vt : v (31 + 2 * t + 1) = va_cpy (u (31 + 2 * s + 1)) (u (31 + 2 * t + 1)) f g c := by rw [← hv]; exact zup_s _ _ _
                obtain ⟨w1, e1, o1', z1⟩ := mv1 (s := s) (f := f) (c := c) hs (by omega) v
                obtain ⟨w2, e2, o2', z2⟩ := mv2 (t := t) (g := g) (c := c) ht (by omega) w1
                refine ⟨_, v, w2, rfl, ?_, ?_⟩
                · rw [zld_n hs (by decide), zbind_s, ov 51 (by omega), if_neg d1, zld_n ht (by decide), zbind_s, ov 51 (by omega), if_neg d2, zbind_s, zbind_s, if_pos d3, if_neg (i_nlt.mpr ok1.1), if_neg (i_nlt.mpr ok2.1), if_neg (i_nlt.mpr ok1.2.1), zld_n hs (by decide), zbind_s, ov 52 (by omega), p3', if_neg (fun b4 => ?_), zld_n ht (by decide), zbind_s, ov 52 (by omega), r3', if_pos ?_, e1, zbind_s, e2, zbind_s]
                  · rw [lg_le, long_sum ok2.1 ok2.2.1, Int32.toInt_toInt64, nI_toInt (n := m) (by omega)]
                    exact ok2.2.2
                  · rw [lg_gt, long_sum ok1.1 ok1.2.1, Int32.toInt_toInt64, nI_toInt (n := l) (by omega)] at b4
                    have := ok1.2.2
                    omega
                · have ow : ∀ q, q ≠ 53 → q ≠ 54 → w2 q = v q := fun q h1 h2 => by rw [o2' q h1, o1' q h2]
                  refine hu.sheets (sameS.of (fun q h1 _ _ h4 h5 => by rw [ow q h4 h5, ov q (by omega)])) (fun s' hs' => ?_)
                  obtain ⟨y1, y2, y3, y4⟩ := hu.2.2.2.2.1 s' hs'
                  rw [ow (31 + 2 * s') (by omega) (by omega), ow (31 + 2 * s' + 1) (by omega) (by omega), ow 51 (by decide) (by decide), ow 52 (by decide) (by decide), ov (31 + 2 * s') (by omega), ov 51 (by omega), ov 52 (by omega)]
                  refine ⟨y1, y2, y3, fun j hj => ?_⟩
                  rw [z2, o1' 53 (by decide), ov 53 (by omega)]
                  by_cases c4 : s' = t
                  · subst c4
                    rw [vt]
                    unfold va_cpy
                    by_cases c5 : g ≤ j ∧ j < g + c
                    · rw [if_pos c5, if_pos (by omega), z1 _ (by omega), ov 53 (by omega), p4 _ (by omega)]
                      congr 1
                      omega
                    · rw [if_neg c5, if_neg (by omega)]; exact y4 j hj
                  · rw [ov (31 + 2 * s' + 1) (by omega), if_neg (by omega)]; exact y4 j hj
              · rw [if_pos ok2]
                refine fin0 hu (g := fun u1 => _) rfl ?_
                exact bad (fun z => ok2 z.2) _ (ef 0 51 (by decide)) (ef 0 52 (by decide))
            · rw [if_pos ok1]
              refine fin0 hu (g := fun u1 => _) rfl ?_
              exact bad (fun z => ok1 z.1) _ (ef 0 51 (by decide)) (ef 0 52 (by decide))
          · rw [if_neg d3]
            refine fin (j := 2) (by decide) hu (g := fun u1 => _) rfl ?_
            rw [zld_n hs (by decide), zbind_s, ef _ _ (by decide), if_neg d1, zld_n ht (by decide), zbind_s, ef _ _ (by decide), if_neg d2, zbind_s, zbind_s, if_neg d3]
            rfl
    · rw [if_pos c3]
      simp only [if_pos c3]
      exact fin0 hu (g := fun u1 => _) rfl rfl
  · rw [if_pos c1]
    simp only [if_pos c1]
    exact fin0 hu (g := fun u1 => _) rfl rfl
