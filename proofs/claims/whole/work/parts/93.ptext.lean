/-! TEXT: both answer alike -/
theorem splitN {u : zM} {y : Nat → Nat} {L : Nat} (hL : L ≤ 120) (h4 : u 20 4 = nI L) (hy : ∀ j, j < L → u 21 j = nI (y j) ∧ y j < 256) : ∃ (v : zM) (c : Nat) (T : Nat → Nat × Nat × Nat), m_X3_split u = some v ∧ spP u v ∧ cl v y L c T 0 ∧ rdC y L c T ∧ ∀ j, c ≤ j → T j = (L, L, 0) := by
  obtain ⟨v, c, T, e, v1, v2, v3, v4, v5, v6⟩ := split5 hL h4 hy
  let T' : Nat → Nat × Nat × Nat := fun j => if j < c then T j else (L, L, 0)
  have t1 : ∀ j, j < c → T' j = T j := fun j hj => if_pos hj
  have t2 : ∀ j, c ≤ j → T' j = (L, L, 0) := fun j hj => if_neg (by omega)
  have hCh : Chain y L c T' := by
    refine ⟨fun j hj => ?_, fun k k1 k2 => ?_, ?_⟩
    · rw [pE_ext (T := T) (T' := T') (fun i hi => t1 i (by omega)), t1 j hj]
      exact v4.1 j hj
    · rw [pE_ext (T := T) (T' := T') (fun i hi => t1 i (by omega))] at k1
      exact v4.2.1 k k1 k2
    · rw [pE_ext (T := T) (T' := T') (fun i hi => t1 i (by omega))]
      exact v4.2.2
  refine ⟨v, c, T', e, v1, ⟨v3, Nat.zero_le _, v2, fun j hj => ?_, fun k hk => ?_⟩, ⟨hL, fun j hj => (hy j hj).2, hCh, t2 c (Nat.le_refl _)⟩, t2⟩
  · by_cases cj : j < c
    · rw [t1 j cj]; exact v5 j hj
    · rw [t2 j (by omega)]
      have := v5 j hj
      rw [show j = c by omega, v6] at this
      rw [show j = c by omega]; exact this
  · rw [v1.1 21 (by decide) (by decide) (by decide) (by decide)]; exact (hy k hk).1
theorem toks_eq {y : Nat → Nat} {L c c' : Nat} {T T' : Nat → Nat × Nat × Nat} (h : rdC y L c T) (h' : rdC y L c' T') (e : ∀ j, c ≤ j → T j = (L, L, 0)) (e' : ∀ j, c' ≤ j → T' j = (L, L, 0)) : c' = c ∧ T' = T := by
  obtain ⟨hc, ht⟩ := chain_det h.2.2.1 h'.2.2.1
  subst hc
  refine ⟨rfl, funext fun j => ?_⟩
  by_cases cj : j < c
  · exact (ht j cj).symm
  · rw [e j (by omega), e' j (by omega)]
/-- what reading a text changes in the class -/
def rsP (u v : zM) : Prop := (∀ q, q ≠ 20 → ¬ (22 ≤ q ∧ q ≤ 26) → ¬ (1 ≤ q ∧ q ≤ 7) → v q = u q) ∧ v 20 4 = u 20 4
theorem pass5 {u : zM} {y : Nat → Nat} {L n : Nat} {t : Nat → Int32} (hL : L ≤ 120) (h4 : u 20 4 = nI L) (hy : ∀ j, j < L → u 21 j = nI (y j) ∧ y j < 256) (ht : tIs u 1 t) (ho : tOk t n) {a : Int32} (ha : a = 0 ∨ a = 1) : ∃ (c : Nat) (T : Nat → Nat × Nat × Nat) (r : Int32) (v : zM) (i : Nat), rdC y L c T ∧ (∀ j, c ≤ j → T j = (L, L, 0)) ∧ m_X0_readItems a u = some (r, v) ∧ (∀ k, k < i → ct y c T (12 - n) k) ∧ ¬ ct y c T (12 - n) i ∧ r = ans y c T (12 - n) i ∧ rsP u v ∧ (a = 0 → ∀ q, 1 ≤ q → q ≤ 7 → v q = u q) ∧ (a = 1 → (pS y c T (12 - n) i).1 = false → tIs v 1 (twS y c T (12 - n) t n (i + 1))) := by
  have hn := ho.1
  have e6 : u 1 6 = nI n := ht.1.trans ho.2.1
  have e12 : (12 : Int32) - nI n = nI (12 - n) := q_sub (a := 12) (by omega)
  obtain ⟨w, c, T, e, w1, w2, hC, hT⟩ := splitN (u := zst u 25 3 (nI (12 - n))) hL ((congrFun (zst_o u (by decide)) 4).trans h4) (fun j hj => by rw [zst_o _ (by decide)]; exact hy j hj)
  have o : ∀ q, q ≠ 20 → q ≠ 22 → q ≠ 23 → q ≠ 24 → q ≠ 25 → w q = u q := fun q a1 a2 a3 a4 a5 => (w1.1 q a1 a2 a3 a4).trans (zst_o u a5)
  have w25 : w 25 3 = nI (12 - n) := by rw [w1.1 25 (by decide) (by decide) (by decide) (by decide), zst_s]
  have wt : tIs w 1 t := tIs_congr (fun q hq => o _ (by omega) (by omega) (by omega) (by omega) (by omega)) ht
  obtain ⟨r, v, i, e2, c1, c2, er, v1, v2, v3⟩ := items5 hC w2 w25 (show n + (12 - n) = 12 by omega) wt ho ha
  refine ⟨c, T, r, v, i, hC, hT, ?_, c1, c2, er, ⟨fun q a1 a2 a3 => ?_, ?_⟩, fun z q z1 z2 => ?_, v3⟩
  · unfold m_X0_readItems
    rw [e6, e12, zlet_s, e, zbind_s]; exact e2
  · rw [v1.1 q a1 (by omega) (by omega) a3]; exact o q a1 (by omega) (by omega) (by omega) (by omega)
  · rw [v1.2 4 (by decide), w1.2 4 (by decide) (by decide), zst_o _ (by decide)]
  · rw [v2 z q z1 z2]; exact o q (by omega) (by omega) (by omega) (by omega) (by omega)
theorem m1_neg : ∀ b : Nat, b < 121 → ((-1 : Int32) - nI b) < 0 := by decide +kernel
theorem p_text : B_text Inv := by
  intro u hu
  obtain ⟨⟨n, ho⟩, ht⟩ := id hu.1
  have hn := ho.1
  obtain ⟨L, hL, l5, l6, hb⟩ := id hu.2.2.2.1
  let y : Nat → Nat := fun j => (u 47 j).toNatClampNeg
  have hy47 : ∀ j, j < L → u 47 j = nI (y j) ∧ y j < 256 := fun j hj => by
    obtain ⟨-, x, hx, ex⟩ := hb j hj
    have ey : y j = x := by show (u 47 j).toNatClampNeg = x; rw [ex, q_clamp (by omega)]
    rw [ey]; exact ⟨ex, by omega⟩
  have hy21 : ∀ j, j < L → u 21 j = nI (y j) ∧ y j < 256 := fun j hj => by rw [(hb j hj).1]; exact hy47 j hj
  obtain ⟨c, T, r, v, i, hC, hT, e1, c1, c2, er, v1, v2, -⟩ := pass5 (a := 0) hL l5 hy21 ht ho (Or.inl rfl)
  have v2' := v2 rfl
  have i60 := ct_bound hC c1
  obtain ⟨g1, g2, g3⟩ := hd_ok (R := 12 - n) hC i c1
  have jb := pI_2 (ro := decide (0 < (hdS y c T (12 - n) i).2)) hC g2
  have tb := hC.b jb.1
  -- what the class leaves
  obtain ⟨w, hX, W1, W2⟩ : ∃ w, m_X5_text u = some (ans y c T (12 - n) i, zst w 20 4 0) ∧ (∀ q, q ≠ 20 → ¬ (22 ≤ q ∧ q ≤ 26) → ¬ (1 ≤ q ∧ q ≤ 7) → w q = u q) ∧ (((pS y c T (12 - n) i).1 = false ∧ (T (pS y c T (12 - n) i).2).2.2 = 0 ∧ tIs w 1 (twS y c T (12 - n) (u 40) n (i + 1))) ∨ (¬ ((pS y c T (12 - n) i).1 = false ∧ (T (pS y c T (12 - n) i).2).2.2 = 0) ∧ tIs w 1 (u 40))) := by
    unfold m_X5_text
    have vt : tIs v 1 (u 40) := tIs_congr (fun q hq => v2' _ (by omega) (by omega)) ht
    rw [e1, zbind2_s, er]
    by_cases cs : (pS y c T (12 - n) i).1 = false ∧ (T (pS y c T (12 - n) i).2).2.2 = 0
    · have ea : ans y c T (12 - n) i = nI (i + 1) := by
        unfold ans
        rw [if_neg (by rw [cs.1]; decide), if_pos cs.2]
      obtain ⟨c', T', r', v', i', hC', hT', e1', c1', c2', er', v1', -, v3'⟩ := pass5 (u := v) (a := 1) hL (v1.2.trans l5) (fun j hj => by rw [v1.1 21 (by decide) (by decide) (by decide)]; exact hy21 j hj) vt ho (Or.inr rfl)
      obtain ⟨ec, eT⟩ := toks_eq hC hC' hT hT'
      subst ec eT
      have ei : i' = i := by
        rcases Nat.lt_trichotomy i' i with q | q | q
        · exact absurd (c1 i' q) c2'
        · exact q
        · exact absurd (c1' i q) c2
      subst ei
      rw [ea, if_neg (show ¬ nI (i' + 1) < 0 from nI_pos (by omega)), e1', zbind2_s, zlet_s, er', ea]
      exact ⟨v', rfl, fun q a1 a2 a3 => (v1'.1 q a1 a2 a3).trans (v1.1 q a1 a2 a3), Or.inl ⟨cs.1, cs.2, v3' rfl cs.1⟩⟩
    · have ea : ans y c T (12 - n) i = -1 - nI (T (pS y c T (12 - n) i).2).1 := by
        unfold ans
        by_cases q : (pS y c T (12 - n) i).1 = true
        · rw [if_pos q]
        · rw [if_neg q, if_neg (fun z => cs ⟨Bool.eq_false_iff.mpr q, z⟩)]
      have hneg := m1_neg (T (pS y c T (12 - n) i).2).1 (by
        have := tb.1
        have := tb.2.1
        have e : pS y c T (12 - n) i = pI y c T (decide (0 < (hdS y c T (12 - n) i).2)) (hdS y c T (12 - n) i).1 := rfl
        rw [e]; omega)
      rw [ea, if_pos hneg, zlet_s]
      exact ⟨v, rfl, fun q a1 a2 a3 => v1.1 q a1 a2 a3, Or.inr ⟨cs, vt⟩⟩
  -- the reference
  let w0 := zst w 20 4 0
  have k39 : w0 39 = u 39 := (zst_o _ (by decide)).trans (W1 39 (by decide) (by decide) (by decide))
  have k40 : w0 40 = u 40 := (zst_o _ (by decide)).trans (W1 40 (by decide) (by decide) (by decide))
  have k47 : w0 47 = u 47 := (zst_o _ (by decide)).trans (W1 47 (by decide) (by decide) (by decide))
  generalize hw7 : zst (zst (zst (zst w0 39 14 0) 39 17 0) 39 21 0) 39 22 0 = w7
  have o7 : ∀ q, q ≠ 39 → w7 q = w0 q := fun q hq => by rw [← hw7, zst_o _ hq, zst_o _ hq, zst_o _ hq, zst_o _ hq]
  have x7 : ∀ z, z ≠ 14 → z ≠ 17 → z ≠ 21 → z ≠ 22 → w7 39 z = u 39 z := fun z z1 z2 z3 z4 => by rw [← hw7, zst_j _ z4, zst_j _ z3, zst_j _ z2, zst_j _ z1, k39]
  have t14 : w7 39 14 = nI 0 := by rw [← hw7, zst_j _ (by decide), zst_j _ (by decide), zst_j _ (by decide), zst_s]; rfl
  have t17 : w7 39 17 = 0 := by rw [← hw7, zst_j _ (by decide), zst_j _ (by decide), zst_s]
  have t21 : w7 39 21 = 0 := by rw [← hw7, zst_j _ (by decide), zst_s]
  have t22 : w7 39 22 = 0 := by rw [← hw7, zst_s]
  have ht7 : txt6 w7 y L := by
    refine ⟨hL, (x7 12 (by decide) (by decide) (by decide) (by decide)).trans l6, fun j hj => ?_⟩
    rw [o7 47 (by decide), k47]; exact hy47 j hj
  obtain ⟨w9, e9, p9, q9, r9⟩ := next6 (u := w7) (T := T 0) ht7 t14 (by
    by_cases c0 : 0 < c
    · exact Or.inl (hC.2.2.1.1 0 c0)
    · have ec : c = 0 := by omega
      refine Or.inr ⟨hT 0 (by omega), Nat.zero_le _, fun k k1 k2 => hC.2.2.1.2.1 k ?_ k2⟩
      rw [ec]; exact k1)
  have rt9 : rt w9 y L c T (false, 0) := ⟨r9, by rw [q9, t17]; rfl, Nat.zero_le _, p9.txt ht7⟩
  have w9_40 : w9 40 = u 40 := by rw [p9.1 40 (by decide), o7 40 (by decide)]; exact k40
  obtain ⟨w11, w14, i', e11, e14, d1, d2, rt14, i14, m14, it14⟩ := items6 (R := 12 - n) hC rt9 (by rw [w9_40]; exact ho.2.1) (by rw [p9.2 21 (by omega)]; exact t21) (by rw [p9.2 22 (by omega)]; exact t22) (show n + (12 - n) = 12 by omega)
  have ei : i' = i := by
    rcases Nat.lt_trichotomy i' i with q | q | q
    · exact absurd (c1 i' q) d2
    · exact q
    · exact absurd (d1 i q) c2
  subst ei
  have ex : ((if (w14 39 15) = 0 then 1 else 0) : Int32) = if decide ((T (pS y c T (12 - n) i').2).2.2 = 0) = true then 1 else 0 := by
    rw [rt14.1.2.2.1]
    have r0 : nI (rs (T (pS y c T (12 - n) i').2).2.2) = 0 ↔ (T (pS y c T (12 - n) i').2).2.2 = 0 := by
      unfold rs
      have h5 : (T (pS y c T (12 - n) i').2).2.2 ≤ 5 := tb.2.2.1
      constructor
      · intro z
        have z' := q_inj (b := 0) (by split <;> omega) (by decide) z
        split at z' <;> omega
      · intro z; rw [z]; rfl
    by_cases c0 : (T (pS y c T (12 - n) i').2).2.2 = 0
    · rw [if_pos (r0.mpr c0), decide_eq_true c0]; rfl
    · rw [if_neg (fun z => c0 (r0.mp z)), decide_eq_false c0]; rfl
  obtain ⟨w26, e26, p26, rt26⟩ := must6 hC rt14 (decide ((T (pS y c T (12 - n) i').2).2.2 = 0))
  let w28 := zst w26 39 12 0
  have z17 : w28 39 17 = w26 39 17 := zst_j _ (by decide)
  have z13 : w28 39 13 = w26 39 13 := zst_j _ (by decide)
  have z21 : w28 39 21 = nI (i' + 1) := by
    show zst w26 39 12 0 39 21 = _
    rw [zst_j _ (by decide), p26.2 21 (by omega)]; exact m14
  have z40 : w28 40 = u 40 := by
    show zst w26 39 12 0 40 = _
    rw [zst_o _ (by decide), p26.1 40 (by decide), i14.1 40 (by decide) (by decide)]; exact w9_40
  have z50 : w28 50 = w14 50 := by
    show zst w26 39 12 0 50 = _
    rw [zst_o _ (by decide), p26.1 50 (by decide)]
  have zo : ∀ q, q ≠ 39 → q ≠ 50 → w28 q = w0 q := fun q q1 q2 => by
    show zst w26 39 12 0 q = _
    rw [zst_o _ q1, p26.1 q q1, i14.1 q q1 q2, p9.1 q q1, o7 q q1]
  have z2 : w28 39 2 = u 39 2 := by
    show zst w26 39 12 0 39 2 = _
    rw [zst_j _ (by decide), p26.2 2 (by omega), i14.2 2 (by omega), p9.2 2 (by omega), x7 2 (by decide) (by decide) (by decide) (by decide)]
  have z12 : w28 39 12 = 0 := zst_s _ _ _ _
  have front : m_X6_text w0 = (if (w28 39 17) = 0 then zbind (zit zF (fun s : Int32 × zM => m_X6_text_b1 s.1 s.2) (0, w28)) (fun u33 => some ((u33 39 21), u33)) else some (((-1) - (w28 39 13)), w28)) := by
    unfold m_X6_text
    rw [zlet_s, zlet_s, zlet_s, zlet_s, hw7, e9, zbind_s, e11, zbind_s, e14, zbind_s, ex, zlet_s, e26, zbind_s, zlet_s]
  have hfin : ∀ (x : zM) (t' : Nat → Int32) (n' : Nat), (∀ q, q ≠ 40 → x q = w28 q) → x 40 = t' → tOk t' n' → tIs w 1 t' → Inv x := by
    intro x t' n' hx hx40 ho' ht'
    have hI0 : Inv (zst (zst u 20 4 0) 39 12 0) := by
      refine hu.tape (fun q _ a1 _ a2 _ => by rw [zst_o _ a2, zst_o _ a1]) (by rw [zst_j _ (by decide), zst_o _ (by decide)]) ⟨0, by decide, by rw [zst_o _ (by decide), zst_s]; rfl, zst_s _ _ _ _, fun j hj => absurd hj (by omega)⟩
    refine hI0.town ⟨fun k k1 k2 k3 k4 k5 => ?_, ?_, ?_, ?_⟩ ⟨⟨n', by rw [hx40]; exact ho'⟩, ?_⟩
    · have s1 : k ≠ 50 := fun e => by rw [e] at k1; exact absurd k1 (by decide)
      have s2 : ¬ (22 ≤ k ∧ k ≤ 26) := fun e => by
        have : k = 22 ∨ k = 23 ∨ k = 24 ∨ k = 25 ∨ k = 26 := by omega
        rcases this with rfl | rfl | rfl | rfl | rfl <;> exact absurd k1 (by decide)
      rw [hx k k5, zo k k3 s1, zst_o _ k3, zst_o _ k2]
      show zst w 20 4 0 k = u k
      rw [zst_o _ k2, W1 k k2 s2 k4]
    · rw [hx 20 (by decide), zo 20 (by decide) (by decide)]
      show zst w 20 4 0 20 4 = _
      rw [zst_s, zst_o _ (by decide), zst_s]
    · rw [hx 39 (by decide), z2, zst_j _ (by decide), zst_o _ (by decide)]
    · rw [hx 39 (by decide), z12, zst_s]
    · rw [hx40]
      refine tIs_congr (fun q hq => ?_) ht'
      rw [hx _ (by omega), zo _ (by omega) (by omega)]
      exact zst_o _ (by omega)
  rcases W2 with ⟨s1, s2, s3⟩ | ⟨s1, s2⟩
  · have ea : ans y c T (12 - n) i' = nI (i' + 1) := by
      unfold ans
      rw [if_neg (by rw [s1]; decide), if_pos s2]
    have hp : (pm c (decide ((T (pS y c T (12 - n) i').2).2.2 = 0)) (pS y c T (12 - n) i')).1 = false := by
      unfold pm
      rw [if_neg (by rw [s1]; decide), if_pos (decide_eq_true s2)]
    have h17 : w28 39 17 = 0 := by rw [z17]; exact rt26.w.mpr hp
    have hall : ∀ k, k < i' + 1 → (pS y c T (12 - n) k).1 = false := fun k hk => by
      by_cases ck : k = i'
      · rw [ck]; exact s1
      · exact (c1 k (by omega)).1
    obtain ⟨x, e33, x1, x2⟩ : ∃ x, zit zF (fun s : Int32 × zM => m_X6_text_b1 s.1 s.2) (0, w28) = some x ∧ (∀ q, q ≠ 40 → x q = w28 q) ∧ x 40 = twS y c T (12 - n) (u 40) n (i' + 1) := by
      refine zit_inv (fun k s => s.1 = nI k ∧ (∀ q, q ≠ 40 → s.2 q = w28 q) ∧ s.2 40 = twS y c T (12 - n) (u 40) n k) (i' + 1) _ _ (by omega) ⟨rfl, fun _ _ => rfl, z40⟩ ?_ ?_
      · rintro k ⟨z, v⟩ hk ⟨rfl, h1, h2⟩
        simp only at h1 h2 ⊢
        unfold m_X6_text_b1
        have c1k : ∀ i, i < k → ct y c T (12 - n) i := fun i hi => c1 i (by omega)
        obtain ⟨b1, b2, b3⟩ := hd_ok (R := 12 - n) hC k c1k
        have hok := tw_ok hC ho (show n + (12 - n) = 12 by omega) k (fun i hi => hall i (by omega)) (fun i hi => c1 i (by omega))
        obtain ⟨a1, a2, a3⟩ := it14 k (by omega)
        have v50 : v 50 = w14 50 := (h1 50 (by decide)).trans z50
        obtain ⟨z, e, z1, z2'⟩ := isSo6 (u := v) (m := k) (j := (hdS y c T (12 - n) k).1) (rm := (hdS y c T (12 - n) k).2) (by omega) h2 hok (hall k (by omega)) (by omega) (by rw [v50]; exact a1) (by rw [v50]; exact a2) (fun hk z hz => by rw [v50]; exact a3 hk z hz)
        rw [h1 39 (by decide), z21, if_neg (fun z => by have := (q_le (by omega) (by omega)).mp z; omega), show (6 : Int32) * nI k = nI (6 * k) from q_mul 6 k, e, zbind_s]
        refine ⟨_, rfl, q_add k 1, fun q hq => (z1 q hq).trans (h1 q hq), ?_⟩
        show z 40 = app (itS y c T (12 - n) k) (n + nb y c T (12 - n) k) (twS y c T (12 - n) (u 40) n k)
        rw [z2', itS_e]
      · rintro ⟨z, v⟩ ⟨rfl, h1, h2⟩
        simp only at h1 h2 ⊢
        unfold m_X6_text_b1
        rw [h1 39 (by decide), z21, if_pos (i_le_refl _)]
        exact ⟨_, rfl, h1, h2⟩
    refine ⟨_, _, x, hX, ?_, hfin x _ _ x1 x2 (tw_ok hC ho (show n + (12 - n) = 12 by omega) (i' + 1) hall (fun i hi => c1 i (by omega))) s3⟩
    rw [show m_X6_text (zst w 20 4 0) = _ from front, if_pos h17, e33, zbind_s, x1 39 (by decide), z21, ea]
  · have ea : ans y c T (12 - n) i' = -1 - nI (T (pS y c T (12 - n) i').2).1 := by
      unfold ans
      by_cases q : (pS y c T (12 - n) i').1 = true
      · rw [if_pos q]
      · rw [if_neg q, if_neg (fun z => s1 ⟨Bool.eq_false_iff.mpr q, z⟩)]
    have hp : pm c (decide ((T (pS y c T (12 - n) i').2).2.2 = 0)) (pS y c T (12 - n) i') = (true, (pS y c T (12 - n) i').2) := by
      unfold pm
      by_cases q : (pS y c T (12 - n) i').1 = true
      · rw [if_pos q]; exact Prod.ext q rfl
      · rw [if_neg q, if_neg]
        intro z
        exact s1 ⟨Bool.eq_false_iff.mpr q, of_decide_eq_true z⟩
    rw [hp] at rt26
    have h17 : ¬ w28 39 17 = 0 := by
      rw [z17]
      intro z
      have := rt26.w.mp z
      cases this
    refine ⟨_, _, w28, hX, ?_, hfin w28 _ _ (fun _ _ => rfl) z40 ho s2⟩
    rw [show m_X6_text (zst w 20 4 0) = _ from front, if_neg h17, z13, rt26.1.1, ea]
