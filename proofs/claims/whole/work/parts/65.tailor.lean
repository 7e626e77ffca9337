/-! THE TAILOR: what is measured, in rising order -/
theorem sN_tail {F G : Nat → Nat} {i n : Nat} (h : sN F i = sN G i) (hn : i ≤ n) (e : ∀ j, i ≤ j → j < n → F j = G j) : sN F n = sN G n := by
  induction n with
  | zero => rw [show i = 0 by omega] at h; exact h
  | succ n ih =>
    by_cases c : i = n + 1
    · rw [← c]; exact h
    · rw [sN, sN, ih (by omega) (fun j h1 h2 => e j h1 (by omega)), e n (by omega) (by omega)]
theorem idx12 (m j : Nat) : nI m * 12 + nI j = nI (12 * m + j) := by
  rw [show (12 : Int32) = nI 12 from rfl, q_mul, q_add, Nat.mul_comm]
/-- an order of n bodies -/
def ord (n : Nat) (f : Nat → Nat) : Prop := (∀ i, i < n → f i < n) ∧ ∀ g : Nat → Nat, sN (fun i => g (f i)) n = sN g n
theorem arr_in {m i n : Nat} {V : Nat → Int32} {f : Nat → Nat} (hm : m < 3) (hn : n ≤ 12) (hi : i < n) (hf : ∀ j, j < n → f j < n) {u : zM} (hV : ∀ b, b < n → u 16 (12 * m + b) = V b) (hr : ∀ j, j < n → u 17 (12 * m + j) = nI (f j)) :
    ∃ r, zit zF (fun s : Int32 × zM => m_X2_arrange_b1 (nI m) (nI (f i)) s.1 s.2) (nI i, u) = some r ∧ ∃ a : Nat, a ≤ i ∧ r.1 = nI a ∧ (∀ q, q ≠ 17 → r.2 q = u q) ∧ (∀ j, j < n → r.2 17 (12 * m + j) = nI (if a < j ∧ j ≤ i then f (j - 1) else f j)) ∧ (∀ j, ¬ (12 * m ≤ j ∧ j < 12 * m + n) → r.2 17 j = u 17 j) ∧ (a = 0 ∨ V (f (a - 1)) ≤ V (f i)) ∧ ∀ j, a ≤ j → j < i → V (f i) < V (f j) := by
  refine zit_inv2 (fun k s => s.1 = nI (i - k) ∧ (∀ q, q ≠ 17 → s.2 q = u q) ∧ (∀ j, j < n → s.2 17 (12 * m + j) = nI (if i - k < j ∧ j ≤ i then f (j - 1) else f j)) ∧ (∀ j, ¬ (12 * m ≤ j ∧ j < 12 * m + n) → s.2 17 j = u 17 j) ∧ ∀ j, i - k ≤ j → j < i → V (f i) < V (f j)) i _ _ (by omega) ⟨rfl, fun _ _ => rfl, fun j hj => (hr j hj).trans (by rw [if_neg (by omega)]), fun _ _ => rfl, fun j h1 h2 => by omega⟩ ?_ ?_
  · rintro k ⟨x, v⟩ hk ⟨rfl, h1, h2, h3, h4⟩
    simp only at h1 h2 h3 h4 ⊢
    unfold m_X2_arrange_b1
    have e1 : nI m * 12 + nI (i - k) - 1 = nI (12 * m + (i - k - 1)) := by rw [idx12, lit_sub1, if_neg (by omega)]; congr 1; omega
    rw [if_neg (show ¬ nI (i - k) ≤ 0 from fun z => by have := (q_le (b := 0) (by omega) (by omega)).mp z; omega), e1, zld_n (by omega) (by decide), zbind_s, h2 _ (by omega), if_neg (by omega), idx12, zld_n (by have := hf (i - k - 1) (by omega); omega) (by decide), zbind_s, idx12, zld_n (by have := hf i hi; omega) (by decide), zbind_s, h1 16 (by decide), hV _ (hf _ (by omega)), hV _ (hf _ hi)]
    by_cases c : V (f (i - k - 1)) ≤ V (f i)
    · rw [if_pos c]
      exact Or.inr ⟨_, rfl, i - k, by omega, rfl, h1, h2, h3, Or.inr c, h4⟩
    · rw [if_neg c, zbind_s, idx12, zsv_n (by omega) (by decide), zbind_s, q_m1 (by omega)]
      refine Or.inl ⟨_, rfl, by rw [show i - (k + 1) = i - k - 1 by omega], fun q hq => (zst_o _ hq).trans (h1 q hq), fun j hj => ?_, fun j hj => ?_, fun j hj hj2 => ?_⟩
      · show zst v 17 (12 * m + (i - k)) (nI (f (i - k - 1))) 17 (12 * m + j) = _
        rw [zst_g]
        by_cases cj : j = i - k
        · subst cj
          rw [if_pos ⟨rfl, rfl⟩, if_pos (by omega)]
        · rw [if_neg (by omega), h2 j hj]
          by_cases c2 : i - k < j ∧ j ≤ i
          · rw [if_pos c2, if_pos (by omega)]
          · rw [if_neg c2, if_neg (by omega)]
      · show zst v 17 (12 * m + (i - k)) (nI (f (i - k - 1))) 17 j = _
        rw [zst_g, if_neg (by omega)]
        exact h3 j hj
      · by_cases cj : j = i - k - 1
        · subst cj; exact i_nle.mp c
        · exact h4 j (by omega) hj2
  · rintro ⟨x, v⟩ ⟨rfl, h1, h2, h3, h4⟩
    simp only at h1 h2 h3 h4 ⊢
    unfold m_X2_arrange_b1
    rw [if_pos (show nI (i - i) ≤ 0 by rw [Nat.sub_self]; decide)]
    exact ⟨_, rfl, i - i, by omega, rfl, h1, h2, h3, Or.inl (by omega), h4⟩
theorem arrange_ok {m n : Nat} {V : Nat → Int32} {f : Nat → Nat} (hm : m < 3) (hn : n ≤ 12) (ho : ord n f) {u : zM} (hu : u 15 4 = nI n) (hV : ∀ b, b < n → u 16 (12 * m + b) = V b) (hr : ∀ j, j < n → u 17 (12 * m + j) = nI (f j)) :
    ∃ v, m_X2_arrange (nI m) u = some v ∧ (∀ q, q ≠ 17 → v q = u q) ∧ (∀ j, ¬ (12 * m ≤ j ∧ j < 12 * m + n) → v 17 j = u 17 j) ∧ ∃ r : Nat → Nat, oRis n V r ∧ ∀ j, j < n → v 17 (12 * m + j) = nI (r j) := by
  have key : ∃ v, zit zF (fun s : Int32 × zM => m_X2_arrange_b0 (nI m) s.1 s.2) (1, u) = some v ∧ (∀ q, q ≠ 17 → v q = u q) ∧ (∀ j, ¬ (12 * m ≤ j ∧ j < 12 * m + n) → v 17 j = u 17 j) ∧ ∃ r : Nat → Nat, oRis n V r ∧ ∀ j, j < n → v 17 (12 * m + j) = nI (r j) := by
    refine zit_inv2 (fun k s => s.1 = nI (k + 1) ∧ (∀ q, q ≠ 17 → s.2 q = u q) ∧ (∀ j, ¬ (12 * m ≤ j ∧ j < 12 * m + n) → s.2 17 j = u 17 j) ∧ ∃ r : Nat → Nat, ord n r ∧ (∀ i j, i < j → j < k + 1 → j < n → V (r i) ≤ V (r j)) ∧ ∀ j, j < n → s.2 17 (12 * m + j) = nI (r j)) n _ _ (by omega) ⟨rfl, fun _ _ => rfl, fun _ _ => rfl, f, ho, fun i j h1 h2 _ => by omega, hr⟩ ?_ ?_
    · rintro k ⟨x, v⟩ hk ⟨rfl, h1, h2, r, hro, hrs, h3⟩
      simp only at h1 h2 h3 ⊢
      unfold m_X2_arrange_b0
      rw [h1 15 (by decide), hu]
      by_cases c : n ≤ k + 1
      · rw [if_pos ((q_le (by omega) (by omega)).mpr c)]
        exact Or.inr ⟨_, rfl, h1, h2, r, ⟨hro.1, hro.2, fun i j h4 h5 => hrs i j h4 (by omega) h5⟩, h3⟩
      · rw [if_neg (fun z => c ((q_le (by omega) (by omega)).mp z)), idx12, zld_n (by omega) (by decide), zbind_s, h3 _ (by omega)]
        obtain ⟨⟨x', w⟩, e, a, ha, ea, w1, w2, w3, w4, w5⟩ := arr_in (V := V) hm hn (show k + 1 < n by omega) hro.1 (u := v) (fun b hb => by rw [h1 16 (by decide)]; exact hV b hb) h3
        simp only at ea w1 w2 w3
        rw [e, zbind2_s, ea, idx12, zsv_n (by omega) (by decide), zbind_s, show nI (k + 1) + 1 = nI (k + 2) from q_add (k + 1) 1]
        have hlt : ∀ j, j < n → (if j < k + 2 then ins r a (r (k + 1)) j else r j) < n := by
          intro j hj
          by_cases c1 : j < k + 2
          · rw [if_pos c1]
            unfold ins
            split
            · exact hro.1 _ hj
            · split
              · exact hro.1 _ (by omega)
              · exact hro.1 _ (by omega)
          · rw [if_neg c1]; exact hro.1 _ hj
        refine Or.inl ⟨_, rfl, rfl, fun q hq => (zst_o _ hq).trans ((w1 q hq).trans (h1 q hq)), fun j hj => ?_, fun j => if j < k + 2 then ins r a (r (k + 1)) j else r j, ⟨hlt, fun g => ?_⟩, fun i j hij hj hjn => ?_, fun j hj => ?_⟩
        · show zst w 17 (12 * m + a) (nI (r (k + 1))) 17 j = _
          rw [zst_g, if_neg (by omega), w3 j hj]
          exact h2 j hj
        · rw [← hro.2 g]
          refine sN_tail (i := k + 2) ?_ (by omega) (fun j h4 _ => congrArg g (if_neg (by omega)))
          have e1 : sN (fun j => g (if j < k + 2 then ins r a (r (k + 1)) j else r j)) (k + 2) = sN (fun j => g (ins r a (r (k + 1)) j)) (k + 1 + 1) := sN_congr (fun j hj => congrArg g (if_pos hj))
          rw [e1, sN_ins g r (r (k + 1)) a (k + 1) ha]
          rfl
        · show V (if i < k + 2 then ins r a (r (k + 1)) i else r i) ≤ V (if j < k + 2 then ins r a (r (k + 1)) j else r j)
          rw [if_pos (by omega), if_pos (by omega)]
          refine ins_sorted (key := V) (f := r) (n := k + 1) (fun i j h4 h5 => hrs i j h4 h5 (by omega)) ha ?_ (fun j h4 h5 => i_lt_le' (w5 j h4 h5)) i j hij (by omega)
          exact w4
        · show zst w 17 (12 * m + a) (nI (r (k + 1))) 17 (12 * m + j) = nI (if j < k + 2 then ins r a (r (k + 1)) j else r j)
          rw [zst_g]
          by_cases c1 : j = a
          · subst c1
            rw [if_pos ⟨rfl, rfl⟩, if_pos (by omega)]
            unfold ins
            rw [if_neg (by omega), if_pos rfl]
          · rw [if_neg (by omega), w2 j hj]
            by_cases c2 : j < k + 2
            · rw [if_pos c2]
              unfold ins
              by_cases c3 : j < a
              · rw [if_neg (by omega), if_pos c3]
              · rw [if_pos (by omega), if_neg c3, if_neg c1]
            · rw [if_neg (by omega), if_neg c2]
    · rintro ⟨x, v⟩ ⟨rfl, h1, h2, r, hro, hrs, h3⟩
      simp only at h1 h2 h3 ⊢
      unfold m_X2_arrange_b0
      rw [h1 15 (by decide), hu, if_pos ((q_le (by omega) (by omega)).mpr (by omega))]
      exact ⟨_, rfl, h1, h2, r, ⟨hro.1, hro.2, fun i j h4 h5 => hrs i j h4 (by omega) h5⟩, h3⟩
  obtain ⟨v, e, h⟩ := key
  exact ⟨v, by unfold m_X2_arrange; rw [e, zbind_s], h⟩
