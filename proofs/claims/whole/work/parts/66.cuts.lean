/-! THE TAILOR: what is measured -/
/-- n bodies are measured: V m b inches, C b times -/
def msd (u : zM) (n : Nat) (V : Nat → Nat → Int32) (C : Nat → Nat) : Prop := u 15 4 = nI n ∧ (∀ b, b < n → u 18 b = nI (C b)) ∧ ∀ m, m < 3 → (∀ b, b < n → u 16 (12 * m + b) = V m b) ∧ ∃ r : Nat → Nat, oRis n (V m) r ∧ ∀ j, j < n → u 17 (12 * m + j) = nI (r j)
theorem msd.cg {u v : zM} {n : Nat} {V : Nat → Nat → Int32} {C : Nat → Nat} (h : msd u n V C) (e : v 15 = u 15 ∧ v 16 = u 16 ∧ v 17 = u 17 ∧ v 18 = u 18) : msd v n V C := by
  unfold msd at h ⊢
  rw [e.1, e.2.1, e.2.2.1, e.2.2.2]
  exact h
theorem oRis.ord {n : Nat} {val : Nat → Int32} {r : Nat → Nat} (h : oRis n val r) : ord n r := ⟨h.1, h.2.1⟩
theorem show_ok {u : zM} {n m b : Nat} {V : Nat → Nat → Int32} {C : Nat → Nat} {x : Int32} (h : msd u n V C) (hn : n ≤ 12) (hm : m < 3) (hb : b < n) :
    ∃ v, m_X2_show (nI m) (nI b) x u = some v ∧ (∀ q, q ≠ 16 → q ≠ 17 → v q = u q) ∧ msd v n (fun m' b' => if m' = m ∧ b' = b then x else V m' b') C := by
  unfold m_X2_show
  obtain ⟨h1, h2, h3⟩ := h
  obtain ⟨h4, r, h5, h6⟩ := h3 m hm
  rw [idx12, zsv_n (by omega) (by decide), zbind_s]
  obtain ⟨v, e, v1, v2, r', v3, v4⟩ := arrange_ok (V := fun b' => if b' = b then x else V m b') (f := r) hm hn h5.ord (u := zst u 16 (12 * m + b) x) (by rw [zst_o _ (by decide)]; exact h1) (fun b' hb' => by
    rw [zst_g]
    by_cases c : b' = b
    · subst c; rw [if_pos ⟨rfl, rfl⟩, if_pos rfl]
    · rw [if_neg (by omega), if_neg c]; exact h4 b' hb') (fun j hj => by rw [zst_o _ (by decide)]; exact h6 j hj)
  refine ⟨v, by rw [e, zbind_s], fun q a b => (v1 q b).trans (zst_o _ a), ?_, fun b' hb' => ?_, fun m' hm' => ⟨fun b' hb' => ?_, ?_⟩⟩
  · rw [v1 15 (by decide), zst_o _ (by decide)]; exact h1
  · rw [v1 18 (by decide), zst_o _ (by decide)]; exact h2 b' hb'
  · show v 16 (12 * m' + b') = if m' = m ∧ b' = b then x else V m' b'
    rw [v1 16 (by decide), zst_g]
    by_cases c : m' = m ∧ b' = b
    · rw [if_pos c, if_pos ⟨rfl, by rw [c.1, c.2]⟩]
    · rw [if_neg c, if_neg (fun z => c (by omega))]
      exact (h3 m' hm').1 b' hb'
  · by_cases c : m' = m
    · subst c
      refine ⟨r', ?_, v4⟩
      have e2 : (fun b' => if b' = b then x else V m' b') = fun b' => if m' = m' ∧ b' = b then x else V m' b' := funext fun b' => by
        by_cases c2 : b' = b
        · rw [if_pos c2, if_pos ⟨rfl, c2⟩]
        · rw [if_neg c2, if_neg (fun z => c2 z.2)]
      show oRis n (fun b' => if m' = m' ∧ b' = b then x else V m' b') r'
      rw [← e2]; exact v3
    · obtain ⟨r2, h7, h8⟩ := (h3 m' hm').2
      refine ⟨r2, ?_, fun j hj => ?_⟩
      · have e2 : (fun b' => if m' = m ∧ b' = b then x else V m' b') = V m' := funext fun b' => if_neg (fun z => c z.1)
        show oRis n (fun b' => if m' = m ∧ b' = b then x else V m' b') r2
        rw [e2]; exact h7
      · rw [v2 _ (by omega), zst_o _ (by decide)]; exact h8 j hj
theorem msd.ext {u : zM} {n : Nat} {V V' : Nat → Nat → Int32} {C : Nat → Nat} (h : msd u n V C) (e : ∀ m b, m < 3 → b < n → V' m b = V m b) : msd u n V' C := by
  refine ⟨h.1, h.2.1, fun m hm => ⟨fun b hb => by rw [e m b hm hb]; exact (h.2.2 m hm).1 b hb, ?_⟩⟩
  obtain ⟨r, h1, h2⟩ := (h.2.2 m hm).2
  exact ⟨r, ⟨h1.1, h1.2.1, fun i j a b => by rw [e m _ hm (h1.1 i (by omega)), e m _ hm (h1.1 j b)]; exact h1.2.2 i j a b⟩, h2⟩
theorem slip_ok {u : zM} {n m b : Nat} {V : Nat → Nat → Int32} {C : Nat → Nat} {x : Int32} (h : msd u n V C) (hn : n ≤ 12) (hm : m < 3) (hb : b < n) :
    ∃ v, m_X2_slip (nI m) (nI b) x u = some v ∧ (∀ q, q ≠ 16 → q ≠ 17 → v q = u q) ∧ msd v n (fun m' b' => if m' = m ∧ b' = b then V m b + x else V m' b') C := by
  unfold m_X2_slip
  rw [idx12, zld_n (by omega) (by decide), zbind_s, (h.2.2 m hm).1 b hb]
  obtain ⟨v, e, h1, h2⟩ := show_ok (x := V m b + x) h hn hm hb
  exact ⟨v, by rw [e, zbind_s], h1, h2⟩
theorem measureAll_ok {u : zM} {t : Nat → Int32} {n : Nat} (ht : tIs u 1 t) (ho : tOk t n) :
    ∃ v, m_X2_measureAll u = some v ∧ (∀ q, q ≠ 15 → q ≠ 16 → q ≠ 17 → q ≠ 18 → v q = u q) ∧ msd v n (fun m b => meas t b m) (cnt t) := by
  have hn := ho.1
  unfold m_X2_measureAll
  rw [ht.1.trans ho.2.1, zlet_s]
  obtain ⟨v1, e1, a1, a2⟩ : ∃ v, zit zF (fun s : Int32 × zM => m_X2_measureAll_b0 s.1 s.2) (0, zst u 15 4 (nI n)) = some v ∧ (∀ q, q ≠ 18 → v q = zst u 15 4 (nI n) q) ∧ ∀ b, b < n → v 18 b = nI (cnt t b) := by
    refine zit_inv (fun k s => s.1 = nI k ∧ (∀ q, q ≠ 18 → s.2 q = zst u 15 4 (nI n) q) ∧ ∀ b, b < k → s.2 18 b = nI (cnt t b)) n _ _ (by omega) ⟨rfl, fun _ _ => rfl, fun b hb => absurd hb (by omega)⟩ ?_ ?_
    · rintro k ⟨x, v⟩ hk ⟨rfl, h1, h2⟩
      simp only at h1 h2 ⊢
      unfold m_X2_measureAll_b0
      rw [h1 15 (by decide), zst_s, if_neg (fun z => by have := (q_le (by omega) (by omega)).mp z; omega)]
      rw [ti5 (tIs_congr (u := u) (fun k hk => (h1 (1 + k) (by omega)).trans (zst_o _ (by omega))) ht) (by omega), zbind_s, zsv_n (by omega) (by decide), zbind_s]
      refine ⟨_, rfl, q_add k 1, fun q hq => (zst_o _ hq).trans (h1 q hq), fun b hb => ?_⟩
      show zst v 18 k (nI (cnt t k)) 18 b = _
      rw [zst_g]
      by_cases c : b = k
      · subst c; rw [if_pos ⟨rfl, rfl⟩]
      · rw [if_neg (by omega)]; exact h2 b (by omega)
    · rintro ⟨x, v⟩ ⟨rfl, h1, h2⟩
      simp only at h1 h2 ⊢
      unfold m_X2_measureAll_b0
      rw [h1 15 (by decide), zst_s, if_pos (i_le_refl _)]
      exact ⟨_, rfl, h1, h2⟩
  rw [e1, zbind_s]
  obtain ⟨v2, e2, b1, b2⟩ : ∃ v, zit zF (fun s : Int32 × zM => m_X2_measureAll_b1 s.1 s.2) (0, v1) = some v ∧ (∀ q, q ≠ 16 → q ≠ 17 → v q = v1 q) ∧ ∀ m, m < 3 → (∀ b, b < n → v 16 (12 * m + b) = meas t b m) ∧ ∃ r : Nat → Nat, oRis n (fun b => meas t b m) r ∧ ∀ j, j < n → v 17 (12 * m + j) = nI (r j) := by
    refine zit_inv (fun k s => s.1 = nI k ∧ (∀ q, q ≠ 16 → q ≠ 17 → s.2 q = v1 q) ∧ ∀ m, m < k → (∀ b, b < n → s.2 16 (12 * m + b) = meas t b m) ∧ ∃ r : Nat → Nat, oRis n (fun b => meas t b m) r ∧ ∀ j, j < n → s.2 17 (12 * m + j) = nI (r j)) 3 _ _ (by omega) ⟨rfl, fun _ _ _ => rfl, fun b hb => absurd hb (by omega)⟩ ?_ ?_
    · rintro m ⟨x, w⟩ hm ⟨rfl, h1, h2⟩
      simp only at h1 h2 ⊢
      unfold m_X2_measureAll_b1
      rw [if_neg (show ¬ (3 : Int32) ≤ nI m from fun z => by have := (q_le (a := 3) (by decide) (by omega)).mp z; omega)]
      obtain ⟨w1, e3, c1, c2, c3⟩ : ∃ v, zit zF (fun s : Int32 × zM => m_X2_measureAll_b2 (nI m) s.1 s.2) (0, w) = some v ∧ (∀ q, q ≠ 16 → q ≠ 17 → v q = w q) ∧ (∀ b, b < n → v 16 (12 * m + b) = meas t b m ∧ v 17 (12 * m + b) = nI b) ∧ ∀ q j, ¬ (12 * m ≤ j ∧ j < 12 * m + n) → v q j = w q j := by
        refine zit_inv (fun k s => s.1 = nI k ∧ (∀ q, q ≠ 16 → q ≠ 17 → s.2 q = w q) ∧ (∀ b, b < k → s.2 16 (12 * m + b) = meas t b m ∧ s.2 17 (12 * m + b) = nI b) ∧ ∀ q j, ¬ (12 * m ≤ j ∧ j < 12 * m + n) → s.2 q j = w q j) n _ _ (by omega) ⟨rfl, fun _ _ _ => rfl, fun b hb => absurd hb (by omega), fun _ _ _ => rfl⟩ ?_ ?_
        · rintro k ⟨x, v⟩ hk ⟨rfl, d1, d2, d3⟩
          simp only at d1 d2 d3 ⊢
          unfold m_X2_measureAll_b2
          rw [d1 15 (by decide) (by decide), h1 15 (by decide) (by decide), a1 15 (by decide), zst_s, if_neg (fun z => by have := (q_le (by omega) (by omega)).mp z; omega)]
          rw [me5 (tIs_congr (u := u) (fun i hi => (d1 (1 + i) (by omega) (by omega)).trans ((h1 (1 + i) (by omega) (by omega)).trans ((a1 (1 + i) (by omega)).trans (zst_o _ (by omega))))) ht) (ho.2.2.1 k hk).1 (by omega) hm, zbind_s, idx12, zsv_n (by omega) (by decide), zbind_s, zsv_n (by omega) (by decide), zbind_s]
          refine ⟨_, rfl, q_add k 1, fun q p1 p2 => (zst_o _ p2).trans ((zst_o _ p1).trans (d1 q p1 p2)), fun b hb => ?_, fun q j hj => ?_⟩
          · show zst (zst v 16 (12 * m + k) (meas t k m)) 17 (12 * m + k) (nI k) 16 (12 * m + b) = _ ∧ zst (zst v 16 (12 * m + k) (meas t k m)) 17 (12 * m + k) (nI k) 17 (12 * m + b) = _
            simp only [zst_g]
            by_cases c : b = k
            · subst c; simp
            · rw [if_neg (by omega), if_neg (by omega), if_neg (by omega), if_neg (by omega)]; exact d2 b (by omega)
          · show zst (zst v 16 (12 * m + k) (meas t k m)) 17 (12 * m + k) (nI k) q j = _
            rw [zst_g, zst_g, if_neg (by omega), if_neg (by omega)]
            exact d3 q j hj
        · rintro ⟨x, v⟩ ⟨rfl, d1, d2, d3⟩
          simp only at d1 d2 d3 ⊢
          unfold m_X2_measureAll_b2
          rw [d1 15 (by decide) (by decide), h1 15 (by decide) (by decide), a1 15 (by decide), zst_s, if_pos (i_le_refl _)]
          exact ⟨_, rfl, d1, d2, d3⟩
      obtain ⟨w2, e4, f1, f2, r, f3, f4⟩ := arrange_ok (V := fun b => meas t b m) (f := fun b => b) hm hn ⟨fun i hi => hi, fun g => rfl⟩ (u := w1) (by rw [c1 15 (by decide) (by decide), h1 15 (by decide) (by decide), a1 15 (by decide), zst_s]) (fun b hb => (c2 b hb).1) (fun b hb => (c2 b hb).2)
      rw [e3, zbind_s, e4, zbind_s]
      refine ⟨_, rfl, q_add m 1, fun q p1 p2 => (f1 q p2).trans ((c1 q p1 p2).trans (h1 q p1 p2)), fun m' hm' => ?_⟩
      show (∀ b, b < n → w2 16 (12 * m' + b) = meas t b m') ∧ ∃ r : Nat → Nat, oRis n (fun b => meas t b m') r ∧ ∀ j, j < n → w2 17 (12 * m' + j) = nI (r j)
      by_cases c : m' = m
      · subst c
        exact ⟨fun b hb => by rw [f1 16 (by decide)]; exact (c2 b hb).1, r, f3, f4⟩
      · obtain ⟨g1, r2, g2, g3⟩ := h2 m' (by omega)
        exact ⟨fun b hb => by rw [f1 16 (by decide), c3 _ _ (by omega)]; exact g1 b hb, r2, g2, fun j hj => by rw [f2 _ (by omega), c3 _ _ (by omega)]; exact g3 j hj⟩
    · rintro ⟨x, v⟩ ⟨rfl, h1, h2⟩
      simp only at h1 h2 ⊢
      unfold m_X2_measureAll_b1
      rw [if_pos (show (3 : Int32) ≤ nI 3 by decide)]
      exact ⟨_, rfl, h1, h2⟩
  refine ⟨v2, by rw [e2, zbind_s], fun q h1 h2 h3 h4 => (b1 q h2 h3).trans ((a1 q h4).trans (zst_o _ h1)), ?_, fun b hb => ?_, b2⟩
  · rw [b1 15 (by decide) (by decide), a1 15 (by decide), zst_s]
  · rw [b1 18 (by decide) (by decide)]; exact a2 b hb
