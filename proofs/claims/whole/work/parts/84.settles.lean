/-! SETTLES -/
/-- which cells of the class settles changes -/
def seP (u v : zM) : Prop := ∀ q, q ≠ 4 → q ≠ 15 → q ≠ 16 → q ≠ 17 → q ≠ 18 → q ≠ 19 → q ≠ 29 → v q = u q
theorem tIs.br {u v : zM} {t : Nat → Int32} (h : tIs u 1 t) (hP : seP u v) (h4 : ∀ b, b < 12 → v 4 b = tB t b) : tIs v 1 t := by
  obtain ⟨i0, i1, i2, i3, i4, i5, i6, i7, i8, i9, i10, i11, i12⟩ := h
  have e : ∀ q, q < 8 → q ≠ 4 → v q = u q := fun q a b => hP q b (by omega) (by omega) (by omega) (by omega) (by omega) (by omega)
  unfold tIs
  rw [e 1 (by decide) (by decide), e (1 + 1) (by decide) (by decide), e (1 + 2) (by decide) (by decide), e (1 + 4) (by decide) (by decide), e (1 + 5) (by decide) (by decide), e (1 + 6) (by decide) (by decide)]
  exact ⟨i0, i1, i2, i3, i4, i5, i6, i7, i8, h4, i10, i11, i12⟩
theorem set5 {u : zM} {t : Nat → Int32} {n : Nat} (ht : tIs u 1 t) (ho : tOk t n) (h : tz u t n) : ∃ (w : zM) (x6 : Int32) (w' : zM) (r f : Int32) (y v : zM) (k : Nat), m_X4_readBribes u = some w ∧ m_X5_isSettled w = some (x6, w') ∧ zit zF (fun s : Int32 × Int32 × zM => m_X5_settles_b0 s.1 s.2.1 s.2.2) (0, x6, w') = some (r, f, y) ∧ m_X4_writeBribes y = some v ∧ k ≤ 50 ∧ r = nI k ∧ tf f (stP (rnds t n k) n n) ∧ (∀ i, i < k → ¬ stP (rnds t n i) n n) ∧ (f = 0 → k = 50) ∧ seP u v ∧ tIs v 1 t := by
  obtain ⟨w, e2, w1, w2⟩ := keep5 u
  have wt' : tIs w 1 t := tIs_congr (fun k hk => w1 _ (by omega)) ht
  obtain ⟨x6, w', e3, a1, a2, a3⟩ := settled5 wt' ho (h.cg (fun q a b => w1 q (by omega)))
  obtain ⟨⟨r, f, y⟩, e4, k, k1, k2, k3, k4, k5, y1⟩ : ∃ r : Int32 × Int32 × zM, zit zF (fun s : Int32 × Int32 × zM => m_X5_settles_b0 s.1 s.2.1 s.2.2) (0, x6, w') = some r ∧ ∃ k, k ≤ 50 ∧ r.1 = nI k ∧ tf r.2.1 (stP (rnds t n k) n n) ∧ (∀ i, i < k → ¬ stP (rnds t n i) n n) ∧ (r.2.1 = 0 → k = 50) ∧ rdP w r.2.2 := by
    refine zit_inv2 (fun k s => s.1 = nI k ∧ tf s.2.1 (stP (rnds t n k) n n) ∧ (∀ i, i < k → ¬ stP (rnds t n i) n n) ∧ rdP w s.2.2 ∧ tIs s.2.2 1 (rnds t n k) ∧ tz s.2.2 (rnds t n k) n) 50 _ _ (by omega) ⟨rfl, a3, fun i hi => absurd hi (by omega), a1.rd, wt'.cls a1, a2⟩ ?_ ?_
    · rintro k ⟨x, f, v⟩ hk ⟨rfl, h1, h2, h3, h4, h5⟩
      simp only at h1 h2 h3 h4 h5 ⊢
      unfold m_X5_settles_b0
      rcases h1 with ⟨rfl, h1⟩ | ⟨rfl, h1⟩
      · rw [if_neg (show ¬ (1 : Int32) = 0 by decide)]
        exact Or.inr ⟨_, rfl, k, by omega, rfl, Or.inl ⟨rfl, h1⟩, h2, fun z => absurd z (show ¬ (1 : Int32) = 0 by decide), h3⟩
      · obtain ⟨x, e, x1, x2, x3⟩ := round5 h4 (rnds_ok ho k) h5
        obtain ⟨r, y, e', y1, y2, y3⟩ := settled5 x2 (rnds_ok ho (k + 1)) x3
        rw [if_pos rfl, if_neg (show ¬ (50 : Int32) ≤ nI k from fun z => by have := (q_le (a := 50) (by decide) (by omega)).mp z; omega), e, zbind_s, e', zbind2_s]
        refine Or.inl ⟨_, rfl, q_add k 1, y3, fun i hi => ?_, h3.tr (x1.tr y1.rd), x2.cls y1, y2⟩
        by_cases ci : i = k
        · rw [ci]; exact h1
        · exact h2 i (by omega)
    · rintro ⟨x, f, v⟩ ⟨rfl, h1, h2, h3, h4, h5⟩
      simp only at h1 h2 h3 h4 h5 ⊢
      unfold m_X5_settles_b0
      rcases h1 with ⟨rfl, h1⟩ | ⟨rfl, h1⟩
      · rw [if_neg (show ¬ (1 : Int32) = 0 by decide)]
        exact ⟨_, rfl, 50, Nat.le_refl _, rfl, Or.inl ⟨rfl, h1⟩, h2, fun _ => rfl, h3⟩
      · rw [if_pos rfl, if_pos (show (50 : Int32) ≤ nI 50 by decide)]
        exact ⟨_, rfl, 50, Nat.le_refl _, rfl, Or.inr ⟨rfl, h1⟩, h2, fun _ => rfl, h3⟩
  simp only at k2 k3 k5 y1
  obtain ⟨z, e5, z1, z2⟩ := back5 y
  have hP : seP u z := fun q c1 c2 c3 c4 c5 c6 c7 => by rw [z1 q c1, y1 q c1 c2 c3 c4 c5 c6, w1 q c7]
  refine ⟨w, x6, w', r, f, y, z, k, e2, e3, e4, e5, k1, k2, k3, k4, k5, hP, ht.br hP (fun b hb => ?_)⟩
  · rw [z2 b hb, y1 29 (by decide) (by decide) (by decide) (by decide) (by decide) (by decide), w2 b hb]
    exact ht.2.2.2.2.2.2.2.2.2.1 b hb
theorem rdR.same {u v : zM} (h : rdR u v) (e : v 40 = u 40) : sameP u v := by
  refine ⟨fun k h1 _ h3 => ?_, ?_, h.2 2 (by decide), h.2 12 (by decide)⟩
  · by_cases c : k = 40
    · rw [c]; exact e
    · refine h.1 k c (fun e => ?_) h3 (fun e => ?_)
      · rw [e] at h1; exact absurd h1 (by decide)
      · rw [e] at h1; exact absurd h1 (by decide)
  · rw [h.1 20 (by decide) (by decide) (by decide) (by decide)]
theorem set6 {u : zM} {n : Nat} (hS : vSlip u) (ho : tOk (u 40) n) : ∃ (p : zM) (r : Int32) (y v : zM) (k : Nat), m_X6_keepBribes u = some p ∧ zit zF (fun s : Int32 × zM => m_X6_settles_b0 s.1 s.2) (0, p) = some (r, y) ∧ zit zF (fun s : Int32 × zM => m_X6_settles_b1 s.1 s.2) (0, y) = some v ∧ k ≤ 51 ∧ r = nI k ∧ (∀ i, i < k → ¬ stP (rnds (u 40) n i) n n) ∧ (k = 51 ∨ stP (rnds (u 40) n k) n n) ∧ sameP u v := by
  have hn := ho.1
  obtain ⟨p, e5, p1, p2⟩ := keep6 u
  have p40 : p 40 = u 40 := p1 40 (by decide)
  obtain ⟨⟨r, y⟩, e, k, k1, k2, k3, k4, y1, y2⟩ : ∃ r : Int32 × zM, zit zF (fun s : Int32 × zM => m_X6_settles_b0 s.1 s.2) (0, p) = some r ∧ ∃ k, k ≤ 51 ∧ r.1 = nI k ∧ (∀ i, i < k → ¬ stP (rnds (u 40) n i) n n) ∧ (k = 51 ∨ stP (rnds (u 40) n k) n n) ∧ rdR p r.2 ∧ r.2 40 = rnds (u 40) n k := by
    refine zit_inv2 (fun k s => s.1 = nI k ∧ (∀ i, i < k → ¬ stP (rnds (u 40) n i) n n) ∧ rdR p s.2 ∧ s.2 40 = rnds (u 40) n k) 51 _ _ (by omega) ⟨rfl, fun i hi => absurd hi (by omega), rdR.rfl' p, p40⟩ ?_ ?_
    · rintro k ⟨x, v⟩ hk ⟨rfl, h1, h2, h3⟩
      simp only at h1 h2 h3 ⊢
      unfold m_X6_settles_b0
      have hvS : vSlip v := fun j hj => by
        rw [h2.1 44 (by decide) (by decide) (by decide) (by decide), p1 44 (by decide)]; exact hS j hj
      obtain ⟨f, w, e1, w1, w2⟩ := settled6 (u := v) (n := n) hvS (by rw [h3]; exact rnds_ok ho k)
      rw [h3] at w2
      rw [if_neg (show ¬ (50 : Int32) < nI k from fun z => by have := (q_lt (a := 50) (by decide) (by omega)).mp z; omega), e1, zbind2_s]
      rcases w2 with ⟨rfl, w2⟩ | ⟨rfl, w2⟩
      · rw [if_neg (show ¬ (1 : Int32) = 0 by decide)]
        exact Or.inr ⟨_, rfl, k, by omega, rfl, h1, Or.inr w2, h2.tr w1.rd, (w1.q rfl (by decide)).trans h3⟩
      · have w40 : w 40 = rnds (u 40) n k := (w1.q rfl (by decide)).trans h3
        obtain ⟨x, e2, x1, x2⟩ := round6 (u := w) (n := n) (fun j hj => by rw [w1.q rfl (by decide)]; exact hvS j hj) (by rw [w40]; exact rnds_ok ho k)
        rw [w40] at x2
        rw [if_pos rfl, e2, zbind_s]
        refine Or.inl ⟨_, rfl, q_add k 1, fun i hi => ?_, h2.tr (w1.rd.tr x1), x2⟩
        by_cases ci : i = k
        · rw [ci]; exact w2
        · exact h1 i (by omega)
    · rintro ⟨x, v⟩ ⟨rfl, h1, h2, h3⟩
      simp only at h1 h2 h3 ⊢
      unfold m_X6_settles_b0
      rw [if_pos (show (50 : Int32) < nI 51 by decide)]
      exact ⟨_, rfl, 51, Nat.le_refl _, rfl, h1, Or.inl rfl, h2, h3⟩
  simp only at k2 y1 y2
  have y46 : ∀ b, b < 12 → y 46 b = tB (u 40) b := fun b hb => by
    rw [y1.1 46 (by decide) (by decide) (by decide) (by decide)]; exact p2 b hb
  obtain ⟨z, e6, z1, z2⟩ : ∃ z, zit zF (fun s : Int32 × zM => m_X6_settles_b1 s.1 s.2) (0, y) = some z ∧ (∀ q, q ≠ 40 → z q = y q) ∧ z 40 = u 40 := by
    refine zit_inv (fun i s => s.1 = nI i ∧ (∀ q, q ≠ 40 → s.2 q = y q) ∧ (∀ b, b < i → s.2 40 (6 + 7 * b + 4) = tB (u 40) b) ∧ ∀ j, (∀ b, b < n → j ≠ 6 + 7 * b + 4) → s.2 40 j = u 40 j) n _ _ (by omega) ⟨rfl, fun _ _ => rfl, fun b hb => absurd hb (by omega), fun j hj => by show y 40 j = _; rw [y2]; exact rnds_o _ n k j hj⟩ ?_ ?_
    · rintro i ⟨x, v⟩ hi ⟨rfl, h1, h2, h3⟩
      simp only at h1 h2 h3 ⊢
      unfold m_X6_settles_b1
      have e4 : (6 : Int32) + 7 * nI i + 4 = nI (6 + 7 * i + 4) := idx7 i 4
      have e0 : v 40 0 = nI n := by rw [h3 0 (fun b _ => by omega)]; exact ho.2.1
      rw [e0, if_neg (fun z => by have := (q_le (by omega) (by omega)).mp z; omega), zld_n (by omega) (by decide), zbind_s, h1 46 (by decide), y46 i (by omega), e4, zsv_n (by omega) (by decide), zbind_s]
      refine ⟨_, rfl, q_add i 1, fun q hq => (zst_o _ hq).trans (h1 q hq), fun b hb => ?_, fun j hj => ?_⟩
      · show zst v 40 (6 + 7 * i + 4) (tB (u 40) i) 40 (6 + 7 * b + 4) = _
        rw [zst_g]
        by_cases cb : b = i
        · rw [cb, if_pos ⟨rfl, rfl⟩]
        · rw [if_neg (by omega)]; exact h2 b (by omega)
      · show zst v 40 (6 + 7 * i + 4) (tB (u 40) i) 40 j = _
        rw [zst_g, if_neg (fun z => hj i hi z.2)]
        exact h3 j hj
    · rintro ⟨x, v⟩ ⟨rfl, h1, h2, h3⟩
      simp only at h1 h2 h3 ⊢
      unfold m_X6_settles_b1
      have e0 : v 40 0 = nI n := by rw [h3 0 (fun b _ => by omega)]; exact ho.2.1
      rw [e0, if_pos (i_le_refl _)]
      refine ⟨_, rfl, h1, funext fun j => ?_⟩
      by_cases c : ∃ b, b < n ∧ j = 6 + 7 * b + 4
      · obtain ⟨b, hb, rfl⟩ := c
        exact h2 b hb
      · exact h3 j (fun b hb z => c ⟨b, hb, z⟩)
  refine ⟨p, r, y, z, k, e5, e, e6, k1, k2, k3, k4, fun q c1 c2 c3 => ?_, ?_, ?_, ?_⟩
  · by_cases c : q = 40
    · rw [c]; exact z2
    · have s1 : q ≠ 45 := fun e => by rw [e] at c1; exact absurd c1 (by decide)
      have s2 : q ≠ 43 := fun e => by rw [e] at c1; exact absurd c1 (by decide)
      have s3 : q ≠ 46 := fun e => by rw [e] at c1; exact absurd c1 (by decide)
      rw [z1 q c, y1.1 q c s1 c3 s2, p1 q s3]
  · rw [z1 20 (by decide), y1.1 20 (by decide) (by decide) (by decide) (by decide), p1 20 (by decide)]
  · rw [z1 39 (by decide), y1.2 2 (by decide), p1 39 (by decide)]
  · rw [z1 39 (by decide), y1.2 12 (by decide), p1 39 (by decide)]
theorem zbind3_s {α0 α1 α2 β : Type} (x : α0) (y : α1) (z : α2) (f : α0 → α1 → α2 → Option β) : zbind3 (some (x, y, z)) f = f x y z := rfl
theorem p_settles : B_settles Inv := by
  intro u hu
  obtain ⟨⟨n, ho⟩, ht⟩ := id hu.1
  have hn := ho.1
  unfold m_X5_settles m_X6_settles
  obtain ⟨r0, v, e1, v1, v2⟩ := cfah_z hu ho
  obtain ⟨w, x6, w', r, f, y, z, k, e2, e3, e4, e5, k1, k2, k3, k4, k5, hP, hz⟩ := set5 (ht.cls v1) ho v2
  have z40 : z 40 = u 40 := by
    rw [hP 40 (by decide) (by decide) (by decide) (by decide) (by decide) (by decide) (by decide)]; exact v1.q rfl
  have hI : Inv z := by
    refine hu.town ⟨fun q c1 _ c3 c4 c5 => ?_, ?_, ?_, ?_⟩ ⟨⟨n, by rw [z40]; exact ho⟩, by rw [z40]; exact hz⟩
    · have s5 : q ≠ 15 := fun e => by rw [e] at c1; exact absurd c1 (by decide)
      have s6 : q ≠ 16 := fun e => by rw [e] at c1; exact absurd c1 (by decide)
      have s7 : q ≠ 17 := fun e => by rw [e] at c1; exact absurd c1 (by decide)
      have s8 : q ≠ 18 := fun e => by rw [e] at c1; exact absurd c1 (by decide)
      have s9 : q ≠ 19 := fun e => by rw [e] at c1; exact absurd c1 (by decide)
      have s10 : q ≠ 29 := fun e => by rw [e] at c1; exact absurd c1 (by decide)
      rw [hP q (by omega) s5 s6 s7 s8 s9 s10]; exact v1.q c1
    · rw [hP 20 (by decide) (by decide) (by decide) (by decide) (by decide) (by decide) (by decide), v1.q rfl]
    · rw [hP 39 (by decide) (by decide) (by decide) (by decide) (by decide) (by decide) (by decide), v1.q rfl]
    · rw [hP 39 (by decide) (by decide) (by decide) (by decide) (by decide) (by decide) (by decide), v1.q rfl]
  rw [e1, zbind2_s, e2, zbind_s, e3, zbind2_s, e4, zbind3_s, e5, zbind_s]
  rcases k3 with ⟨rfl, k3⟩ | ⟨rfl, k3⟩
  · rw [if_neg (show ¬ (1 : Int32) = 0 by decide)]
    obtain ⟨p, r', y', z', k', e6, e7, e8, j1, j2, j3, j4, j5⟩ := set6 (u := z) (n := n) hI.2.2.2.2.2 (by rw [z40]; exact ho)
    rw [z40] at j3 j4
    have ek : k' = k := by
      rcases Nat.lt_trichotomy k' k with q | q | q
      · rcases j4 with z | z
        · omega
        · exact absurd z (k4 k' q)
      · exact q
      · exact absurd k3 (j3 k q)
    subst ek
    refine ⟨r, z, z', rfl, ?_, hI.congr j5⟩
    rw [e6, zbind_s, e7, zbind2_s, e8, zbind_s, j2, if_pos (show nI k' ≤ 50 from (q_le (b := 50) (by omega) (by decide)).mpr k1), k2]
  · have k50 : k = 50 := k5 rfl
    subst k50
    rw [if_pos rfl]
    have x40 : fnd5 3 z 40 = u 40 := (fnd5_c 3 z (by decide)).trans z40
    obtain ⟨p, r', y', z', k', e6, e7, e8, j1, j2, j3, j4, j5⟩ := set6 (u := fnd5 3 z) (n := n) (fun j hj => by rw [fnd5_c 3 z (by decide)]; exact hI.2.2.2.2.2 j hj) (by rw [x40]; exact ho)
    rw [x40] at j3 j4
    have ek : k' = 51 := by
      rcases j4 with q | q
      · exact q
      · by_cases c : k' < 50
        · exact absurd q (k4 k' c)
        · by_cases c2 : k' = 50
          · rw [c2] at q; exact absurd q k3
          · omega
    subst ek
    refine finw (j := 3) (by decide) hI j5 (g := fun u1 => _) rfl ?_
    rw [e6, zbind_s, e7, zbind2_s, e8, zbind_s, j2, if_neg (show ¬ nI 51 ≤ 50 by decide)]; rfl
