/-! SETTLED, ROUNDS, SETTLES -/
/-- of the bodies below k all bribe as is best -/
def stP (t : Nat → Int32) (n k : Nat) : Prop := ∀ b, b < k → dB t b = true → bC t n b (bestB t n b) = bC t n b (tB t b)
/-- r tells whether P holds -/
def tf (r : Int32) (P : Prop) : Prop := (r = 1 ∧ P) ∨ (r = 0 ∧ ¬ P)
theorem brB {t : Nat → Int32} {n b : Nat} (ho : tOk t n) (hb : b < n) : brOk (tB t b) := (ho.2.2.1 b hb).2.2.1
theorem settled5 {u : zM} {t : Nat → Int32} {n : Nat} (ht : tIs u 1 t) (ho : tOk t n) (h : tz u t n) : ∃ r v, m_X5_isSettled u = some (r, v) ∧ clsP u v ∧ tz v t n ∧ tf r (stP t n n) := by
  have hn := ho.1
  unfold m_X5_isSettled
  obtain ⟨⟨r, v⟩, e, h1, h2, h3⟩ : ∃ r : Int32 × zM, zit zF (fun s : Int32 × zM => m_X5_isSettled_b0 s.1 s.2) (0, u) = some r ∧ clsP u r.2 ∧ tz r.2 t n ∧ tf r.1 (stP t n n) := by
    refine zit_inv2 (fun k s => s.1 = nI k ∧ clsP u s.2 ∧ tz s.2 t n ∧ stP t n k) n _ _ (by omega) ⟨rfl, clsP.rfl' u, h, fun b hb => absurd hb (by omega)⟩ ?_ ?_
    · rintro k ⟨x, v⟩ hk ⟨rfl, h1, h2, h3⟩
      simp only at h1 h2 h3 ⊢
      unfold m_X5_isSettled_b0
      have ht' := ht.cls h1
      rw [ht'.1.trans ho.2.1, if_neg (fun z => by have := (q_le (by omega) (by omega)).mp z; omega), dB5 ht' ho hk, zbind_s]
      by_cases c : dB t k = true
      · have h0 := dB_set (by omega) c
        obtain ⟨v1, e1, w1, x1, y1⟩ := best5 ht' ho hk h0 h2
        obtain ⟨v2, e2, w2, y2⟩ := cab5 (ht'.cls w1) ho hk h0 y1 (bestB t n k)
        have ht2 := (ht'.cls w1).cls w2
        have e3 : m_X4_tell (nI k) 4 v2 = some (tB t k) := te5 ht2 ho hk (w := 4) (by decide)
        obtain ⟨v3, e4, w3, y3⟩ := cab5 ht2 ho hk h0 y2 (tB t k)
        have hle := (bestB_ok ho hk h0).2 _ (brB ho hk)
        have hc : clsP u v3 := h1.tr (w1.tr (w2.tr w3))
        rw [if_pos c, if_neg (show ¬ (1 : Int32) = 0 by decide), e1, zbind2_s, e2, zbind2_s, e3, zbind_s, e4, zbind2_s]
        by_cases d : bC t n k (tB t k) ≤ bC t n k (bestB t n k)
        · rw [if_pos d]
          refine Or.inl ⟨_, rfl, q_add k 1, hc, y3.z, fun b hb hd => ?_⟩
          by_cases cb : b = k
          · subst cb
            rcases i_tri (bC t n b (bestB t n b)) (bC t n b (tB t b)) with q | q | q
            · exact absurd q (i_nlt.mpr d)
            · exact q
            · exact absurd q (i_nlt.mpr hle)
          · exact h3 b (by omega) hd
        · rw [if_neg d]
          exact Or.inr ⟨_, rfl, hc, y3.z, Or.inr ⟨rfl, fun z => d (by rw [z k hk c]; exact i_le_refl _)⟩⟩
      · rw [if_neg c, if_pos rfl]
        refine Or.inl ⟨_, rfl, q_add k 1, h1, h2, fun b hb hd => ?_⟩
        by_cases cb : b = k
        · rw [cb] at hd; exact absurd hd c
        · exact h3 b (by omega) hd
    · rintro ⟨x, v⟩ ⟨rfl, h1, h2, h3⟩
      simp only at h1 h2 h3 ⊢
      unfold m_X5_isSettled_b0
      rw [(ht.cls h1).1.trans ho.2.1, if_pos (i_le_refl _)]
      exact ⟨_, rfl, h1, h2, Or.inl ⟨rfl, h3⟩⟩
  exact ⟨r, v, e, h1, h2, h3⟩
theorem cutP.rfl' (u : zM) : cutP u u := ⟨fun _ _ _ _ => rfl, fun _ _ => rfl⟩
theorem settled6 {u : zM} {n : Nat} (hS : vSlip u) (ho : tOk (u 40) n) : ∃ r v, m_X6_isSettled u = some (r, v) ∧ cutP u v ∧ tf r (stP (u 40) n n) := by
  have hn := ho.1
  unfold m_X6_isSettled
  obtain ⟨⟨r, v⟩, e, h1, h2⟩ : ∃ r : Int32 × zM, zit zF (fun s : Int32 × Int32 × zM => m_X6_isSettled_b0 s.1 s.2.1 s.2.2) (1, 0, u) = some r ∧ cutP u r.2 ∧ tf r.1 (stP (u 40) n n) := by
    refine zit_inv2 (fun k s => s.2.1 = nI k ∧ cutP u s.2.2 ∧ ((s.1 = 1 ∧ stP (u 40) n k) ∨ (s.1 = 0 ∧ ¬ stP (u 40) n n))) n _ _ (by omega) ⟨rfl, cutP.rfl' u, Or.inl ⟨rfl, fun b hb => absurd hb (by omega)⟩⟩ ?_ ?_
    · rintro k ⟨x, y, v⟩ hk ⟨rfl, h1, h2⟩
      simp only at h1 h2 ⊢
      unfold m_X6_isSettled_b0
      have hcb : ∀ (v : zM) (x : Int32), cutP u v → dB (u 40) k = true → brOk x → ∃ w, m_X6_costBy (nI k) x v = some (bC (u 40) n k x, w) ∧ cutP u w := by
        intro v x h hd hx
        have e40 : v 40 = u 40 := h.q rfl (by decide)
        obtain ⟨w, e, w1⟩ := cby6 (u := v) (n := n) (b := k) (x := x) (fun j hj => by rw [h.q rfl (by decide)]; exact hS j hj) (by rw [e40]; exact ho) hk (by rw [e40]; exact dB_set (by omega) hd) hx
        rw [e40] at e
        exact ⟨w, e, h.tr w1⟩
      have e40 : v 40 = u 40 := h1.q rfl (by decide)
      rw [e40, ho.2.1, if_neg (fun z => by have := (q_le (by omega) (by omega)).mp z; omega)]
      rcases h2 with ⟨rfl, h2⟩ | ⟨rfl, h2⟩
      · rw [if_neg (show ¬ (1 : Int32) = 0 by decide), dB6 (by omega), zbind_s, e40]
        by_cases c : dB (u 40) k = true
        · have h0 := dB_set (by omega) c
          obtain ⟨v1, e1, w1⟩ := best6 (u := v) (n := n) (b := k) (fun j hj => by rw [h1.q rfl (by decide)]; exact hS j hj) (by rw [e40]; exact ho) hk (by rw [e40]; exact h0)
          rw [e40] at e1
          obtain ⟨v2, e2, w2⟩ := hcb v1 _ (h1.tr w1) c (bestB_ok ho hk h0).1
          have e3 : m_X6_bodyIs (nI k) 4 v2 = some (tB (u 40) k) := by
            rw [show m_X6_bodyIs (nI k) 4 v2 = some (v2 40 (6 + 7 * k + 4)) from bi6 v2 (f := 4) (by omega) (by decide), w2.q rfl (by decide)]; rfl
          obtain ⟨v3, e4, w3⟩ := hcb v2 _ w2 c (brB ho hk)
          rw [if_pos c, if_neg (show ¬ (1 : Int32) = 0 by decide), e1, zbind2_s, e2, zbind2_s, e3, zbind_s, e4, zbind2_s]
          by_cases d : bC (u 40) n k (bestB (u 40) n k) = bC (u 40) n k (tB (u 40) k)
          · rw [if_pos d]
            refine Or.inl ⟨_, rfl, q_add k 1, w3, Or.inl ⟨rfl, fun b hb hd => ?_⟩⟩
            by_cases cb : b = k
            · rw [cb]; exact d
            · exact h2 b (by omega) hd
          · rw [if_neg d]
            exact Or.inl ⟨_, rfl, q_add k 1, w3, Or.inr ⟨rfl, fun z => d (z k hk c)⟩⟩
        · rw [if_neg c, if_pos rfl]
          refine Or.inl ⟨_, rfl, q_add k 1, h1, Or.inl ⟨rfl, fun b hb hd => ?_⟩⟩
          by_cases cb : b = k
          · rw [cb] at hd; exact absurd hd c
          · exact h2 b (by omega) hd
      · rw [if_pos rfl]
        exact Or.inr ⟨_, rfl, h1, Or.inr ⟨rfl, h2⟩⟩
    · rintro ⟨x, y, v⟩ ⟨rfl, h1, h2⟩
      simp only at h1 h2 ⊢
      unfold m_X6_isSettled_b0
      have e40 : v 40 = u 40 := h1.q rfl (by decide)
      rw [e40, ho.2.1, if_pos (i_le_refl _)]
      exact ⟨_, rfl, h1, h2⟩
  simp only at h1 h2
  refine ⟨zb r, v, by rw [e, zbind2_s], h1, ?_⟩
  rcases h2 with ⟨rfl, h2⟩ | ⟨rfl, h2⟩
  · exact Or.inl ⟨rfl, h2⟩
  · exact Or.inr ⟨rfl, h2⟩
theorem tf_eq {r r' : Int32} {P : Prop} (h : tf r P) (h' : tf r' P) : r = r' := by
  rcases h with ⟨rfl, h⟩ | ⟨rfl, h⟩ <;> rcases h' with ⟨rfl, h'⟩ | ⟨rfl, h'⟩
  · rfl
  · exact absurd h h'
  · exact absurd h' h
  · rfl
theorem p_settled : B_settled Inv := by
  intro u hu
  obtain ⟨⟨n, ho⟩, ht⟩ := id hu.1
  unfold m_X5_settled m_X6_settled
  obtain ⟨r, v, e1, v1, v2⟩ := cfah_z hu ho
  obtain ⟨r1, w, e2, w1, w2, w3⟩ := settled5 (ht.cls v1) ho v2
  have hI := hu.congr (v1.tr w1).same
  have e40 : w 40 = u 40 := (v1.tr w1).q rfl
  obtain ⟨r2, y, e3, y1, y2⟩ := settled6 (u := w) (n := n) hI.2.2.2.2.2 (by rw [e40]; exact ho)
  rw [e40] at y2
  have er := tf_eq w3 y2
  subst er
  refine ⟨if r1 = 0 then 0 else 1, w, y, ?_, ?_, hI.congr y1.same⟩
  · rw [e1, zbind2_s, e2, zbind2_s]
    by_cases c : r1 = 0
    · rw [if_pos c, if_pos c]
    · rw [if_neg c, if_neg c]
  · rw [e3, zbind2_s]
    by_cases c : r1 = 0
    · rw [if_pos c, if_pos c]
    · rw [if_neg c, if_neg c]
/-- a round, up to the body k -/
noncomputable def rnd (t : Nat → Int32) (n : Nat) : Nat → Nat → Int32
  | 0 => t
  | k + 1 => if dB (rnd t n k) k = true then tBr (rnd t n k) k (bestB (rnd t n k) n k) else rnd t n k
theorem rnd_ok {t : Nat → Int32} {n : Nat} (ho : tOk t n) : ∀ k, k ≤ n → tOk (rnd t n k) n := by
  intro k
  induction k with
  | zero => exact fun _ => ho
  | succ k ih =>
    intro hk
    have h := ih (by omega)
    have hn := ho.1
    rw [rnd]
    by_cases c : dB (rnd t n k) k = true
    · rw [if_pos c]
      exact h.br (by omega) (bestB_ok h (by omega) (dB_set (by omega) c)).1
    · rw [if_neg c]; exact h
theorem rnd_o (t : Nat → Int32) (n : Nat) : ∀ k j, (∀ b, b < k → j ≠ 6 + 7 * b + 4) → rnd t n k j = t j := by
  intro k
  induction k with
  | zero => exact fun _ _ => rfl
  | succ k ih =>
    intro j hj
    rw [rnd]
    by_cases c : dB (rnd t n k) k = true
    · rw [if_pos c, tBr_o _ _ (hj k (by omega))]
      exact ih j (fun b hb => hj b (by omega))
    · rw [if_neg c]
      exact ih j (fun b hb => hj b (by omega))
/-- only bribes and the tape have changed -/
def rdP (u v : zM) : Prop := ∀ q, q ≠ 4 → q ≠ 15 → q ≠ 16 → q ≠ 17 → q ≠ 18 → q ≠ 19 → v q = u q
theorem rdP.tr {u v w : zM} (h : rdP u v) (h' : rdP v w) : rdP u w := fun q a b c d e f => (h' q a b c d e f).trans (h q a b c d e f)
theorem clsP.rd {u v : zM} (h : clsP u v) : rdP u v := fun q _ b c d e f => h q b c d e f
theorem rdP.rfl' (u : zM) : rdP u u := fun _ _ _ _ _ _ _ => rfl
theorem tw_best {v : zM} {t : Nat → Int32} {n b : Nat} {x : Int32} (h : tw v (tBr t b x) n b x) : tz v (tBr t b x) n := by
  have eB : tB (tBr t b x) b = x := by rw [tBr_B, if_pos rfl]
  refine tw.z (b := b) ?_
  rw [eB]; exact h
theorem round5 {u : zM} {t : Nat → Int32} {n : Nat} (ht : tIs u 1 t) (ho : tOk t n) (h : tz u t n) : ∃ v, m_X5_doRound u = some v ∧ rdP u v ∧ tIs v 1 (rnd t n n) ∧ tz v (rnd t n n) n := by
  have hn := ho.1
  unfold m_X5_doRound
  obtain ⟨v, e, h1, h2, h3⟩ : ∃ v, zit zF (fun s : Int32 × zM => m_X5_doRound_b0 s.1 s.2) (0, u) = some v ∧ rdP u v ∧ tIs v 1 (rnd t n n) ∧ tz v (rnd t n n) n := by
    refine zit_inv (fun k s => s.1 = nI k ∧ rdP u s.2 ∧ tIs s.2 1 (rnd t n k) ∧ tz s.2 (rnd t n k) n) n _ _ (by omega) ⟨rfl, rdP.rfl' u, ht, h⟩ ?_ ?_
    · rintro k ⟨x, v⟩ hk ⟨rfl, h1, h2, h3⟩
      simp only at h1 h2 h3 ⊢
      have hk' := rnd_ok ho k (by omega)
      unfold m_X5_doRound_b0
      rw [h2.1.trans hk'.2.1, if_neg (fun z => by have := (q_le (by omega) (by omega)).mp z; omega), dB5 h2 hk' hk, zbind_s, rnd]
      by_cases c : dB (rnd t n k) k = true
      · have h0 := dB_set (by omega) c
        obtain ⟨v1, e1, w1, x1, y1⟩ := best5 h2 hk' hk h0 h3
        have hb := bestB_ok hk' hk h0
        have e2 : m_X4_put (nI k) 4 (bestB (rnd t n k) n k) v1 = some (zst v1 4 k (bestB (rnd t n k) n k)) := put5_eq (f := 4) (by omega) (by decide)
        have ht' : tIs (zst v1 4 k (bestB (rnd t n k) n k)) 1 (tBr (rnd t n k) k (bestB (rnd t n k) n k)) := (h2.cls w1).bd (f := 4) (by omega) (by decide)
        have ho' := hk'.br hk hb.1
        have y1' : tw (zst v1 4 k (bestB (rnd t n k) n k)) (tBr (rnd t n k) k (bestB (rnd t n k) n k)) n k x1 := by
          unfold tw
          rw [tBr_2, cnt_tBr, tBr_set]
          refine ⟨y1.1.cg ⟨zst_o _ (by decide), zst_o _ (by decide), zst_o _ (by decide), zst_o _ (by decide)⟩, fun m hm => ?_⟩
          rw [zst_o _ (by decide)]
          exact y1.2 m hm
        have h0' : tSet (tBr (rnd t n k) k (bestB (rnd t n k) n k)) ≠ 0 := by rw [tBr_set]; exact h0
        obtain ⟨v2, e3, w2, y2⟩ := cab5 ht' ho' hk h0' y1' (bestB (rnd t n k) n k)
        have y3 := tw_best y2
        rw [if_pos c, if_neg (show ¬ (1 : Int32) = 0 by decide), e1, zbind2_s, e2, zbind_s, e3, zbind2_s, if_pos c]
        refine ⟨_, rfl, q_add k 1, ?_, ht'.cls w2, y3⟩
        exact h1.tr (w1.rd.tr ((show rdP v1 (zst v1 4 k (bestB (rnd t n k) n k)) from fun q a _ _ _ _ _ => zst_o _ a).tr w2.rd))
      · rw [if_neg c, if_pos rfl, if_neg c]
        exact ⟨_, rfl, q_add k 1, h1, h2, h3⟩
    · rintro ⟨x, v⟩ ⟨rfl, h1, h2, h3⟩
      simp only at h1 h2 h3 ⊢
      unfold m_X5_doRound_b0
      rw [h2.1.trans (rnd_ok ho n (Nat.le_refl _)).2.1, if_pos (i_le_refl _)]
      exact ⟨_, rfl, h1, h2, h3⟩
  exact ⟨v, by rw [e, zbind_s], h1, h2, h3⟩
/-- only the row `now` and what a coat's cutting changes have changed -/
def rdR (u v : zM) : Prop := (∀ q, q ≠ 40 → q ≠ 45 → q ≠ 39 → q ≠ 43 → v q = u q) ∧ ∀ j, j ≠ 7 → v 39 j = u 39 j
theorem rdR.tr {u v w : zM} (h : rdR u v) (h' : rdR v w) : rdR u w := ⟨fun q a b c d => (h'.1 q a b c d).trans (h.1 q a b c d), fun j a => (h'.2 j a).trans (h.2 j a)⟩
theorem cutP.rd {u v : zM} (h : cutP u v) : rdR u v := ⟨fun q _ b c d => h.1 q b c d, h.2⟩
theorem rdR.rfl' (u : zM) : rdR u u := ⟨fun _ _ _ _ _ => rfl, fun _ _ => rfl⟩
theorem round6 {u : zM} {n : Nat} (hS : vSlip u) (ho : tOk (u 40) n) : ∃ v, m_X6_round u = some v ∧ rdR u v ∧ v 40 = rnd (u 40) n n := by
  have hn := ho.1
  unfold m_X6_round
  obtain ⟨v, e, h1, h2⟩ : ∃ v, zit zF (fun s : Int32 × zM => m_X6_round_b0 s.1 s.2) (0, u) = some v ∧ rdR u v ∧ v 40 = rnd (u 40) n n := by
    refine zit_inv (fun k s => s.1 = nI k ∧ rdR u s.2 ∧ s.2 40 = rnd (u 40) n k) n _ _ (by omega) ⟨rfl, rdR.rfl' u, rfl⟩ ?_ ?_
    · rintro k ⟨x, v⟩ hk ⟨rfl, h1, h2⟩
      simp only at h1 h2 ⊢
      have hk' := rnd_ok ho k (by omega)
      unfold m_X6_round_b0
      rw [dB6 (by omega), h2, hk'.2.1, if_neg (fun z => by have := (q_le (by omega) (by omega)).mp z; omega), zbind_s, rnd]
      by_cases c : dB (rnd (u 40) n k) k = true
      · have h0 := dB_set (by omega) c
        obtain ⟨v1, e1, w1⟩ := best6 (u := v) (n := n) (b := k) (fun j hj => by rw [h1.1 44 (by decide) (by decide) (by decide) (by decide)]; exact hS j hj) (by rw [h2]; exact hk') hk (by rw [h2]; exact h0)
        rw [h2] at e1
        have e4 : (6 : Int32) + 7 * nI k + 4 = nI (6 + 7 * k + 4) := idx7 k 4
        have e41 : v1 40 = rnd (u 40) n k := (w1.q rfl (by decide)).trans h2
        rw [if_pos c, if_neg (show ¬ (1 : Int32) = 0 by decide), e1, zbind2_s, e4, zsv_n (by omega) (by decide), zbind_s, if_pos c]
        refine ⟨_, rfl, q_add k 1, h1.tr (w1.rd.tr ⟨fun q a _ _ _ => zst_o _ a, fun j _ => ?_⟩), ?_⟩
        · show zst v1 40 (6 + 7 * k + 4) (bestB (rnd (u 40) n k) n k) 39 j = v1 39 j
          rw [zst_o _ (by decide)]
        · show zst v1 40 (6 + 7 * k + 4) (bestB (rnd (u 40) n k) n k) 40 = _
          rw [row_st, e41]; rfl
      · rw [if_neg c, if_pos rfl, if_neg c]
        exact ⟨_, rfl, q_add k 1, h1, h2⟩
    · rintro ⟨x, v⟩ ⟨rfl, h1, h2⟩
      simp only at h1 h2 ⊢
      unfold m_X6_round_b0
      rw [h2, (rnd_ok ho n (Nat.le_refl _)).2.1, if_pos (i_le_refl _)]
      exact ⟨_, rfl, h1, h2⟩
  exact ⟨v, by rw [e, zbind_s], h1, h2⟩
/-- k rounds -/
noncomputable def rnds (t : Nat → Int32) (n : Nat) : Nat → Nat → Int32
  | 0 => t
  | k + 1 => rnd (rnds t n k) n n
theorem rnds_ok {t : Nat → Int32} {n : Nat} (ho : tOk t n) : ∀ k, tOk (rnds t n k) n := by
  intro k
  induction k with
  | zero => exact ho
  | succ k ih => exact rnd_ok ih n (Nat.le_refl _)
theorem rnds_o (t : Nat → Int32) (n : Nat) : ∀ k j, (∀ b, b < n → j ≠ 6 + 7 * b + 4) → rnds t n k j = t j := by
  intro k
  induction k with
  | zero => exact fun _ _ => rfl
  | succ k ih => exact fun j hj => (rnd_o _ n n j hj).trans (ih j hj)
theorem keep5 (u : zM) : ∃ v, m_X4_readBribes u = some v ∧ (∀ q, q ≠ 29 → v q = u q) ∧ ∀ b, b < 12 → v 29 b = u 4 b := by
  unfold m_X4_readBribes
  refine ⟨zup u 29 (va_cpy (u 4) (u 29) 0 0 12), ?_, fun q hq => zup_o u _ hq, fun b hb => ?_⟩
  · rw [show (12 : Int32) = nI 12 from rfl, zcp_all _ _ _ _ (by decide), zbind_s]
  · rw [zup_s, pk_cpy_in (Nat.zero_le _) (by omega), Nat.zero_add, Nat.sub_zero]
theorem back5 (u : zM) : ∃ v, m_X4_writeBribes u = some v ∧ (∀ q, q ≠ 4 → v q = u q) ∧ ∀ b, b < 12 → v 4 b = u 29 b := by
  unfold m_X4_writeBribes
  refine ⟨zup u 4 (va_cpy (u 29) (u 4) 0 0 12), ?_, fun q hq => zup_o u _ hq, fun b hb => ?_⟩
  · rw [show (12 : Int32) = nI 12 from rfl, zcp_all _ _ _ _ (by decide), zbind_s]
  · rw [zup_s, pk_cpy_in (Nat.zero_le _) (by omega), Nat.zero_add, Nat.sub_zero]
theorem keep6 (u : zM) : ∃ v, m_X6_keepBribes u = some v ∧ (∀ q, q ≠ 46 → v q = u q) ∧ ∀ b, b < 12 → v 46 b = tB (u 40) b := by
  unfold m_X6_keepBribes
  obtain ⟨v, e, h1, h2⟩ : ∃ v, zit zF (fun s : Int32 × zM => m_X6_keepBribes_b0 s.1 s.2) (0, u) = some v ∧ (∀ q, q ≠ 46 → v q = u q) ∧ ∀ b, b < 12 → v 46 b = tB (u 40) b := by
    refine zit_inv (fun k s => s.1 = nI k ∧ (∀ q, q ≠ 46 → s.2 q = u q) ∧ ∀ b, b < k → s.2 46 b = tB (u 40) b) 12 _ _ (by omega) ⟨rfl, fun _ _ => rfl, fun b hb => absurd hb (by omega)⟩ ?_ ?_
    · rintro k ⟨x, v⟩ hk ⟨rfl, h1, h2⟩
      simp only at h1 h2 ⊢
      unfold m_X6_keepBribes_b0
      rw [if_neg (show ¬ (12 : Int32) ≤ nI k from fun z => by have := (q_le (a := 12) (by decide) (by omega)).mp z; omega), show m_X6_bodyIs (nI k) 4 v = some (v 40 (6 + 7 * k + 4)) from bi6 v (f := 4) (by omega) (by decide), zbind_s, h1 40 (by decide), zsv_n hk (by decide), zbind_s]
      refine ⟨_, rfl, q_add k 1, fun q hq => (zst_o _ hq).trans (h1 q hq), fun b hb => ?_⟩
      show zst v 46 k (u 40 (6 + 7 * k + 4)) 46 b = _
      rw [zst_g]
      by_cases c : b = k
      · subst c; rw [if_pos ⟨rfl, rfl⟩]; rfl
      · rw [if_neg (fun z => c z.2)]; exact h2 b (by omega)
    · rintro ⟨x, v⟩ ⟨rfl, h1, h2⟩
      simp only at h1 h2 ⊢
      unfold m_X6_keepBribes_b0
      rw [if_pos (show (12 : Int32) ≤ nI 12 by decide)]
      exact ⟨_, rfl, h1, h2⟩
  exact ⟨v, by rw [e, zbind_s], h1, h2⟩
theorem tz.cg {u v : zM} {t : Nat → Int32} {n : Nat} (h : tz u t n) (e : ∀ q, 15 ≤ q → q ≤ 19 → v q = u q) : tz v t n :=
  ⟨h.1.cg ⟨e 15 (by decide) (by decide), e 16 (by decide) (by decide), e 17 (by decide) (by decide), e 18 (by decide) (by decide)⟩, fun h0 m hm => by rw [e 19 (by decide) (by decide)]; exact h.2 h0 m hm⟩
/-- how many bribe otherwise -/
def unl (t t' : Nat → Int32) (n : Nat) : Nat := sN (fun b => if tB t' b = tB t b then 0 else 1) n
theorem p_rounds : B_rounds Inv := by
  intro a u hu
  obtain ⟨⟨n, ho⟩, ht⟩ := id hu.1
  have hn := ho.1
  unfold m_X5_rounds m_X6_rounds
  simp only [w5_eq, w6_eq, if_0]
  by_cases c : (1 : Int32) ≤ a ∧ a ≤ 20
  · rw [if_neg (fun z => z c)]
    obtain ⟨N, hN1, hN, rfl⟩ := (btw a 1 20 (by decide) (by decide)).mp c
    obtain ⟨r, v, e1, v1, v2⟩ := cfah_z hu ho
    obtain ⟨w, e2, w1, w2⟩ := keep5 v
    have wt' : tIs w 1 (u 40) := tIs_congr (fun k hk => w1 _ (by omega)) (ht.cls v1)
    have hR := rnds_ok ho N
    obtain ⟨y, e3, y1, y2, y3⟩ : ∃ y, zit zF (fun s : Int32 × zM => m_X5_rounds_b0 (nI N) s.1 s.2) (0, w) = some y ∧ rdP w y ∧ tIs y 1 (rnds (u 40) n N) ∧ tz y (rnds (u 40) n N) n := by
      refine zit_inv (fun k s => s.1 = nI k ∧ rdP w s.2 ∧ tIs s.2 1 (rnds (u 40) n k) ∧ tz s.2 (rnds (u 40) n k) n) N _ _ (by omega) ⟨rfl, rdP.rfl' w, wt', v2.cg (fun q a b => w1 q (by omega))⟩ ?_ ?_
      · rintro k ⟨x, v⟩ hk ⟨rfl, h1, h2, h3⟩
        simp only at h1 h2 h3 ⊢
        unfold m_X5_rounds_b0
        obtain ⟨x, e, x1, x2, x3⟩ := round5 h2 (rnds_ok ho k) h3
        rw [if_neg (fun z => by have := (q_le (by omega) (by omega)).mp z; omega), e, zbind_s]
        exact ⟨_, rfl, q_add k 1, h1.tr x1, x2, x3⟩
      · rintro ⟨x, v⟩ ⟨rfl, h1, h2, h3⟩
        simp only at h1 h2 h3 ⊢
        unfold m_X5_rounds_b0
        rw [if_pos (i_le_refl _)]
        exact ⟨_, rfl, h1, h2, h3⟩
    have e4 : zit zF (fun s : Int32 × Int32 => m_X5_rounds_b1 y s.1 s.2) (0, 0) = some (nI (unl (u 40) (rnds (u 40) n N) n)) := by
      refine zit_fn (fun k => (nI (unl (u 40) (rnds (u 40) n N) k), nI k)) n _ (by omega) (fun k hk => ?_) ?_
      · show m_X5_rounds_b1 y (nI (unl (u 40) (rnds (u 40) n N) k)) (nI k) = some (.inl (nI (unl (u 40) (rnds (u 40) n N) k + if tB (rnds (u 40) n N) k = tB (u 40) k then 0 else 1), nI (k + 1)))
        unfold m_X5_rounds_b1
        have e29 : y 29 k = tB (u 40) k := by
          rw [y1 29 (by decide) (by decide) (by decide) (by decide) (by decide) (by decide), w2 k (by omega)]
          exact (ht.cls v1).2.2.2.2.2.2.2.2.2.1 k (by omega)
        rw [y2.1.trans hR.2.1, if_neg (fun z => by have := (q_le (by omega) (by omega)).mp z; omega), show m_X4_tell (nI k) 4 y = some (tB (rnds (u 40) n N) k) from te5 y2 hR hk (w := 4) (by decide), zbind_s, zld_n (by omega) (by decide), zbind_s, e29, ← q_add (unl (u 40) (rnds (u 40) n N) k), ← q_add k 1]
        by_cases d : tB (rnds (u 40) n N) k = tB (u 40) k
        · rw [if_pos d, if_pos d]; rfl
        · rw [if_neg d, if_neg d]; rfl
      · show m_X5_rounds_b1 y (nI (unl (u 40) (rnds (u 40) n N) n)) (nI n) = _
        unfold m_X5_rounds_b1
        rw [y2.1.trans hR.2.1, if_pos (i_le_refl _)]
    have y40 : y 40 = u 40 := by
      rw [y1 40 (by decide) (by decide) (by decide) (by decide) (by decide) (by decide), w1 40 (by decide), v1.q rfl]
    have yS : vSlip y := fun j hj => by
      rw [y1 44 (by decide) (by decide) (by decide) (by decide) (by decide) (by decide), w1 44 (by decide), v1.q rfl]
      exact hu.2.2.2.2.2 j hj
    obtain ⟨p, e5, p1, p2⟩ := keep6 y
    rw [y40] at p2
    have p40 : p 40 = u 40 := (p1 40 (by decide)).trans y40
    obtain ⟨q, e6, q1, q2⟩ : ∃ q, zit zF (fun s : Int32 × zM => m_X6_rounds_b0 (nI N) s.1 s.2) (0, p) = some q ∧ rdR p q ∧ q 40 = rnds (u 40) n N := by
      refine zit_inv (fun k s => s.1 = nI k ∧ rdR p s.2 ∧ s.2 40 = rnds (u 40) n k) N _ _ (by omega) ⟨rfl, rdR.rfl' p, p40⟩ ?_ ?_
      · rintro k ⟨x, v⟩ hk ⟨rfl, h1, h2⟩
        simp only at h1 h2 ⊢
        unfold m_X6_rounds_b0
        obtain ⟨x, e, x1, x2⟩ := round6 (u := v) (n := n) (fun j hj => by rw [h1.1 44 (by decide) (by decide) (by decide) (by decide), p1 44 (by decide)]; exact yS j hj) (by rw [h2]; exact rnds_ok ho k)
        rw [if_neg (fun z => by have := (q_le (by omega) (by omega)).mp z; omega), e, zbind_s]
        exact ⟨_, rfl, q_add k 1, h1.tr x1, by rw [h2] at x2; exact x2⟩
      · rintro ⟨x, v⟩ ⟨rfl, h1, h2⟩
        simp only at h1 h2 ⊢
        unfold m_X6_rounds_b0
        rw [if_pos (i_le_refl _)]
        exact ⟨_, rfl, h1, h2⟩
    have e7 : zit zF (fun s : Int32 × Int32 => m_X6_rounds_b1 q s.1 s.2) (0, 0) = some (nI (unl (u 40) (rnds (u 40) n N) n)) := by
      refine zit_fn (fun k => (nI (unl (u 40) (rnds (u 40) n N) k), nI k)) n _ (by omega) (fun k hk => ?_) ?_
      · show m_X6_rounds_b1 q (nI (unl (u 40) (rnds (u 40) n N) k)) (nI k) = some (.inl (nI (unl (u 40) (rnds (u 40) n N) k + if tB (rnds (u 40) n N) k = tB (u 40) k then 0 else 1), nI (k + 1)))
        unfold m_X6_rounds_b1
        have e46 : q 46 k = tB (u 40) k := by
          rw [q1.1 46 (by decide) (by decide) (by decide) (by decide)]
          exact p2 k (by omega)
        rw [show m_X6_bodyIs (nI k) 4 q = some (q 40 (6 + 7 * k + 4)) from bi6 q (f := 4) (by omega) (by decide), q2, hR.2.1, if_neg (fun z => by have := (q_le (by omega) (by omega)).mp z; omega), zld_n (by omega) (by decide), zbind_s, zbind_s, e46, ← q_add (unl (u 40) (rnds (u 40) n N) k), ← q_add k 1]
        by_cases d : tB (rnds (u 40) n N) k = tB (u 40) k
        · rw [if_pos (show tB (u 40) k = rnds (u 40) n N (6 + 7 * k + 4) from d.symm), if_pos d]; rfl
        · rw [if_neg (show ¬ tB (u 40) k = rnds (u 40) n N (6 + 7 * k + 4) from fun z => d z.symm), if_neg d]; rfl
      · show m_X6_rounds_b1 q (nI (unl (u 40) (rnds (u 40) n N) n)) (nI n) = _
        unfold m_X6_rounds_b1
        rw [q2, hR.2.1, if_pos (i_le_refl _)]
    refine ⟨nI (unl (u 40) (rnds (u 40) n N) n), y, q, ?_, ?_, hu.town ⟨fun k k1 k2 k3 k4 k5 => ?_, ?_, ?_, ?_⟩ ⟨⟨n, by rw [q2]; exact hR⟩, ?_⟩⟩
    · rw [e1, zbind2_s, e2, zbind_s, e3, zbind_s, e4, zbind_s]
    · rw [if_neg (fun z => z c), e5, zbind_s, e6, zbind_s, e7, zbind_s]
    · have s1 : k ≠ 45 := fun e => by rw [e] at k1; exact absurd k1 (by decide)
      have s2 : k ≠ 43 := fun e => by rw [e] at k1; exact absurd k1 (by decide)
      have s3 : k ≠ 29 := fun e => by rw [e] at k1; exact absurd k1 (by decide)
      have s4 : k ≠ 46 := fun e => by rw [e] at k1; exact absurd k1 (by decide)
      have s5 : k ≠ 15 := fun e => by rw [e] at k1; exact absurd k1 (by decide)
      have s6 : k ≠ 16 := fun e => by rw [e] at k1; exact absurd k1 (by decide)
      have s7 : k ≠ 17 := fun e => by rw [e] at k1; exact absurd k1 (by decide)
      have s8 : k ≠ 18 := fun e => by rw [e] at k1; exact absurd k1 (by decide)
      have s9 : k ≠ 19 := fun e => by rw [e] at k1; exact absurd k1 (by decide)
      rw [q1.1 k k5 s1 k3 s2, p1 k s4, y1 k (by omega) s5 s6 s7 s8 s9, w1 k s3, v1.q k1]
    · rw [q1.1 20 (by decide) (by decide) (by decide) (by decide), p1 20 (by decide), y1 20 (by decide) (by decide) (by decide) (by decide) (by decide) (by decide), w1 20 (by decide), v1.q rfl]
    · rw [q1.2 2 (by decide), p1 39 (by decide), y1 39 (by decide) (by decide) (by decide) (by decide) (by decide) (by decide), w1 39 (by decide), v1.q rfl]
    · rw [q1.2 12 (by decide), p1 39 (by decide), y1 39 (by decide) (by decide) (by decide) (by decide) (by decide) (by decide), w1 39 (by decide), v1.q rfl]
    · rw [q2]
      exact tIs_congr (fun k hk => by rw [q1.1 _ (by omega) (by omega) (by omega) (by omega), p1 _ (by omega)]) y2
  · rw [if_pos c]
    refine fin0 hu (g := fun u1 => _) rfl ?_
    rw [if_pos c]
