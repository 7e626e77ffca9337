/-! COUNT, JUDGE -/
theorem spot5 {u : zM} {t : Nat → Int32} {n : Nat} (ht : tIs u 1 t) (ho : tOk t n) : m_X4_spotsHeld u = some (nI (sN (fun i => if t (150 + i) = 0 then 0 else 1) 10)) := by
  have hn := ho.1
  unfold m_X4_spotsHeld
  have e : zit zF (fun s' : Int32 × Int32 => m_X4_spotsHeld_b0 u s'.1 s'.2) (nI (sN (fun i => if t (150 + i) = 0 then 0 else 1) 0), nI 0) = some (nI (sN (fun i => if t (150 + i) = 0 then 0 else 1) 10)) := by
    refine zit_fn (fun k => (nI (sN (fun i => if t (150 + i) = 0 then 0 else 1) k), nI k)) 10 _ (by omega) (fun k hk => ?_) ?_
    · show m_X4_spotsHeld_b0 u (nI (sN (fun i => if t (150 + i) = 0 then 0 else 1) k)) (nI k) = some (.inl (nI (sN (fun i => if t (150 + i) = 0 then 0 else 1) k + (if t (150 + k) = 0 then 0 else 1)), nI (k + 1)))
      unfold m_X4_spotsHeld_b0
      obtain ⟨w, hw, ew⟩ := ho.2.2.2.2.2.2.2.2.2 k hk
      rw [if_neg (show ¬ (10 : Int32) ≤ nI k from fun z => by have := (q_le (a := 10) (by decide) (by omega)).mp z; omega), zld_n hk (by decide), zbind_s, show u 7 k = t (150 + k) - 1 from ht.2.2.2.2.2.2.2.2.2.2.2.2 k hk, ew, ← q_add, ← q_add k 1]
      by_cases c : w = 0
      · subst c
        rw [if_pos (show nI 0 - 1 = -1 by decide), if_pos (show nI 0 = 0 from rfl)]; rfl
      · have e1 : nI w - 1 = nI (w - 1) := q_sub (b := 1) (by omega)
        rw [e1, if_neg (show ¬ nI (w - 1) = -1 from fun z => by
          have h1 : (0 : Int32) ≤ nI (w - 1) := nI_pos' (by omega)
          rw [z] at h1; exact absurd h1 (by decide)), if_neg (nI_ne0 (by omega) (by omega))]; rfl
    · show m_X4_spotsHeld_b0 u (nI (sN (fun i => if t (150 + i) = 0 then 0 else 1) 10)) (nI 10) = _
      unfold m_X4_spotsHeld_b0
      rw [if_pos (show (10 : Int32) ≤ nI 10 by decide)]
  exact (congrArg (fun x => zbind x (fun x3 => some x3)) e).trans rfl
theorem spot6 {u : zM} {n : Nat} (ho : tOk (u 40) n) : zit zF (fun s' : Int32 × Int32 => m_X6_count_b0 u s'.1 s'.2) (0, 0) = some (nI (sN (fun i => if u 40 (150 + i) = 0 then 0 else 1) 10)) := by
  have hn := ho.1
  refine zit_fn (fun k => (nI (sN (fun i => if u 40 (150 + i) = 0 then 0 else 1) k), nI k)) 10 _ (by omega) (fun k hk => ?_) ?_
  · show m_X6_count_b0 u (nI (sN (fun i => if u 40 (150 + i) = 0 then 0 else 1) k)) (nI k) = some (.inl (nI (sN (fun i => if u 40 (150 + i) = 0 then 0 else 1) k + (if u 40 (150 + k) = 0 then 0 else 1)), nI (k + 1)))
    unfold m_X6_count_b0
    obtain ⟨w, hw, ew⟩ := ho.2.2.2.2.2.2.2.2.2 k hk
    have e1 : (150 : Int32) + nI k = nI (150 + k) := q_add 150 k
    rw [if_neg (show ¬ (10 : Int32) ≤ nI k from fun z => by have := (q_le (a := 10) (by decide) (by omega)).mp z; omega), e1, zld_n (by omega) (by decide), zbind_s, ew, ← q_add, ← q_add k 1]
    by_cases c : w = 0
    · subst c
      rw [if_pos (show nI 0 ≤ 0 by decide), if_pos (show nI 0 = 0 from rfl)]; rfl
    · rw [if_neg (nI_nle (by omega) (by omega)), if_neg (nI_ne0 (by omega) (by omega))]; rfl
  · show m_X6_count_b0 u (nI (sN (fun i => if u 40 (150 + i) = 0 then 0 else 1) 10)) (nI 10) = _
    unfold m_X6_count_b0
    rw [if_pos (show (10 : Int32) ≤ nI 10 by decide)]
theorem p_count : B_count Inv := by
  intro a u hu
  obtain ⟨⟨n, ho⟩, ht⟩ := id hu.1
  have hn := ho.1
  unfold m_X5_count m_X6_count
  by_cases c0 : a = 0
  · simp only [if_pos c0]
    exact ⟨u 1 6, u, u, rfl, by rw [ht.1], hu⟩
  simp only [if_neg c0]
  by_cases c1 : a = 1
  · simp only [if_pos c1]
    refine ⟨_, u, u, rfl, ?_, hu⟩
    rw [hereSet_ok ho, zbind_s, bc6 (tSet_lt _), zbind_s, ht.2.1, bc5 (tSet_lt _)]
  simp only [if_neg c1]
  by_cases c2 : a = 2
  · simp only [if_pos c2]
    obtain ⟨v, h1, h2, h⟩ := cfah_ok hu ho
    have hv := hu.congr h1.same
    have e40 : v 40 = u 40 := h1.q rfl
    obtain ⟨w, e, r⟩ := fitOf6 hv (by rw [e40]; exact ho) (tSet_sOk ho)
    rw [e40] at e
    refine ⟨nI (bitsN (pset (fitP (u 40) (tSet (u 40)) (coatV (u 40) n (tSet (u 40)))) n)), v, w, ?_, ?_, hv.congr r.same⟩
    · rcases h with ⟨h3, h4⟩ | ⟨h3, h4, h5⟩
      · rw [h4, zbind2_s, if_pos rfl, h3, fitP_0]; rfl
      · rw [h4, zbind2_s, if_neg (by decide), show v 1 7 = nI (tSet (u 40)) from (ht.cls h1).2.1, fit5 (ht.cls h1) ho h2.1 h5 (tSet_lt _), zbind_s, bc5 (pset_lt12 hn)]
    · rw [hereSet_ok (by rw [e40]; exact ho), zbind_s, e40, e, zbind2_s, bc6 (pset_lt12 hn), zbind_s]
  simp only [if_neg c2]
  by_cases c3 : a = 3
  · simp only [if_pos c3]
    exact ⟨u 1 11, u, u, rfl, by rw [show u 1 11 = u 40 4 from ht.2.2.2.2.2.1], hu⟩
  simp only [if_neg c3]
  by_cases c4 : a = 4
  · simp only [if_pos c4]
    obtain ⟨k, hk, k1, k2, -⟩ := hu.2.2.2.1
    exact ⟨u 20 4, u, u, rfl, by rw [k1, k2], hu⟩
  simp only [if_neg c4]
  by_cases c5 : a = 5
  · simp only [if_pos c5]
    exact ⟨u 1 12, u, u, rfl, by rw [show u 1 12 = u 40 5 from ht.2.2.2.2.2.2.1], hu⟩
  simp only [if_neg c5]
  by_cases c6 : a = 6
  · simp only [if_pos c6]
    refine ⟨_, u, u, by rw [spot5 ht ho, zbind_s], ?_, hu⟩
    rw [spot6 ho, zbind_s]
  simp only [if_neg c6]
  exact fin0 hu (g := fun u1 => _) rfl rfl
/-- where two rows part -/
def jAt (f g : Nat → Int32) (l n k : Nat) : Prop := k ≤ l ∧ k ≤ n ∧ (∀ i, i < k → f i = g i) ∧ (k = l ∨ k = n ∨ f k ≠ g k)
theorem jAt_eq {f g : Nat → Int32} {l n k k' : Nat} (h : jAt f g l n k) (h' : jAt f g l n k') : k = k' := by
  obtain ⟨a1, a2, a3, a4⟩ := h
  obtain ⟨b1, b2, b3, b4⟩ := h'
  rcases Nat.lt_trichotomy k k' with q | q | q
  · rcases a4 with z | z | z
    · omega
    · omega
    · exact absurd (b3 k q) z
  · exact q
  · rcases b4 with z | z | z
    · omega
    · omega
    · exact absurd (a3 k' q) z
theorem p_judge : B_judge Inv := by
  intro a u hu
  obtain ⟨⟨n, ho⟩, ht⟩ := id hu.1
  have hn : n ≤ 12 := ho.1
  unfold m_X5_judge m_X6_judge m_X5_isSheet m_X6_isSheet m_X1_isMissing
  simp only [w5_eq, w6_eq, zb_if, if_0]
  by_cases c : (0 : Int32) ≤ a ∧ a ≤ 3
  · rw [if_neg (fun z => z c)]
    simp only [if_neg (fun z : ¬ (0 ≤ a ∧ a ≤ 3) => z c)]
    obtain ⟨s, -, hs3, rfl⟩ := (btw a 0 3 (by decide) (by decide)).mp c
    have hs : s < 4 := by omega
    obtain ⟨p1, p2, ⟨l, hl, p3, p3'⟩, p4⟩ := hu.2.2.2.2.1 s hs
    simp only [zsheet_n hs, zbind_s, p1]
    by_cases d1 : u 51 s = 0
    · rw [if_neg (fun z => z d1)]
      refine fin (j := 5) (by decide) hu (g := fun u1 => _) rfl ?_
      rw [zld_n hs (by decide), zbind_s, fnd5_c 5 u (by decide), if_pos d1]
      rfl
    · rw [if_pos d1]
      obtain ⟨v, h1, h2, h⟩ := cfah_ok hu ho
      have hv := hu.congr h1.same
      have e40 : v 40 = u 40 := h1.q rfl
      rcases h with ⟨h3, h4⟩ | ⟨h3, h4, h5⟩
      · rw [h4, zbind2_s, if_pos rfl]
        refine fin (j := 3) (by decide) hv (g := fun u1 => _) rfl ?_
        rw [zld_n hs (by decide), zbind_s, fnd5_c 3 v (by decide), h1.q rfl, if_neg d1, hereSet_ok (by rw [fnd5_c 3 v (by decide), e40]; exact ho), zbind_s, fnd5_c 3 v (by decide), e40, h3, if_pos (show nI 0 = 0 from rfl)]; rfl
      · obtain ⟨w, ew, r, hK⟩ := cut6_t hv (by rw [e40]; exact ho) (tSet_sOk ho) h3
        have e41 : w 40 = u 40 := (r.q rfl (by decide)).trans e40
        rw [e40] at hK
        let f := u (31 + 2 * s + 1)
        let g := fun i => costS (u 40) i (coatV (u 40) n (tSet (u 40)))
        have es := scrS s hs
        have ev2 : v (31 + 2 * s) 2 = nI l := (congrFun (h1.q es.1) 2).trans p3
        have evn : v (31 + 2 * s + 1) = f := h1.q es.2
        have ev6 : v 1 6 = nI n := (ht.cls h1).1.trans ho.2.1
        obtain ⟨r5, e5, k, rk, jk⟩ : ∃ r5, zit zF (fun x : Int32 => m_X5_judge_b0 v (31 + 2 * s) (nI s) x) 0 = some r5 ∧ ∃ k, r5 = nI k ∧ jAt f g l n k := by
          refine zit_inv2 (fun k x => x = nI k ∧ k ≤ l ∧ k ≤ n ∧ ∀ i, i < k → f i = g i) n _ _ (by omega) ⟨rfl, Nat.zero_le _, Nat.zero_le _, fun i hi => absurd hi (by omega)⟩ ?_ ?_
          · rintro k x hk ⟨rfl, k1, k2, k3⟩
            unfold m_X5_judge_b0
            rw [ev2, ev6]
            by_cases cl : l ≤ k
            · rw [if_pos ((q_le (by omega) (by omega)).mpr cl)]
              exact Or.inr ⟨_, rfl, k, rfl, k1, k2, k3, Or.inl (by omega)⟩
            · rw [if_neg (fun z => cl ((q_le (by omega) (by omega)).mp z)), if_neg (fun z => by have := (q_le (by omega) (by omega)).mp z; omega), zsheet_n hs, zbind_s, zld_n (by omega) (by decide), zbind_s, evn, cost5 (ht.cls h1) h5 (by omega), zbind_s]
              by_cases ce : f k = g k
              · rw [if_pos ce]
                refine Or.inl ⟨_, rfl, q_add k 1, by omega, by omega, fun i hi => ?_⟩
                by_cases ci : i = k
                · rw [ci]; exact ce
                · exact k3 i (by omega)
              · rw [if_neg ce]
                exact Or.inr ⟨_, rfl, k, rfl, k1, k2, k3, Or.inr (Or.inr ce)⟩
          · rintro x ⟨rfl, k1, k2, k3⟩
            unfold m_X5_judge_b0
            rw [ev2, ev6]
            by_cases cl : l ≤ n
            · rw [if_pos ((q_le (by omega) (by omega)).mpr cl)]
              exact ⟨_, rfl, n, rfl, k1, k2, k3, Or.inr (Or.inl rfl)⟩
            · rw [if_neg (fun z => cl ((q_le (by omega) (by omega)).mp z)), if_pos (i_le_refl _)]
              exact ⟨_, rfl, n, rfl, k1, k2, k3, Or.inr (Or.inl rfl)⟩
        have q53 : w 53 = u 53 := (r.q rfl (by decide)).trans (h1.q rfl)
        have q52 : w 52 = u 52 := (r.q rfl (by decide)).trans (h1.q rfl)
        obtain ⟨r6, e6, k', rk', jk'⟩ : ∃ r6, zit zF (fun x : Int32 => m_X6_judge_b0 w (nI s) x) 0 = some r6 ∧ ∃ k, r6 = nI k ∧ jAt f g l n k := by
          refine zit_inv2 (fun k x => x = nI k ∧ k ≤ l ∧ k ≤ n ∧ ∀ i, i < k → f i = g i) n _ _ (by omega) ⟨rfl, Nat.zero_le _, Nat.zero_le _, fun i hi => absurd hi (by omega)⟩ ?_ ?_
          · rintro k x hk ⟨rfl, k1, k2, k3⟩
            unfold m_X6_judge_b0
            rw [zld_n hs (by decide), zbind_s, q52, p3', e41, ho.2.1]
            by_cases cl : l ≤ k
            · rw [if_pos ((q_le (by omega) (by omega)).mpr cl)]
              exact Or.inr ⟨_, rfl, k, rfl, k1, k2, k3, Or.inl (by omega)⟩
            · have en : w 53 (40 * s + k) = f k := by rw [q53]; exact (p4 k (by omega)).symm
              rw [if_neg (fun z => cl ((q_le (by omega) (by omega)).mp z)), if_neg (fun z => by have := (q_le (by omega) (by omega)).mp z; omega), idx40, zld_n (by omega) (by decide), zbind_s, en, cost6 hK (by omega), zbind_s, e41]
              by_cases ce : f k = g k
              · rw [if_pos ce]
                refine Or.inl ⟨_, rfl, q_add k 1, by omega, by omega, fun i hi => ?_⟩
                by_cases ci : i = k
                · rw [ci]; exact ce
                · exact k3 i (by omega)
              · rw [if_neg ce]
                exact Or.inr ⟨_, rfl, k, rfl, k1, k2, k3, Or.inr (Or.inr ce)⟩
          · rintro x ⟨rfl, k1, k2, k3⟩
            unfold m_X6_judge_b0
            rw [zld_n hs (by decide), zbind_s, q52, p3', e41, ho.2.1]
            by_cases cl : l ≤ n
            · rw [if_pos ((q_le (by omega) (by omega)).mpr cl)]
              exact ⟨_, rfl, n, rfl, k1, k2, k3, Or.inr (Or.inl rfl)⟩
            · rw [if_neg (fun z => cl ((q_le (by omega) (by omega)).mp z)), if_pos (i_le_refl _)]
              exact ⟨_, rfl, n, rfl, k1, k2, k3, Or.inr (Or.inl rfl)⟩
        have ek := jAt_eq jk' jk
        subst ek
        refine ⟨if nI k' = nI l then (if nI k' = nI n then 0 else 1 + nI k') else 1 + nI k', v, w, ?_, ?_, hv.congr r.same⟩
        · rw [h4, zbind2_s, if_neg (by decide), e5, zbind_s, rk, ev2, ev6]
          by_cases c1 : nI k' = nI l
          · simp only [if_pos c1]
            by_cases c2 : nI k' = nI n
            · simp only [if_pos c2]
            · simp only [if_neg c2]
          · simp only [if_neg c1]
        · rw [zld_n hs (by decide), zbind_s, h1.q rfl, if_neg d1, hereSet_ok (by rw [e40]; exact ho), zbind_s, e40, if_neg (nz (tSet_lt _) h3), ew, zbind_s, e6, zbind_s, zld_n hs (by decide), zbind_s, q52, p3', e41, ho.2.1, rk']
          by_cases c1 : nI k' = nI l
          · simp only [if_pos c1]
            by_cases c2 : nI k' = nI n
            · simp only [if_pos c2]
            · simp only [if_neg c2]
          · simp only [if_neg c1]
  · rw [if_pos c]
    simp only [if_pos c]
    exact fin0 hu (g := fun u1 => _) rfl rfl
