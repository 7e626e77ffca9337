/-! FITS, COSTS, WORST -/
/-- who of the set s fits with the coat K -/
def fitP (t : Nat → Int32) (s : Nat) (K : Nat → Int32) (b : Nat) : Bool := s.testBit b && !decide (t 2 < costS t b K)
theorem fit5 {u : zM} {t : Nat → Int32} {K : Nat → Int32} {n s : Nat} (ht : tIs u 1 t) (ho : tOk t n) (h15 : u 15 4 = nI n) (hK : ∀ m, m < 3 → u 19 m = K m) (hs : s < 4096) : m_X2_fitting (nI s) u = some (nI (pset (fitP t s K) n)) := by
  have hn := ho.1
  unfold m_X2_fitting
  have e : zit zF (fun s' : Int32 × Int32 => m_X2_fitting_b0 u (nI s) s'.1 s'.2) (nI (pset (fitP t s K) 0), nI 0) = some (nI (pset (fitP t s K) n)) := by
    refine zit_fn (fun k => (nI (pset (fitP t s K) k), nI k)) n _ (by omega) (fun k hk => ?_) ?_
    · show m_X2_fitting_b0 u (nI s) (nI (pset (fitP t s K) k)) (nI k) = some (.inl (nI (pset (fitP t s K) (k + 1)), nI (k + 1)))
      unfold m_X2_fitting_b0
      rw [h15, if_neg (fun z => by have := (q_le (by omega) (by omega)).mp z; omega), h5_eq (by omega) (by omega), pset_or, ← n_or, ← q_add k 1]
      by_cases c : s.testBit k = true
      · rw [if_pos c, if_neg (by decide), cost5 ht hK (by omega), zbind_s, ht.2.2.2.1]
        by_cases c2 : t 2 < costS t k K
        · rw [if_pos c2, if_neg (by unfold fitP; rw [c, decide_eq_true c2]; decide), show nI 0 = (0 : Int32) from rfl, Int32.or_zero]; rfl
        · rw [if_neg c2, if_pos (by unfold fitP; rw [c, decide_eq_false c2]; decide), n_shl (by omega)]; rfl
      · rw [if_neg c, if_pos rfl, if_neg (by unfold fitP; rw [Bool.not_eq_true _ ▸ c]; decide), show nI 0 = (0 : Int32) from rfl, Int32.or_zero]; rfl
    · show m_X2_fitting_b0 u (nI s) (nI (pset (fitP t s K) n)) (nI n) = _
      unfold m_X2_fitting_b0
      rw [h15, if_pos (i_le_refl _)]
  exact (congrArg (fun x => zbind x (fun x3 => some x3)) e).trans rfl
theorem fit6 {u : zM} {K : Nat → Int32} {n s : Nat} (ho : tOk (u 40) n) (hK : s ≠ 0 → ∀ m, m < 3 → u 43 m = K m) (hs : s < 4096) : zit zF (fun s' : Int32 × Int32 => m_X6_fitOf_b0 u (nI s) s'.1 s'.2) (0, 0) = some (nI (pset (fitP (u 40) s K) n)) := by
  have hn := ho.1
  refine zit_fn (fun k => (nI (pset (fitP (u 40) s K) k), nI k)) n _ (by omega) (fun k hk => ?_) ?_
  · show m_X6_fitOf_b0 u (nI s) (nI (pset (fitP (u 40) s K) k)) (nI k) = some (.inl (nI (pset (fitP (u 40) s K) (k + 1)), nI (k + 1)))
    unfold m_X6_fitOf_b0
    rw [ho.2.1, if_neg (fun z => by have := (q_le (by omega) (by omega)).mp z; omega), h6_eq (by omega) (by omega), pset_or, ← n_or, ← q_add k 1]
    by_cases c : s.testBit k = true
    · have h0 : s ≠ 0 := fun e => by rw [e, Nat.zero_testBit] at c; cases c
      rw [if_pos c, if_neg (by decide), cost6 (hK h0) (by omega), zbind_s]
      by_cases c2 : u 40 2 < costS (u 40) k K
      · rw [if_pos c2, if_neg (by unfold fitP; rw [c, decide_eq_true c2]; decide)]; rfl
      · rw [if_neg c2, if_pos (by unfold fitP; rw [c, decide_eq_false c2]; decide), n_shl (by omega)]; rfl
    · rw [if_neg c, if_pos rfl, if_neg (by unfold fitP; rw [Bool.not_eq_true _ ▸ c]; decide)]; rfl
  · show m_X6_fitOf_b0 u (nI s) (nI (pset (fitP (u 40) s K) n)) (nI n) = _
    unfold m_X6_fitOf_b0
    rw [ho.2.1, if_pos (i_le_refl _)]
theorem fitOf6 {u : zM} {n s : Nat} (hu : Inv u) (ho : tOk (u 40) n) (hs : sOk n s) :
    ∃ v, m_X6_fitOf (nI s) u = some (nI (pset (fitP (u 40) s (coatV (u 40) n s)) n), v) ∧ cutP u v := by
  unfold m_X6_fitOf
  by_cases c : s = 0
  · subst c
    refine ⟨u, ?_, fun _ _ _ _ => rfl, fun _ _ => rfl⟩
    rw [if_pos (show nI 0 = 0 from rfl), zbind_s, fit6 ho (fun z => absurd rfl z) (by decide), zbind_s]
  · obtain ⟨v, e, h1, h2⟩ := cut6_t hu ho hs c
    have e40 : v 40 = u 40 := h1.1 40 (by decide) (by decide) (by decide)
    refine ⟨v, ?_, h1⟩
    rw [if_neg (nz hs.1 c), e, zbind_s, zbind_s, fit6 (by rw [e40]; exact ho) (fun _ => h2) hs.1, zbind_s, e40]
theorem fitP_0 (t : Nat → Int32) (K : Nat → Int32) (n : Nat) : pset (fitP t 0 K) n = 0 := set_0.mpr (fun i _ => by unfold fitP; rw [Nat.zero_testBit]; rfl)
theorem p_fits : B_fits Inv := by
  intro u hu
  obtain ⟨⟨n, ho⟩, ht⟩ := id hu.1
  unfold m_X5_fits m_X6_fits
  obtain ⟨v, h1, h2, h⟩ := cfah_ok hu ho
  have hv := hu.congr h1.same
  have e40 : v 40 = u 40 := h1 40 (by decide) (by decide) (by decide) (by decide) (by decide)
  obtain ⟨w, e, r⟩ := fitOf6 hv (by rw [e40]; exact ho) (tSet_sOk ho)
  rw [e40] at e
  refine ⟨nI (pset (fitP (u 40) (tSet (u 40)) (coatV (u 40) n (tSet (u 40)))) n), v, w, ?_, ?_, hv.congr r.same⟩
  · rcases h with ⟨h3, h4⟩ | ⟨h3, h4, h5⟩
    · rw [h4, zbind2_s, if_pos rfl, h3, fitP_0]; rfl
    · rw [h4, zbind2_s, if_neg (by decide), h1 1 (by decide) (by decide) (by decide) (by decide) (by decide), ht.2.1, fit5 (ht.cls h1) ho h2.1 h5 (tSet_lt _), zbind_s]
  · rw [hereSet_ok (by rw [e40]; exact ho), zbind_s, e40, e, zbind2_s]
theorem p_costs : B_costs Inv := by
  intro u hu
  obtain ⟨⟨n, ho⟩, ht⟩ := id hu.1
  have hn := ho.1
  unfold m_X5_costs m_X6_costs
  obtain ⟨v, h1, h2, h⟩ := cfah_ok hu ho
  have hv := hu.congr h1.same
  have e40 : v 40 = u 40 := h1 40 (by decide) (by decide) (by decide) (by decide) (by decide)
  let K := coatV (u 40) n (tSet (u 40))
  let g := fun b => if hereP (u 40) b = true then costS (u 40) b K else 0
  have key : ∃ w, (if nI (tSet (u 40)) = 0 then some v else zbind (m_X6_cut (nI (tSet (u 40))) v) (fun u6 => some u6) : Option zM) = some w ∧ sameP v w ∧ w 40 = u 40 ∧ (tSet (u 40) ≠ 0 → ∀ m, m < 3 → w 43 m = K m) := by
    by_cases c : tSet (u 40) = 0
    · exact ⟨v, if_pos (by rw [c]; rfl), sameP.rfl' v, e40, fun z => absurd c z⟩
    · obtain ⟨w, e, r, hK⟩ := cut6_t hv (by rw [e40]; exact ho) (tSet_sOk ho) c
      rw [e40] at hK
      exact ⟨w, by rw [if_neg (nz (tSet_lt _) c), e, zbind_s], r.same, (r.1 40 (by decide) (by decide) (by decide)).trans e40, fun _ => hK⟩
  obtain ⟨w, e, r, e41, hK⟩ := key
  refine ⟨sI g n, v, w, ?_, ?_, hv.congr r⟩
  · rcases h with ⟨h3, h4⟩ | ⟨h3, h4, h5⟩
    · rw [h4, zbind2_s, if_pos rfl]
      have : sI g n = 0 := by
        have e0 : sI g n = sI (fun _ => 0) n := sI_congr (fun b hb => if_neg (by
          have := tSet_bit (u 40) (b := b) (by omega)
          rw [h3, Nat.zero_testBit] at this
          rw [← this]; decide))
        rw [e0]
        clear e0 e hK
        induction n with
        | zero => rfl
        | succ n ih => exact absurd rfl (by simp_all)
      rw [this]
    · rw [h4, zbind2_s, if_neg (by decide)]
      have e2 : zit zF (fun s' : Int32 × Int32 => m_X5_costs_b0 v s'.1 s'.2) (sI g 0, nI 0) = some (sI g n) := by
        refine zit_fn (fun k => (sI g k, nI k)) n _ (by omega) (fun k hk => ?_) ?_
        · show m_X5_costs_b0 v (sI g k) (nI k) = some (.inl (sI g k + g k, nI (k + 1)))
          unfold m_X5_costs_b0
          rw [(ht.cls h1).1.trans ho.2.1, if_neg (fun z => by have := (q_le (by omega) (by omega)).mp z; omega), ih5_eq (ht.cls h1) (by omega), ← q_add k 1]
          by_cases c : hereP (u 40) k = true
          · rw [if_pos c, if_neg (by decide), cost5 (ht.cls h1) h5 (by omega), zbind_s, show g k = costS (u 40) k K from if_pos c]; rfl
          · rw [if_neg c, if_pos rfl, show g k = 0 from if_neg c]; rfl
        · show m_X5_costs_b0 v (sI g n) (nI n) = _
          unfold m_X5_costs_b0
          rw [(ht.cls h1).1.trans ho.2.1, if_pos (i_le_refl _)]
      exact (congrArg (fun x => zbind x (fun x3 => some (x3, v))) e2).trans rfl
  · rw [hereSet_ok (by rw [e40]; exact ho), zbind_s, e40, e, zbind_s]
    have e2 : zit zF (fun s' : Int32 × Int32 => m_X6_costs_b0 w (nI (tSet (u 40))) s'.1 s'.2) (sI g 0, nI 0) = some (sI g n) := by
      refine zit_fn (fun k => (sI g k, nI k)) n _ (by omega) (fun k hk => ?_) ?_
      · show m_X6_costs_b0 w (nI (tSet (u 40))) (sI g k) (nI k) = some (.inl (sI g k + g k, nI (k + 1)))
        unfold m_X6_costs_b0
        rw [e41, ho.2.1, if_neg (fun z => by have := (q_le (by omega) (by omega)).mp z; omega), h6_eq (by have := tSet_lt (u 40); omega) (by omega), tSet_bit (u 40) (by omega), ← q_add k 1]
        by_cases c : hereP (u 40) k = true
        · have h0 : tSet (u 40) ≠ 0 := fun z => by
            have := tSet_bit (u 40) (b := k) (by omega)
            rw [z, Nat.zero_testBit, c] at this; cases this
          rw [if_pos c, if_neg (by decide), cost6 (hK h0) (by omega), zbind_s, e41, show g k = costS (u 40) k K from if_pos c]; rfl
        · rw [if_neg c, if_pos rfl, show g k = 0 from if_neg c]; rfl
      · show m_X6_costs_b0 w (nI (tSet (u 40))) (sI g n) (nI n) = _
        unfold m_X6_costs_b0
        rw [e41, ho.2.1, if_pos (i_le_refl _)]
    exact (congrArg (fun x => zbind x (fun x3 => some (x3, w))) e2).trans rfl
