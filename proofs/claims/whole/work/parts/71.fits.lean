/-! FITS, COSTS, WORST -/
/-- who of the set s fits with the coat K -/
def fitP (t : Nat → Int32) (s : Nat) (K : Nat → Int32) (b : Nat) : Bool := s.testBit b && !decide (t 2 < costS t b K)
theorem fit5 {u : zM} {t : Nat → Int32} {K : Nat → Int32} {n s : Nat} (ht : tIs u 1 t) (ho : tOk t n) (h15 : u 15 4 = nI n) (hK : ∀ m, m < 3 → u 19 m = K m) (hs : s < 4096) : m_X2_fitting (nI s) u = some (nI (pset (fitP t s K) n)) := by
  have hn := ho.1
  unfold m_X2_fitting
  have e : zit zF (fun s' : Int32 × Int32 => m_X2_fitting_b0 u (nI s) s'.1 s'.2) (nI (pset (fitP t s K) 0), nI 0) = some (nI (pset (fitP t s K) n)) := by
    refine zit_fn (fun k => (nI (pset (fitP t s K) k), nI k)) n _ (by omega) (fun k hk => ?_) ?_
    · show m_X2_fitting_b0 u (nI s) (nI (pset (fitP t s K) k)) (nI k) = some (.inl (nI (pset (fitP t s K) (k + 1)), nI (k + 1)))
      unfold m_X2_fitting_b0
      rw [h15, if_neg (fun z => by have := (q_le (by omega) (by omega)).mp z; omega), h5_eq (by omega) (by omega), pset_or, ← n_or, ← q_add k 1]
      by_cases c : s.testBit k = true
      · rw [if_pos c, if_neg (by decide), cost5 ht hK (by omega), zbind_s, ht.2.2.2.1]
        by_cases c2 : t 2 < costS t k K
        · rw [if_pos c2, if_neg (by unfold fitP; rw [c, decide_eq_true c2]; decide), show nI 0 = (0 : Int32) from rfl, Int32.or_zero]; rfl
        · rw [if_neg c2, if_pos (by unfold fitP; rw [c, decide_eq_false c2]; decide), n_shl (by omega)]; rfl
      · rw [if_neg c, if_pos rfl, if_neg (by unfold fitP; rw [eq_false_of_ne_true c, Bool.false_and]; decide), show nI 0 = (0 : Int32) from rfl, Int32.or_zero]; rfl
    · show m_X2_fitting_b0 u (nI s) (nI (pset (fitP t s K) n)) (nI n) = _
      unfold m_X2_fitting_b0
      rw [h15, if_pos (i_le_refl _)]
  exact (congrArg (fun x => zbind x (fun x3 => some x3)) e).trans rfl
theorem fit6 {u : zM} {K : Nat → Int32} {n s : Nat} (ho : tOk (u 40) n) (hK : s ≠ 0 → ∀ m, m < 3 → u 43 m = K m) (hs : s < 4096) : zit zF (fun s' : Int32 × Int32 => m_X6_fitOf_b0 u (nI s) s'.1 s'.2) (0, 0) = some (nI (pset (fitP (u 40) s K) n)) := by
  have hn := ho.1
  refine zit_fn (fun k => (nI (pset (fitP (u 40) s K) k), nI k)) n _ (by omega) (fun k hk => ?_) ?_
  · show m_X6_fitOf_b0 u (nI s) (nI (pset (fitP (u 40) s K) k)) (nI k) = some (.inl (nI (pset (fitP (u 40) s K) (k + 1)), nI (k + 1)))
    unfold m_X6_fitOf_b0
    rw [ho.2.1, if_neg (fun z => by have := (q_le (by omega) (by omega)).mp z; omega), h6_eq (by omega) (by omega), pset_or, ← n_or, ← q_add k 1]
    by_cases c : s.testBit k = true
    · have h0 : s ≠ 0 := fun e => by rw [e, Nat.zero_testBit] at c; cases c
      rw [if_pos c, if_neg (by decide), cost6 (hK h0) (by omega), zbind_s]
      by_cases c2 : u 40 2 < costS (u 40) k K
      · rw [if_pos c2, if_neg (by unfold fitP; rw [c, decide_eq_true c2]; decide)]; rfl
      · rw [if_neg c2, if_pos (by unfold fitP; rw [c, decide_eq_false c2]; decide), n_shl (by omega)]; rfl
    · rw [if_neg c, if_pos rfl, if_neg (by unfold fitP; rw [eq_false_of_ne_true c, Bool.false_and]; decide)]; rfl
  · show m_X6_fitOf_b0 u (nI s) (nI (pset (fitP (u 40) s K) n)) (nI n) = _
    unfold m_X6_fitOf_b0
    rw [ho.2.1, if_pos (i_le_refl _)]
theorem fitOf6 {u : zM} {n s : Nat} (hu : Inv u) (ho : tOk (u 40) n) (hs : sOk n s) :
    ∃ v, m_X6_fitOf (nI s) u = some (nI (pset (fitP (u 40) s (coatV (u 40) n s)) n), v) ∧ cutP u v := by
  unfold m_X6_fitOf
  by_cases c : s = 0
  · subst c
    refine ⟨u, ?_, fun _ _ _ _ => rfl, fun _ _ => rfl⟩
    rw [if_pos (show nI 0 = 0 from rfl), zbind_s, fit6 ho (fun z => absurd rfl z) (by decide), zbind_s]
  · obtain ⟨v, e, h1, h2⟩ := cut6_t hu ho hs c
    have e40 : v 40 = u 40 := h1.1 40 (by decide) (by decide) (by decide)
    refine ⟨v, ?_, h1⟩
    rw [if_neg (nz hs.1 c), e, zbind_s, zbind_s, fit6 (by rw [e40]; exact ho) (fun _ => h2) hs.1, zbind_s, e40]
theorem fitP_0 (t : Nat → Int32) (K : Nat → Int32) (n : Nat) : pset (fitP t 0 K) n = 0 := set_0.mpr (fun i _ => by unfold fitP; rw [Nat.zero_testBit]; rfl)
theorem p_fits : B_fits Inv := by
  intro u hu
  obtain ⟨⟨n, ho⟩, ht⟩ := id hu.1
  unfold m_X5_fits m_X6_fits
  obtain ⟨v, h1, h2, h⟩ := cfah_ok hu ho
  have hv := hu.congr h1.same
  have e40 : v 40 = u 40 := h1 40 (by decide) (by decide) (by decide) (by decide) (by decide)
  obtain ⟨w, e, r⟩ := fitOf6 hv (by rw [e40]; exact ho) (tSet_sOk ho)
  rw [e40] at e
  refine ⟨nI (pset (fitP (u 40) (tSet (u 40)) (coatV (u 40) n (tSet (u 40)))) n), v, w, ?_, ?_, hv.congr r.same⟩
  · rcases h with ⟨h3, h4⟩ | ⟨h3, h4, h5⟩
    · rw [h4, zbind2_s, if_pos rfl, h3, fitP_0]; rfl
    · rw [h4, zbind2_s, if_neg (by decide), h1 1 (by decide) (by decide) (by decide) (by decide) (by decide), ht.2.1, fit5 (ht.cls h1) ho h2.1 h5 (tSet_lt _), zbind_s]
  · rw [hereSet_ok (by rw [e40]; exact ho), zbind_s, e40, e, zbind2_s]
theorem sI_0 (n : Nat) : sI (fun _ => 0) n = 0 := by
  induction n with
  | zero => rfl
  | succ n ih => rw [sI, ih]; rfl
theorem p_costs : B_costs Inv := by
  intro u hu
  obtain ⟨⟨n, ho⟩, ht⟩ := id hu.1
  have hn := ho.1
  unfold m_X5_costs m_X6_costs
  obtain ⟨v, h1, h2, h⟩ := cfah_ok hu ho
  have hv := hu.congr h1.same
  have e40 : v 40 = u 40 := h1 40 (by decide) (by decide) (by decide) (by decide) (by decide)
  let K := coatV (u 40) n (tSet (u 40))
  let g := fun b => if hereP (u 40) b = true then costS (u 40) b K else 0
  have key : ∃ w, (if nI (tSet (u 40)) = 0 then some v else zbind (m_X6_cut (nI (tSet (u 40))) v) (fun u6 => some u6) : Option zM) = some w ∧ sameP v w ∧ w 40 = u 40 ∧ (tSet (u 40) ≠ 0 → ∀ m, m < 3 → w 43 m = K m) := by
    by_cases c : tSet (u 40) = 0
    · exact ⟨v, if_pos (by rw [c]; rfl), sameP.rfl' v, e40, fun z => absurd c z⟩
    · obtain ⟨w, e, r, hK⟩ := cut6_t hv (by rw [e40]; exact ho) (tSet_sOk ho) c
      rw [e40] at hK
      exact ⟨w, by rw [if_neg (nz (tSet_lt _) c), e, zbind_s], r.same, (r.1 40 (by decide) (by decide) (by decide)).trans e40, fun _ => hK⟩
  obtain ⟨w, e, r, e41, hK⟩ := key
  refine ⟨sI g n, v, w, ?_, ?_, hv.congr r⟩
  · rcases h with ⟨h3, h4⟩ | ⟨h3, h4, h5⟩
    · rw [h4, zbind2_s, if_pos rfl]
      have : sI g n = 0 := by
        have e0 : sI g n = sI (fun _ => 0) n := sI_congr (fun b hb => if_neg (by
          have := tSet_bit (u 40) (b := b) (by omega)
          rw [h3, Nat.zero_testBit] at this
          rw [← this]; decide))
        rw [e0, sI_0]
      rw [this]
    · rw [h4, zbind2_s, if_neg (by decide)]
      have e2 : zit zF (fun s' : Int32 × Int32 => m_X5_costs_b0 v s'.1 s'.2) (sI g 0, nI 0) = some (sI g n) := by
        refine zit_fn (fun k => (sI g k, nI k)) n _ (by omega) (fun k hk => ?_) ?_
        · show m_X5_costs_b0 v (sI g k) (nI k) = some (.inl (sI g k + g k, nI (k + 1)))
          unfold m_X5_costs_b0
          rw [(ht.cls h1).1.trans ho.2.1, if_neg (fun z => by have := (q_le (by omega) (by omega)).mp z; omega), ih5_eq (ht.cls h1) (by omega), ← q_add k 1]
          by_cases c : hereP (u 40) k = true
          · rw [if_pos c, if_neg (by decide), cost5 (ht.cls h1) h5 (by omega), zbind_s, show g k = costS (u 40) k K from if_pos c]; rfl
          · rw [if_neg c, if_pos rfl, show g k = 0 from if_neg c]; rfl
        · show m_X5_costs_b0 v (sI g n) (nI n) = _
          unfold m_X5_costs_b0
          rw [(ht.cls h1).1.trans ho.2.1, if_pos (i_le_refl _)]
      exact (congrArg (fun x => zbind x (fun x3 => some (x3, v))) e2).trans rfl
  · rw [hereSet_ok (by rw [e40]; exact ho), zbind_s, e40, e, zbind_s]
    have e2 : zit zF (fun s' : Int32 × Int32 => m_X6_costs_b0 w (nI (tSet (u 40))) s'.1 s'.2) (sI g 0, nI 0) = some (sI g n) := by
      refine zit_fn (fun k => (sI g k, nI k)) n _ (by omega) (fun k hk => ?_) ?_
      · show m_X6_costs_b0 w (nI (tSet (u 40))) (sI g k) (nI k) = some (.inl (sI g k + g k, nI (k + 1)))
        unfold m_X6_costs_b0
        rw [e41, ho.2.1, if_neg (fun z => by have := (q_le (by omega) (by omega)).mp z; omega), h6_eq (by have := tSet_lt (u 40); omega) (by omega), tSet_bit (u 40) (by omega), ← q_add k 1]
        by_cases c : hereP (u 40) k = true
        · have h0 : tSet (u 40) ≠ 0 := fun z => by
            have := tSet_bit (u 40) (b := k) (by omega)
            rw [z, Nat.zero_testBit, c] at this; cases this
          rw [if_pos c, if_neg (by decide), cost6 (hK h0) (by omega), zbind_s, e41, show g k = costS (u 40) k K from if_pos c]; rfl
        · rw [if_neg c, if_pos rfl, show g k = 0 from if_neg c]; rfl
      · show m_X6_costs_b0 w (nI (tSet (u 40))) (sI g n) (nI n) = _
        unfold m_X6_costs_b0
        rw [e41, ho.2.1, if_pos (i_le_refl _)]
    exact (congrArg (fun x => zbind x (fun x3 => some (x3, w))) e2).trans rfl
/-- the worst so far, of the first k -/
def wor (h : Nat → Bool) (c : Nat → Int32) : Nat → Option Nat
  | 0 => none
  | k + 1 => if h k = true then (match wor h c k with | none => some k | some b => if c k ≤ c b then some b else some k) else wor h c k
theorem wor_lt (h : Nat → Bool) (c : Nat → Int32) : ∀ k b, wor h c k = some b → b < k := by
  intro k
  induction k with
  | zero => intro b e; cases e
  | succ k ih =>
    intro b e
    rw [wor] at e
    by_cases c1 : h k = true
    · rw [if_pos c1] at e
      cases hw : wor h c k with
      | none => rw [hw] at e; simp at e; omega
      | some b' =>
        rw [hw] at e
        simp only at e
        by_cases c2 : c k ≤ c b'
        · rw [if_pos c2] at e; simp at e; have := ih b' hw; omega
        · rw [if_neg c2] at e; simp at e; omega
    · rw [if_neg c1] at e; have := ih b e; omega
theorem wor_some (h : Nat → Bool) (c : Nat → Int32) {k i : Nat} (hi : i < k) (hh : h i = true) : wor h c k ≠ none := by
  induction k with
  | zero => omega
  | succ k ih =>
    rw [wor]
    by_cases c1 : h k = true
    · rw [if_pos c1]
      cases hw : wor h c k with
      | none => simp
      | some b => simp only; split <;> simp
    · rw [if_neg c1]
      refine ih ?_
      rcases Nat.lt_or_ge i k with z | z
      · exact z
      · rw [show i = k by omega] at hh; exact absurd hh c1
theorem cost_pos (t : Nat → Int32) (b : Nat) (K : Nat → Int32) : (-1 : Int32) < costS t b K := by
  unfold costS zmax
  split
  · rename_i z
    first
    | exact i_lt_le (by decide) z
    | exact i_lt_le (by decide) (i_lt_le' z)
    | decide
  · rename_i z
    first
    | decide
    | exact i_lt_le (by decide) (i_lt_le' (i_nle.mp z))
    | exact i_lt_le (by decide) (i_nlt.mp z)
def wA : Option Nat → Int32 | none => 0 | some b => nI b
def wB (c : Nat → Int32) : Option Nat → Int32 | none => -1 | some b => c b
def wC : Option Nat → Int32 | none => -1 | some b => nI b
theorem p_worst : B_worst Inv := by
  intro u hu
  obtain ⟨⟨n, ho⟩, ht⟩ := id hu.1
  have hn := ho.1
  unfold m_X5_worst m_X6_worst
  obtain ⟨v, h1, h2, h⟩ := cfah_ok hu ho
  have hv := hu.congr h1.same
  have e40 : v 40 = u 40 := h1 40 (by decide) (by decide) (by decide) (by decide) (by decide)
  rcases h with ⟨h3, h4⟩ | ⟨h3, h4, h5⟩
  · rw [h4, zbind2_s, if_pos rfl]
    refine fin (j := 3) (by decide) hv (g := fun u1 => _) rfl ?_
    rw [hereSet_ok (by rw [fnd5_c 3 v (by decide), e40]; exact ho), zbind_s, fnd5_c 3 v (by decide), e40, h3, if_pos (show nI 0 = 0 from rfl)]; rfl
  · obtain ⟨w, e, r, hK⟩ := cut6_t hv (by rw [e40]; exact ho) (tSet_sOk ho) h3
    have e41 : w 40 = u 40 := (r.1 40 (by decide) (by decide) (by decide)).trans e40
    rw [e40] at hK
    let K := coatV (u 40) n (tSet (u 40))
    let W := wor (hereP (u 40)) (fun b => costS (u 40) b K)
    have hW : W n ≠ none := by
      obtain ⟨b, hb⟩ := Nat.exists_testBit_of_ne_zero h3
      have hbn := tSet_below ho b hb
      rw [tSet_bit (u 40) (by omega)] at hb
      exact wor_some _ _ hbn hb
    refine ⟨wA (W n), v, w, ?_, ?_, hv.congr r.same⟩
    · rw [h4, zbind2_s, if_neg (by decide)]
      have e2 : zit zF (fun s' : Int32 × Int32 × Int32 => m_X5_worst_b0 v s'.1 s'.2.1 s'.2.2) (wA (W 0), wB (fun b => costS (u 40) b K) (W 0), nI 0) = some (wA (W n)) := by
        refine zit_fn (fun k => (wA (W k), wB (fun b => costS (u 40) b K) (W k), nI k)) n _ (by omega) (fun k hk => ?_) ?_
        · show m_X5_worst_b0 v (wA (W k)) (wB (fun b => costS (u 40) b K) (W k)) (nI k) = some (.inl (wA (W (k + 1)), wB (fun b => costS (u 40) b K) (W (k + 1)), nI (k + 1)))
          have eW : W (k + 1) = if hereP (u 40) k = true then (match W k with | none => some k | some b => if costS (u 40) k K ≤ costS (u 40) b K then some b else some k) else W k := rfl
          unfold m_X5_worst_b0
          rw [(ht.cls h1).1.trans ho.2.1, if_neg (fun z => by have := (q_le (by omega) (by omega)).mp z; omega), ih5_eq (ht.cls h1) (by omega), eW, ← q_add k 1]
          by_cases c : hereP (u 40) k = true
          · rw [if_pos c, if_neg (by decide), cost5 (ht.cls h1) h5 (by omega), zbind_s, zbind_s, if_pos c]
            cases hw : W k with
            | none =>
              show (if costS (u 40) k K ≤ -1 then _ else _) = _
              rw [if_neg (fun z => i_nlt.mpr z (cost_pos _ _ _))]; rfl
            | some b =>
              show (if costS (u 40) k K ≤ costS (u 40) b K then _ else _) = _
              by_cases c2 : costS (u 40) k K ≤ costS (u 40) b K
              · simp only [if_pos c2]; rfl
              · simp only [if_neg c2]; rfl
          · rw [if_neg c, if_pos rfl, if_neg c]; rfl
        · show m_X5_worst_b0 v (wA (W n)) (wB (fun b => costS (u 40) b K) (W n)) (nI n) = _
          unfold m_X5_worst_b0
          rw [(ht.cls h1).1.trans ho.2.1, if_pos (i_le_refl _)]
      exact (congrArg (fun x => zbind x (fun x3 => some (x3, v))) e2).trans rfl
    · rw [hereSet_ok (by rw [e40]; exact ho), zbind_s, e40, if_neg (nz (tSet_lt _) h3), e, zbind_s]
      have e2 : zit zF (fun s' : Int32 × Int32 => m_X6_worst_b0 w (nI (tSet (u 40))) s'.1 s'.2) (wC (W 0), nI 0) = some (wC (W n)) := by
        refine zit_fn (fun k => (wC (W k), nI k)) n _ (by omega) (fun k hk => ?_) ?_
        · show m_X6_worst_b0 w (nI (tSet (u 40))) (wC (W k)) (nI k) = some (.inl (wC (W (k + 1)), nI (k + 1)))
          have eW : W (k + 1) = if hereP (u 40) k = true then (match W k with | none => some k | some b => if costS (u 40) k K ≤ costS (u 40) b K then some b else some k) else W k := rfl
          unfold m_X6_worst_b0
          rw [e41, ho.2.1, if_neg (fun z => by have := (q_le (by omega) (by omega)).mp z; omega), h6_eq (by have := tSet_lt (u 40); omega) (by omega), tSet_bit (u 40) (by omega), eW, ← q_add k 1]
          by_cases c : hereP (u 40) k = true
          · rw [if_pos c, if_neg (by decide), if_pos c]
            cases hw : W k with
            | none =>
              show (if (-1 : Int32) < 0 then _ else _) = _
              rw [if_pos (by decide)]; rfl
            | some b =>
              have hb := wor_lt _ _ k b hw
              show (if nI b < 0 then _ else _) = _
              rw [if_neg (fun z => by have := (q_lt (b := 0) (by omega) (by decide)).mp z; omega), cost6 hK (by omega), zbind_s, show m_X6_costOf (wC (some b)) w = some (costS (w 40) b K) from cost6 hK (by omega), zbind_s, e41]
              by_cases c2 : costS (u 40) k K ≤ costS (u 40) b K
              · rw [if_pos (show costS (u 40) k (coatV (u 40) n (tSet (u 40))) ≤ costS (u 40) b K from c2)]; simp only [if_pos c2]; rfl
              · rw [if_neg (show ¬ costS (u 40) k (coatV (u 40) n (tSet (u 40))) ≤ costS (u 40) b K from c2)]; simp only [if_neg c2]; rfl
          · rw [if_neg c, if_pos rfl, if_neg c]; rfl
        · show m_X6_worst_b0 w (nI (tSet (u 40))) (wC (W n)) (nI n) = _
          unfold m_X6_worst_b0
          rw [e41, ho.2.1, if_pos (i_le_refl _)]
      have e3 : wC (W n) = wA (W n) := by
        cases hw : W n with
        | none => exact absurd hw hW
        | some b => rfl
      rw [← e3]
      exact (congrArg (fun x => zbind x (fun x3 => some (x3, w))) e2).trans rfl
