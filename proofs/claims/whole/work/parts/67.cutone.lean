/-! THE TAILOR: one coat -/
/-- how often the body b counts in the set s -/
def wt (C : Nat → Nat) (s b : Nat) : Nat := if s.testBit b = true then C b else 0
def tot (n : Nat) (C : Nat → Nat) (s : Nat) : Nat := sN (wt C s) n
def cSum (n : Nat) (V : Nat → Int32) (C : Nat → Nat) (s : Nat) : Int32 := sI (fun b => if s.testBit b = true then V b * nI (C b) else 0) n
/-- x is what the rule asks of the measures V -/
def isCut (rule : Int32) (n : Nat) (V : Nat → Int32) (C : Nat → Nat) (s : Nat) (x : Int32) : Prop :=
  if rule = 1 then oAt n (wt C s) V ((tot n C s - 1) / 2) x else if rule = 2 then oAt n (wt C s) V (tot n C s - 1) x else x = cSum n V C s / nI (tot n C s)
theorem isCut_eq {rule : Int32} {n s : Nat} {V : Nat → Int32} {C : Nat → Nat} {x y : Int32} (h : isCut rule n V C s x) (h' : isCut rule n V C s y) : x = y := by
  unfold isCut at h h'
  by_cases c : rule = 1
  · rw [if_pos c] at h h'; exact oAt_eq h h'
  · rw [if_neg c] at h h'
    by_cases c2 : rule = 2
    · rw [if_pos c2] at h h'; exact oAt_eq h h'
    · rw [if_neg c2] at h h'; rw [h, h']
noncomputable def cutV (rule : Int32) (n : Nat) (V : Nat → Int32) (C : Nat → Nat) (s : Nat) : Int32 := Classical.epsilon (fun x => isCut rule n V C s x)
theorem isCut.v {rule : Int32} {n s : Nat} {V : Nat → Int32} {C : Nat → Nat} {x : Int32} (h : isCut rule n V C s x) : x = cutV rule n V C s := isCut_eq h (Classical.epsilon_spec (p := fun x => isCut rule n V C s x) ⟨x, h⟩)
theorem sN_bound {g : Nat → Nat} {n d : Nat} (h : ∀ i, i < n → g i ≤ d) : sN g n ≤ d * n := by
  induction n with
  | zero => exact Nat.zero_le _
  | succ n ih =>
    have h1 := ih (fun i hi => h i (by omega))
    have h2 := h n (by omega)
    rw [sN, Nat.mul_succ]; omega
theorem tot_le {n s : Nat} {C : Nat → Nat} (hn : n ≤ 12) (hC : ∀ b, C b ≤ 3) : tot n C s ≤ 36 := by
  have h : tot n C s ≤ 3 * n := sN_bound (fun i _ => by unfold wt; split; exact hC i; omega)
  omega
variable {u : zM} {n s : Nat} {V : Nat → Nat → Int32} {C : Nat → Nat}
theorem timesOf_ok (h : msd u n V C) (hn : n ≤ 12) (hs : s < 4096) : m_X2_timesOf (nI s) u = some (nI (tot n C s)) := by
  unfold m_X2_timesOf
  have e : zit zF (fun s' : Int32 × Int32 => m_X2_timesOf_b0 u (nI s) s'.1 s'.2) (nI (sN (wt C s) 0), nI 0) = some (nI (tot n C s)) := by
    refine zit_fn (fun k => (nI (sN (wt C s) k), nI k)) n _ (by omega) (fun k hk => ?_) ?_
    · show m_X2_timesOf_b0 u (nI s) (nI (sN (wt C s) k)) (nI k) = some (.inl (nI (sN (wt C s) (k + 1)), nI (k + 1)))
      unfold m_X2_timesOf_b0
      rw [h.1, if_neg (fun z => by have := (q_le (by omega) (by omega)).mp z; omega), h5_eq (by omega) (by omega), sN, wt, show nI k + 1 = nI (k + 1) from q_add k 1]
      by_cases c : s.testBit k = true
      · rw [if_pos c, if_neg (by decide), zld_n (by omega) (by decide), zbind_s, h.2.1 k hk, q_add, if_pos c]
      · rw [if_neg c, if_pos rfl, if_neg c]; rfl
    · show m_X2_timesOf_b0 u (nI s) (nI (sN (wt C s) n)) (nI n) = _
      unfold m_X2_timesOf_b0
      rw [h.1, if_pos (i_le_refl _)]; rfl
  exact (congrArg (fun x => zbind x (fun x3 => some x3)) e).trans rfl
theorem sumOf_ok (h : msd u n V C) (hn : n ≤ 12) (hs : s < 4096) {m : Nat} (hm : m < 3) : m_X2_sumOf (nI m) (nI s) u = some (cSum n (V m) C s) := by
  unfold m_X2_sumOf
  have e : zit zF (fun s' : Int32 × Int32 => m_X2_sumOf_b0 u (nI s) (nI m) s'.1 s'.2) (cSum 0 (V m) C s, nI 0) = some (cSum n (V m) C s) := by
    refine zit_fn (fun k => (cSum k (V m) C s, nI k)) n _ (by omega) (fun k hk => ?_) ?_
    · show m_X2_sumOf_b0 u (nI s) (nI m) (cSum k (V m) C s) (nI k) = some (.inl (cSum (k + 1) (V m) C s, nI (k + 1)))
      unfold m_X2_sumOf_b0
      have e1 : cSum (k + 1) (V m) C s = cSum k (V m) C s + (if s.testBit k = true then V m k * nI (C k) else 0) := rfl
      rw [h.1, if_neg (fun z => by have := (q_le (by omega) (by omega)).mp z; omega), h5_eq (by omega) (by omega), e1, show nI k + 1 = nI (k + 1) from q_add k 1]
      by_cases c : s.testBit k = true
      · rw [if_pos c, if_neg (by decide), idx12, zld_n (by omega) (by decide), zbind_s, zld_n (by omega) (by decide), zbind_s, h.2.1 k hk, (h.2.2 m hm).1 k hk, if_pos c]
      · rw [if_neg c, if_pos rfl, if_neg c, Int32.add_zero]
    · show m_X2_sumOf_b0 u (nI s) (nI m) (cSum n (V m) C s) (nI n) = _
      unfold m_X2_sumOf_b0
      rw [h.1, if_pos (i_le_refl _)]
  exact (congrArg (fun x => zbind x (fun x3 => some x3)) e).trans rfl
theorem tot_z {n s : Nat} {C : Nat → Nat} (h : 0 < tot n C s) (hC : ∀ b, C b ≤ 3) (hn : n ≤ 12) : ¬ nI (tot n C s) = 0 := fun e => by
  have := q_inj (b := 0) (by have := tot_le (s := s) hn hC; omega) (by decide) e
  omega
theorem cutMeanOf_ok (h : msd u n V C) (hn : n ≤ 12) (hs : s < 4096) {m : Nat} (hm : m < 3) (hC : ∀ b, C b ≤ 3) (h0 : 0 < tot n C s) : m_X2_cutMeanOf (nI m) (nI s) u = some (cSum n (V m) C s / nI (tot n C s)) := by
  unfold m_X2_cutMeanOf
  rw [timesOf_ok h hn hs, zbind_s, if_neg (tot_z h0 hC hn), sumOf_ok h hn hs hm, zbind_s, if_neg (tot_z h0 hC hn)]
theorem greatestOf_ok (h : msd u n V C) (hn : n ≤ 12) (hs : s < 4096) {m : Nat} (hm : m < 3) (h0 : 0 < tot n C s) (hC : ∀ b, 1 ≤ C b) :
    ∃ x, m_X2_greatestOf (nI m) (nI s) u = some x ∧ oAt n (wt C s) (V m) (tot n C s - 1) x := by
  obtain ⟨h1, r, h2, h3⟩ := h.2.2 m hm
  have hn0 : 0 < n := by
    rcases Nat.eq_zero_or_pos n with z | z
    · subst z; exact absurd h0 (by unfold tot sN; decide)
    · exact z
  unfold m_X2_greatestOf
  have e0 : u 15 4 - 1 = nI (n - 1) := by rw [h.1]; exact q_sub (a := n) (b := 1) (by omega)
  rw [e0]
  have hall : sN (fun j => wt C s (r j)) n = tot n C s := h2.2.1 (wt C s)
  refine zit_inv2 (fun k x => k < n ∧ x = nI (n - 1 - k) ∧ sN (fun j => wt C s (r j)) (n - k) = tot n C s) (n - 1) _ _ (by omega) ⟨hn0, rfl, hall⟩ ?_ ?_
  · rintro k x hk ⟨h4, rfl, h5⟩
    unfold m_X2_greatestOf_b0
    have hr := h2.1 (n - 1 - k) (by omega)
    rw [if_neg (show ¬ nI (n - 1 - k) < 0 from fun z => by have := (q_lt (b := 0) (by omega) (by decide)).mp z; omega), idx12, zld_n (by omega) (by decide), zbind_s, h3 _ (by omega), h5_eq (by omega) (by omega)]
    have e1 : sN (fun j => wt C s (r j)) (n - k) = sN (fun j => wt C s (r j)) (n - 1 - k) + wt C s (r (n - 1 - k)) := by rw [show n - k = n - 1 - k + 1 by omega]; rfl
    by_cases c : s.testBit (r (n - 1 - k)) = true
    · rw [if_pos c, if_neg (by decide), idx12, zld_n (by omega) (by decide), zbind_s, h1 _ hr]
      have e2 : wt C s (r (n - 1 - k)) = C (r (n - 1 - k)) := if_pos c
      have e3 := hC (r (n - 1 - k))
      exact Or.inr ⟨_, rfl, oAt_ris h2 (i := n - 1 - k) (by omega) (by omega) (by show _ < sN (fun j => wt C s (r j)) (n - 1 - k) + wt C s (r (n - 1 - k)); omega)⟩
    · have e2 : wt C s (r (n - 1 - k)) = 0 := if_neg c
      rw [if_neg c, if_pos rfl, q_m1 (by omega)]
      exact Or.inl ⟨_, rfl, by omega, congrArg nI (by omega), by rw [show n - (k + 1) = n - 1 - k by omega]; omega⟩
  · rintro x ⟨h4, rfl, h5⟩
    unfold m_X2_greatestOf_b0
    have hr := h2.1 0 (by omega)
    rw [show n - 1 - (n - 1) = 0 by omega]
    rw [if_neg (show ¬ nI 0 < 0 by decide), idx12, zld_n (by omega) (by decide), zbind_s, h3 _ (by omega), h5_eq (by omega) (by omega)]
    rw [show n - (n - 1) = 1 by omega] at h5
    have e1 : sN (fun j => wt C s (r j)) 1 = wt C s (r 0) := by show 0 + wt C s (r 0) = _; omega
    by_cases c : s.testBit (r 0) = true
    · rw [if_pos c, if_neg (by decide), idx12, zld_n (by omega) (by decide), zbind_s, h1 _ hr]
      have e2 : wt C s (r 0) = C (r 0) := if_pos c
      have e3 := hC (r 0)
      exact ⟨_, rfl, oAt_ris h2 (i := 0) (by omega) (Nat.zero_le _) (by rw [h5]; omega)⟩
    · have e2 : wt C s (r 0) = 0 := if_neg c
      omega
theorem middleOf_ok (h : msd u n V C) (hn : n ≤ 12) (hs : s < 4096) {m : Nat} (hm : m < 3) (h0 : 0 < tot n C s) (hC : ∀ b, 1 ≤ C b) (hC3 : ∀ b, C b ≤ 3) :
    ∃ x, m_X2_middleOf (nI m) (nI s) u = some x ∧ oAt n (wt C s) (V m) ((tot n C s - 1) / 2) x := by
  obtain ⟨h1, r, h2, h3⟩ := h.2.2 m hm
  have h36 := tot_le (n := n) (s := s) hn hC3
  unfold m_X2_middleOf
  have e0 : (nI (tot n C s) - 1) / 2 = nI ((tot n C s - 1) / 2) := by
    have e : nI (tot n C s) - 1 = nI (tot n C s - 1) := q_sub (a := tot n C s) (b := 1) (by omega)
    rw [e]; exact q_div (d := 2) (by omega) (by decide) (by decide)
  rw [timesOf_ok h hn hs, zbind_s, e0]
  have hall : sN (fun j => wt C s (r j)) n = tot n C s := h2.2.1 (wt C s)
  refine zit_inv2 (fun k x => sN (fun j => wt C s (r j)) k ≤ (tot n C s - 1) / 2 ∧ x = (nI ((tot n C s - 1) / 2 - sN (fun j => wt C s (r j)) k), nI k)) n _ _ (by omega) ⟨Nat.zero_le _, rfl⟩ ?_ ?_
  · rintro k ⟨x, y⟩ hk ⟨h4, e⟩
    obtain ⟨rfl, rfl⟩ := Prod.mk.inj e
    show (∃ s', m_X2_middleOf_b0 u (nI m) (nI s) (nI ((tot n C s - 1) / 2 - sN (fun j => wt C s (r j)) k)) (nI k) = some (.inl s') ∧ _) ∨ ∃ x, m_X2_middleOf_b0 u (nI m) (nI s) (nI ((tot n C s - 1) / 2 - sN (fun j => wt C s (r j)) k)) (nI k) = some (.inr x) ∧ _
    unfold m_X2_middleOf_b0
    have hr := h2.1 k hk
    rw [h.1, if_neg (fun z => by have := (q_le (by omega) (by omega)).mp z; omega), idx12, zld_n (by omega) (by decide), zbind_s, h3 _ hk, h5_eq (by omega) (by omega), show nI k + 1 = nI (k + 1) from q_add k 1]
    have e1 : sN (fun j => wt C s (r j)) (k + 1) = sN (fun j => wt C s (r j)) k + wt C s (r k) := rfl
    by_cases c : s.testBit (r k) = true
    · have e2 : wt C s (r k) = C (r k) := if_pos c
      rw [if_pos c, if_neg (by decide), zld_n (by omega) (by decide), zbind_s, h.2.1 _ hr]
      by_cases c2 : C (r k) ≤ (tot n C s - 1) / 2 - sN (fun j => wt C s (r j)) k
      · rw [q_sub c2, if_pos (show (0 : Int32) ≤ nI _ from (q_le (a := 0) (by decide) (by omega)).mpr (Nat.zero_le _))]
        exact Or.inl ⟨_, rfl, by omega, by rw [e1]; exact Prod.ext (congrArg nI (by omega)) rfl⟩
      · have hC3' := hC3 (r k)
        rw [if_neg (show ¬ (0 : Int32) ≤ nI ((tot n C s - 1) / 2 - sN (fun j => wt C s (r j)) k) - nI (C (r k)) from fun z => by
          have e3 : nI ((tot n C s - 1) / 2 - sN (fun j => wt C s (r j)) k) - nI (C (r k)) = -nI (C (r k) - ((tot n C s - 1) / 2 - sN (fun j => wt C s (r j)) k)) := by
            rw [← q_sub (a := C (r k)) (by omega)]
            rw [Int32.neg_sub]
          rw [e3] at z
          have hd : ∀ d, d ≤ 3 → 0 < d → ¬ (0 : Int32) ≤ -nI d := by decide
          exact hd _ (by omega) (by omega) z), idx12, zld_n (by omega) (by decide), zbind_s, h1 _ hr]
        exact Or.inr ⟨_, rfl, oAt_ris h2 hk h4 (by rw [e1]; omega)⟩
    · have e2 : wt C s (r k) = 0 := if_neg c
      rw [if_neg c, if_pos rfl]
      exact Or.inl ⟨_, rfl, by omega, by rw [e1, e2]; rfl⟩
  · rintro ⟨x, y⟩ ⟨h4, e⟩
    omega
theorem cutOne_ok (h : msd u n V C) (hn : n ≤ 12) (hs : s < 4096) {m : Nat} (hm : m < 3) (h0 : 0 < tot n C s) (hC : ∀ b, 1 ≤ C b) (hC3 : ∀ b, C b ≤ 3) (rule : Int32) :
    m_X2_cutOne (nI m) (nI s) rule u = some (cutV rule n (V m) C s) := by
  unfold m_X2_cutOne
  by_cases c : rule = 1
  · obtain ⟨x, e, hx⟩ := middleOf_ok h hn hs hm h0 hC hC3
    rw [if_pos c, e, zbind_s, ← isCut.v (show isCut rule n (V m) C s x by unfold isCut; rw [if_pos c]; exact hx)]
  · rw [if_neg c]
    by_cases c2 : rule = 2
    · obtain ⟨x, e, hx⟩ := greatestOf_ok h hn hs hm h0 hC
      rw [if_pos c2, e, zbind_s, ← isCut.v (show isCut rule n (V m) C s x by unfold isCut; rw [if_neg c, if_pos c2]; exact hx)]
    · rw [if_neg c2, cutMeanOf_ok h hn hs hm hC3 h0, zbind_s, ← isCut.v (show isCut rule n (V m) C s (cSum n (V m) C s / nI (tot n C s)) by unfold isCut; rw [if_neg c, if_neg c2])]
