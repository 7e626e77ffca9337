/-! THE PLACE IN THE RISING ROW: bodies b < n with weights w b (how often they count, 0 beside the set) and values val b -/
theorem i_tri (a b : Int32) : a < b ∨ a = b ∨ b < a := by
  rcases Int.lt_trichotomy a.toInt b.toInt with h | h | h
  · exact Or.inl (Int32.lt_iff_toInt_lt.mpr h)
  · exact Or.inr (Or.inl (Int32.toInt_inj.mp h))
  · exact Or.inr (Or.inr (Int32.lt_iff_toInt_lt.mpr h))
theorem i_nlt {a b : Int32} : ¬ a < b ↔ b ≤ a := by
  rw [Int32.lt_iff_toInt_lt, Int32.le_iff_toInt_le]; omega
theorem i_nle {a b : Int32} : ¬ a ≤ b ↔ b < a := by
  rw [Int32.lt_iff_toInt_lt, Int32.le_iff_toInt_le]; omega
theorem i_le_trans {a b c : Int32} (h1 : a ≤ b) (h2 : b ≤ c) : a ≤ c := by
  rw [Int32.le_iff_toInt_le] at *; omega
theorem i_lt_le {a b c : Int32} (h1 : a < b) (h2 : b ≤ c) : a < c := by
  rw [Int32.lt_iff_toInt_lt] at *; rw [Int32.le_iff_toInt_le] at h2; omega
theorem i_le_lt {a b c : Int32} (h1 : a ≤ b) (h2 : b < c) : a < c := by
  rw [Int32.lt_iff_toInt_lt] at *; rw [Int32.le_iff_toInt_le] at h1; omega
theorem i_le_refl (a : Int32) : a ≤ a := by rw [Int32.le_iff_toInt_le]; omega
theorem i_lt_le' {a b : Int32} (h : a < b) : a ≤ b := by rw [Int32.le_iff_toInt_le]; rw [Int32.lt_iff_toInt_lt] at h; omega
def oLt (n : Nat) (w : Nat → Nat) (val : Nat → Int32) (v : Int32) : Nat := sN (fun b => if val b < v then w b else 0) n
def oLe (n : Nat) (w : Nat → Nat) (val : Nat → Int32) (v : Int32) : Nat := sN (fun b => if val b ≤ v then w b else 0) n
/-- v stands at the place k of the rising row -/
def oAt (n : Nat) (w : Nat → Nat) (val : Nat → Int32) (k : Nat) (v : Int32) : Prop := oLt n w val v ≤ k ∧ k < oLe n w val v
theorem oLe_lt {n : Nat} {w : Nat → Nat} {val : Nat → Int32} {v v' : Int32} (h : v < v') : oLe n w val v ≤ oLt n w val v' := by
  refine sN_le (fun b _ => ?_)
  by_cases h1 : val b ≤ v
  · rw [if_pos h1, if_pos (i_le_lt h1 h)]
    exact Nat.le_refl _
  · rw [if_neg h1]
    exact Nat.zero_le _
theorem oAt_eq {n : Nat} {w : Nat → Nat} {val : Nat → Int32} {k : Nat} {v v' : Int32} (h : oAt n w val k v) (h' : oAt n w val k v') : v = v' := by
  rcases i_tri v v' with q | q | q
  · have := oLe_lt (n := n) (w := w) (val := val) q
    have := h.2; have := h'.1; omega
  · exact q
  · have := oLe_lt (n := n) (w := w) (val := val) q
    have := h'.2; have := h.1; omega
/-- when values grow, what stands at a place doesn't fall -/
theorem oAt_mono {n : Nat} {w : Nat → Nat} {val val' : Nat → Int32} {k : Nat} {v v' : Int32} (hv : ∀ b, b < n → val b ≤ val' b) (h : oAt n w val k v) (h' : oAt n w val' k v') : v ≤ v' := by
  by_cases q : v ≤ v'
  · exact q
  · exfalso
    have q := i_nle.mp q
    have h1 : oLe n w val' v' ≤ oLe n w val v' := by
      refine sN_le (fun b hb => ?_)
      by_cases h1 : val' b ≤ v'
      · rw [if_pos h1, if_pos (i_le_trans (hv b hb) h1)]
        exact Nat.le_refl _
      · rw [if_neg h1]
        exact Nat.zero_le _
    have h2 := oLe_lt (n := n) (w := w) (val := val) q
    have := h'.2; have := h.1; omega
theorem sN_below (k : Nat) : ∀ n, sN (fun i => if i < k then 1 else 0) n = min k n := by
  intro n
  induction n with
  | zero => simp [sN]
  | succ n ih =>
    rw [sN, ih]
    split <;> omega
/-- a sorted row f of N places that holds each body as often as it counts -/
theorem oAt_row {n N k : Nat} {w : Nat → Nat} {val : Nat → Int32} {f : Nat → Int32} (hs : ∀ i j, i < j → j < N → f i ≤ f j) (hc : ∀ p : Int32 → Bool, sN (fun i => if p (f i) then 1 else 0) N = sN (fun b => if p (val b) then w b else 0) n) (hk : k < N) : oAt n w val k (f k) := by
  constructor
  · have h1 := hc (fun x => decide (x < f k))
    simp only [decide_eq_true_eq] at h1
    unfold oLt
    rw [← h1]
    refine Nat.le_trans (sN_le (h := fun i => if i < k then 1 else 0) (fun i hi => ?_)) (by rw [sN_below]; omega)
    show (if f i < f k then 1 else 0) ≤ if i < k then 1 else 0
    by_cases h2 : i < k
    · rw [if_pos h2]; split <;> omega
    · rw [if_neg (fun z => ?_)]
      · exact Nat.zero_le _
      · rcases Nat.lt_or_ge k i with h3 | h3
        · exact i_nlt.mpr (hs k i h3 hi) z
        · rw [show i = k by omega] at z
          exact i_nlt.mpr (i_le_refl _) z
  · have h1 := hc (fun x => decide (x ≤ f k))
    simp only [decide_eq_true_eq] at h1
    unfold oLe
    rw [← h1]
    refine Nat.lt_of_lt_of_le (m := sN (fun i => if i < k + 1 then 1 else 0) N) (by rw [sN_below]; omega) (sN_le (fun i hi => ?_))
    show (if i < k + 1 then 1 else 0) ≤ if f i ≤ f k then 1 else 0
    by_cases h2 : i < k + 1
    · rw [if_pos h2, if_pos]
      · exact Nat.le_refl _
      · rcases Nat.lt_or_ge i k with h3 | h3
        · exact hs i k h3 hk
        · rw [show i = k by omega]; exact i_le_refl _
    · rw [if_neg h2]; exact Nat.zero_le _
/-- the bodies in a rising order: ris is an order of them all, the values don't fall along it -/
def oRis (n : Nat) (val : Nat → Int32) (ris : Nat → Nat) : Prop := (∀ i, i < n → ris i < n) ∧ (∀ g : Nat → Nat, sN (fun i => g (ris i)) n = sN g n) ∧ ∀ i j, i < j → j < n → val (ris i) ≤ val (ris j)
theorem oAt_ris {n i k : Nat} {w : Nat → Nat} {val : Nat → Int32} {ris : Nat → Nat} (h : oRis n val ris) (hi : i < n) (h1 : sN (fun j => w (ris j)) i ≤ k) (h2 : k < sN (fun j => w (ris j)) (i + 1)) : oAt n w val k (val (ris i)) := by
  obtain ⟨hr, hp, hs⟩ := h
  constructor
  · unfold oLt
    rw [← hp (fun b => if val b < val (ris i) then w b else 0)]
    refine Nat.le_trans ?_ h1
    have e : sN (fun j => if val (ris j) < val (ris i) then w (ris j) else 0) n ≤ sN (fun j => if j < i then w (ris j) else 0) n := by
      refine sN_le (fun j hj => ?_)
      show (if val (ris j) < val (ris i) then w (ris j) else 0) ≤ if j < i then w (ris j) else 0
      by_cases h3 : j < i
      · rw [if_pos h3]; split <;> omega
      · rw [if_neg (fun z => ?_)]
        · exact Nat.zero_le _
        · rcases Nat.lt_or_ge i j with h4 | h4
          · exact i_nlt.mpr (hs i j h4 hj) z
          · rw [show j = i by omega] at z
            exact i_nlt.mpr (i_le_refl _) z
    refine Nat.le_trans e ?_
    have : ∀ m, sN (fun j => if j < i then w (ris j) else 0) m ≤ sN (fun j => w (ris j)) i := by
      intro m
      induction m with
      | zero => exact Nat.zero_le _
      | succ m ih =>
        rcases Nat.lt_or_ge m i with h5 | h5
        · have h6 : sN (fun j => if j < i then w (ris j) else 0) (m + 1) = sN (fun j => w (ris j)) (m + 1) := sN_congr (fun j hj => if_pos (by omega))
          rw [h6]
          exact sN_mono (by omega)
        · rw [sN, if_neg (by omega)]
          exact ih
    exact this n
  · unfold oLe
    rw [← hp (fun b => if val b ≤ val (ris i) then w b else 0)]
    refine Nat.lt_of_lt_of_le h2 ?_
    refine Nat.le_trans (m := sN (fun j => if val (ris j) ≤ val (ris i) then w (ris j) else 0) (i + 1)) ?_ (sN_mono (by omega))
    refine sN_le (fun j hj => ?_)
    show w (ris j) ≤ if val (ris j) ≤ val (ris i) then w (ris j) else 0
    rw [if_pos]
    · exact Nat.le_refl _
    · rcases Nat.lt_or_ge j i with h3 | h3
      · exact hs j i h3 hi
      · rw [show j = i by omega]; exact i_le_refl _
/-- putting one more into a sorted row -/
theorem ins_sorted {α : Type} {key : α → Int32} {f : Nat → α} {n a : Nat} {v : α} (hs : ∀ i j, i < j → j < n → key (f i) ≤ key (f j)) (ha : a ≤ n) (h1 : a = 0 ∨ key (f (a - 1)) ≤ key v) (h2 : ∀ j, a ≤ j → j < n → key v ≤ key (f j)) : ∀ i j, i < j → j < n + 1 → key (ins f a v i) ≤ key (ins f a v j) := by
  have hle : ∀ i, i < a → key (f i) ≤ key v := by
    intro i hi
    rcases h1 with h1 | h1
    · omega
    · rcases Nat.lt_or_ge i (a - 1) with q | q
      · exact i_le_trans (hs i (a - 1) q (by omega)) h1
      · rw [show i = a - 1 by omega]; exact h1
  intro i j hij hj
  unfold ins
  by_cases c1 : j < a
  · rw [if_pos c1, if_pos (by omega)]
    exact hs i j hij (by omega)
  · rw [if_neg c1]
    by_cases c2 : j = a
    · rw [if_pos c2, if_pos (by omega)]
      exact hle i (by omega)
    · rw [if_neg c2]
      by_cases c3 : i < a
      · rw [if_pos c3]
        exact i_le_trans (hle i c3) (h2 (j - 1) (by omega) (by omega))
      · rw [if_neg c3]
        by_cases c4 : i = a
        · rw [if_pos c4]
          exact h2 (j - 1) (by omega) (by omega)
        · rw [if_neg c4]
          exact hs (i - 1) (j - 1) (by omega) (by omega)
