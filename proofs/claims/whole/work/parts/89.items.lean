/-! TEXT: items, as they are read -/
def fstB (f : Nat → Bool) : Nat → Nat
  | 0 => 0
  | n + 1 => if fstB f n < n then fstB f n else if f n = true then n else n + 1
theorem fstB_le (f : Nat → Bool) : ∀ n, fstB f n ≤ n := by
  intro n
  induction n with
  | zero => exact Nat.le_refl _
  | succ n ih =>
    rw [fstB]
    split
    · omega
    · split <;> omega
theorem fstB_t (f : Nat → Bool) : ∀ n, fstB f n < n → f (fstB f n) = true := by
  intro n
  induction n with
  | zero => intro h; omega
  | succ n ih =>
    rw [fstB]
    intro h
    by_cases c : fstB f n < n
    · rw [if_pos c]; exact ih c
    · rw [if_neg c] at h ⊢
      by_cases d : f n = true
      · rw [if_pos d]; exact d
      · rw [if_neg d] at h; omega
theorem fstB_f (f : Nat → Bool) : ∀ n i, i < fstB f n → f i = false := by
  intro n
  induction n with
  | zero => intro i h; have : i < 0 := h; omega
  | succ n ih =>
    intro i
    rw [fstB]
    have hl := fstB_le f n
    by_cases c : fstB f n < n
    · rw [if_pos c]; exact ih i
    · rw [if_neg c]
      have e : fstB f n = n := by omega
      rw [e] at ih
      by_cases d : f n = true
      · rw [if_pos d]; exact ih i
      · rw [if_neg d]
        intro h
        by_cases ci : i = n
        · rw [ci]; exact Bool.eq_false_iff.mpr d
        · exact ih i (by omega)
theorem fstB_u {f : Nat → Bool} {n i : Nat} (h : i < n) (hf : f i = true) (hu : ∀ a b, a < n → b < n → f a = true → f b = true → a = b) : fstB f n = i := by
  by_cases c : i < fstB f n
  · rw [fstB_f f n i c] at hf; cases hf
  · exact hu _ _ (by omega) h (fstB_t f n (by omega)) hf
theorem fstB_n {f : Nat → Bool} {n : Nat} (h : ∀ i, i < n → f i = false) : fstB f n = n := by
  have hl := fstB_le f n
  by_cases c : fstB f n < n
  · have := fstB_t f n c
    rw [h _ c] at this; cases this
  · omega
/-- which kind, which rule the token tells -/
def kd (y : Nat → Nat) (T : Nat × Nat × Nat) : Nat := fstB (wdB y T) 7
def rl (y : Nat → Nat) (T : Nat × Nat × Nat) : Nat := fstB (fun k => wdB y T (7 + k)) 3
theorem kd_u {y : Nat → Nat} {T : Nat × Nat × Nat} {k : Nat} (hk : k < 7) (h : wdB y T k = true) : kd y T = k := fstB_u hk h (fun a b ha hb h1 h2 => wd_inj (by omega) (by omega) h1 h2)
theorem rl_u {y : Nat → Nat} {T : Nat × Nat × Nat} {k : Nat} (hk : k < 3) (h : wdB y T (7 + k) = true) : rl y T = k := fstB_u hk h (fun a b ha hb h1 h2 => by have := wd_inj (y := y) (T := T) (a := 7 + a) (b := 7 + b) (by omega) (by omega) h1 h2; omega)
theorem name_n : ∀ k : Nat, k < 7 → m_X0_nameOf (nI k) = k := by decide
theorem zsa_n {b n k : Nat} (hk : k < n) (hn : n < 1000) : zsa b n (nI k) = some (b + k) := by
  unfold zsa
  rw [q_clamp (by omega), if_neg]
  rintro (z | z)
  · exact nI_pos (by omega) z
  · omega
section RI
variable {u : zM} {y : Nat → Nat} {L c : Nat} {T : Nat → Nat × Nat × Nat} {j : Nat}
theorem kind5 (hC : rdC y L c T) (h : cl u y L c T j) : m_X0_kindTold u = some (if kd y (T j) < 7 then nI (kd y (T j)) else -1) := by
  unfold m_X0_kindTold
  obtain ⟨r, e, hr⟩ : ∃ r, zit zF (fun s : Int32 => m_X0_kindTold_b0 u s) 0 = some r ∧ r = if kd y (T j) < 7 then nI (kd y (T j)) else -1 := by
    refine zit_inv2 (fun k x => x = nI k ∧ ∀ i, i < k → wdB y (T j) i = false) 7 _ _ (by omega) ⟨rfl, fun i hi => absurd hi (by omega)⟩ ?_ ?_
    · rintro k x hk ⟨rfl, h1⟩
      unfold m_X0_kindTold_b0
      rw [if_neg (show ¬ (6 : Int32) < nI k from fun z => by have := (q_lt (a := 6) (by decide) (by omega)).mp z; omega), name_n k hk, zlet_s, word5 hC h (by omega), zbind_s]
      by_cases c1 : wdB y (T j) k = true
      · rw [if_pos c1, if_neg (show ¬ (1 : Int32) = 0 by decide)]
        refine Or.inr ⟨_, rfl, ?_⟩
        rw [kd_u hk c1, if_pos hk]
      · rw [if_neg c1, if_pos rfl]
        refine Or.inl ⟨_, rfl, q_add k 1, fun i hi => ?_⟩
        by_cases ci : i = k
        · rw [ci]; exact Bool.eq_false_iff.mpr c1
        · exact h1 i (by omega)
    · rintro x ⟨rfl, h1⟩
      unfold m_X0_kindTold_b0
      rw [if_pos (show (6 : Int32) < nI 7 by decide)]
      refine ⟨_, rfl, ?_⟩
      unfold kd
      rw [fstB_n h1, if_neg (by decide)]
  rw [e, hr]
theorem rule5 (hC : rdC y L c T) (h : cl u y L c T j) : m_X0_ruleTold u = some (if rl y (T j) < 3 then nI (rl y (T j)) else -1) := by
  unfold m_X0_ruleTold
  rw [word5 hC h (by decide), zbind_s, word5 hC h (by decide), zbind_s, word5 hC h (by decide), zbind_s]
  by_cases c7 : wdB y (T j) 7 = true
  · rw [if_pos c7, if_neg (show ¬ (1 : Int32) = 0 by decide), rl_u (k := 0) (by decide) c7]; rfl
  · rw [if_neg c7, if_pos rfl]
    by_cases c8 : wdB y (T j) 8 = true
    · rw [if_pos c8, if_neg (show ¬ (1 : Int32) = 0 by decide), rl_u (k := 1) (by decide) c8]; rfl
    · rw [if_neg c8, if_pos rfl]
      by_cases c9 : wdB y (T j) 9 = true
      · rw [if_pos c9, if_neg (show ¬ (1 : Int32) = 0 by decide), rl_u (k := 2) (by decide) c9]; rfl
      · rw [if_neg c9, if_pos rfl]
        have e : rl y (T j) = 3 := fstB_n (fun i hi => by
          have hi' : i = 0 ∨ i = 1 ∨ i = 2 := by omega
          rcases hi' with rfl | rfl | rfl
          · exact Bool.eq_false_iff.mpr c7
          · exact Bool.eq_false_iff.mpr c8
          · exact Bool.eq_false_iff.mpr c9)
        rw [e]; rfl
theorem lst_st {f : Nat → Bool} {k : Nat} (hu : ∀ a b, a ≤ k → b ≤ k → f a = true → f b = true → a = b) : (if fstB f (k + 1) < k + 1 then nI (fstB f (k + 1)) else -1) = if f k = true then nI k else (if fstB f k < k then nI (fstB f k) else -1) := by
  have hl := fstB_le f k
  rw [fstB]
  by_cases c : f k = true
  · rw [if_pos c]
    by_cases d : fstB f k < k
    · have h1 := hu _ _ (by omega) (Nat.le_refl k) (fstB_t f k d) c
      omega
    · rw [if_neg d, if_pos c, if_pos (Nat.lt_succ_self k)]
  · simp only [if_neg c]
    by_cases d : fstB f k < k
    · rw [if_pos d, if_pos d, if_pos (by omega)]
    · rw [if_neg d, if_neg d, if_neg (Nat.lt_irrefl _)]
theorem which6 (hC : rdC y L c T) {s : Bool × Nat} (h : rt u y L c T s) : m_X6_which u = some (if kd y (T s.2) < 7 then nI (kd y (T s.2)) else -1) := by
  unfold m_X6_which
  have e : zit zF (fun x : Int32 × Int32 => m_X6_which_b0 u x.1 x.2) (if fstB (wdB y (T s.2)) 0 < 0 then nI (fstB (wdB y (T s.2)) 0) else -1, nI 0) = some (if kd y (T s.2) < 7 then nI (kd y (T s.2)) else -1) := by
    refine zit_fn (fun k => (if fstB (wdB y (T s.2)) k < k then nI (fstB (wdB y (T s.2)) k) else -1, nI k)) 7 _ (by omega) (fun k hk => ?_) ?_
    · show m_X6_which_b0 u (if fstB (wdB y (T s.2)) k < k then nI (fstB (wdB y (T s.2)) k) else -1) (nI k) = some (.inl (if fstB (wdB y (T s.2)) (k + 1) < k + 1 then nI (fstB (wdB y (T s.2)) (k + 1)) else -1, nI (k + 1)))
      unfold m_X6_which_b0
      rw [lst_st (fun a b ha hb h1 h2 => wd_inj (by omega) (by omega) h1 h2), if_neg (show ¬ (7 : Int32) ≤ nI k from fun z => by have := (q_le (a := 7) (by decide) (by omega)).mp z; omega), zsa_n hk (by decide), zbind_s, Nat.zero_add, word6w hC h (by omega), zbind_s, ← q_add k 1]
      by_cases c1 : wdB y (T s.2) k = true
      · rw [if_pos c1, if_neg (show ¬ (1 : Int32) = 0 by decide), if_pos c1]; rfl
      · rw [if_neg c1, if_pos rfl, if_neg c1]; rfl
    · show m_X6_which_b0 u (if fstB (wdB y (T s.2)) 7 < 7 then nI (fstB (wdB y (T s.2)) 7) else -1) (nI 7) = _
      unfold m_X6_which_b0
      rw [if_pos (show (7 : Int32) ≤ nI 7 by decide)]; rfl
  exact (congrArg (fun x => zbind x (fun x3 => some x3)) e).trans rfl
theorem which6r (hC : rdC y L c T) {s : Bool × Nat} (h : rt u y L c T s) : m_X6_which_2 u = some (if rl y (T s.2) < 3 then nI (rl y (T s.2)) else -1) := by
  unfold m_X6_which_2
  have e : zit zF (fun x : Int32 × Int32 => m_X6_which_2_b0 u x.1 x.2) (if fstB (fun k => wdB y (T s.2) (7 + k)) 0 < 0 then nI (fstB (fun k => wdB y (T s.2) (7 + k)) 0) else -1, nI 0) = some (if rl y (T s.2) < 3 then nI (rl y (T s.2)) else -1) := by
    refine zit_fn (fun k => (if fstB (fun k => wdB y (T s.2) (7 + k)) k < k then nI (fstB (fun k => wdB y (T s.2) (7 + k)) k) else -1, nI k)) 3 _ (by omega) (fun k hk => ?_) ?_
    · show m_X6_which_2_b0 u (if fstB (fun k => wdB y (T s.2) (7 + k)) k < k then nI (fstB (fun k => wdB y (T s.2) (7 + k)) k) else -1) (nI k) = some (.inl (if fstB (fun k => wdB y (T s.2) (7 + k)) (k + 1) < k + 1 then nI (fstB (fun k => wdB y (T s.2) (7 + k)) (k + 1)) else -1, nI (k + 1)))
      unfold m_X6_which_2_b0
      rw [lst_st (fun a b ha hb h1 h2 => by have := wd_inj (y := y) (T := T s.2) (a := 7 + a) (b := 7 + b) (by omega) (by omega) h1 h2; omega), if_neg (show ¬ (3 : Int32) ≤ nI k from fun z => by have := (q_le (a := 3) (by decide) (by omega)).mp z; omega), zsa_n hk (by decide), zbind_s, word6w hC h (by omega), zbind_s, ← q_add k 1]
      by_cases c1 : wdB y (T s.2) (7 + k) = true
      · rw [if_pos c1, if_neg (show ¬ (1 : Int32) = 0 by decide), if_pos c1]; rfl
      · rw [if_neg c1, if_pos rfl, if_neg c1]; rfl
    · show m_X6_which_2_b0 u (if fstB (fun k => wdB y (T s.2) (7 + k)) 3 < 3 then nI (fstB (fun k => wdB y (T s.2) (7 + k)) 3) else -1) (nI 3) = _
      unfold m_X6_which_2_b0
      rw [if_pos (show (3 : Int32) ≤ nI 3 by decide)]; rfl
  exact (congrArg (fun x => zbind x (fun x3 => some x3)) e).trans rfl
end RI
/-! what is read, without any machine -/
section PU
variable (y : Nat → Nat) (c : Nat) (T : Nat → Nat × Nat × Nat)
def pM : Nat → Bool × Nat → Bool × Nat
  | 0, s => s
  | k + 1, s => pN y c T 50 250 (pM k s)
def pA (s : Bool × Nat) : Bool × Nat := pm c true s
def pBb (s : Bool × Nat) : Bool × Nat := if sgB y (T (pA c s).2) 45 = true then pA c (pA c s) else pA c s
def pB (s : Bool × Nat) : Bool × Nat := if wdB y (T s.2) 13 = true then pN y c T 0 20 (pBb y c T s) else s
def vB (s : Bool × Nat) : Int32 := if wdB y (T s.2) 13 = true then (if sgB y (T (pA c s).2) 45 = true then -nI (tokV y (T (pBb y c T s).2)) else nI (tokV y (T (pBb y c T s).2))) else 0
def pP (s : Bool × Nat) : Bool × Nat := if wdB y (T s.2) 14 = true then pN y c T 0 99 (pA c s) else s
def vP (s : Bool × Nat) : Int32 := if wdB y (T s.2) 14 = true then nI (tokV y (T (pA c s).2)) else 0
def b2 (s : Bool × Nat) : Bool × Nat := pM y c T 3 s
def b3 (s : Bool × Nat) : Bool × Nat := if (b2 y c T s).1 = true then b2 y c T s else pB y c T (b2 y c T s)
def b4 (s : Bool × Nat) : Bool × Nat := if (b3 y c T s).1 = true then b3 y c T s else pP y c T (b3 y c T s)
/-- the parts of a body that is read from s on -/
def bIt (k : Nat) (s : Bool × Nat) (i : Nat) : Int32 := if i = 0 then nI k else if i < 4 then nI (tokV y (T (pM y c T (i - 1) s).2)) else if i = 4 then (if (b2 y c T s).1 = true then 0 else vB y c T (b2 y c T s)) else (if (b3 y c T s).1 = true then 0 else vP y c T (b3 y c T s))
/-- an item -/
def pI (ro : Bool) (j : Nat) : Bool × Nat := if kd y (T j) < 7 then b4 y c T (pm c ro (false, j)) else if wdB y (T j) 10 = true then pm c (decide (rl y (T (pA c (false, j)).2) < 3)) (pA c (false, j)) else if wdB y (T j) 11 = true then pN y c T 0 999 (pA c (false, j)) else pN y c T 0 99 (pm c (wdB y (T j) 12) (false, j))
def iIt (ro : Bool) (j i : Nat) : Int32 := if kd y (T j) < 7 then bIt y c T (kd y (T j)) (pm c ro (false, j)) i else if wdB y (T j) 10 = true then (if i = 0 then 10 else if rl y (T (pA c (false, j)).2) < 3 then nI (rl y (T (pA c (false, j)).2)) else -1) else if wdB y (T j) 11 = true then (if i = 0 then 11 else nI (tokV y (T (pA c (false, j)).2))) else (if i = 0 then 12 else nI (tokV y (T (pm c (wdB y (T j) 12) (false, j)).2)))
def isB (j : Nat) : Nat := if kd y (T j) < 7 then 1 else 0
end PU
section PF
variable {y : Nat → Nat} {c : Nat} {T : Nat → Nat × Nat × Nat}
theorem pm_f {x : Bool} {s : Bool × Nat} (h : (pm c x s).1 = false) : s.1 = false ∧ x = true ∧ pm c x s = (false, nx c s.2) := by
  unfold pm at h ⊢
  by_cases c1 : s.1 = true
  · rw [if_pos c1] at h; rw [h] at c1; cases c1
  · rw [if_neg c1] at h ⊢
    by_cases c2 : x = true
    · rw [if_pos c2]; exact ⟨Bool.eq_false_iff.mpr c1, c2, rfl⟩
    · rw [if_neg c2] at h; cases h
theorem pm_w {x : Bool} {s : Bool × Nat} (h : s.1 = true) : pm c x s = s := if_pos h
theorem pM_w {s : Bool × Nat} {k : Nat} (h : (pM y c T k s).1 = true) : ∀ n, k ≤ n → pM y c T n s = pM y c T k s := by
  intro n
  induction n with
  | zero => intro z; rw [show k = 0 by omega]
  | succ n ih =>
    intro z
    by_cases ck : k = n + 1
    · rw [ck]
    · have e := ih (by omega)
      rw [pM, e]
      exact pm_w h
theorem nx_ge {c j : Nat} (h : j ≤ c) : j ≤ nx c j := by unfold nx; split <;> omega
theorem pm_2 {x : Bool} {s : Bool × Nat} (h : s.2 ≤ c) : s.2 ≤ (pm c x s).2 ∧ (pm c x s).2 ≤ c := by
  unfold pm
  split
  · exact ⟨Nat.le_refl _, h⟩
  · split
    · exact ⟨nx_ge h, nx_le⟩
    · exact ⟨Nat.le_refl _, h⟩
theorem pM_2 {s : Bool × Nat} (h : s.2 ≤ c) : ∀ k, s.2 ≤ (pM y c T k s).2 ∧ (pM y c T k s).2 ≤ c := by
  intro k
  induction k with
  | zero => exact ⟨Nat.le_refl _, h⟩
  | succ k ih =>
    have h2 := pm_2 (c := c) (x := okB y (T (pM y c T k s).2) 50 250) ih.2
    exact ⟨Nat.le_trans ih.1 h2.1, h2.2⟩
theorem pBb_2 {s : Bool × Nat} (h : s.2 ≤ c) : s.2 ≤ (pBb y c T s).2 ∧ (pBb y c T s).2 ≤ c := by
  have h1 : s.2 ≤ (pA c s).2 ∧ (pA c s).2 ≤ c := pm_2 h
  unfold pBb
  split
  · have h2 : (pA c s).2 ≤ (pA c (pA c s)).2 ∧ (pA c (pA c s)).2 ≤ c := pm_2 h1.2
    exact ⟨Nat.le_trans h1.1 h2.1, h2.2⟩
  · exact h1
theorem pB_2 {s : Bool × Nat} (h : s.2 ≤ c) : s.2 ≤ (pB y c T s).2 ∧ (pB y c T s).2 ≤ c := by
  unfold pB
  split
  · have h1 := pBb_2 (y := y) (T := T) h
    have h2 : (pBb y c T s).2 ≤ (pN y c T 0 20 (pBb y c T s)).2 ∧ (pN y c T 0 20 (pBb y c T s)).2 ≤ c := pm_2 h1.2
    exact ⟨Nat.le_trans h1.1 h2.1, h2.2⟩
  · exact ⟨Nat.le_refl _, h⟩
theorem pP_2 {s : Bool × Nat} (h : s.2 ≤ c) : s.2 ≤ (pP y c T s).2 ∧ (pP y c T s).2 ≤ c := by
  unfold pP
  split
  · have h1 : s.2 ≤ (pA c s).2 ∧ (pA c s).2 ≤ c := pm_2 h
    have h2 : (pA c s).2 ≤ (pN y c T 0 99 (pA c s)).2 ∧ (pN y c T 0 99 (pA c s)).2 ≤ c := pm_2 h1.2
    exact ⟨Nat.le_trans h1.1 h2.1, h2.2⟩
  · exact ⟨Nat.le_refl _, h⟩
theorem b3_2 {s : Bool × Nat} (h : s.2 ≤ c) : s.2 ≤ (b3 y c T s).2 ∧ (b3 y c T s).2 ≤ c := by
  have h1 : s.2 ≤ (b2 y c T s).2 ∧ (b2 y c T s).2 ≤ c := pM_2 h 3
  unfold b3
  split
  · exact h1
  · have h2 := pB_2 (y := y) (T := T) h1.2
    exact ⟨Nat.le_trans h1.1 h2.1, h2.2⟩
theorem b4_2 {s : Bool × Nat} (h : s.2 ≤ c) : s.2 ≤ (b4 y c T s).2 ∧ (b4 y c T s).2 ≤ c := by
  have h1 := b3_2 (y := y) (T := T) h
  unfold b4
  split
  · exact h1
  · have h2 := pP_2 (y := y) (T := T) h1.2
    exact ⟨Nat.le_trans h1.1 h2.1, h2.2⟩
theorem okB_t {T : Nat × Nat × Nat} {lo hi : Nat} (h : okB y T lo hi = true) : lo ≤ tokV y T ∧ tokV y T ≤ hi := by
  unfold okB at h
  rw [Bool.and_eq_true, decide_eq_true_eq, decide_eq_true_eq] at h
  exact h.2
theorem pM_f {s : Bool × Nat} : ∀ k, (pM y c T k s).1 = false → s.1 = false ∧ ∀ m, m < k → 50 ≤ tokV y (T (pM y c T m s).2) ∧ tokV y (T (pM y c T m s).2) ≤ 250 := by
  intro k
  induction k with
  | zero => exact fun h => ⟨h, fun m hm => absurd hm (by omega)⟩
  | succ k ih =>
    intro h
    obtain ⟨h1, h2, -⟩ := pm_f (c := c) h
    obtain ⟨i1, i2⟩ := ih h1
    refine ⟨i1, fun m hm => ?_⟩
    by_cases cm : m = k
    · rw [cm]; exact okB_t h2
    · exact i2 m (by omega)
theorem neg_of : ∀ v : Nat, v < 21 → -nI v = Int32.ofInt (-(v : Int)) := by decide +kernel
theorem b4_f {s : Bool × Nat} (h : (b4 y c T s).1 = false) : s.1 = false ∧ (b2 y c T s).1 = false ∧ (b3 y c T s).1 = false ∧ (∀ m, m < 3 → 50 ≤ tokV y (T (pM y c T m s).2) ∧ tokV y (T (pM y c T m s).2) ≤ 250) ∧ brOk (vB y c T (b2 y c T s)) ∧ ∃ p : Nat, p ≤ 99 ∧ vP y c T (b3 y c T s) = nI p := by
  have h3 : (b3 y c T s).1 = false := by
    unfold b4 at h
    by_cases z : (b3 y c T s).1 = true
    · rw [if_pos z] at h; exact h
    · exact Bool.eq_false_iff.mpr z
  have h2 : (b2 y c T s).1 = false := by
    unfold b3 at h3
    by_cases z : (b2 y c T s).1 = true
    · rw [if_pos z] at h3; exact h3
    · exact Bool.eq_false_iff.mpr z
  have hm := pM_f (y := y) (c := c) (T := T) 3 h2
  refine ⟨hm.1, h2, h3, hm.2, ?_, ?_⟩
  · unfold b3 at h3
    rw [if_neg (by rw [h2]; decide)] at h3
    unfold vB
    unfold pB at h3
    by_cases c1 : wdB y (T (b2 y c T s).2) 13 = true
    · rw [if_pos c1] at h3 ⊢
      obtain ⟨-, k2, -⟩ := pm_f (c := c) h3
      obtain ⟨k3, k4⟩ := okB_t k2
      split
      · exact ⟨-(tokV y (T (pBb y c T (b2 y c T s)).2) : Int), by omega, by omega, neg_of _ (by omega)⟩
      · exact ⟨(tokV y (T (pBb y c T (b2 y c T s)).2) : Int), by omega, by omega, rfl⟩
    · rw [if_neg c1]
      exact ⟨0, by decide, by decide, rfl⟩
  · unfold b4 at h
    rw [if_neg (by rw [h3]; decide)] at h
    unfold vP
    unfold pP at h
    by_cases c1 : wdB y (T (b3 y c T s).2) 14 = true
    · rw [if_pos c1] at h ⊢
      obtain ⟨-, k2, -⟩ := pm_f (c := c) h
      exact ⟨_, (okB_t k2).2, rfl⟩
    · rw [if_neg c1]
      exact ⟨0, by decide, rfl⟩
theorem wd_1 {T : Nat × Nat × Nat} {id : Nat} (h : wdB y T id = true) : T.2.2 = 1 := by
  unfold wdB at h
  rw [Bool.and_eq_true, Bool.and_eq_true, decide_eq_true_eq] at h
  exact h.1.1
theorem pI_2 {L : Nat} (hC : rdC y L c T) {ro : Bool} {j : Nat} (hj : j ≤ c) : (pI y c T ro j).2 ≤ c ∧ ((pI y c T ro j).1 = false → j < (pI y c T ro j).2) := by
  have hw : ∀ id, wdB y (T j) id = true → nx c j = j + 1 := fun id h => by
    have := (hC.b hj).2.2.2 (by rw [wd_1 h]; decide)
    unfold nx
    rw [if_pos this.1]
  unfold pI
  by_cases ck : kd y (T j) < 7
  · rw [if_pos ck]
    have h1 := pm_2 (c := c) (x := ro) (s := (false, j)) hj
    have h2 := b4_2 (y := y) (T := T) h1.2
    refine ⟨h2.2, fun h => ?_⟩
    obtain ⟨k1, -⟩ := b4_f h
    have k2 := (pm_f k1).2.2
    have k3 := hw _ (fstB_t _ _ ck)
    have k4 : (pm c ro (false, j)).2 = j + 1 := by rw [k2]; exact k3
    omega
  · rw [if_neg ck]
    by_cases c10 : wdB y (T j) 10 = true
    · rw [if_pos c10]
      have h1 : j ≤ (pA c (false, j)).2 ∧ (pA c (false, j)).2 ≤ c := pm_2 (c := c) (x := true) (s := (false, j)) hj
      have h2 := pm_2 (c := c) (x := decide (rl y (T (pA c (false, j)).2) < 3)) h1.2
      refine ⟨h2.2, fun _ => ?_⟩
      have k4 : (pA c (false, j)).2 = j + 1 := hw _ c10
      omega
    · rw [if_neg c10]
      by_cases c11 : wdB y (T j) 11 = true
      · rw [if_pos c11]
        have h1 : j ≤ (pA c (false, j)).2 ∧ (pA c (false, j)).2 ≤ c := pm_2 (c := c) (x := true) (s := (false, j)) hj
        have h2 := pm_2 (c := c) (x := okB y (T (pA c (false, j)).2) 0 999) h1.2
        refine ⟨h2.2, fun _ => ?_⟩
        have k4 : (pA c (false, j)).2 = j + 1 := hw _ c11
        unfold pN
        omega
      · rw [if_neg c11]
        have h1 := pm_2 (c := c) (x := wdB y (T j) 12) (s := (false, j)) hj
        have h2 := pm_2 (c := c) (x := okB y (T (pm c (wdB y (T j) 12) (false, j)).2) 0 99) h1.2
        refine ⟨h2.2, fun h => ?_⟩
        obtain ⟨k1, -⟩ := pm_f (c := c) h
        obtain ⟨-, k2, k3⟩ := pm_f k1
        have k4 : (pm c (wdB y (T j) 12) (false, j)).2 = j + 1 := by rw [k3]; exact hw _ k2
        unfold pN
        omega
end PF
