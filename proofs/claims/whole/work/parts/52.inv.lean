/-! WHAT HOLDS BETWEEN CALLS. t: the reference's row `now` (u 40), read as a town; the class's town holds the same. -/
def tK (t : Nat → Int32) (b : Nat) : Int32 := t (6 + 7 * b)
def tM (t : Nat → Int32) (b m : Nat) : Int32 := t (6 + 7 * b + 1 + m)
def tB (t : Nat → Int32) (b : Nat) : Int32 := t (6 + 7 * b + 4)
def tP (t : Nat → Int32) (b : Nat) : Int32 := t (6 + 7 * b + 5)
def tH (t : Nat → Int32) (b : Nat) : Int32 := t (6 + 7 * b + 6)
/-- a body as it may be -/
def tBd (t : Nat → Int32) (b : Nat) : Prop := (∃ k : Nat, k ≤ 6 ∧ tK t b = nI k) ∧ (∀ m, m < 3 → ∃ v : Nat, 50 ≤ v ∧ v ≤ 250 ∧ tM t b m = nI v) ∧ (∃ z : Int, -20 ≤ z ∧ z ≤ 20 ∧ tB t b = Int32.ofInt z) ∧ (∃ p : Nat, p ≤ 99 ∧ tP t b = nI p)
/-- a town of n bodies as it may be -/
def tOk (t : Nat → Int32) (n : Nat) : Prop := n ≤ 12 ∧ t 0 = nI n ∧ (∀ b, b < n → tBd t b) ∧ (∀ b, b < 12 → tH t b = 0 ∨ tH t b = 1) ∧ (∀ b, n ≤ b → b < 12 → tH t b = 0) ∧
  (∃ r : Nat, r ≤ 2 ∧ t 1 = nI r) ∧ (∃ e : Nat, e ≤ 999 ∧ t 2 = nI e) ∧ (∃ p : Nat, p ≤ 99 ∧ t 3 = nI p) ∧ (∃ s : Nat, s ≤ 20 ∧ t 4 = nI s) ∧ ∀ i, i < 10 → ∃ w : Nat, w ≤ n ∧ t (150 + i) = nI w
/-- who is here, as a number -/
def tSet (t : Nat → Int32) : Nat := sN (fun b => if tH t b = 1 then 2 ^ b else 0) 12
/-- the class's town at the cells c to c + 6 -/
def tIs (u : zM) (c : Nat) (t : Nat → Int32) : Prop := u c 6 = t 0 ∧ u c 7 = nI (tSet t) ∧ u c 8 = t 1 ∧ u c 9 = t 2 ∧ u c 10 = t 3 ∧ u c 11 = t 4 ∧ u c 12 = t 5 ∧
  (∀ b, b < 12 → u (c + 1) b = tK t b) ∧ (∀ b m, b < 12 → m < 3 → u (c + 2) (3 * b + m) = tM t b m) ∧ (∀ b, b < 12 → u (c + 3) b = tB t b) ∧ (∀ b, b < 12 → u (c + 4) b = tP t b) ∧
  (∀ j, j < 60 → u (c + 5) j = t (90 + j)) ∧ ∀ i, i < 10 → u (c + 6) i = t (150 + i) - 1
/-- the parts of the invariant -/
def vTown (u : zM) : Prop := (∃ n, tOk (u 40) n) ∧ tIs u 1 (u 40)
def vKept (u : zM) : Prop := u 0 9 = u 39 2 ∧ (u 39 2 = 0 ∨ u 39 2 = 1) ∧ (u 39 2 = 1 → (∃ n, tOk (u 41) n) ∧ tIs u 8 (u 41))
def vFind (u : zM) : Prop := (∀ j, j < 7 → u 42 (j + 1) = u 28 j) ∧ u 42 0 = sI (u 28) 7
def vTape (u : zM) : Prop := ∃ k : Nat, k ≤ 120 ∧ u 20 4 = nI k ∧ u 39 12 = nI k ∧ ∀ j, j < k → u 21 j = u 47 j ∧ ∃ c : Nat, c ≤ 255 ∧ u 47 j = nI c
def vSheet (u : zM) : Prop := ∀ s, s < 4 → u (31 + 2 * s) 1 = u 51 s ∧ (u 51 s = 0 ∨ u 51 s = 8 ∨ u 51 s = 16 ∨ u 51 s = 32) ∧ (∃ l : Nat, l ≤ 40 ∧ u (31 + 2 * s) 2 = nI l ∧ u 52 s = nI l) ∧ ∀ j, j < 40 → u (31 + 2 * s + 1) j = u 53 (40 * s + j)
def vSlip (u : zM) : Prop := ∀ j, j < 36 → u 44 j = 0
def Inv (u : zM) : Prop := vTown u ∧ vKept u ∧ vFind u ∧ vTape u ∧ vSheet u ∧ vSlip u
/-- cells that hold nothing between calls -/
def scr (k : Nat) : Bool := [15, 16, 17, 18, 19, 22, 23, 24, 25, 26, 29, 30, 43, 45, 46, 50, 54].contains k
/-- nothing but what holds nothing has changed -/
def sameP (u v : zM) : Prop := (∀ k, scr k = false → k ≠ 20 → k ≠ 39 → v k = u k) ∧ v 20 4 = u 20 4 ∧ v 39 2 = u 39 2 ∧ v 39 12 = u 39 12
theorem sameP.rfl' (u : zM) : sameP u u := ⟨fun _ _ _ _ => rfl, rfl, rfl, rfl⟩
theorem sameP.tr {u v w : zM} (h1 : sameP u v) (h2 : sameP v w) : sameP u w := ⟨fun k a b c => (h2.1 k a b c).trans (h1.1 k a b c), h2.2.1.trans h1.2.1, h2.2.2.1.trans h1.2.2.1, h2.2.2.2.trans h1.2.2.2⟩
theorem sameP.st {u : zM} {q j : Nat} {v : Int32} (h : scr q = true) : sameP u (zst u q j v) := by
  refine ⟨fun k hk _ _ => zst_o u (fun e => ?_), ?_, ?_, ?_⟩
  · rw [e, h] at hk; cases hk
  · rw [zst_o u (fun e => by rw [← e] at h; exact absurd h (by decide))]
  · rw [zst_o u (fun e => by rw [← e] at h; exact absurd h (by decide))]
  · rw [zst_o u (fun e => by rw [← e] at h; exact absurd h (by decide))]
theorem sameP.up {u : zM} {q : Nat} {f : Nat → Int32} (h : scr q = true) : sameP u (zup u q f) := by
  have e : ∀ k, k ≠ q → zup u q f k = u k := fun k hk => by simp [zup, hk]
  refine ⟨fun k hk _ _ => e k (fun e => ?_), ?_, ?_, ?_⟩
  · rw [e, h] at hk; cases hk
  · rw [e 20 (fun e => by rw [← e] at h; exact absurd h (by decide))]
  · rw [e 39 (fun e => by rw [← e] at h; exact absurd h (by decide))]
  · rw [e 39 (fun e => by rw [← e] at h; exact absurd h (by decide))]
theorem sameP.st20 {u : zM} {j : Nat} {v : Int32} (h : j ≠ 4) : sameP u (zst u 20 j v) :=
  ⟨fun k _ h2 _ => zst_o u h2, zst_j u (Ne.symm h), by rw [zst_o u (by decide)], by rw [zst_o u (by decide)]⟩
theorem sameP.st39 {u : zM} {j : Nat} {v : Int32} (h : j ≠ 2) (h' : j ≠ 12) : sameP u (zst u 39 j v) :=
  ⟨fun k _ _ h3 => zst_o u h3, by rw [zst_o u (by decide)], zst_j u (Ne.symm h), zst_j u (Ne.symm h')⟩
theorem sameP.c {u v : zM} (h : sameP u v) (k : Nat) (hk : (!scr k && !(k == 20) && !(k == 39)) = true) : v k = u k := by
  simp only [Bool.and_eq_true, Bool.not_eq_true', beq_eq_false_iff_ne] at hk
  exact h.1 k hk.1.1 hk.1.2 hk.2
theorem tIs_congr {u v : zM} {c : Nat} {t : Nat → Int32} (h : ∀ k, k < 7 → v (c + k) = u (c + k)) (hi : tIs u c t) : tIs v c t := by
  unfold tIs at hi ⊢
  have h0 : v c = u c := h 0 (by decide)
  rw [h0, h 1 (by decide), h 2 (by decide), h 3 (by decide), h 4 (by decide), h 5 (by decide), h 6 (by decide)]
  exact hi
theorem Inv.congr {u v : zM} (h : sameP u v) (hi : Inv u) : Inv v := by
  obtain ⟨h1, h2, h3, h4, h5, h6⟩ := hi
  refine ⟨?_, ?_, ?_, ?_, ?_, ?_⟩
  · unfold vTown
    rw [h.c 40 (by decide)]
    exact ⟨h1.1, tIs_congr (fun k hk => h.c (1 + k) (by revert hk; revert k; decide)) h1.2⟩
  · unfold vKept
    rw [h.c 0 (by decide), h.c 41 (by decide), h.2.2.1]
    exact ⟨h2.1, h2.2.1, fun q => ⟨(h2.2.2 q).1, tIs_congr (fun k hk => h.c (8 + k) (by revert hk; revert k; decide)) (h2.2.2 q).2⟩⟩
  · unfold vFind
    rw [h.c 42 (by decide), h.c 28 (by decide)]
    exact h3
  · unfold vTape
    rw [h.2.1, h.2.2.2, h.c 21 (by decide), h.c 47 (by decide)]
    exact h4
  · intro s hs
    have es : ∀ s, s < 4 → (!scr (31 + 2 * s) && !(31 + 2 * s == 20) && !(31 + 2 * s == 39)) = true ∧ (!scr (31 + 2 * s + 1) && !(31 + 2 * s + 1 == 20) && !(31 + 2 * s + 1 == 39)) = true := by decide
    have e1 : v (31 + 2 * s) = u (31 + 2 * s) := h.c _ (es s hs).1
    have e2 : v (31 + 2 * s + 1) = u (31 + 2 * s + 1) := h.c _ (es s hs).2
    rw [e1, e2, h.c 51 (by decide), h.c 52 (by decide), h.c 53 (by decide)]
    exact h5 s hs
  · unfold vSlip
    rw [h.c 44 (by decide)]
    exact h6
/-! small things -/
theorem zb_0 : zb 0 = 0 := rfl
theorem zb_1 : zb 1 = 1 := rfl
theorem zb_if (p : Prop) [Decidable p] : zb (if p then (1 : Int32) else 0) = if p then 1 else 0 := by split <;> rfl
theorem if_0 (p : Prop) [Decidable p] : (if p then (1 : Int32) else 0) = 0 ↔ ¬ p := by
  split
  · rename_i h; exact ⟨fun e => absurd e (by decide), fun e => absurd h e⟩
  · rename_i h; exact ⟨fun _ => h, fun _ => rfl⟩
theorem w5_eq (a b c : Int32) : m_X5_within a b c = if b ≤ a ∧ a ≤ c then 1 else 0 := by
  unfold m_X5_within
  by_cases h1 : a < b
  · rw [if_pos h1, if_neg (fun z => i_nlt.mpr z.1 h1)]
  · rw [if_neg h1]
    by_cases h2 : c < a
    · rw [if_pos h2, if_neg (fun z => i_nlt.mpr z.2 h2)]
    · rw [if_neg h2, if_pos ⟨i_nlt.mp h1, i_nlt.mp h2⟩]
theorem w6_eq (a b c : Int32) : m_X6_within a b c = if b ≤ a ∧ a ≤ c then 1 else 0 := w5_eq a b c
/-- between two numbers: it is one -/
theorem btw (x : Int32) (a b : Nat) (hb : b < 2147483648) (ha : a < 2147483648) : (nI a ≤ x ∧ x ≤ nI b) ↔ ∃ k : Nat, a ≤ k ∧ k ≤ b ∧ x = nI k := by
  constructor
  · rintro ⟨h1, h2⟩
    exact q_within x a b ha hb (i_nlt.mpr h1) (i_nlt.mpr h2)
  · rintro ⟨k, h1, h2, rfl⟩
    exact ⟨(q_le ha (by omega)).mpr h1, (q_le (by omega) hb).mpr h2⟩
theorem lit_sub1 (n : Nat) : nI n - 1 = if n = 0 then -1 else nI (n - 1) := by
  cases n with
  | zero => rfl
  | succ n =>
    rw [if_neg (by omega)]
    exact q_sub (a := n + 1) (b := 1) (by omega)
theorem below (x : Int32) (n : Nat) (hn : n < 1000) : (0 ≤ x ∧ x ≤ nI n - 1) ↔ ∃ k : Nat, k < n ∧ x = nI k := by
  rw [lit_sub1]
  by_cases h : n = 0
  · subst h
    rw [if_pos rfl]
    constructor
    · rintro ⟨h1, h2⟩
      exact absurd (i_le_trans h1 h2) (by decide)
    · rintro ⟨k, h1, -⟩
      omega
  · rw [if_neg h]
    have := btw x 0 (n - 1) (by omega) (by decide)
    rw [show nI 0 = (0 : Int32) from rfl] at this
    rw [this]
    constructor
    · rintro ⟨k, h1, h2, h3⟩
      exact ⟨k, by omega, h3⟩
    · rintro ⟨k, h1, h2⟩
      exact ⟨k, by omega, by omega, h2⟩
/-! findings -/
/-- one more of the finding j, in both -/
def fnd5 (j : Nat) (u : zM) : zM := zst u 28 j (u 28 j + 1)
def fnd6 (j : Nat) (u : zM) : zM := zst (zst u 42 (j + 1) (u 42 (j + 1) + 1)) 42 0 (u 42 0 + 1)
theorem f5_eq {j : Nat} (hj : j < 7) (u : zM) : m_X5_finding (nI j) u = some (-1000001 - nI j, fnd5 j u) := by
  unfold m_X5_finding
  rw [zld_n hj (by decide)]
  simp only [zbind]
  rw [zsv_n hj (by decide)]
  rfl
theorem f6_eq {j : Nat} (hj : j < 7) (u : zM) : m_X6_finding (-1000001 - nI j) u = some (-1000001 - nI j, fnd6 j u) := by
  have e : (-1000001 : Int32) - (-1000001 - nI j) + 1 = nI (j + 1) := by revert hj; revert j; decide
  unfold m_X6_finding
  rw [e, zld_n (by omega) (by decide)]
  simp only [zbind]
  rw [zsv_n (by omega) (by decide)]
  simp only [zlet]
  rw [zst_j (j' := 0) u (by omega)]
  rfl
theorem sI_upd {f : Nat → Int32} {j n : Nat} {d : Int32} (hj : j < n) : sI (fun i => if i = j then f i + d else f i) n = sI f n + d := by
  induction n with
  | zero => omega
  | succ n ih =>
    rw [sI, sI]
    by_cases e : n = j
    · subst e
      rw [if_pos rfl, sI_congr (h := f) (fun i hi => if_neg (by omega)), Int32.add_assoc]
    · rw [if_neg e, ih (by omega), Int32.add_assoc, Int32.add_assoc, Int32.add_comm d]
theorem Inv.fnd {u : zM} {j : Nat} (hj : j < 7) (h : Inv u) : Inv (fnd6 j (fnd5 j u)) := by
  have e : ∀ k, k ≠ 28 → k ≠ 42 → fnd6 j (fnd5 j u) k = u k := fun k h1 h2 => by
    unfold fnd6 fnd5
    rw [zst_o _ h2, zst_o _ h2, zst_o _ h1]
  obtain ⟨h1, h2, h3, h4, h5, h6⟩ := h
  refine ⟨?_, ?_, ?_, ?_, ?_, ?_⟩
  · unfold vTown
    rw [e 40 (by decide) (by decide)]
    exact ⟨h1.1, tIs_congr (fun k hk => e _ (by omega) (by omega)) h1.2⟩
  · unfold vKept
    rw [e 0 (by decide) (by decide), e 41 (by decide) (by decide), e 39 (by decide) (by decide)]
    exact ⟨h2.1, h2.2.1, fun q => ⟨(h2.2.2 q).1, tIs_congr (fun k hk => e _ (by omega) (by omega)) (h2.2.2 q).2⟩⟩
  · have e5 : ∀ i, fnd6 j (fnd5 j u) 28 i = if i = j then u 28 i + 1 else u 28 i := fun i => by
      unfold fnd6 fnd5
      rw [zst_o _ (by decide), zst_o _ (by decide), zst_g]
      by_cases c : i = j
      · subst c; simp
      · simp [c]
    have e6 : ∀ i, fnd6 j (fnd5 j u) 42 i = if i = 0 then u 42 0 + 1 else if i = j + 1 then u 42 i + 1 else u 42 i := fun i => by
      unfold fnd6 fnd5
      simp only [zst_g]
      by_cases c : i = 0
      · subst c; simp
      · by_cases c2 : i = j + 1
        · subst c2; simp
        · simp [c, c2]
    refine ⟨fun i hi => ?_, ?_⟩
    · rw [e5, e6, if_neg (by omega)]
      by_cases c : i = j
      · subst c
        rw [if_pos rfl, if_pos rfl, h3.1 i hi]
      · rw [if_neg (by omega), if_neg c, h3.1 i hi]
    · rw [e6, if_pos rfl, h3.2, show (fnd6 j (fnd5 j u) 28) = fun i => if i = j then u 28 i + 1 else u 28 i from funext e5, sI_upd hj]
  · unfold vTape
    rw [e 20 (by decide) (by decide), e 39 (by decide) (by decide), e 21 (by decide) (by decide), e 47 (by decide) (by decide)]
    exact h4
  · intro s hs
    rw [e (31 + 2 * s) (by omega) (by omega), e (31 + 2 * s + 1) (by omega) (by omega), e 51 (by decide) (by decide), e 52 (by decide) (by decide), e 53 (by decide) (by decide)]
    exact h5 s hs
  · unfold vSlip
    rw [e 44 (by decide) (by decide)]
    exact h6
/-- both answer a finding -/
theorem B_fnd {j : Nat} (hj : j < 7) {u : zM} (h : Inv u) : ∃ (r : Int32) (u1 u2 : zM), m_X5_finding (nI j) u = some (r, u1) ∧ m_X6_finding (-1000001 - nI j) u1 = some (r, u2) ∧ Inv u2 :=
  ⟨_, _, _, f5_eq hj u, f6_eq hj _, h.fnd hj⟩
