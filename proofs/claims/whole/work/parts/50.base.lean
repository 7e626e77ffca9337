/-! NUMBERS, MEMORY, LOOPS: what the models stand on -/
theorem q_add (a b : Nat) : nI a + nI b = nI (a + b) := (Int32.ofNat_add a b).symm
theorem q_mul (a b : Nat) : nI a * nI b = nI (a * b) := pk_mul a b
theorem q_sub {a b : Nat} (h : b ≤ a) : nI a - nI b = nI (a - b) := pk_sub h
theorem q_m1 {a : Nat} (h : 1 ≤ a) : nI a + (-1) = nI (a - 1) := by
  obtain ⟨b, rfl⟩ : ∃ b, a = b + 1 := ⟨a - 1, by omega⟩
  exact pk_m1 b
theorem q_div {a d : Nat} (ha : a < 2147483648) (h0 : 0 < d) (hd : d < 2147483648) : nI a / nI d = nI (a / d) := pk_div ha h0 hd
theorem q_inj {a b : Nat} (ha : a < 2147483648) (hb : b < 2147483648) (h : nI a = nI b) : a = b := by
  have h1 := congrArg Int32.toInt h
  rw [nI_toInt ha, nI_toInt hb] at h1
  omega
theorem q_ne {a b : Nat} (ha : a < 2147483648) (hb : b < 2147483648) (h : a ≠ b) : ¬ nI a = nI b := fun e => h (q_inj ha hb e)
theorem q_lt {a b : Nat} (ha : a < 2147483648) (hb : b < 2147483648) : nI a < nI b ↔ a < b := by
  rw [Int32.lt_iff_toInt_lt, nI_toInt ha, nI_toInt hb]; omega
theorem q_le {a b : Nat} (ha : a < 2147483648) (hb : b < 2147483648) : nI a ≤ nI b ↔ a ≤ b := by
  rw [Int32.le_iff_toInt_le, nI_toInt ha, nI_toInt hb]; omega
theorem q_clamp {a : Nat} (ha : a < 2147483648) : (nI a).toNatClampNeg = a := nI_clamp ha
theorem q_of {x : Int32} {n : Nat} (h : x.toInt = (n : Int)) : x = nI n := by
  rw [← Int32.toInt_inj, h, nI_toInt]
  have := Int32.toInt_lt x
  omega
/-- a number that isn't below 0 -/
theorem q_nat {x : Int32} (h : 0 ≤ x) : ∃ n : Nat, n < 2147483648 ∧ x = nI n := by
  rw [Int32.le_iff_toInt_le, Int32.toInt_zero] at h
  have h2 := Int32.toInt_lt x
  refine ⟨x.toInt.toNat, by omega, q_of (by omega)⟩
theorem q_within (x : Int32) (a b : Nat) (ha : a < 2147483648) (hb : b < 2147483648) (h1 : ¬ x < nI a) (h2 : ¬ nI b < x) : ∃ n : Nat, a ≤ n ∧ n ≤ b ∧ x = nI n := by
  rw [Int32.lt_iff_toInt_lt, nI_toInt ha] at h1
  rw [Int32.lt_iff_toInt_lt, nI_toInt hb] at h2
  refine ⟨x.toInt.toNat, by omega, by omega, q_of (by omega)⟩
theorem zld_n {u : zM} {q N i : Nat} (h : i < N) (hN : N ≤ 100000) : zld u q N (nI i) = some (u q i) := by
  unfold zld
  rw [q_clamp (by omega), if_neg]
  rintro (z | z)
  · exact nI_pos (by omega) z
  · omega
theorem zsv_n {u : zM} {q N i : Nat} {v : Int32} (h : i < N) (hN : N ≤ 100000) : zsv u q N (nI i) v = some (zst u q i v) := by
  unfold zsv
  rw [q_clamp (by omega), if_neg]
  rintro (z | z)
  · exact nI_pos (by omega) z
  · omega
theorem zst_s (u : zM) (q j : Nat) (v : Int32) : zst u q j v q j = v := by simp [zst, zup, upd]
theorem zst_o (u : zM) {q q' j : Nat} {v : Int32} (h : q' ≠ q) : zst u q j v q' = u q' := by
  funext j'
  simp [zst, zup, h]
theorem zst_j (u : zM) {q j j' : Nat} {v : Int32} (h : j' ≠ j) : zst u q j v q j' = u q j' := by simp [zst, zup, upd, h]
theorem zst_g (u : zM) (q j q' j' : Nat) (v : Int32) : zst u q j v q' j' = if q' = q ∧ j' = j then v else u q' j' := by
  unfold zst zup upd
  by_cases h1 : q' = q
  · subst h1
    by_cases h2 : j' = j <;> simp [h2]
  · simp [h1]
theorem zst_self (u : zM) (q j : Nat) (v : Int32) (h : u q j = v) : zst u q j v = u := by
  funext q' j'
  rw [zst_g]
  split
  · rename_i hh
    rw [hh.1, hh.2, h]
  · rfl
theorem zF_big : 100000 < zF := Nat.le_of_ble_eq_true rfl
theorem zit_step {S R : Type} {body : S → Option (S ⊕ R)} (P : Nat → S → Prop) (N : Nat) (Post : R → Prop) (hs : ∀ k s, k < N → P k s → (∃ s', body s = some (.inl s') ∧ P (k + 1) s') ∨ ∃ r, body s = some (.inr r) ∧ Post r) (hl : ∀ s, P N s → ∃ r, body s = some (.inr r) ∧ Post r) :
    ∀ (n k : Nat) (s : S), k ≤ N → N < k + n → P k s → ∃ r, zit n body s = some r ∧ Post r := by
  intro n
  induction n with
  | zero => intro k s h1 h2; omega
  | succ n ih =>
    intro k s h1 h2 hp
    by_cases hk : k = N
    · subst hk
      obtain ⟨r, hr, hpost⟩ := hl s hp
      exact ⟨r, by rw [zit, hr], hpost⟩
    · rcases hs k s (by omega) hp with ⟨s', hb, hp'⟩ | ⟨r, hr, hpost⟩
      · obtain ⟨r, hr, hpost⟩ := ih (k + 1) s' (by omega) (by omega) hp'
        exact ⟨r, by rw [zit, hb]; exact hr, hpost⟩
      · exact ⟨r, by rw [zit, hr], hpost⟩
/-- a loop by what holds at its head -/
theorem zit_inv2 {S R : Type} {body : S → Option (S ⊕ R)} (P : Nat → S → Prop) (N : Nat) (Post : R → Prop) (s0 : S) (hN : N ≤ 100000) (h0 : P 0 s0) (hs : ∀ k s, k < N → P k s → (∃ s', body s = some (.inl s') ∧ P (k + 1) s') ∨ ∃ r, body s = some (.inr r) ∧ Post r) (hl : ∀ s, P N s → ∃ r, body s = some (.inr r) ∧ Post r) : ∃ r, zit zF body s0 = some r ∧ Post r :=
  zit_step P N Post hs hl zF 0 s0 (Nat.zero_le _) (by have := zF_big; omega) h0
theorem zit_inv {S R : Type} {body : S → Option (S ⊕ R)} (P : Nat → S → Prop) (N : Nat) (Post : R → Prop) (s0 : S) (hN : N ≤ 100000) (h0 : P 0 s0) (hs : ∀ k s, k < N → P k s → ∃ s', body s = some (.inl s') ∧ P (k + 1) s') (hl : ∀ s, P N s → ∃ r, body s = some (.inr r) ∧ Post r) : ∃ r, zit zF body s0 = some r ∧ Post r :=
  zit_inv2 P N Post s0 hN h0 (fun k s hk hp => Or.inl (hs k s hk hp)) hl
/-- a loop by its states -/
theorem zit_fn {S R : Type} {body : S → Option (S ⊕ R)} (f : Nat → S) (N : Nat) (r : R) (hN : N ≤ 100000) (hs : ∀ k, k < N → body (f k) = some (.inl (f (k + 1)))) (hl : body (f N) = some (.inr r)) : zit zF body (f 0) = some r := by
  obtain ⟨r', h1, h2⟩ := zit_inv (fun k s => s = f k) N (fun x => x = r) (f 0) hN rfl (fun k s hk hp => ⟨f (k + 1), by rw [hp]; exact hs k hk, rfl⟩) (fun s hp => ⟨r, by rw [hp]; exact hl, rfl⟩)
  rw [h1, h2]
/-! sums -/
def sI (g : Nat → Int32) : Nat → Int32
  | 0 => 0
  | n + 1 => sI g n + g n
def sN (g : Nat → Nat) : Nat → Nat
  | 0 => 0
  | n + 1 => sN g n + g n
theorem sI_congr {g h : Nat → Int32} {n : Nat} (e : ∀ i, i < n → g i = h i) : sI g n = sI h n := by
  induction n with
  | zero => rfl
  | succ n ih => rw [sI, sI, ih (fun i hi => e i (by omega)), e n (by omega)]
theorem sN_congr {g h : Nat → Nat} {n : Nat} (e : ∀ i, i < n → g i = h i) : sN g n = sN h n := by
  induction n with
  | zero => rfl
  | succ n ih => rw [sN, sN, ih (fun i hi => e i (by omega)), e n (by omega)]
theorem sN_le {g h : Nat → Nat} {n : Nat} (e : ∀ i, i < n → g i ≤ h i) : sN g n ≤ sN h n := by
  induction n with
  | zero => exact Nat.le_refl _
  | succ n ih =>
    have h1 := ih (fun i hi => e i (by omega))
    have h2 := e n (by omega)
    simp only [sN]
    omega
theorem sN_mono {g : Nat → Nat} {m n : Nat} (h : m ≤ n) : sN g m ≤ sN g n := by
  induction n with
  | zero => rw [show m = 0 by omega]; exact Nat.le_refl _
  | succ n ih =>
    by_cases e : m = n + 1
    · rw [e]; exact Nat.le_refl _
    · have := ih (by omega)
      simp only [sN]
      omega
theorem sN_zero {g : Nat → Nat} {n : Nat} (e : ∀ i, i < n → g i = 0) : sN g n = 0 := by
  induction n with
  | zero => rfl
  | succ n ih => rw [sN, ih (fun i hi => e i (by omega)), e n (by omega)]
theorem sN_add (g h : Nat → Nat) (n : Nat) : sN (fun i => g i + h i) n = sN g n + sN h n := by
  induction n with
  | zero => rfl
  | succ n ih => simp only [sN, ih]; omega
theorem sN_one {g : Nat → Nat} {n k : Nat} (h : k < n) : g k ≤ sN g n := by
  induction n with
  | zero => omega
  | succ n ih =>
    simp only [sN]
    by_cases e : k = n
    · subst e; omega
    · have := ih (by omega); omega
theorem sN_lt {g h : Nat → Nat} {n k : Nat} (e : ∀ i, i < n → g i ≤ h i) (hk : k < n) (hl : g k < h k) : sN g n < sN h n := by
  induction n with
  | zero => omega
  | succ n ih =>
    simp only [sN]
    have h2 := e n (by omega)
    by_cases ek : k = n
    · subst ek
      have := sN_le (n := k) (fun i hi => e i (by omega))
      omega
    · have := ih (fun i hi => e i (by omega)) (by omega)
      omega
/-- an element put into a row at a place, the rest moved on -/
def ins {α : Type} (f : Nat → α) (at_ : Nat) (v : α) : Nat → α := fun j => if j < at_ then f j else if j = at_ then v else f (j - 1)
theorem sN_ins {α : Type} (g : α → Nat) (f : Nat → α) (v : α) (a : Nat) : ∀ n, a ≤ n → sN (fun i => g (ins f a v i)) (n + 1) = sN (fun i => g (f i)) n + g v := by
  intro n
  induction n with
  | zero =>
    intro h
    have : a = 0 := by omega
    subst this
    simp [sN, ins]
  | succ n ih =>
    intro h
    rw [sN]
    by_cases e : a = n + 1
    · subst e
      have h1 : sN (fun i => g (ins f (n + 1) v i)) (n + 1) = sN (fun i => g (f i)) (n + 1) := sN_congr (fun i hi => by simp [ins, hi])
      rw [h1]
      simp [ins]
    · rw [ih (by omega)]
      have h1 : ins f a v (n + 1) = f n := by
        unfold ins
        rw [if_neg (by omega), if_neg (by omega)]
        simp
      simp only [sN, h1]
      omega
theorem sI_ins {α : Type} (g : α → Int32) (f : Nat → α) (v : α) (a : Nat) : ∀ n, a ≤ n → sI (fun i => g (ins f a v i)) (n + 1) = sI (fun i => g (f i)) n + g v := by
  intro n
  induction n with
  | zero =>
    intro h
    have : a = 0 := by omega
    subst this
    simp [sI, ins]
  | succ n ih =>
    intro h
    rw [sI]
    by_cases e : a = n + 1
    · subst e
      have h1 : sI (fun i => g (ins f (n + 1) v i)) (n + 1) = sI (fun i => g (f i)) (n + 1) := sI_congr (fun i hi => by simp [ins, hi])
      rw [h1]
      simp [ins]
    · rw [ih (by omega)]
      have h1 : ins f a v (n + 1) = f n := by
        unfold ins
        rw [if_neg (by omega), if_neg (by omega)]
        simp
      simp only [sI, h1]
      rw [Int32.add_assoc, Int32.add_assoc, Int32.add_comm (g v)]
