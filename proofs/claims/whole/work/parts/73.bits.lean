/-! BITS -/
theorem bits_q : ∀ a, a < 64 → ∀ b, b < 64 → m_X6_bits (nI (64 * a + b)) = some (m_J6_bitCount_0f7a4 (nI (64 * a + b))) := by decide +kernel
theorem bits_r : ∀ a, a < 64 → ∀ b, b < 64 → m_J6_bitCount_0f7a4 (nI (64 * a + b)) = nI (sN (fun i => if (64 * a + b).testBit i = true then 1 else 0) 12) := by decide +kernel
def bitsN (s : Nat) : Nat := sN (fun i => if s.testBit i = true then 1 else 0) 12
theorem bc5 {s : Nat} (h : s < 4096) : m_J6_bitCount_0f7a4 (nI s) = nI (bitsN s) := by
  have := bits_r (s / 64) (by omega) (s % 64) (by omega)
  rw [show 64 * (s / 64) + s % 64 = s by omega] at this
  exact this
theorem bc6 {s : Nat} (h : s < 4096) : m_X6_bits (nI s) = some (nI (bitsN s)) := by
  have := bits_q (s / 64) (by omega) (s % 64) (by omega)
  rw [show 64 * (s / 64) + s % 64 = s by omega, bc5 h] at this
  exact this
theorem bitsN_le (s : Nat) : bitsN s ≤ 12 := by
  have h := sN_bound (g := fun i => if s.testBit i = true then 1 else 0) (n := 12) (d := 1) (fun i _ => by show (if _ then 1 else 0) ≤ 1; split <;> omega)
  unfold bitsN; omega
