/-! BITS (begun from kit/laws/BITS.to-paste) -/
def bt (x : Int32) (i : Nat) : Bool := x.toBitVec.getLsbD i
theorem b_ext {x y : Int32} (h : ∀ i, i < 32 → bt x i = bt y i) : x = y := Int32.toBitVec_inj.mp (BitVec.eq_of_getLsbD_eq (fun i hi => h i hi))
theorem b_or (x y : Int32) (i : Nat) : bt (x ||| y) i = (bt x i || bt y i) := by unfold bt; rw [Int32.toBitVec_or, BitVec.getLsbD_or]
theorem b_and (x y : Int32) (i : Nat) : bt (x &&& y) i = (bt x i && bt y i) := by unfold bt; rw [Int32.toBitVec_and, BitVec.getLsbD_and]
theorem b_xor (x y : Int32) (i : Nat) : bt (x ^^^ y) i = (bt x i ^^ bt y i) := by unfold bt; rw [Int32.toBitVec_xor, BitVec.getLsbD_xor]
theorem b_big {x : Int32} {i : Nat} (h : 32 ≤ i) : bt x i = false := BitVec.getLsbD_of_ge _ _ h
theorem b_m1 : ∀ i, i < 32 → bt (-1) i = true := by decide +kernel
theorem b_0 (i : Nat) : bt 0 i = false := BitVec.getLsbD_zero
theorem s_l : ∀ n, n < 32 → ((nI n &&& 31).toBitVec.smod 32).toNat = n := by decide +kernel
theorem s_u : ∀ n, n < 32 → (((nI n).toUInt32 &&& Int32.toUInt32 31).toBitVec % 32).toNat = n := by decide +kernel
theorem b_shl (n : Nat) (hn : n < 32) (x : Int32) {i : Nat} (hi : i < 32) : bt (x <<< (nI n &&& 31)) i = (decide (n ≤ i) && bt x (i - n)) := by
  unfold bt
  rw [Int32.toBitVec_shiftLeft]
  show (x.toBitVec <<< ((nI n &&& 31).toBitVec.smod 32).toNat).getLsbD i = _
  rw [s_l n hn, BitVec.getLsbD_shiftLeft]
  rcases Nat.lt_or_ge i n with h | h
  · simp [h, Nat.not_le.mpr h]
  · simp [hi, h, Nat.not_lt.mpr h]
theorem b_ushr (n : Nat) (hn : n < 32) (x : Int32) (i : Nat) : bt ((x.toUInt32 >>> ((nI n).toUInt32 &&& Int32.toUInt32 31)).toInt32) i = bt x (n + i) := by
  show (x.toUInt32 >>> ((nI n).toUInt32 &&& Int32.toUInt32 31)).toBitVec.getLsbD i = x.toUInt32.toBitVec.getLsbD (n + i)
  rw [UInt32.toBitVec_shiftRight]
  show (x.toUInt32.toBitVec >>> (((nI n).toUInt32 &&& Int32.toUInt32 31).toBitVec % 32).toNat).getLsbD i = _
  rw [s_u n hn, BitVec.getLsbD_ushiftRight]
theorem b_sshr (n : Nat) (hn : n < 32) (x : Int32) {i : Nat} (hi : i < 32) : bt (x >>> (nI n &&& 31)) i = if n + i < 32 then bt x (n + i) else bt x 31 := by
  unfold bt
  rw [Int32.toBitVec_shiftRight]
  show (x.toBitVec.sshiftRight ((nI n &&& 31).toBitVec.smod 32).toNat).getLsbD i = _
  rw [s_l n hn, BitVec.getLsbD_sshiftRight, BitVec.msb_eq_getLsbD_last]
  simp [hi]
theorem nx_and (a b : Nat) : nI a &&& nI b = nI (a &&& b) := by
  apply Int32.toBitVec_inj.1
  show BitVec.ofNat 32 a &&& BitVec.ofNat 32 b = BitVec.ofNat 32 (a &&& b)
  apply BitVec.eq_of_getLsbD_eq
  intro i hi
  simp [hi]
theorem nx_xor (a b : Nat) : nI a ^^^ nI b = nI (a ^^^ b) := by
  apply Int32.toBitVec_inj.1
  show BitVec.ofNat 32 a ^^^ BitVec.ofNat 32 b = BitVec.ofNat 32 (a ^^^ b)
  apply BitVec.eq_of_getLsbD_eq
  intro i hi
  simp [hi]
/-! sets as numbers -/
theorem bt_n {n i : Nat} (hi : i < 32) : bt (nI n) i = n.testBit i := by
  unfold bt
  show (BitVec.ofNat 32 n).getLsbD i = n.testBit i
  rw [BitVec.getLsbD_ofNat]
  simp [hi]
theorem n_ext {x : Int32} {n : Nat} (h : ∀ i, i < 32 → bt x i = n.testBit i) : x = nI n := b_ext (fun i hi => by rw [h i hi, bt_n hi])
theorem n_or (a b : Nat) : nI a ||| nI b = nI (a ||| b) := n_ext (fun i hi => by rw [b_or, bt_n hi, bt_n hi, Nat.testBit_or])
theorem n_and (a b : Nat) : nI a &&& nI b = nI (a &&& b) := n_ext (fun i hi => by rw [b_and, bt_n hi, bt_n hi, Nat.testBit_and])
theorem n_shl {b : Nat} (hb : b < 31) : zshl 1 (nI b) = nI (2 ^ b) := by
  have h := pk_shlN (n := 1) (nI b &&& 31) b (s_l b (by omega)) (by rw [Nat.one_mul]; exact Nat.pow_lt_pow_right (by decide) (by omega))
  rw [Nat.one_mul] at h
  exact h
theorem n_hold {s b : Nat} (hs : s < 2147483648) (hb : b < 32) : (zshr (nI s) (nI b)) &&& 1 = nI (s / 2 ^ b % 2) := by
  unfold zshr
  rw [pk_shrN hs _ b (s_l b hb)]
  have : s / 2 ^ b ≤ s := Nat.div_le_self _ _
  exact pk_andN (n := s / 2 ^ b) (by omega) 1 (by decide)
theorem h5_eq {s b : Nat} (hs : s < 2147483648) (hb : b < 32) : m_X5_holds (nI s) (nI b) = if s.testBit b = true then 1 else 0 := by
  unfold m_X5_holds
  rw [n_hold hs hb, Nat.testBit_eq_decide_div_mod_eq]
  simp only [decide_eq_true_eq]
  have : s / 2 ^ b % 2 < 2 := Nat.mod_lt _ (by decide)
  by_cases c : s / 2 ^ b % 2 = 1
  · rw [c, if_pos rfl]; rfl
  · rw [show s / 2 ^ b % 2 = 0 by omega]; rfl
theorem h6_eq {s b : Nat} (hs : s < 2147483648) (hb : b < 32) : m_X6_has (nI s) (nI b) = if s.testBit b = true then 1 else 0 := by
  unfold m_X6_has
  rw [n_hold hs hb, Nat.testBit_eq_decide_div_mod_eq]
  simp only [decide_eq_true_eq]
  have : s / 2 ^ b % 2 < 2 := Nat.mod_lt _ (by decide)
  by_cases c : s / 2 ^ b % 2 = 1
  · rw [c, if_pos rfl]; rfl
  · rw [show s / 2 ^ b % 2 = 0 by omega]; rfl
/-- the number of a set -/
def pset (p : Nat → Bool) (n : Nat) : Nat := sN (fun b => if p b = true then 2 ^ b else 0) n
theorem pset_lt (p : Nat → Bool) : ∀ n, pset p n < 2 ^ n := by
  intro n
  induction n with
  | zero => exact Nat.one_pos
  | succ n ih =>
    unfold pset at ih ⊢
    rw [sN, Nat.pow_succ]
    split <;> omega
theorem pset_bit (p : Nat → Bool) (i : Nat) : ∀ n, (pset p n).testBit i = (decide (i < n) && p i) := by
  intro n
  induction n with
  | zero => simp [pset, sN]
  | succ n ih =>
    have h1 := pset_lt p n
    have e : pset p (n + 1) = pset p n + (if p n = true then 2 ^ n else 0) := rfl
    rw [e]
    by_cases hp : p n = true
    · rw [if_pos hp, Nat.add_comm]
      by_cases c : i = n
      · subst c
        rw [Nat.testBit_two_pow_add_eq, Nat.testBit_lt_two_pow h1]
        simp [hp]
      · rcases Nat.lt_or_ge i n with c2 | c2
        · rw [Nat.testBit_two_pow_add_gt c2, ih]
          simp [c2, show i < n + 1 by omega]
        · have : 2 ^ n + pset p n < 2 ^ i := Nat.lt_of_lt_of_le (m := 2 ^ (n + 1)) (by rw [Nat.pow_succ]; omega) (Nat.pow_le_pow_right (by decide) (by omega))
          rw [Nat.testBit_lt_two_pow this]
          simp [show ¬ i < n + 1 by omega]
    · rw [if_neg hp, Nat.add_zero, ih]
      by_cases c : i = n
      · subst c
        simp [hp]
      · simp [show (i < n + 1) = (i < n) by apply propext; omega]
theorem pset_bound (p : Nat → Bool) : pset p 12 < 4096 := pset_lt p 12
theorem pset_ext {p q : Nat → Bool} {n : Nat} (h : ∀ i, i < n → p i = q i) : pset p n = pset q n := sN_congr (fun i hi => by rw [h i hi])
def hereP (t : Nat → Int32) (b : Nat) : Bool := decide (tH t b = 1)
theorem tSet_p (t : Nat → Int32) : tSet t = pset (hereP t) 12 := sN_congr (fun i _ => by simp [hereP])
theorem tSet_lt (t : Nat → Int32) : tSet t < 4096 := by rw [tSet_p]; exact pset_bound _
theorem tSet_bit (t : Nat → Int32) {b : Nat} (hb : b < 12) : (tSet t).testBit b = hereP t b := by
  rw [tSet_p, pset_bit]
  simp [hb]
/-- the class: is a body here -/
theorem ih5_eq {u : zM} {t : Nat → Int32} (h : tIs u 1 t) {b : Nat} (hb : b < 12) : m_X4_isHere (nI b) u = if hereP t b = true then 1 else 0 := by
  unfold m_X4_isHere
  rw [h.2.1, h5_eq (by have := tSet_lt t; omega) (by omega), tSet_bit t hb, zb_if]
theorem set_0 {p : Nat → Bool} {n : Nat} : pset p n = 0 ↔ ∀ i, i < n → p i = false := by
  constructor
  · intro h i hi
    have := pset_bit p i n
    rw [h, Nat.zero_testBit] at this
    simp [hi] at this
    exact this
  · intro h
    exact sN_zero (fun i hi => by rw [h i hi]; rfl)
