/-! BODIES -/
theorem ib5_eq {u : zM} {n : Nat} (h : u 1 6 = nI n) (a : Int32) : m_X5_isBody a u = if 0 ≤ a ∧ a ≤ nI n - 1 then 1 else 0 := by
  unfold m_X5_isBody; rw [w5_eq, zb_if, h]
theorem ib6_eq {u : zM} {n : Nat} (h : u 40 0 = nI n) (a : Int32) : m_X6_isBody a u = if 0 ≤ a ∧ a ≤ nI n - 1 then 1 else 0 := by
  unfold m_X6_isBody; rw [w6_eq, zb_if, h]
section ZT
variable {u : zM} {t : Nat → Int32} {b m : Nat}
theorem kd5 (h : tIs u 1 t) (hb : b < 12) : zld u 2 12 (nI b) = some (tK t b) := by rw [zld_n hb (by decide), h.2.2.2.2.2.2.2.1 b hb]
theorem br5 (h : tIs u 1 t) (hb : b < 12) : zld u 4 12 (nI b) = some (tB t b) := by rw [zld_n hb (by decide), h.2.2.2.2.2.2.2.2.2.1 b hb]
theorem pn5 (h : tIs u 1 t) (hb : b < 12) : zld u 5 12 (nI b) = some (tP t b) := by rw [zld_n hb (by decide), h.2.2.2.2.2.2.2.2.2.2.1 b hb]
theorem idx3 (b m : Nat) : nI b * 3 + nI m = nI (3 * b + m) := by
  rw [show (3 : Int32) = nI 3 from rfl, q_mul, q_add, Nat.mul_comm]
theorem in5 (h : tIs u 1 t) (hb : b < 12) (hm : m < 3) : m_X4_inchesOf (nI b) (nI m) u = some (tM t b m) := by
  unfold m_X4_inchesOf
  rw [idx3, zld_n (by omega) (by decide), zbind_s, h.2.2.2.2.2.2.2.2.1 b m hb hm]
theorem idx7 (b f : Nat) : 6 + 7 * nI b + nI f = nI (6 + 7 * b + f) := by
  rw [show (7 : Int32) = nI 7 from rfl, show (6 : Int32) = nI 6 from rfl, q_mul, q_add, q_add]
theorem bi6 (u : zM) (hb : b < 12) {f : Nat} (hf : f < 7) : m_X6_bodyIs (nI b) (nI f) u = some (u 40 (6 + 7 * b + f)) := by
  unfold m_X6_bodyIs
  rw [idx7, zld_n (by omega) (by decide), zbind_s]
/-- how often a body counts -/
def cnt (t : Nat → Int32) (b : Nat) : Nat := if tK t b = 3 then 2 else if tK t b = 4 then 3 else 1
theorem cnt_pos (t : Nat → Int32) (b : Nat) : 1 ≤ cnt t b := by unfold cnt; split <;> (try split) <;> omega
theorem cnt_le (t : Nat → Int32) (b : Nat) : cnt t b ≤ 3 := by unfold cnt; split <;> (try split) <;> omega
theorem ti5 (h : tIs u 1 t) (hb : b < 12) : m_X4_timesOf (nI b) u = some (nI (cnt t b)) := by
  unfold m_X4_timesOf cnt
  rw [kd5 h hb, zbind_s]
  by_cases c3 : tK t b = 3
  · rw [if_pos c3, if_pos c3]; rfl
  · rw [if_neg c3, if_neg c3]
    by_cases c4 : tK t b = 4
    · rw [if_pos c4, if_pos c4]; rfl
    · rw [if_neg c4, if_neg c4]; rfl
theorem ti6 (u : zM) (hb : b < 12) : m_X6_countsOf (nI b) u = some (nI (cnt (u 40) b)) := by
  unfold m_X6_countsOf cnt
  rw [show (0 : Int32) = nI 0 from rfl, bi6 u hb (by decide), zbind_s]
  show (if tK (u 40) b = 3 then some 2 else if tK (u 40) b = 4 then some 3 else some 1) = _
  by_cases c3 : tK (u 40) b = 3
  · rw [if_pos c3, if_pos c3]; rfl
  · rw [if_neg c3, if_neg c3]
    by_cases c4 : tK (u 40) b = 4
    · rw [if_pos c4, if_pos c4]; rfl
    · rw [if_neg c4, if_neg c4]; rfl
/-- how WIDE a body is measured with a bribe; what is measured of it -/
def width (t : Nat → Int32) (b : Nat) (br : Int32) : Int32 := if tK t b = 2 then tM t b 1 + br else if tK t b = 5 then tM t b 1 - 10 else if tK t b = 6 then tM t b 1 + 2 * br else tM t b 1
def meas (t : Nat → Int32) (b m : Nat) : Int32 := if m = 1 then width t b (tB t b) else if m = 0 ∧ (tK t b = 1 ∨ tK t b = 4) then tM t b m + 2 else tM t b m
theorem wi5 (h : tIs u 1 t) (hb : b < 12) (br : Int32) : m_X4_widthAtBribe (nI b) br u = some (width t b br) := by
  unfold m_X4_widthAtBribe width
  rw [show (1 : Int32) = nI 1 from rfl, in5 h hb (by decide), zbind_s, kd5 h hb, zbind_s]
  generalize tK t b = k
  by_cases c2 : k = 2
  · subst c2; simp
  · by_cases c5 : k = 5
    · subst c5; simp
    · by_cases c6 : k = 6
      · subst c6; simp
      · simp [c2, c5, c6]
def und (k a : Nat) : Int32 := if a = k ∨ a = 0 ∨ (k = 4 ∧ a = 1) ∨ (k = 6 ∧ a = 2) then 1 else 0
theorem un5 : ∀ k, k < 7 → ∀ a, a < 7 → m_X5_isUnder (nI k) (nI a) = some (und k a) := by decide +kernel
theorem me5 (h : tIs u 1 t) (hk : ∃ k : Nat, k ≤ 6 ∧ tK t b = nI k) (hb : b < 12) (hm : m < 3) : m_X4_measuredOf (nI b) (nI m) u = some (meas t b m) := by
  unfold m_X4_measuredOf meas
  by_cases c1 : m = 1
  · subst c1
    rw [if_pos (by decide), if_pos rfl, br5 h hb, zbind_s, wi5 h hb, zbind_s]
  · rw [if_neg (show ¬ nI m = 1 from q_ne (by omega) (by decide) c1), if_neg c1]
    by_cases c0 : m = 0
    · subst c0
      obtain ⟨k, hk6, hk⟩ := hk
      rw [if_pos (by decide), kd5 h hb, zbind_s, hk, show (1 : Int32) = nI 1 from rfl, un5 k (by omega) 1 (by decide), zbind_s, in5 h hb (by decide)]
      have : ∀ k, k < 7 → (und k 1 = 0 ↔ ¬ (nI k = nI 1 ∨ nI k = 4)) := by decide +kernel
      by_cases c : und k 1 = 0
      · rw [if_pos c, zbind_s, if_neg (fun z => (this k (by omega)).mp c z.2), Int32.add_zero]
      · rw [if_neg c, zbind_s, if_pos ⟨rfl, Classical.byContradiction fun z => c ((this k (by omega)).mpr z)⟩]
    · rw [if_neg (show ¬ nI m = 0 from q_ne (by omega) (by decide) c0), in5 h hb hm, zbind_s, if_neg (fun z => c0 z.1), Int32.add_zero]
theorem me6 (u : zM) (hb : b < 12) (hm : m < 3) (hk : ∃ k : Nat, k ≤ 6 ∧ tK (u 40) b = nI k) : m_X6_measured (nI b) (nI m) u = some (meas (u 40) b m) := by
  unfold m_X6_measured meas width
  have eM : u 40 (6 + 7 * b + (1 + m)) = tM (u 40) b m := congrArg (u 40) (by omega)
  rw [show (1 : Int32) + nI m = nI (1 + m) from q_add 1 m, bi6 u hb (by omega), zbind_s, eM, show (4 : Int32) = nI 4 from rfl, bi6 u hb (by decide), zbind_s, show (0 : Int32) = nI 0 from rfl, bi6 u hb (by decide), zbind_s]
  show (if tK (u 40) b = 1 then (if nI m = nI 0 then some (tM (u 40) b m + 2) else some (tM (u 40) b m)) else if tK (u 40) b = 2 then (if nI m = 1 then some (tM (u 40) b m + tB (u 40) b) else some (tM (u 40) b m)) else if tK (u 40) b = 3 then some (tM (u 40) b m) else if tK (u 40) b = nI 4 then (if nI m = nI 0 then some (tM (u 40) b m + 2) else some (tM (u 40) b m)) else if tK (u 40) b = 5 then (if nI m = 1 then some (tM (u 40) b m - 10) else some (tM (u 40) b m)) else if tK (u 40) b = 6 then (if nI m = 1 then some (tM (u 40) b m + 2 * tB (u 40) b) else some (tM (u 40) b m)) else some (tM (u 40) b m)) = _
  obtain ⟨k, hk6, hk⟩ := hk
  rw [hk]
  have hm3 : m = 0 ∨ m = 1 ∨ m = 2 := by omega
  have hk7 : k = 0 ∨ k = 1 ∨ k = 2 ∨ k = 3 ∨ k = 4 ∨ k = 5 ∨ k = 6 := by omega
  rcases hm3 with rfl | rfl | rfl <;> rcases hk7 with rfl | rfl | rfl | rfl | rfl | rfl | rfl <;> simp (decide := true) only [if_true, if_false, and_true, true_and, or_true, true_or, or_false, false_or, false_and, and_false, ↓reduceIte]
end ZT
/-- what bodyOf tells -/
def tellS (t : Nat → Int32) (b w : Nat) : Int32 := if w < 7 then t (6 + 7 * b + w) else if w = 7 then nI (cnt t b) else meas t b (w - 8)
theorem te5 {u : zM} {t : Nat → Int32} {n b w : Nat} (h : tIs u 1 t) (ho : tOk t n) (hb : b < n) (hw : w ≤ 10) : m_X4_tell (nI b) (nI w) u = some (tellS t b w) := by
  have hb12 : b < 12 := Nat.lt_of_lt_of_le hb ho.1
  unfold m_X4_tell tellS
  have hw' : w = 0 ∨ w = 1 ∨ w = 2 ∨ w = 3 ∨ w = 4 ∨ w = 5 ∨ w = 6 ∨ w = 7 ∨ w = 8 ∨ w = 9 ∨ w = 10 := by omega
  have i0 : m_X4_inchesOf (nI b) (nI 1 - 1) u = some (tM t b 0) := in5 h hb12 (m := 0) (by decide)
  have i1 : m_X4_inchesOf (nI b) (nI 2 - 1) u = some (tM t b 1) := in5 h hb12 (m := 1) (by decide)
  have i2 : m_X4_inchesOf (nI b) (nI 3 - 1) u = some (tM t b 2) := in5 h hb12 (m := 2) (by decide)
  have m0 : m_X4_measuredOf (nI b) (nI 8 - 8) u = some (meas t b 0) := me5 h (ho.2.2.1 b hb).1 hb12 (m := 0) (by decide)
  have m1 : m_X4_measuredOf (nI b) (nI 9 - 8) u = some (meas t b 1) := me5 h (ho.2.2.1 b hb).1 hb12 (m := 1) (by decide)
  have m2 : m_X4_measuredOf (nI b) (nI 10 - 8) u = some (meas t b 2) := me5 h (ho.2.2.1 b hb).1 hb12 (m := 2) (by decide)
  have ih : m_X4_isHere (nI b) u = 0 ↔ ¬ tH t b = 1 := by
    rw [ih5_eq h hb12, if_0]
    simp [hereP]
  rcases hw' with rfl | rfl | rfl | rfl | rfl | rfl | rfl | rfl | rfl | rfl | rfl <;> simp (decide := true) only [↓reduceIte, kd5 h hb12, i0, i1, i2, br5 h hb12, pn5 h hb12, ti5 h hb12, m0, m1, m2, zbind_s, ih]
  · rfl
  · rfl
  · rfl
  · rfl
  · rfl
  · rfl
  · by_cases c : tH t b = 1
    · rw [if_neg (fun z => z c)]; exact congrArg some c.symm
    · rw [if_pos c]
      rcases ho.2.2.2.1 b hb12 with q | q
      · exact congrArg some q.symm
      · exact absurd q c
theorem p_bodyOf : B_bodyOf Inv := by
  intro a w u hu
  obtain ⟨⟨n, ho⟩, ht⟩ := hu.1
  unfold m_X5_bodyOf m_X6_bodyOf
  simp only [ib5_eq (ht.1.trans ho.2.1), w5_eq, w6_eq, if_0]
  by_cases c : (0 : Int32) ≤ a ∧ a ≤ nI n - 1
  · rw [if_neg (fun z => z c)]
    obtain ⟨b, hb, rfl⟩ := (below a n (by have := ho.1; omega)).mp c
    have hb12 : b < 12 := Nat.lt_of_lt_of_le hb ho.1
    by_cases c2 : (0 : Int32) ≤ w ∧ w ≤ 10
    · rw [if_neg (fun z => z c2)]
      obtain ⟨w, -, hw, rfl⟩ := (btw w 0 10 (by decide) (by decide)).mp c2
      rw [te5 ht ho hb hw, zbind_s]
      refine ⟨_, _, u, rfl, ?_, hu⟩
      rw [ib6_eq ho.2.1, if_pos c, if_neg (by decide), if_neg (fun z => z c2)]
      unfold tellS
      have e7 : (7 : Int32) ≤ nI w ↔ 7 ≤ w := q_le (a := 7) (by decide) (by omega)
      by_cases c7 : 7 ≤ w
      · rw [if_pos (e7.mpr c7), if_neg (show ¬ w < 7 by omega)]
        by_cases c8 : w = 7
        · subst c8
          rw [if_pos (by decide), if_pos rfl, ti6 u hb12, zbind_s]
        · rw [if_neg (show ¬ nI w = 7 from q_ne (b := 7) (by omega) (by decide) c8), if_neg c8, show nI w - 8 = nI (w - 8) from q_sub (b := 8) (by omega), me6 u hb12 (by omega) (ho.2.2.1 b hb).1, zbind_s]
      · rw [if_neg (fun z => c7 (e7.mp z)), if_pos (show w < 7 by omega), bi6 u hb12 (by omega), zbind_s]
    · rw [if_pos c2]
      obtain ⟨r, u1, u2, h1, h2, h3⟩ := B_fnd (j := 0) (by decide) hu
      refine ⟨r, u1, u2, by rw [show (0 : Int32) = nI 0 from rfl, h1]; rfl, ?_, h3⟩
      have e : u1 40 0 = nI n := by
        have := f5_eq (j := 0) (by decide) u
        rw [h1] at this
        cases this
        unfold fnd5
        rw [zst_o _ (by decide)]
        exact ho.2.1
      rw [ib6_eq e, if_pos c, if_neg (by decide), if_pos c2, show (-1000001 : Int32) = -1000001 - nI 0 from rfl, h2]
      rfl
  · rw [if_pos c]
    obtain ⟨r, u1, u2, h1, h2, h3⟩ := B_fnd (j := 0) (by decide) hu
    refine ⟨r, u1, u2, by rw [show (0 : Int32) = nI 0 from rfl, h1]; rfl, ?_, h3⟩
    have e : u1 40 0 = nI n := by
      have := f5_eq (j := 0) (by decide) u
      rw [h1] at this
      cases this
      unfold fnd5
      rw [zst_o _ (by decide)]
      exact ho.2.1
    rw [ib6_eq e, if_neg c, if_pos rfl, show (-1000001 : Int32) = -1000001 - nI 0 from rfl, h2]
    rfl
