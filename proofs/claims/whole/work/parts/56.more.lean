/-! findings by their numbers -/
theorem fnd5_c (j : Nat) (u : zM) {k : Nat} (h : k ≠ 28) : fnd5 j u k = u k := zst_o u h
theorem f5_0 (u : zM) : m_X5_finding 0 u = some (-1000001, fnd5 0 u) := f5_eq (j := 0) (by decide) u
theorem f5_1 (u : zM) : m_X5_finding 1 u = some (-1000002, fnd5 1 u) := f5_eq (j := 1) (by decide) u
theorem f5_2 (u : zM) : m_X5_finding 2 u = some (-1000003, fnd5 2 u) := f5_eq (j := 2) (by decide) u
theorem f5_3 (u : zM) : m_X5_finding 3 u = some (-1000004, fnd5 3 u) := f5_eq (j := 3) (by decide) u
theorem f5_4 (u : zM) : m_X5_finding 4 u = some (-1000005, fnd5 4 u) := f5_eq (j := 4) (by decide) u
theorem f5_5 (u : zM) : m_X5_finding 5 u = some (-1000006, fnd5 5 u) := f5_eq (j := 5) (by decide) u
theorem f5_6 (u : zM) : m_X5_finding 6 u = some (-1000007, fnd5 6 u) := f5_eq (j := 6) (by decide) u
theorem f6_0 (u : zM) : m_X6_finding (-1000001) u = some (-1000001, fnd6 0 u) := f6_eq (j := 0) (by decide) u
theorem f6_1 (u : zM) : m_X6_finding (-1000002) u = some (-1000002, fnd6 1 u) := f6_eq (j := 1) (by decide) u
theorem f6_2 (u : zM) : m_X6_finding (-1000003) u = some (-1000003, fnd6 2 u) := f6_eq (j := 2) (by decide) u
theorem f6_3 (u : zM) : m_X6_finding (-1000004) u = some (-1000004, fnd6 3 u) := f6_eq (j := 3) (by decide) u
theorem f6_4 (u : zM) : m_X6_finding (-1000005) u = some (-1000005, fnd6 4 u) := f6_eq (j := 4) (by decide) u
theorem f6_5 (u : zM) : m_X6_finding (-1000006) u = some (-1000006, fnd6 5 u) := f6_eq (j := 5) (by decide) u
theorem f6_6 (u : zM) : m_X6_finding (-1000007) u = some (-1000007, fnd6 6 u) := f6_eq (j := 6) (by decide) u
/-! a new body -/
def addU5 (k x y z : Int32) (n : Nat) (u : zM) : zM := zst (zst (zst (zst (zst (zst (zst (zst u 2 n k) 3 (3 * n) x) 3 (3 * n + 1) y) 3 (3 * n + 2) z) 4 n 0) 5 n 0) 1 7 (u 1 7 ||| nI (2 ^ n))) 1 6 (nI (n + 1))
def addU6 (k x y z : Int32) (n : Nat) (u : zM) : zM := zst (zst (zst (zst (zst (zst (zst (zst u 40 (6 + 7 * n) k) 40 (6 + 7 * n + 1) x) 40 (6 + 7 * n + 2) y) 40 (6 + 7 * n + 3) z) 40 (6 + 7 * n + 4) 0) 40 (6 + 7 * n + 5) 0) 40 (6 + 7 * n + 6) 1) 40 0 (nI (n + 1))
theorem add5_eq {u : zM} {n : Nat} (h : u 1 6 = nI n) (hn : n < 12) (k x y z : Int32) : m_X4_add k x y z u = some (nI n, addU5 k x y z n u) := by
  unfold m_X4_add
  have e3 : nI n * 3 = nI (3 * n) := by rw [show (3 : Int32) = nI 3 from rfl, q_mul, Nat.mul_comm]
  have e31 : nI n * 3 + 1 = nI (3 * n + 1) := by rw [e3, show (1 : Int32) = nI 1 from rfl, q_add]
  have e32 : nI n * 3 + 2 = nI (3 * n + 2) := by rw [e3, show (2 : Int32) = nI 2 from rfl, q_add]
  rw [h, zsv_n hn (by decide), zbind_s, e31, e32, e3, zsv_n (by omega) (by decide), zbind_s, zsv_n (by omega) (by decide), zbind_s, zsv_n (by omega) (by decide), zbind_s, zsv_n hn (by decide), zbind_s, zsv_n hn (by decide), zbind_s, zlet_s, zlet_s, n_shl (by omega)]
  rw [zst_j (q := 1) (j := 7) (j' := 6) _ (by decide)]
  rw [zst_o (q := 5) (q' := 1) _ (by decide), zst_o (q := 4) (q' := 1) _ (by decide), zst_o (q := 3) (q' := 1) _ (by decide), zst_o (q := 3) (q' := 1) _ (by decide), zst_o (q := 3) (q' := 1) _ (by decide), zst_o (q := 2) (q' := 1) _ (by decide), h, show nI n + 1 = nI (n + 1) from q_add n 1]
  rfl
theorem com6_eq {u : zM} {n : Nat} (h : u 40 0 = nI n) (hn : n < 12) (k x y z : Int32) : m_X6_comes k x y z u = some (nI n, addU6 k x y z n u) := by
  unfold m_X6_comes
  have e0 : (6 : Int32) + 7 * nI n + 0 = nI (6 + 7 * n) := idx7 n 0
  have e1 : (6 : Int32) + 7 * nI n + 1 = nI (6 + 7 * n + 1) := idx7 n 1
  have e2 : (6 : Int32) + 7 * nI n + 1 + 1 = nI (6 + 7 * n + 2) := by rw [e1, show (1 : Int32) = nI 1 from rfl, q_add]
  have e3 : (6 : Int32) + 7 * nI n + 1 + 2 = nI (6 + 7 * n + 3) := by rw [e1, show (2 : Int32) = nI 2 from rfl, q_add]
  have e4 : (6 : Int32) + 7 * nI n + 4 = nI (6 + 7 * n + 4) := idx7 n 4
  have e5 : (6 : Int32) + 7 * nI n + 5 = nI (6 + 7 * n + 5) := idx7 n 5
  have e6 : (6 : Int32) + 7 * nI n + 6 = nI (6 + 7 * n + 6) := idx7 n 6
  rw [h, e2, e3, e0, e1, e4, e5, e6]
  rw [zsv_n (by omega) (by decide), zbind_s, zsv_n (by omega) (by decide), zbind_s, zsv_n (by omega) (by decide), zbind_s, zsv_n (by omega) (by decide), zbind_s, zsv_n (by omega) (by decide), zbind_s, zsv_n (by omega) (by decide), zbind_s, zsv_n (by omega) (by decide), zbind_s, zlet_s]
  rw [zst_j (q := 40) (j' := 0) _ (by omega), zst_j (q := 40) (j' := 0) _ (by omega), zst_j (q := 40) (j' := 0) _ (by omega), zst_j (q := 40) (j' := 0) _ (by omega), zst_j (q := 40) (j' := 0) _ (by omega), zst_j (q := 40) (j' := 0) _ (by omega), zst_j (q := 40) (j' := 0) _ (by omega), h, show nI n + 1 = nI (n + 1) from q_add n 1]
  rfl
/-- the row with a new body -/
def newT (t : Nat → Int32) (n : Nat) (k x y z br pn : Int32) : Nat → Int32 := fun j => if j = 0 then nI (n + 1) else if j = 6 + 7 * n + 6 then 1 else if j = 6 + 7 * n + 5 then pn else if j = 6 + 7 * n + 4 then br else if j = 6 + 7 * n + 3 then z else if j = 6 + 7 * n + 2 then y else if j = 6 + 7 * n + 1 then x else if j = 6 + 7 * n then k else t j
section NT
variable {t : Nat → Int32} {n : Nat} {k x y z br pn : Int32}
theorem newT_b {b f : Nat} (hb : b ≠ n) (hf : f < 7) : newT t n k x y z br pn (6 + 7 * b + f) = t (6 + 7 * b + f) := by
  unfold newT
  rw [if_neg (by omega), if_neg (by omega), if_neg (by omega), if_neg (by omega), if_neg (by omega), if_neg (by omega), if_neg (by omega), if_neg (by omega)]
theorem newT_o {j : Nat} (h0 : j ≠ 0) (h : j < 6 ∨ 90 ≤ j) (hn : n < 12) : newT t n k x y z br pn j = t j := by
  unfold newT
  rw [if_neg (by omega), if_neg (by omega), if_neg (by omega), if_neg (by omega), if_neg (by omega), if_neg (by omega), if_neg (by omega), if_neg (by omega)]
theorem newT_0 : newT t n k x y z br pn 0 = nI (n + 1) := if_pos rfl
theorem newT_k : newT t n k x y z br pn (6 + 7 * n) = k := by
  unfold newT
  rw [if_neg (by omega), if_neg (by omega), if_neg (by omega), if_neg (by omega), if_neg (by omega), if_neg (by omega), if_neg (by omega), if_pos rfl]
theorem newT_x : newT t n k x y z br pn (6 + 7 * n + 1) = x := by
  unfold newT
  rw [if_neg (by omega), if_neg (by omega), if_neg (by omega), if_neg (by omega), if_neg (by omega), if_neg (by omega), if_pos rfl]
theorem newT_y : newT t n k x y z br pn (6 + 7 * n + 2) = y := by
  unfold newT
  rw [if_neg (by omega), if_neg (by omega), if_neg (by omega), if_neg (by omega), if_neg (by omega), if_pos rfl]
theorem newT_z : newT t n k x y z br pn (6 + 7 * n + 3) = z := by
  unfold newT
  rw [if_neg (by omega), if_neg (by omega), if_neg (by omega), if_neg (by omega), if_pos rfl]
theorem newT_r : newT t n k x y z br pn (6 + 7 * n + 4) = br := by
  unfold newT
  rw [if_neg (by omega), if_neg (by omega), if_neg (by omega), if_pos rfl]
theorem newT_p : newT t n k x y z br pn (6 + 7 * n + 5) = pn := by
  unfold newT
  rw [if_neg (by omega), if_neg (by omega), if_pos rfl]
theorem newT_h : newT t n k x y z br pn (6 + 7 * n + 6) = 1 := by
  unfold newT
  rw [if_neg (by omega), if_pos rfl]
theorem newT_M {m : Nat} (hm : m < 3) : tM (newT t n k x y z br pn) n m = if m = 0 then x else if m = 1 then y else z := by
  have : m = 0 ∨ m = 1 ∨ m = 2 := by omega
  rcases this with rfl | rfl | rfl
  · exact newT_x
  · exact newT_y
  · exact newT_z
theorem newT_ok (ho : tOk t n) (hn : n < 12) (hk : ∃ q : Nat, q ≤ 6 ∧ k = nI q) (hx : ∃ v : Nat, 50 ≤ v ∧ v ≤ 250 ∧ x = nI v) (hy : ∃ v : Nat, 50 ≤ v ∧ v ≤ 250 ∧ y = nI v) (hz : ∃ v : Nat, 50 ≤ v ∧ v ≤ 250 ∧ z = nI v) (hr : ∃ q : Int, -20 ≤ q ∧ q ≤ 20 ∧ br = Int32.ofInt q) (hp : ∃ q : Nat, q ≤ 99 ∧ pn = nI q) : tOk (newT t n k x y z br pn) (n + 1) := by
  obtain ⟨h1, h2, h3, h4, h5, h6, h7, h8, h9, h10⟩ := ho
  refine ⟨by omega, newT_0, fun b hb => ?_, fun b hb => ?_, fun b hb hb2 => ?_, ?_, ?_, ?_, ?_, fun i hi => ?_⟩
  · by_cases c : b = n
    · subst c
      refine ⟨by unfold tK; rw [newT_k]; exact hk, fun m hm => ?_, by unfold tB; rw [newT_r]; exact hr, by unfold tP; rw [newT_p]; exact hp⟩
      rw [newT_M hm]
      split
      · exact hx
      · split
        · exact hy
        · exact hz
    · obtain ⟨k1, k2, k3, k4⟩ := h3 b (by omega)
      refine ⟨?_, fun m hm => ?_, ?_, ?_⟩
      · unfold tK; rw [show 6 + 7 * b = 6 + 7 * b + 0 from rfl, newT_b c (by decide)]; exact k1
      · unfold tM; rw [show 6 + 7 * b + 1 + m = 6 + 7 * b + (1 + m) by omega, newT_b c (by omega)]
        have := k2 m hm
        unfold tM at this
        rw [show 6 + 7 * b + 1 + m = 6 + 7 * b + (1 + m) by omega] at this
        exact this
      · unfold tB; rw [newT_b c (by decide)]; exact k3
      · unfold tP; rw [newT_b c (by decide)]; exact k4
  · unfold tH
    by_cases c : b = n
    · subst c; rw [newT_h]; exact Or.inr rfl
    · rw [newT_b c (by decide)]; exact h4 b hb
  · unfold tH
    rw [newT_b (by omega) (by decide)]; exact h5 b (by omega) hb2
  · rw [newT_o (by decide) (by decide) hn]; exact h6
  · rw [newT_o (by decide) (by decide) hn]; exact h7
  · rw [newT_o (by decide) (by decide) hn]; exact h8
  · rw [newT_o (by decide) (by decide) hn]; exact h9
  · rw [newT_o (by omega) (by omega) hn]
    obtain ⟨w, hw, e⟩ := h10 i hi
    exact ⟨w, by omega, e⟩
theorem newT_set (hn : n < 12) (h0 : tH t n = 0) : tSet (newT t n k x y z br pn) = tSet t ||| 2 ^ n := by
  apply Nat.eq_of_testBit_eq
  intro i
  rw [Nat.testBit_or, Nat.testBit_two_pow, tSet_p, tSet_p, pset_bit, pset_bit]
  by_cases c : i = n
  · subst c
    have : hereP (newT t i k x y z br pn) i = true := by simp [hereP, tH, newT_h]
    simp [hn, this]
  · have : hereP (newT t n k x y z br pn) i = hereP t i := by
      unfold hereP tH
      rw [newT_b c (by decide)]
    rw [this]
    simp [show ¬ n = i by omega]
end NT
theorem add_row (k x y z : Int32) (n : Nat) (u : zM) : addU6 k x y z n u 40 = newT (u 40) n k x y z 0 0 := by
  unfold addU6 newT
  funext j
  simp only [row_st, upd]
theorem addU5_40 (k x y z : Int32) (n : Nat) (u : zM) : addU5 k x y z n u 40 = u 40 := by
  unfold addU5
  simp only [zst_o _ (show (40 : Nat) ≠ 1 by decide), zst_o _ (show (40 : Nat) ≠ 2 by decide), zst_o _ (show (40 : Nat) ≠ 3 by decide), zst_o _ (show (40 : Nat) ≠ 4 by decide), zst_o _ (show (40 : Nat) ≠ 5 by decide)]
theorem vTown.add {u : zM} {n : Nat} {k x y z : Int32} (ho : tOk (u 40) n) (h : tIs u 1 (u 40)) (hn : n < 12) (hk : ∃ q : Nat, q ≤ 6 ∧ k = nI q) (hx : ∃ v : Nat, 50 ≤ v ∧ v ≤ 250 ∧ x = nI v) (hy : ∃ v : Nat, 50 ≤ v ∧ v ≤ 250 ∧ y = nI v) (hz : ∃ v : Nat, 50 ≤ v ∧ v ≤ 250 ∧ z = nI v) : vTown (addU6 k x y z n (addU5 k x y z n u)) := by
  obtain ⟨i0, i1, i2, i3, i4, i5, i6, i7, i8, i9, i10, i11, i12⟩ := h
  have e40 : addU5 k x y z n u 40 = u 40 := addU5_40 k x y z n u
  have eR : addU6 k x y z n (addU5 k x y z n u) 40 = newT (u 40) n k x y z 0 0 := by rw [add_row, e40]
  have eC : ∀ c, c ≠ 40 → addU6 k x y z n (addU5 k x y z n u) c = addU5 k x y z n u c := fun c hc => by
    unfold addU6
    simp only [zst_o _ hc]
  refine ⟨⟨n + 1, ?_⟩, ?_⟩
  · rw [eR]
    exact newT_ok ho hn hk hx hy hz ⟨0, by decide, by decide, rfl⟩ ⟨0, by decide, rfl⟩
  · unfold tIs
    rw [eR, eC 1 (by decide), eC 2 (by decide), eC 3 (by decide), eC 4 (by decide), eC 5 (by decide), eC 6 (by decide), eC 7 (by decide)]
    have e1 : addU5 k x y z n u 1 = upd (upd (u 1) 7 (u 1 7 ||| nI (2 ^ n))) 6 (nI (n + 1)) := by
      unfold addU5
      rw [row_st, row_st, zst_o _ (by decide), zst_o _ (by decide), zst_o _ (by decide), zst_o _ (by decide), zst_o _ (by decide), zst_o _ (by decide)]
    have e2 : addU5 k x y z n u 2 = upd (u 2) n k := by
      unfold addU5
      rw [zst_o _ (by decide), zst_o _ (by decide), zst_o _ (by decide), zst_o _ (by decide), zst_o _ (by decide), zst_o _ (by decide), zst_o _ (by decide), row_st]
    have e3 : addU5 k x y z n u 3 = upd (upd (upd (u 3) (3 * n) x) (3 * n + 1) y) (3 * n + 2) z := by
      unfold addU5
      rw [zst_o _ (by decide), zst_o _ (by decide), zst_o _ (by decide), zst_o _ (by decide), row_st, row_st, row_st, zst_o _ (by decide)]
    have e4 : addU5 k x y z n u 4 = upd (u 4) n 0 := by
      unfold addU5
      rw [zst_o _ (by decide), zst_o _ (by decide), zst_o _ (by decide), row_st, zst_o _ (by decide), zst_o _ (by decide), zst_o _ (by decide), zst_o _ (by decide)]
    have e5 : addU5 k x y z n u 5 = upd (u 5) n 0 := by
      unfold addU5
      rw [zst_o _ (by decide), zst_o _ (by decide), row_st, zst_o _ (by decide), zst_o _ (by decide), zst_o _ (by decide), zst_o _ (by decide), zst_o _ (by decide)]
    have e67 : ∀ c, c = 6 ∨ c = 7 → addU5 k x y z n u c = u c := fun c hc => by
      unfold addU5
      rw [zst_o _ (by omega), zst_o _ (by omega), zst_o _ (by omega), zst_o _ (by omega), zst_o _ (by omega), zst_o _ (by omega), zst_o _ (by omega), zst_o _ (by omega)]
    rw [e1, e2, e3, e4, e5, e67 6 (Or.inl rfl), e67 7 (Or.inr rfl)]
    refine ⟨?_, ?_, ?_, ?_, ?_, ?_, ?_, fun b hb => ?_, fun b m hb hm => ?_, fun b hb => ?_, fun b hb => ?_, fun j hj => ?_, fun i hi => ?_⟩
    · rw [upd_s, newT_0]
    · rw [upd_o _ _ (by decide), upd_s, newT_set hn (ho.2.2.2.2.1 n (Nat.le_refl _) hn), i1, n_or]
    · rw [upd_o _ _ (by decide), upd_o _ _ (by decide), newT_o (by decide) (by decide) hn]; exact i2
    · rw [upd_o _ _ (by decide), upd_o _ _ (by decide), newT_o (by decide) (by decide) hn]; exact i3
    · rw [upd_o _ _ (by decide), upd_o _ _ (by decide), newT_o (by decide) (by decide) hn]; exact i4
    · rw [upd_o _ _ (by decide), upd_o _ _ (by decide), newT_o (by decide) (by decide) hn]; exact i5
    · rw [upd_o _ _ (by decide), upd_o _ _ (by decide), newT_o (by decide) (by decide) hn]; exact i6
    · unfold tK
      by_cases c : b = n
      · subst c; rw [upd_s, newT_k]
      · rw [upd_o _ _ c, show 6 + 7 * b = 6 + 7 * b + 0 from rfl, newT_b c (by decide)]; exact i7 b hb
    · by_cases c : b = n
      · subst c
        rw [newT_M hm]
        have : m = 0 ∨ m = 1 ∨ m = 2 := by omega
        rcases this with rfl | rfl | rfl
        · rw [upd_o _ _ (by omega), upd_o _ _ (by omega), Nat.add_zero, upd_s]; rfl
        · rw [upd_o _ _ (by omega), upd_s]; rfl
        · rw [upd_s]; rfl
      · unfold tM
        rw [upd_o _ _ (by omega), upd_o _ _ (by omega), upd_o _ _ (by omega), show 6 + 7 * b + 1 + m = 6 + 7 * b + (1 + m) by omega, newT_b c (by omega), show 6 + 7 * b + (1 + m) = 6 + 7 * b + 1 + m by omega]
        exact i8 b m hb hm
    · unfold tB
      by_cases c : b = n
      · subst c; rw [upd_s, newT_r]
      · rw [upd_o _ _ c, newT_b c (by decide)]; exact i9 b hb
    · unfold tP
      by_cases c : b = n
      · subst c; rw [upd_s, newT_p]
      · rw [upd_o _ _ c, newT_b c (by decide)]; exact i10 b hb
    · rw [newT_o (by omega) (by omega) hn]; exact i11 j hj
    · rw [newT_o (by omega) (by omega) hn]; exact i12 i hi
theorem sameT.add5 (k x y z : Int32) (n : Nat) (u : zM) : sameT u (addU5 k x y z n u) := by
  unfold addU5
  exact ((((((((sameT.st (by decide)).tr (sameT.st (by decide))).tr (sameT.st (by decide))).tr (sameT.st (by decide))).tr (sameT.st (by decide))).tr (sameT.st (by decide))).tr (sameT.st (by decide))).tr (sameT.st (by decide)))
theorem sameT.add6 (k x y z : Int32) (n : Nat) (u : zM) : sameT u (addU6 k x y z n u) := by
  unfold addU6
  exact ((((((((sameT.st (by decide)).tr (sameT.st (by decide))).tr (sameT.st (by decide))).tr (sameT.st (by decide))).tr (sameT.st (by decide))).tr (sameT.st (by decide))).tr (sameT.st (by decide))).tr (sameT.st (by decide)))
theorem p_body : B_body Inv := by
  intro a u hu
  obtain ⟨⟨n, ho⟩, ht⟩ := id hu.1
  unfold m_X5_body m_X6_body m_X5_isKind
  simp only [w5_eq, w6_eq, zb_if, if_0]
  by_cases c : (0 : Int32) ≤ a ∧ a ≤ 6
  · rw [if_neg (fun z => z c)]
    obtain ⟨k, -, hk, rfl⟩ := (btw a 0 6 (by decide) (by decide)).mp c
    rw [ht.1, ho.2.1]
    by_cases c2 : n < 12
    · rw [if_pos (show nI n < 12 from (q_lt (b := 12) (by omega) (by decide)).mpr c2), add5_eq (ht.1.trans ho.2.1) c2, zbind2_s]
      have e40 : addU5 (nI k) 100 100 100 n u 40 0 = nI n := by rw [addU5_40]; exact ho.2.1
      refine ⟨_, _, _, rfl, ?_, hu.town ((sameT.add5 (nI k) 100 100 100 n u).tr (sameT.add6 (nI k) 100 100 100 n _)) (vTown.add ho ht c2 ⟨k, hk, rfl⟩ ⟨100, by decide, by decide, rfl⟩ ⟨100, by decide, by decide, rfl⟩ ⟨100, by decide, by decide, rfl⟩)⟩
      rw [if_neg (fun z => z c), e40, if_neg (show ¬ nI n = 12 from q_ne (b := 12) (by omega) (by decide) (by omega)), com6_eq e40 c2, zbind2_s]
    · have hn : n = 12 := by have := ho.1; omega
      subst hn
      rw [if_neg (by decide), f5_1, zbind2_s]
      refine ⟨_, _, fnd6 1 (fnd5 1 u), rfl, ?_, hu.fnd (by decide)⟩
      rw [if_neg (fun z => z c), fnd5_c 1 u (by decide), ho.2.1, if_pos (by decide), f6_1, zbind2_s]
  · rw [if_pos c, f5_0, zbind2_s]
    exact ⟨_, _, fnd6 0 (fnd5 0 u), rfl, by rw [if_pos c, f6_0, zbind2_s], hu.fnd (by decide)⟩
