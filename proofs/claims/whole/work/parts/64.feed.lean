/-! FEED -/
theorem b_255 : ∀ i, i < 32 → bt 255 i = decide (i < 8) := by decide +kernel
def byt (a : Int32) (j : Nat) : Int32 := (zushr a (nI (8 * j))) &&& 255
theorem byt_eq (a : Int32) {j : Nat} (hj : j < 4) : (zshr a (nI (8 * j))) &&& 255 = byt a j := by
  unfold byt
  refine b_ext (fun i hi => ?_)
  rw [b_and, b_and, b_255 i hi]
  by_cases c : i < 8
  · unfold zshr zushr
    rw [b_sshr (8 * j) (by omega) a hi, b_ushr (8 * j) (by omega) a i, if_pos (by omega)]
  · simp [c]
theorem byt_ok (a : Int32) (j : Nat) : ∃ c : Nat, c ≤ 255 ∧ byt a j = nI c := by
  have h := pk_and (zushr a (nI (8 * j))) (m := 255) 8 (by decide)
  exact ⟨_, by have : (zushr a (nI (8 * j))).toBitVec.toNat % 2 ^ 8 < 256 := Nat.mod_lt _ (by decide); omega, h⟩
/-- the counter that falls -/
def dn (n k : Nat) : Int32 := if k < n then nI (n - 1 - k) else -1
theorem dn_s {n k : Nat} (hk : k < n) (hn : n ≤ 4) : nI (n - 1 - k) + (-1) = dn n (k + 1) := by
  unfold dn
  by_cases c : k + 1 < n
  · rw [if_pos c, q_m1 (by omega), show n - 1 - k - 1 = n - 1 - (k + 1) by omega]
  · rw [if_neg c, show n - 1 - k = 0 by omega]
    decide
theorem feed5 {a : Int32} {L n : Nat} (hn : n ≤ 4) (h1 : 1 ≤ n) (hL : L + n ≤ 120) (u : zM) (hu : u 20 4 = nI L) : ∃ v, zit zF (fun s : Int32 × zM => m_X5_feed_b0 a s.1 s.2) (nI (n - 1), u) = some v ∧ (∀ q, q ≠ 20 → q ≠ 21 → v q = u q) ∧ v 20 4 = nI (L + n) ∧ ∀ j, v 21 j = if L ≤ j ∧ j < L + n then byt a (n - 1 - (j - L)) else u 21 j := by
  obtain ⟨v, e, h2, h3, h4⟩ := zit_inv (body := fun s : Int32 × zM => m_X5_feed_b0 a s.1 s.2) (fun k s => s.1 = dn n k ∧ (∀ q, q ≠ 20 → q ≠ 21 → s.2 q = u q) ∧ s.2 20 4 = nI (L + k) ∧ ∀ j, s.2 21 j = if L ≤ j ∧ j < L + k then byt a (n - 1 - (j - L)) else u 21 j) n (fun v => (∀ q, q ≠ 20 → q ≠ 21 → v q = u q) ∧ v 20 4 = nI (L + n) ∧ ∀ j, v 21 j = if L ≤ j ∧ j < L + n then byt a (n - 1 - (j - L)) else u 21 j) (nI (n - 1), u) (by omega) ⟨by unfold dn; rw [if_pos (by omega)]; rfl, fun _ _ _ => rfl, hu, fun j => by rw [if_neg (by omega)]⟩ (by
    rintro k ⟨x, v⟩ hk ⟨rfl, h2, h3, h4⟩
    simp only at h2 h3 h4 ⊢
    unfold m_X5_feed_b0 m_X3_add dn
    rw [if_pos hk, if_neg (nI_pos (by omega)), h3, if_neg (show ¬ 120 ≤ nI (L + k) from fun z => by have := (q_le (a := 120) (by omega) (by omega)).mp z; omega), zsv_n (by omega) (by decide), zbind_s, zlet_s, zbind_s, dn_s hk hn, show (8 : Int32) * nI (n - 1 - k) = nI (8 * (n - 1 - k)) from q_mul 8 _]
    refine ⟨_, rfl, rfl, fun q h5 h6 => (zst_o _ h5).trans ((zst_o _ h6).trans (h2 q h5 h6)), ?_, fun j => ?_⟩
    · show zst (zst v 21 (L + k) (byt a (n - 1 - k))) 20 4 (zst v 21 (L + k) (byt a (n - 1 - k)) 20 4 + 1) 20 4 = _
      rw [zst_s, zst_o _ (by decide), h3]
      exact q_add (L + k) 1
    · show zst (zst v 21 (L + k) (byt a (n - 1 - k))) 20 4 (zst v 21 (L + k) (byt a (n - 1 - k)) 20 4 + 1) 21 j = _
      rw [zst_o _ (by decide), zst_g]
      by_cases c : j = L + k
      · subst c
        rw [if_pos ⟨rfl, rfl⟩, if_pos (by omega), show n - 1 - (L + k - L) = n - 1 - k by omega]
      · rw [if_neg (by simp [c]), h4 j]
        by_cases c2 : L ≤ j ∧ j < L + k
        · rw [if_pos c2, if_pos (by omega)]
        · rw [if_neg c2, if_neg (by omega)]) (by
    rintro ⟨x, v⟩ ⟨rfl, h2, h3, h4⟩
    simp only at h2 h3 h4 ⊢
    unfold m_X5_feed_b0 dn
    rw [if_neg (Nat.lt_irrefl n), if_pos (show (-1 : Int32) < 0 by decide)]
    exact ⟨_, rfl, h2, h3, h4⟩)
  exact ⟨v, e, h2, h3, h4⟩
theorem feed6 {a : Int32} {L n : Nat} (hn : n ≤ 4) (h1 : 1 ≤ n) (hL : L + n ≤ 120) (u : zM) (hu : u 39 12 = nI L) : ∃ v, zit zF (fun s : Int32 × zM => m_X6_feed_b0 a s.1 s.2) (nI (n - 1), u) = some v ∧ (∀ q, q ≠ 39 → q ≠ 47 → v q = u q) ∧ v 39 12 = nI (L + n) ∧ v 39 2 = u 39 2 ∧ ∀ j, v 47 j = if L ≤ j ∧ j < L + n then byt a (n - 1 - (j - L)) else u 47 j := by
  obtain ⟨v, e, h2, h3, h3', h4⟩ := zit_inv (body := fun s : Int32 × zM => m_X6_feed_b0 a s.1 s.2) (fun k s => s.1 = dn n k ∧ (∀ q, q ≠ 39 → q ≠ 47 → s.2 q = u q) ∧ s.2 39 12 = nI (L + k) ∧ s.2 39 2 = u 39 2 ∧ ∀ j, s.2 47 j = if L ≤ j ∧ j < L + k then byt a (n - 1 - (j - L)) else u 47 j) n (fun v => (∀ q, q ≠ 39 → q ≠ 47 → v q = u q) ∧ v 39 12 = nI (L + n) ∧ v 39 2 = u 39 2 ∧ ∀ j, v 47 j = if L ≤ j ∧ j < L + n then byt a (n - 1 - (j - L)) else u 47 j) (nI (n - 1), u) (by omega) ⟨by unfold dn; rw [if_pos (by omega)]; rfl, fun _ _ _ => rfl, hu, rfl, fun j => by rw [if_neg (by omega)]⟩ (by
    rintro k ⟨x, v⟩ hk ⟨rfl, h2, h3, h3', h4⟩
    simp only at h2 h3 h3' h4 ⊢
    unfold m_X6_feed_b0 dn
    rw [if_pos hk, if_neg (nI_pos (by omega)), h3, zsv_n (by omega) (by decide), zbind_s, zlet_s, dn_s hk hn, show (8 : Int32) * nI (n - 1 - k) = nI (8 * (n - 1 - k)) from q_mul 8 _, byt_eq a (by omega)]
    refine ⟨_, rfl, rfl, fun q h5 h6 => (zst_o _ h5).trans ((zst_o _ h6).trans (h2 q h5 h6)), ?_, ?_, fun j => ?_⟩
    · show zst (zst v 47 (L + k) (byt a (n - 1 - k))) 39 12 (zst v 47 (L + k) (byt a (n - 1 - k)) 39 12 + 1) 39 12 = _
      rw [zst_s, zst_o _ (by decide), h3]
      exact q_add (L + k) 1
    · show zst (zst v 47 (L + k) (byt a (n - 1 - k))) 39 12 (zst v 47 (L + k) (byt a (n - 1 - k)) 39 12 + 1) 39 2 = _
      rw [zst_j _ (by decide), zst_o _ (by decide)]
      exact h3'
    · show zst (zst v 47 (L + k) (byt a (n - 1 - k))) 39 12 (zst v 47 (L + k) (byt a (n - 1 - k)) 39 12 + 1) 47 j = _
      rw [zst_o _ (by decide), zst_g]
      by_cases c : j = L + k
      · subst c
        rw [if_pos ⟨rfl, rfl⟩, if_pos (by omega), show n - 1 - (L + k - L) = n - 1 - k by omega]
      · rw [if_neg (by simp [c]), h4 j]
        by_cases c2 : L ≤ j ∧ j < L + k
        · rw [if_pos c2, if_pos (by omega)]
        · rw [if_neg c2, if_neg (by omega)]) (by
    rintro ⟨x, v⟩ ⟨rfl, h2, h3, h3', h4⟩
    simp only at h2 h3 h3' h4 ⊢
    unfold m_X6_feed_b0 dn
    rw [if_neg (Nat.lt_irrefl n), if_pos (show (-1 : Int32) < 0 by decide)]
    exact ⟨_, rfl, h2, h3, h3', h4⟩)
  exact ⟨v, e, h2, h3, h3', h4⟩
/-- only the tape has changed -/
theorem Inv.tape {u v : zM} (hu : Inv u) (h : ∀ q, scr q = false → q ≠ 20 → q ≠ 21 → q ≠ 39 → q ≠ 47 → v q = u q) (h2 : v 39 2 = u 39 2) (ht : vTape v) : Inv v := by
  have c : ∀ q, (scr q = false ∧ q ≠ 20 ∧ q ≠ 21 ∧ q ≠ 39 ∧ q ≠ 47) → v q = u q := fun q hq => h q hq.1 hq.2.1 hq.2.2.1 hq.2.2.2.1 hq.2.2.2.2
  obtain ⟨h1, hk, h3, h4, h5, h6⟩ := hu
  refine ⟨?_, ?_, ?_, ht, ?_, ?_⟩
  · unfold vTown
    rw [c 40 (by decide)]
    exact ⟨h1.1, tIs_congr (fun k hk => c (1 + k) (by revert hk; revert k; decide)) h1.2⟩
  · unfold vKept
    rw [c 0 (by decide), c 41 (by decide), h2]
    exact ⟨hk.1, hk.2.1, fun q => ⟨(hk.2.2 q).1, tIs_congr (fun k hk => c (8 + k) (by revert hk; revert k; decide)) (hk.2.2 q).2⟩⟩
  · unfold vFind
    rw [c 42 (by decide), c 28 (by decide)]
    exact h3
  · intro s hs
    rw [c (31 + 2 * s) ⟨(scrS s hs).1, by omega, by omega, by omega, by omega⟩, c (31 + 2 * s + 1) ⟨(scrS s hs).2, by omega, by omega, by omega, by omega⟩, c 51 (by decide), c 52 (by decide), c 53 (by decide)]
    exact h5 s hs
  · unfold vSlip
    rw [c 44 (by decide)]
    exact h6
theorem p_feed : B_feed Inv := by
  intro a n u hu
  obtain ⟨L, hL, e20, e39, hb⟩ := hu.2.2.2.1
  unfold m_X5_feed m_X6_feed
  simp only [w5_eq, w6_eq, if_0]
  by_cases c : (1 : Int32) ≤ n ∧ n ≤ 4
  · rw [if_neg (fun z => z c)]
    simp only [if_neg (fun z : ¬ (1 ≤ n ∧ n ≤ 4) => z c)]
    obtain ⟨n, h1, hn, rfl⟩ := (btw n 1 4 (by decide) (by decide)).mp c
    have es : nI n - 1 = nI (n - 1) := by rw [lit_sub1, if_neg (by omega)]
    rw [e20, q_add]
    by_cases c2 : L + n ≤ 120
    · rw [if_pos (show nI (L + n) ≤ 120 from (q_le (b := 120) (by omega) (by decide)).mpr c2), es]
      obtain ⟨v, e5, o5, l5, b5⟩ := feed5 (a := a) hn h1 c2 u e20
      have v39 : v 39 = u 39 := o5 39 (by decide) (by decide)
      obtain ⟨w, e6, o6, l6, k6, b6⟩ := feed6 (a := a) hn h1 c2 v (by rw [v39]; exact e39)
      refine ⟨_, v, w, by rw [e5, zbind_s], ?_, ?_⟩
      · rw [v39, e39, q_add, if_pos (show nI (L + n) ≤ 120 from (q_le (b := 120) (by omega) (by decide)).mpr c2), e6, zbind_s, l6, l5]
      · refine hu.tape (fun q _ h20 h21 h39 h47 => by rw [o6 q h39 h47, o5 q h20 h21]) (by rw [k6, v39]) ⟨L + n, c2, by rw [o6 20 (by decide) (by decide)]; exact l5, l6, fun j hj => ?_⟩
        rw [o6 21 (by decide) (by decide), b5, b6, o5 47 (by decide) (by decide)]
        by_cases c3 : L ≤ j ∧ j < L + n
        · rw [if_pos c3, if_pos c3]
          exact ⟨rfl, byt_ok _ _⟩
        · rw [if_neg c3, if_neg c3]
          exact hb j (by omega)
    · rw [if_neg (show ¬ nI (L + n) ≤ 120 from fun z => c2 ((q_le (b := 120) (by omega) (by decide)).mp z))]
      refine fin (j := 1) (by decide) hu (g := fun u1 => _) rfl ?_
      rw [fnd5_c 1 u (by decide), e39, q_add, if_neg (show ¬ nI (L + n) ≤ 120 from fun z => c2 ((q_le (b := 120) (by omega) (by decide)).mp z))]
      rfl
  · rw [if_pos c]
    simp only [if_pos c]
    exact fin0 hu (g := fun u1 => _) rfl rfl
