/-! FAMINE, SPRINGS TOLD, SPOTS, IMAGES, STATUS, WIPE, TEAR -/
def fv (t : Nat → Int32) (a : Int32) (b : Nat) : Int32 := zmax 50 (tM t b 1 - a)
def famR (t : Nat → Int32) (a : Int32) : Nat → Nat → Int32
  | 0 => t
  | k + 1 => if hereP t k = true then upd (famR t a k) (6 + 7 * k + 2) (fv t a k) else famR t a k
theorem famR_h (t : Nat → Int32) (a : Int32) (b : Nat) : ∀ k, hereP (famR t a k) b = hereP t b := by
  intro k
  induction k with
  | zero => rfl
  | succ k ih =>
    rw [famR]
    split
    · rw [← ih]; unfold hereP tH; rw [upd_o _ _ (by omega)]
    · exact ih
theorem famR_m (t : Nat → Int32) (a : Int32) (b m : Nat) (hm : m < 3) : ∀ k, k ≤ b → tM (famR t a k) b m = tM t b m := by
  intro k
  induction k with
  | zero => intro _; rfl
  | succ k ih =>
    intro h
    rw [famR]
    split
    · rw [← ih (by omega)]; unfold tM; rw [upd_o _ _ (by omega)]
    · exact ih (by omega)
theorem famR_0 (t : Nat → Int32) (a : Int32) : ∀ k, famR t a k 0 = t 0 := by
  intro k
  induction k with
  | zero => rfl
  | succ k ih =>
    rw [famR]
    split
    · rw [upd_o _ _ (by omega)]; exact ih
    · exact ih
theorem fv_ok {t : Nat → Int32} {n b a : Nat} (h : tOk t n) (hb : b < n) (ha : a ≤ 50) : ∃ w : Nat, 50 ≤ w ∧ w ≤ 250 ∧ fv t (nI a) b = nI w := by
  obtain ⟨v, h1, h2, h3⟩ := (h.2.2.1 b hb).2.1 1 (by decide)
  unfold fv zmax
  rw [h3, q_sub (by omega)]
  by_cases c : (50 : Int32) < nI (v - a)
  · rw [if_pos c]
    have := (q_lt (a := 50) (by decide) (by omega)).mp c
    exact ⟨v - a, by omega, by omega, rfl⟩
  · rw [if_neg c]
    exact ⟨50, by decide, by decide, rfl⟩
theorem famR_ok {t : Nat → Int32} {n a : Nat} (h : tOk t n) (ha : a ≤ 50) : ∀ k, k ≤ n → tOk (famR t (nI a) k) n := by
  intro k
  induction k with
  | zero => intro _; exact h
  | succ k ih =>
    intro hk
    rw [famR]
    split
    · refine (ih (by omega)).bd (b := k) (f := 2) (by omega) (by decide) ⟨fun z => absurd z (by decide), fun _ => fv_ok h (by omega) ha, fun z => absurd z (by decide), fun z => absurd z (by decide)⟩
    · exact ih (by omega)
theorem p_famine : B_famine Inv := by
  intro a u hu
  obtain ⟨⟨n, ho⟩, ht⟩ := id hu.1
  have hn : n ≤ 12 := ho.1
  unfold m_X5_famine m_X6_famine
  simp only [w5_eq, w6_eq, if_0]
  by_cases c : (1 : Int32) ≤ a ∧ a ≤ 50
  · rw [if_neg (fun z => z c)]
    simp only [if_neg (fun z : ¬ (1 ≤ a ∧ a ≤ 50) => z c)]
    obtain ⟨a, ha1, ha, rfl⟩ := (btw a 1 50 (by decide) (by decide)).mp c
    generalize hC : (fun k => sI (fun b => if hereP (u 40) b = true then (if fv (u 40) (nI a) b = 50 then (1 : Int32) else 0) else 0) k) = C
    have hC0 : C 0 = 0 := by rw [← hC]; rfl
    have hCs : ∀ k, C (k + 1) = C k + (if hereP (u 40) k = true then (if fv (u 40) (nI a) k = 50 then (1 : Int32) else 0) else 0) := fun k => by rw [← hC]; rfl
    obtain ⟨⟨r5, u5⟩, e5, hr5, ht5, hT5, h405⟩ := zit_inv (body := fun s : Int32 × Int32 × zM => m_X5_famine_b0 (nI a) s.1 s.2.1 s.2.2) (fun k s => s.1 = C k ∧ s.2.1 = nI k ∧ tIs s.2.2 1 (famR (u 40) (nI a) k) ∧ sameT u s.2.2 ∧ s.2.2 40 = u 40) n (fun r => r.1 = C n ∧ tIs r.2 1 (famR (u 40) (nI a) n) ∧ sameT u r.2 ∧ r.2 40 = u 40) (0, 0, u) (by omega) ⟨hC0.symm, rfl, ht, (sameP.rfl' u).T, rfl⟩ (by
      rintro k ⟨x, i, v⟩ hk ⟨rfl, rfl, h3, h4, h5⟩
      simp only at h3 h4 h5 ⊢
      unfold m_X5_famine_b0
      rw [h3.1, famR_0, ho.2.1, if_neg (fun z => by have := (q_le (by omega) (by omega)).mp z; omega), ih5_eq h3 (by omega), famR_h, hCs]
      by_cases c2 : hereP (u 40) k = true
      · rw [if_pos c2, if_neg (by decide), show m_X4_inchesOf (nI k) 1 v = some (tM (u 40) k 1) from (in5 h3 (by omega) (by decide)).trans (by rw [famR_m _ _ _ _ (by decide) _ (Nat.le_refl _)]), zbind_s]
        have hT : tIs (zst v 3 (3 * k + 1) (fv (u 40) (nI a) k)) 1 (famR (u 40) (nI a) (k + 1)) := by
          rw [famR, if_pos c2]
          exact h3.bd (b := k) (f := 2) (by omega) (by decide)
        have eS : m_X4_setInches (nI k) 1 (fv (u 40) (nI a) k) v = some (zst v 3 (3 * k + 1) (fv (u 40) (nI a) k)) := by
          unfold m_X4_setInches
          rw [show nI k * 3 + 1 = nI (3 * k + 1) from idx3 k 1, zsv_n (by omega) (by decide), zbind_s]
        show ∃ s', zbind (m_X4_setInches (nI k) 1 (fv (u 40) (nI a) k) v) (fun u12 => if fv (u 40) (nI a) k = 50 then some (Sum.inl (C k + 1, nI k + 1, u12)) else some (Sum.inl (C k + 0, nI k + 1, u12))) = some (Sum.inl s') ∧ _
        rw [eS, zbind_s, show nI k + 1 = nI (k + 1) from q_add k 1]
        have hST := h4.tr (sameT.st (u := v) (q := 3) (j := 3 * k + 1) (v := fv (u 40) (nI a) k) (by decide))
        have h50 : zst v 3 (3 * k + 1) (fv (u 40) (nI a) k) 40 = u 40 := by rw [zst_o _ (by decide)]; exact h5
        by_cases c3 : fv (u 40) (nI a) k = 50
        · rw [if_pos c3]
          exact ⟨_, rfl, by simp only [if_pos c2, if_pos c3], rfl, hT, hST, h50⟩
        · rw [if_neg c3]
          exact ⟨_, rfl, by simp only [if_pos c2, if_neg c3], rfl, hT, hST, h50⟩
      · rw [if_neg c2, if_pos rfl, show nI k + 1 = nI (k + 1) from q_add k 1]
        refine ⟨_, rfl, by simp [c2], rfl, ?_, h4, h5⟩
        rw [famR, if_neg c2]
        exact h3) (by
      rintro ⟨x, i, v⟩ ⟨rfl, rfl, h3, h4, h5⟩
      simp only at h3 h4 h5 ⊢
      unfold m_X5_famine_b0
      rw [h3.1, famR_0, ho.2.1, if_pos (i_le_refl _)]
      exact ⟨_, rfl, rfl, h3, h4, h5⟩)
    simp only at hr5 ht5 hT5 h405
    obtain ⟨⟨r6, u6⟩, e6, hr6, h406, h6⟩ := zit_inv (body := fun s : Int32 × Int32 × zM => m_X6_famine_b0 (nI a) s.1 s.2.1 s.2.2) (fun k s => s.1 = C k ∧ s.2.1 = nI k ∧ s.2.2 40 = famR (u 40) (nI a) k ∧ ∀ q, q ≠ 40 → s.2.2 q = u5 q) n (fun r => r.1 = C n ∧ r.2 40 = famR (u 40) (nI a) n ∧ ∀ q, q ≠ 40 → r.2 q = u5 q) (0, 0, u5) (by omega) ⟨hC0.symm, rfl, h405, fun _ _ => rfl⟩ (by
      rintro k ⟨x, i, v⟩ hk ⟨rfl, rfl, h3, h4⟩
      simp only at h3 h4 ⊢
      unfold m_X6_famine_b0
      rw [h3, famR_0, ho.2.1, if_neg (fun z => by have := (q_le (by omega) (by omega)).mp z; omega), show (6 : Int32) + 7 * nI k + 1 + 1 = nI (6 + 7 * k + 2) from by rw [show (6 : Int32) + 7 * nI k + 1 = nI (6 + 7 * k + 1) from idx7 k 1, show (1 : Int32) = nI 1 from rfl, q_add], show (6 : Int32) = nI 6 from rfl, bi6 v (by omega) (by decide), zbind_s, h3, hCs]
      have eh : famR (u 40) (nI a) k (6 + 7 * k + 6) = if hereP (u 40) k = true then 1 else 0 := by
        have := famR_h (u 40) (nI a) k k
        rcases (famR_ok ho ha k (by omega)).2.2.2.1 k (by omega) with q | q
        · rw [if_neg (by rw [← this]; simp [hereP, q])]; exact q
        · rw [if_pos (by rw [← this]; simp [hereP, q])]; exact q
      rw [eh]
      by_cases c2 : hereP (u 40) k = true
      · rw [if_pos c2, if_pos rfl, zld_n (by omega) (by decide), zbind_s, zsv_n (by omega) (by decide), zbind_s, zld_n (by omega) (by decide), zbind_s, zst_s, h3, show famR (u 40) (nI a) k (6 + 7 * k + 2) = tM (u 40) k 1 from famR_m (u 40) (nI a) k 1 (by decide) k (Nat.le_refl _)]
        have h40' : zst v 40 (6 + 7 * k + 2) (fv (u 40) (nI a) k) 40 = famR (u 40) (nI a) (k + 1) := by rw [row_st, h3, famR, if_pos c2]
        have ho' : ∀ q, q ≠ 40 → zst v 40 (6 + 7 * k + 2) (fv (u 40) (nI a) k) q = u5 q := fun q hq => by rw [zst_o _ hq]; exact h4 q hq
        show ∃ s', (if fv (u 40) (nI a) k = 50 then some (Sum.inl (C k + 1, nI k + 1, zst v 40 (6 + 7 * k + 2) (fv (u 40) (nI a) k))) else some (Sum.inl (C k + 0, nI k + 1, zst v 40 (6 + 7 * k + 2) (fv (u 40) (nI a) k)))) = some (Sum.inl s') ∧ _
        rw [show nI k + 1 = nI (k + 1) from q_add k 1]
        by_cases c3 : fv (u 40) (nI a) k = 50
        · rw [if_pos c3]
          exact ⟨_, rfl, by simp only [if_pos c2, if_pos c3], rfl, h40', ho'⟩
        · rw [if_neg c3]
          exact ⟨_, rfl, by simp only [if_pos c2, if_neg c3], rfl, h40', ho'⟩
      · rw [if_neg c2, if_neg (by decide), show nI k + 1 = nI (k + 1) from q_add k 1]
        refine ⟨_, rfl, by simp [c2], rfl, ?_, h4⟩
        rw [famR, if_neg c2]
        exact h3) (by
      rintro ⟨x, i, v⟩ ⟨rfl, rfl, h3, h4⟩
      simp only at h3 h4 ⊢
      unfold m_X6_famine_b0
      rw [h3, famR_0, ho.2.1, if_pos (i_le_refl _)]
      exact ⟨_, rfl, rfl, h3, h4⟩)
    simp only at hr6 h406 h6
    refine ⟨_, _, _, by rw [e5, zbind2_s], by rw [e6, zbind2_s, hr6, ← hr5], hu.town (hT5.tr ⟨fun k _ _ _ _ h => h6 k h, by rw [h6 20 (by decide)], by rw [h6 39 (by decide)], by rw [h6 39 (by decide)]⟩) ?_⟩
    unfold vTown
    rw [h406]
    exact ⟨⟨n, famR_ok ho ha n (Nat.le_refl _)⟩, tIs_congr (fun k hk => h6 _ (by omega)) ht5⟩
  · rw [if_pos c]
    simp only [if_pos c]
    exact fin0 hu (g := fun u1 => _) rfl rfl
/-! wipe, tear, status, old, spots, images -/
theorem p_wipe : B_wipe Inv := by
  intro u hu
  obtain ⟨k, hk, e1, e2, -⟩ := hu.2.2.2.1
  refine ⟨u 20 4, zst u 20 4 0, zst (zst u 20 4 0) 39 12 0, rfl, ?_, ?_⟩
  · unfold m_X6_wipe
    rw [zlet_s, zst_o u (by decide), e1, e2]
  · have e : ∀ q, q ≠ 20 → q ≠ 39 → zst (zst u 20 4 0) 39 12 0 q = u q := fun q h1 h2 => by rw [zst_o _ h2, zst_o _ h1]
    have e20 : zst (zst u 20 4 0) 39 12 0 20 4 = 0 := by rw [zst_o _ (by decide), zst_s]
    have e39 : ∀ j, j ≠ 12 → zst (zst u 20 4 0) 39 12 0 39 j = u 39 j := fun j hj => by rw [zst_j _ hj, zst_o _ (by decide)]
    obtain ⟨h1, h2, h3, h4, h5, h6⟩ := hu
    refine ⟨?_, ?_, ?_, ⟨0, by decide, e20, zst_s _ _ _ _, fun j hj => absurd hj (by omega)⟩, ?_, ?_⟩
    · unfold vTown
      rw [e 40 (by decide) (by decide)]
      exact ⟨h1.1, tIs_congr (fun k hk => e _ (by omega) (by omega)) h1.2⟩
    · unfold vKept
      rw [e 0 (by decide) (by decide), e 41 (by decide) (by decide), e39 2 (by decide)]
      exact ⟨h2.1, h2.2.1, fun q => ⟨(h2.2.2 q).1, tIs_congr (fun k hk => e _ (by omega) (by omega)) (h2.2.2 q).2⟩⟩
    · unfold vFind
      rw [e 42 (by decide) (by decide), e 28 (by decide) (by decide)]
      exact h3
    · intro s hs
      rw [e (31 + 2 * s) (by omega) (by omega), e (31 + 2 * s + 1) (by omega) (by omega), e 51 (by decide) (by decide), e 52 (by decide) (by decide), e 53 (by decide) (by decide)]
      exact h5 s hs
    · unfold vSlip
      rw [e 44 (by decide) (by decide)]
      exact h6
/-- only what is kept changes -/
theorem Inv.kept {u v : zM} (hu : Inv u) (h : ∀ q, q ≠ 0 → ¬ (8 ≤ q ∧ q ≤ 14) → q ≠ 39 → q ≠ 41 → v q = u q) (h12 : v 39 12 = u 39 12) (hk : vKept v) : Inv v := by
  obtain ⟨h1, h2, h3, h4, h5, h6⟩ := hu
  refine ⟨?_, hk, ?_, ?_, ?_, ?_⟩
  · unfold vTown
    rw [h 40 (by decide) (by decide) (by decide) (by decide)]
    exact ⟨h1.1, tIs_congr (fun k hk => h _ (by omega) (by omega) (by omega) (by omega)) h1.2⟩
  · unfold vFind
    rw [h 42 (by decide) (by decide) (by decide) (by decide), h 28 (by decide) (by decide) (by decide) (by decide)]
    exact h3
  · unfold vTape
    rw [h 20 (by decide) (by decide) (by decide) (by decide), h12, h 21 (by decide) (by decide) (by decide) (by decide), h 47 (by decide) (by decide) (by decide) (by decide)]
    exact h4
  · intro s hs
    rw [h (31 + 2 * s) (by omega) (by omega) (by omega) (by omega), h (31 + 2 * s + 1) (by omega) (by omega) (by omega) (by omega), h 51 (by decide) (by decide) (by decide) (by decide), h 52 (by decide) (by decide) (by decide) (by decide), h 53 (by decide) (by decide) (by decide) (by decide)]
    exact h5 s hs
  · unfold vSlip
    rw [h 44 (by decide) (by decide) (by decide) (by decide)]
    exact h6
theorem p_tear : B_tear Inv := by
  intro u hu
  obtain ⟨k1, k2, k3⟩ := hu.2.1
  have key : Inv (zst (zst u 0 9 0) 39 2 0) := by
    refine hu.kept (fun q h1 _ h3 _ => by rw [zst_o _ h3, zst_o _ h1]) (by rw [zst_j _ (by decide), zst_o _ (by decide)]) ?_
    unfold vKept
    rw [zst_s, zst_o _ (by decide), zst_s]
    exact ⟨rfl, Or.inl rfl, fun q => absurd q (by decide)⟩
  unfold m_X5_tear m_X6_tear
  rcases k2 with q | q
  · refine ⟨0, zst u 0 9 0, _, by rw [if_pos (by rw [k1]; exact q), zlet_s], by rw [if_pos (by rw [zst_o _ (by decide)]; exact q), zlet_s], key⟩
  · refine ⟨1, zst u 0 9 0, _, by rw [if_neg (by rw [k1, q]; decide), zlet_s], by rw [if_neg (by rw [zst_o _ (by decide), q]; decide), zlet_s], key⟩
theorem p_status : B_status Inv := by
  intro a u hu
  obtain ⟨f1, f2⟩ := hu.2.2.1
  unfold m_X5_status m_X6_status
  simp only [w5_eq, w6_eq, if_0]
  by_cases c : (-1 : Int32) ≤ a ∧ a ≤ 6
  · rw [if_neg (fun z => z c)]
    simp only [if_neg (fun z : ¬ (-1 ≤ a ∧ a ≤ 6) => z c)]
    by_cases c2 : a < 0
    · have ea : a = -1 := by
        have h1 := Int32.le_iff_toInt_le.mp c.1
        have h2 := Int32.lt_iff_toInt_lt.mp c2
        rw [← Int32.toInt_inj]
        have e1 : (-1 : Int32).toInt = -1 := by decide
        have e0 : (0 : Int32).toInt = 0 := by decide
        omega
      subst ea
      rw [if_pos c2]
      have e : zit zF (fun s : Int32 × Int32 => m_X5_status_b0 u s.1 s.2) (0, 0) = some (sI (u 28) 7) := by
        refine zit_fn (fun k => (sI (u 28) k, nI k)) 7 _ (by omega) (fun k hk => ?_) ?_
        · unfold m_X5_status_b0
          rw [if_neg (show ¬ 7 ≤ nI k from fun z => by have := (q_le (a := 7) (by omega) (by omega)).mp z; omega), zld_n hk (by decide), zbind_s, show nI k + 1 = nI (k + 1) from q_add k 1]
          rfl
        · unfold m_X5_status_b0
          rw [if_pos (show (7 : Int32) ≤ nI 7 by decide)]
      refine ⟨_, _, u, by rw [e, zbind_s], ?_, hu⟩
      rw [show (-1 : Int32) + 1 = nI 0 by decide, zld_n (by decide) (by decide), zbind_s, f2]
    · rw [if_neg c2]
      obtain ⟨k, -, hk, rfl⟩ := (btw a 0 6 (by decide) (by decide)).mp ⟨i_nlt.mp c2, c.2⟩
      refine ⟨_, _, u, by rw [zld_n (by omega) (by decide), zbind_s], ?_, hu⟩
      rw [show nI k + 1 = nI (k + 1) from q_add k 1, zld_n (by omega) (by decide), zbind_s, f1 k (by omega)]
  · rw [if_pos c]
    simp only [if_pos c]
    exact fin0 hu (g := fun u1 => _) rfl rfl
theorem p_old : B_old Inv := by
  intro a m u hu
  obtain ⟨⟨n, ho⟩, ht⟩ := id hu.1
  obtain ⟨s, hs, es⟩ := ho.2.2.2.2.2.2.2.2.1
  unfold m_X5_old m_X6_old m_X5_isSpring m_X6_isSpring m_X5_isMeasure m_X6_isMeasure
  simp only [w5_eq, w6_eq, zb_if, if_0]
  have ef : fnd5 0 u 40 4 = nI s := by rw [fnd5_c 0 u (by decide)]; exact es
  rw [ht.2.2.2.2.2.1, es]
  by_cases c : (0 : Int32) ≤ a ∧ a ≤ nI s - 1
  · rw [if_neg (fun z => z c)]
    by_cases c2 : (0 : Int32) ≤ m ∧ m ≤ 2
    · rw [if_neg (fun z => z c2)]
      obtain ⟨k, hk, rfl⟩ := (below a s (by omega)).mp c
      obtain ⟨m, -, hm, rfl⟩ := (btw m 0 2 (by decide) (by decide)).mp c2
      unfold m_X4_oldCoat
      rw [idx3, zld_n (by omega) (by decide), zbind_s, zbind_s]
      refine ⟨_, _, u, rfl, ?_, hu⟩
      rw [es, if_neg (fun z => z c), if_neg (fun z => z c2), show (90 : Int32) + 3 * nI k + nI m = nI (90 + (3 * k + m)) from by rw [show (90 : Int32) = nI 90 from rfl, show (3 : Int32) = nI 3 from rfl, q_mul, q_add, q_add, Nat.add_assoc], zld_n (by omega) (by decide), zbind_s]
      rw [show u 6 = u (1 + 5) from rfl, ht.2.2.2.2.2.2.2.2.2.2.2.1 _ (by omega)]
    · rw [if_pos c2]
      refine fin0 hu (g := fun u1 => _) rfl ?_
      rw [ef, if_neg (fun z => z c), if_pos c2]
  · rw [if_pos c]
    refine fin0 hu (g := fun u1 => _) rfl ?_
    rw [ef, if_pos c]
