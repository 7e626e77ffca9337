/-! THE TAILOR'S COAT, AND THE REFERENCE'S ROW -/
theorem tot_pos {n s : Nat} {C : Nat → Nat} (h0 : s ≠ 0) (hs : ∀ b, s.testBit b = true → b < n) (hC : ∀ b, 1 ≤ C b) : 0 < tot n C s := by
  obtain ⟨b, hb⟩ := Nat.exists_testBit_of_ne_zero h0
  have h1 := sN_one (g := wt C s) (hs b hb)
  have h2 : wt C s b = C b := if_pos hb
  have h3 := hC b
  unfold tot; omega
theorem cutAll_ok {u : zM} {n s : Nat} {V : Nat → Nat → Int32} {C : Nat → Nat} (h : msd u n V C) (hn : n ≤ 12) (hs : s < 4096) (h0 : 0 < tot n C s) (hC : ∀ b, 1 ≤ C b) (hC3 : ∀ b, C b ≤ 3) (h00 : s ≠ 0) (rule : Int32) :
    ∃ v, m_X2_cutAll (nI s) rule u = some (1, v) ∧ (∀ q, q ≠ 19 → v q = u q) ∧ ∀ m, m < 3 → v 19 m = cutV rule n (V m) C s := by
  unfold m_X2_cutAll
  rw [if_neg (show ¬ nI s = 0 from fun e => h00 (q_inj (b := 0) (by omega) (by decide) e))]
  obtain ⟨v, e, h1, h2⟩ : ∃ v, zit zF (fun s' : Int32 × zM => m_X2_cutAll_b0 (nI s) rule s'.1 s'.2) (0, u) = some v ∧ (∀ q, q ≠ 19 → v q = u q) ∧ ∀ m, m < 3 → v 19 m = cutV rule n (V m) C s := by
    refine zit_inv (fun k s' => s'.1 = nI k ∧ (∀ q, q ≠ 19 → s'.2 q = u q) ∧ ∀ m, m < k → s'.2 19 m = cutV rule n (V m) C s) 3 _ _ (by omega) ⟨rfl, fun _ _ => rfl, fun m hm => absurd hm (by omega)⟩ ?_ ?_
    · rintro m ⟨x, w⟩ hm ⟨rfl, h1, h2⟩
      simp only at h1 h2 ⊢
      unfold m_X2_cutAll_b0
      rw [if_neg (show ¬ (3 : Int32) ≤ nI m from fun z => by have := (q_le (a := 3) (by decide) (by omega)).mp z; omega)]
      rw [cutOne_ok (h.cg ⟨h1 15 (by decide), h1 16 (by decide), h1 17 (by decide), h1 18 (by decide)⟩) hn hs hm h0 hC hC3, zbind_s, zsv_n (by omega) (by decide), zbind_s]
      refine ⟨_, rfl, q_add m 1, fun q hq => (zst_o _ hq).trans (h1 q hq), fun m' hm' => ?_⟩
      show zst w 19 m (cutV rule n (V m) C s) 19 m' = _
      rw [zst_g]
      by_cases c : m' = m
      · subst c; rw [if_pos ⟨rfl, rfl⟩]
      · rw [if_neg (by omega)]; exact h2 m' (by omega)
    · rintro ⟨x, w⟩ ⟨rfl, h1, h2⟩
      simp only at h1 h2 ⊢
      unfold m_X2_cutAll_b0
      rw [if_pos (show (3 : Int32) ≤ nI 3 by decide)]
      exact ⟨_, rfl, h1, h2⟩
  exact ⟨v, by rw [e, zbind_s], h1, h2⟩
/-- a sorted row of N numbers, with the counts P and the sum S -/
def rowOk (u : zM) (N : Nat) (P : (Int32 → Bool) → Nat) (S : Int32) : Prop := u 39 7 = nI N ∧ (∀ i j, i < j → j < N → u 45 i ≤ u 45 j) ∧ (∀ p, sN (fun i => if p (u 45 i) = true then 1 else 0) N = P p) ∧ sI (u 45) N = S
theorem rowOk.ext {u : zM} {N N' : Nat} {P P' : (Int32 → Bool) → Nat} {S S' : Int32} (h : rowOk u N P S) (e1 : N' = N) (e2 : ∀ p, P' p = P p) (e3 : S' = S) : rowOk u N' P' S' := by
  rw [e1, show P' = P from funext e2, e3]; exact h
/-- only the row has changed -/
def rowP (u v : zM) : Prop := (∀ q, q ≠ 45 → q ≠ 39 → v q = u q) ∧ ∀ j, j ≠ 7 → v 39 j = u 39 j
theorem rowP.tr {u v w : zM} (h : rowP u v) (h' : rowP v w) : rowP u w := ⟨fun q a b => (h'.1 q a b).trans (h.1 q a b), fun j a => (h'.2 j a).trans (h.2 j a)⟩
theorem rowP.rfl' (u : zM) : rowP u u := ⟨fun _ _ _ => rfl, fun _ _ => rfl⟩
theorem ins_row {u : zM} {N : Nat} {P : (Int32 → Bool) → Nat} {S : Int32} (h : rowOk u N P S) (hN : N < 36) (x y : Int32) :
    ∃ w a, zit zF (fun s : Int32 × zM => m_X6_findRow_b2 x y s.1 s.2) (u 39 7, u) = some (nI a, w) ∧ a ≤ N ∧ (∀ q, q ≠ 45 → w q = u q) ∧ (∀ j, w 45 j = if a < j ∧ j ≤ N then u 45 (j - 1) else u 45 j) ∧ (a = 0 ∨ u 45 (a - 1) ≤ x + y) ∧ ∀ j, a ≤ j → j < N → x + y < u 45 j := by
  rw [h.1]
  obtain ⟨⟨r1, w⟩, e, a, h1, h2, h3, h4, h5, h6⟩ : ∃ r : Int32 × zM, zit zF (fun s : Int32 × zM => m_X6_findRow_b2 x y s.1 s.2) (nI N, u) = some r ∧ ∃ a, r.1 = nI a ∧ a ≤ N ∧ (∀ q, q ≠ 45 → r.2 q = u q) ∧ (∀ j, r.2 45 j = if a < j ∧ j ≤ N then u 45 (j - 1) else u 45 j) ∧ (a = 0 ∨ u 45 (a - 1) ≤ x + y) ∧ ∀ j, a ≤ j → j < N → x + y < u 45 j := by
    refine zit_inv2 (fun k s => s.1 = nI (N - k) ∧ (∀ q, q ≠ 45 → s.2 q = u q) ∧ (∀ j, s.2 45 j = if N - k < j ∧ j ≤ N then u 45 (j - 1) else u 45 j) ∧ ∀ j, N - k ≤ j → j < N → x + y < u 45 j) N _ _ (by omega) ⟨rfl, fun _ _ => rfl, fun j => by rw [if_neg (by omega)], fun j h1 h2 => by omega⟩ ?_ ?_
    · rintro k ⟨z, v⟩ hk ⟨rfl, h1, h2, h3⟩
      simp only at h1 h2 h3 ⊢
      unfold m_X6_findRow_b2
      have e1 : nI (N - k) - 1 = nI (N - k - 1) := by rw [lit_sub1, if_neg (by omega)]
      have e2 : v 45 (N - k - 1) = u 45 (N - k - 1) := by rw [h2, if_neg (by omega)]
      rw [if_neg (show ¬ nI (N - k) ≤ 0 from fun z => by have := (q_le (b := 0) (by omega) (by omega)).mp z; omega), e1, zld_n (by omega) (by decide), zbind_s, zbind_s, e2]
      by_cases c : u 45 (N - k - 1) ≤ x + y
      · rw [if_pos c]
        exact Or.inr ⟨_, rfl, N - k, rfl, by omega, h1, h2, Or.inr c, h3⟩
      · rw [if_neg c, zsv_n (by omega) (by decide), zbind_s, q_m1 (by omega)]
        refine Or.inl ⟨_, rfl, by rw [show N - (k + 1) = N - k - 1 by omega], fun q hq => (zst_o _ hq).trans (h1 q hq), fun j => ?_, fun j h4 h5 => ?_⟩
        · show zst v 45 (N - k) (u 45 (N - k - 1)) 45 j = if N - (k + 1) < j ∧ j ≤ N then u 45 (j - 1) else u 45 j
          rw [zst_g]
          by_cases cj : j = N - k
          · subst cj; rw [if_pos ⟨rfl, rfl⟩, if_pos (by omega)]
          · rw [if_neg (by omega), h2 j]
            by_cases c2 : N - k < j ∧ j ≤ N
            · rw [if_pos c2, if_pos (by omega)]
            · rw [if_neg c2, if_neg (by omega)]
        · by_cases cj : j = N - k - 1
          · subst cj; exact i_nle.mp c
          · exact h3 j (by omega) h5
    · rintro ⟨z, v⟩ ⟨rfl, h1, h2, h3⟩
      simp only at h1 h2 h3 ⊢
      unfold m_X6_findRow_b2
      rw [if_pos (show nI (N - N) ≤ 0 by rw [Nat.sub_self]; decide)]
      exact ⟨_, rfl, N - N, rfl, by omega, h1, h2, Or.inl (by omega), h3⟩
  simp only at h1
  subst h1
  exact ⟨w, a, e, h2, h3, h4, h5, h6⟩
theorem row_add {u w : zM} {N a : Nat} {P : (Int32 → Bool) → Nat} {S x : Int32} (h : rowOk u N P S) (ha : a ≤ N) (h7 : w 39 7 = nI N) (hw : ∀ j, w 45 j = if a < j ∧ j ≤ N then u 45 (j - 1) else u 45 j) (h1 : a = 0 ∨ u 45 (a - 1) ≤ x) (h2 : ∀ j, a ≤ j → j < N → x < u 45 j) :
    rowOk (zst (zst w 45 a x) 39 7 (nI N + 1)) (N + 1) (fun p => P p + if p x = true then 1 else 0) (S + x) := by
  have e : ∀ j, j < N + 1 → zst (zst w 45 a x) 39 7 (nI N + 1) 45 j = ins (u 45) a x j := fun j hj => by
    rw [zst_o _ (by decide), zst_g, hw]
    unfold ins
    by_cases c : j = a
    · subst c; rw [if_pos ⟨rfl, rfl⟩, if_neg (by omega), if_pos rfl]
    · rw [if_neg (by omega)]
      by_cases c2 : j < a
      · rw [if_neg (by omega), if_pos c2]
      · rw [if_pos (by omega), if_neg c2, if_neg c]
  refine ⟨by rw [zst_s]; exact q_add N 1, fun i j h3 h4 => ?_, fun p => ?_, ?_⟩
  · rw [e i (by omega), e j h4]
    exact ins_sorted (key := fun y : Int32 => y) (f := u 45) h.2.1 ha h1 (fun j a b => i_lt_le' (h2 j a b)) i j h3 h4
  · rw [sN_congr (fun i hi => by rw [e i hi]), sN_ins (fun y => if p y = true then 1 else 0) (u 45) x a N ha, h.2.2.1 p]
  · rw [sI_congr (fun i hi => e i hi), sI_ins (fun y => y) (u 45) x a N ha, ← h.2.2.2]
/-- the reference's measure of b, slips and all -/
def measW (u : zM) (m b : Nat) : Int32 := meas (u 40) b m + u 44 (3 * b + m)
theorem measW_cg {u v : zM} (h : rowP u v) : measW v = measW u := by
  funext m b
  unfold measW
  rw [h.1 40 (by decide) (by decide), h.1 44 (by decide) (by decide)]
theorem row_body {u : zM} {N n s m b : Nat} {P : (Int32 → Bool) → Nat} {S : Int32} (h : rowOk u N P S) (ho : tOk (u 40) n) (hs : s < 4096) (hm : m < 3) (hb : b < n) (hN : N + wt (cnt (u 40)) s b ≤ 36) :
    ∃ v, zit zF (fun s' : Int32 × zM => m_X6_findRow_b1 (nI b) (nI s) (nI m) s'.1 s'.2) (0, u) = some v ∧ rowP u v ∧ rowOk v (N + wt (cnt (u 40)) s b) (fun p => P p + if p (measW u m b) = true then wt (cnt (u 40)) s b else 0) (S + if s.testBit b = true then measW u m b * nI (cnt (u 40) b) else 0) := by
  have hn := ho.1
  have hc := cnt_le (u 40) b
  refine zit_inv (fun k s' => s'.1 = nI k ∧ rowP u s'.2 ∧ rowOk s'.2 (N + k) (fun p => P p + if p (measW u m b) = true then k else 0) (S + measW u m b * nI k)) (wt (cnt (u 40)) s b) _ _ (by omega) ⟨rfl, rowP.rfl' u, h.ext rfl (fun p => by split <;> rfl) (by show S + measW u m b * 0 = S; rw [Int32.mul_zero, Int32.add_zero])⟩ ?_ ?_
  · rintro k ⟨x, v⟩ hk ⟨rfl, h1, h2⟩
    simp only at h1 h2 ⊢
    unfold m_X6_findRow_b1
    have c : s.testBit b = true := by
      rcases hh : s.testBit b with _ | _
      · unfold wt at hk; rw [hh, if_neg (by decide)] at hk; omega
      · rfl
    have hwt : wt (cnt (u 40)) s b = cnt (u 40) b := if_pos c
    have e40 : v 40 = u 40 := h1.1 40 (by decide) (by decide)
    rw [ti6 v (by omega), zbind_s, e40, if_neg (fun z => by have := (q_le (by omega) (by omega)).mp z; omega), h6_eq (by omega) (by omega), if_pos c, if_neg (by decide)]
    rw [me6 v (by omega) hm (by rw [e40]; exact (ho.2.2.1 b hb).1), zbind_s, show 3 * nI b + nI m = nI (3 * b + m) from by rw [show (3 : Int32) = nI 3 from rfl, q_mul, q_add], zld_n (by omega) (by decide), zbind_s]
    obtain ⟨w, a, e, i1, i2, i3, i4, i5⟩ := ins_row h2 (by omega) (meas (v 40) b m) (v 44 (3 * b + m))
    have ex : meas (v 40) b m + v 44 (3 * b + m) = measW u m b := congrFun (congrFun (measW_cg h1) m) b
    rw [e, zbind2_s, zsv_n (by omega) (by decide), zbind_s, zlet_s, ex, zst_o _ (by decide), i2 39 (by decide), h2.1]
    rw [ex] at i4 i5
    refine ⟨_, rfl, q_add k 1, ⟨fun q p1 p2 => ?_, fun j hj => ?_⟩, ?_⟩
    · exact (zst_o _ p2).trans ((zst_o _ p1).trans ((i2 q p1).trans (h1.1 q p1 p2)))
    · exact (zst_j _ hj).trans ((congrFun (zst_o _ (by decide)) j).trans ((congrFun (i2 39 (by decide)) j).trans (h1.2 j hj)))
    · refine (row_add h2 i1 (by rw [i2 39 (by decide)]; exact h2.1) i3 i4 i5).ext (by omega) (fun p => ?_) ?_
      · by_cases cp : p (measW u m b) = true
        · simp only [if_pos cp]; omega
        · simp only [if_neg cp]
      · rw [← q_add k 1, Int32.mul_add, show nI 1 = (1 : Int32) from rfl, Int32.mul_one, Int32.add_assoc]
  · rintro ⟨x, v⟩ ⟨rfl, h1, h2⟩
    simp only at h1 h2 ⊢
    unfold m_X6_findRow_b1
    have e40 : v 40 = u 40 := h1.1 40 (by decide) (by decide)
    rw [ti6 v (by omega), zbind_s, e40, h6_eq (by omega) (by omega)]
    by_cases c : s.testBit b = true
    · have hwt : wt (cnt (u 40)) s b = cnt (u 40) b := if_pos c
      rw [hwt, if_pos (i_le_refl _)]
      rw [hwt] at h2
      exact ⟨_, rfl, h1, h2.ext rfl (fun _ => rfl) (by rw [if_pos c])⟩
    · have hwt : wt (cnt (u 40)) s b = 0 := if_neg c
      have hp := cnt_pos (u 40) b
      rw [hwt, if_neg (fun z => by have := (q_le (b := 0) (by omega) (by omega)).mp z; omega), if_neg c, if_pos rfl]
      rw [hwt] at h2
      exact ⟨_, rfl, h1, h2.ext rfl (fun _ => rfl) (by rw [if_neg c, show nI 0 = (0 : Int32) from rfl, Int32.mul_zero])⟩
theorem findRow_ok {u : zM} {n s m : Nat} (ho : tOk (u 40) n) (hs : s < 4096) (hm : m < 3) :
    ∃ v, m_X6_findRow (nI s) (nI m) u = some v ∧ rowP u v ∧ rowOk v (tot n (cnt (u 40)) s) (fun p => sN (fun b => if p (measW u m b) = true then wt (cnt (u 40)) s b else 0) n) (cSum n (measW u m) (cnt (u 40)) s) := by
  have hn := ho.1
  have h36 := tot_le (s := s) hn (cnt_le (u 40))
  unfold m_X6_findRow
  rw [zlet_s]
  obtain ⟨v, e, h⟩ : ∃ v, zit zF (fun s' : Int32 × zM => m_X6_findRow_b0 (nI s) (nI m) s'.1 s'.2) (0, zst u 39 7 0) = some v ∧ rowP u v ∧ rowOk v (tot n (cnt (u 40)) s) (fun p => sN (fun b => if p (measW u m b) = true then wt (cnt (u 40)) s b else 0) n) (cSum n (measW u m) (cnt (u 40)) s) := by
    refine zit_inv (fun k s' => s'.1 = nI k ∧ rowP u s'.2 ∧ rowOk s'.2 (tot k (cnt (u 40)) s) (fun p => sN (fun b => if p (measW u m b) = true then wt (cnt (u 40)) s b else 0) k) (cSum k (measW u m) (cnt (u 40)) s)) n _ _ (by omega) ⟨rfl, ⟨fun q _ p2 => zst_o _ p2, fun j hj => zst_j (q := 39) (v := 0) u hj⟩, ⟨zst_s u 39 7 0, fun i j _ h2 => absurd h2 (by show ¬ j < 0; omega), fun p => rfl, rfl⟩⟩ ?_ ?_
    · rintro k ⟨x, v⟩ hk ⟨rfl, h1, h2⟩
      simp only at h1 h2 ⊢
      unfold m_X6_findRow_b0
      have e40 : v 40 = u 40 := h1.1 40 (by decide) (by decide)
      rw [e40, ho.2.1, if_neg (fun z => by have := (q_le (by omega) (by omega)).mp z; omega)]
      have hle : tot k (cnt (u 40)) s + wt (cnt (u 40)) s k ≤ 36 := Nat.le_trans (sN_mono (g := wt (cnt (u 40)) s) (show k + 1 ≤ n by omega)) h36
      obtain ⟨w, e, r1, r2⟩ := row_body h2 (by rw [e40]; exact ho) hs hm hk (by rw [e40]; exact hle)
      rw [e40, measW_cg h1] at r2
      rw [e, zbind_s]
      exact ⟨_, rfl, q_add k 1, h1.tr r1, r2⟩
    · rintro ⟨x, v⟩ ⟨rfl, h1, h2⟩
      simp only at h1 h2 ⊢
      unfold m_X6_findRow_b0
      rw [h1.1 40 (by decide) (by decide), ho.2.1, if_pos (i_le_refl _)]
      exact ⟨_, rfl, h1, h2⟩
  exact ⟨v, by rw [e, zbind_s], h⟩
theorem rowSum_ok {u : zM} {N : Nat} {P : (Int32 → Bool) → Nat} {S : Int32} (h : rowOk u N P S) (hN : N ≤ 36) : m_X6_rowSum u = some S := by
  unfold m_X6_rowSum
  have e : zit zF (fun s' : Int32 × Int32 => m_X6_rowSum_b0 u s'.1 s'.2) (sI (u 45) 0, nI 0) = some S := by
    refine zit_fn (fun k => (sI (u 45) k, nI k)) N _ (by omega) (fun k hk => ?_) ?_
    · show m_X6_rowSum_b0 u (sI (u 45) k) (nI k) = some (.inl (sI (u 45) (k + 1), nI (k + 1)))
      unfold m_X6_rowSum_b0
      rw [h.1, if_neg (fun z => by have := (q_le (by omega) (by omega)).mp z; omega), zld_n (by omega) (by decide), zbind_s, ← q_add k 1]; rfl
    · show m_X6_rowSum_b0 u (sI (u 45) N) (nI N) = _
      unfold m_X6_rowSum_b0
      rw [h.1, if_pos (i_le_refl _), h.2.2.2]
  exact (congrArg (fun x => zbind x (fun x3 => some x3)) e).trans rfl
theorem cutFor_ok {u : zM} {n s m : Nat} (ho : tOk (u 40) n) (hs : s < 4096) (hm : m < 3) (h0 : 0 < tot n (cnt (u 40)) s) :
    ∃ v, m_X6_cutFor (nI s) (nI m) u = some (cutV (u 40 1) n (measW u m) (cnt (u 40)) s, v) ∧ rowP u v := by
  have hn := ho.1
  have h36 := tot_le (s := s) hn (cnt_le (u 40))
  obtain ⟨v, e, h1, h2⟩ := findRow_ok ho hs hm
  refine ⟨v, ?_, h1⟩
  unfold m_X6_cutFor
  rw [e, zbind_s, h1.1 40 (by decide) (by decide), h2.1]
  obtain ⟨r, hr, er⟩ := ho.2.2.2.2.2.1
  have e1 : nI (tot n (cnt (u 40)) s) - 1 = nI (tot n (cnt (u 40)) s - 1) := q_sub (a := tot n (cnt (u 40)) s) (b := 1) (by omega)
  by_cases c0 : u 40 1 = 0
  · rw [if_pos c0, rowSum_ok h2 h36, zbind_s, if_neg (tot_z h0 (cnt_le _) hn), ← isCut.v (show isCut (u 40 1) n (measW u m) (cnt (u 40)) s (cSum n (measW u m) (cnt (u 40)) s / nI (tot n (cnt (u 40)) s)) by
      unfold isCut; rw [c0, if_neg (by decide), if_neg (by decide)])]
  · rw [if_neg c0]
    by_cases c1 : u 40 1 = 1
    · have e2 : (nI (tot n (cnt (u 40)) s) - 1) / 2 = nI ((tot n (cnt (u 40)) s - 1) / 2) := by
        rw [e1]; exact q_div (d := 2) (by omega) (by decide) (by decide)
      rw [if_pos c1, e2, zld_n (by omega) (by decide), zbind_s, ← isCut.v (show isCut (u 40 1) n (measW u m) (cnt (u 40)) s (v 45 ((tot n (cnt (u 40)) s - 1) / 2)) by
        unfold isCut; rw [if_pos c1]; exact oAt_row h2.2.1 h2.2.2.1 (by omega))]
    · have c2 : u 40 1 = 2 := by
        have : r = 0 ∨ r = 1 ∨ r = 2 := by omega
        rcases this with z | z | z
        · subst z; exact absurd er c0
        · subst z; exact absurd er c1
        · subst z; exact er
      rw [if_neg c1, e1, zld_n (by omega) (by decide), zbind_s, ← isCut.v (show isCut (u 40 1) n (measW u m) (cnt (u 40)) s (v 45 (tot n (cnt (u 40)) s - 1)) by
        unfold isCut; rw [if_neg c1, if_pos c2]; exact oAt_row h2.2.1 h2.2.2.1 (by omega))]
