/-! HERE, FAMINE, FINES AND SMALL THINGS -/
theorem fin {j : Nat} (hj : j < 7) {u : zM} (hu : Inv u) {x : Option (Int32 × zM)} {g : zM → Option (Int32 × zM)} (hx : x = zbind2 (m_X5_finding (nI j) u) (fun x y => some (x, y))) (hg : g (fnd5 j u) = zbind2 (m_X6_finding (-1000001 - nI j) (fnd5 j u)) (fun x y => some (x, y))) : ∃ (r : Int32) (u1 u2 : zM), x = some (r, u1) ∧ g u1 = some (r, u2) ∧ Inv u2 :=
  ⟨_, fnd5 j u, fnd6 j (fnd5 j u), by rw [hx, f5_eq hj]; rfl, by rw [hg, f6_eq hj]; rfl, hu.fnd hj⟩
theorem ib6_f {u : zM} {n j : Nat} (h : u 40 0 = nI n) (x : Int32) : m_X6_isBody x (fnd5 j u) = if 0 ≤ x ∧ x ≤ nI n - 1 then 1 else 0 := ib6_eq (by rw [fnd5_c j u (by decide)]; exact h) x
theorem tSet_upd {t : Nat → Int32} {b : Nat} (hb : b < 12) (p : Bool) (i : Nat) : (tSet (upd t (6 + 7 * b + 6) (if p then 1 else 0))).testBit i = if i = b then p else (tSet t).testBit i := by
  rw [tSet_p, pset_bit, tSet_p, pset_bit]
  by_cases c : i = b
  · subst c
    rw [if_pos rfl]
    have : hereP (upd t (6 + 7 * i + 6) (if p then 1 else 0)) i = p := by
      unfold hereP tH
      rw [upd_s]
      cases p <;> rfl
    rw [this]
    simp [hb]
  · rw [if_neg c]
    have : hereP (upd t (6 + 7 * b + 6) (if p then 1 else 0)) i = hereP t i := by
      unfold hereP tH
      rw [upd_o _ _ (by omega)]
    rw [this]
theorem set_on (s b : Nat) (hs : s < 4096) (hb : b < 12) : nI s ||| zshl 1 (nI b) = nI (s ||| 2 ^ b) := by rw [n_shl (by omega), n_or]
theorem set_off {t : Nat → Int32} {b : Nat} (hb : b < 12) : nI (tSet t) &&& (zshl 1 (nI b) ^^^ (-1)) = nI (tSet (upd t (6 + 7 * b + 6) 0)) := by
  refine n_ext (fun i hi => ?_)
  have h := tSet_upd (t := t) hb false i
  rw [if_neg (by decide)] at h
  rw [h, b_and, b_xor, b_m1 i hi, n_shl (by omega), bt_n hi, bt_n hi, Nat.testBit_two_pow]
  by_cases c : i = b
  · subst c; simp
  · simp [c, show ¬ b = i by omega]
theorem tOk.here {t : Nat → Int32} {n b : Nat} {v : Int32} (h : tOk t n) (hb : b < n) (hv : v = 0 ∨ v = 1) : tOk (upd t (6 + 7 * b + 6) v) n := by
  obtain ⟨h1, h2, h3, h4, h5, h6, h7, h8, h9, h10⟩ := h
  refine ⟨h1, by rw [upd_o _ _ (by omega)]; exact h2, fun b' hb' => ?_, fun b' hb' => ?_, fun b' hn hb' => ?_, by rw [upd_o _ _ (by omega)]; exact h6, by rw [upd_o _ _ (by omega)]; exact h7, by rw [upd_o _ _ (by omega)]; exact h8, by rw [upd_o _ _ (by omega)]; exact h9, fun i hi => by rw [upd_o _ _ (by omega)]; exact h10 i hi⟩
  · obtain ⟨k1, k2, k3, k4⟩ := h3 b' hb'
    refine ⟨by unfold tK; rw [upd_o _ _ (by omega)]; exact k1, fun m hm => by unfold tM; rw [upd_o _ _ (by omega)]; exact k2 m hm, by unfold tB; rw [upd_o _ _ (by omega)]; exact k3, by unfold tP; rw [upd_o _ _ (by omega)]; exact k4⟩
  · unfold tH
    by_cases c : b' = b
    · subst c; rw [upd_s]; exact hv
    · rw [upd_o _ _ (by omega)]; exact h4 b' hb'
  · unfold tH; rw [upd_o _ _ (by omega)]; exact h5 b' hn hb'
theorem tIs.here {u : zM} {t : Nat → Int32} {b : Nat} {v s : Int32} (h : tIs u 1 t) (hb : b < 12) (hs : s = nI (tSet (upd t (6 + 7 * b + 6) v))) : tIs (zst u 1 7 s) 1 (upd t (6 + 7 * b + 6) v) := by
  obtain ⟨i0, i1, i2, i3, i4, i5, i6, i7, i8, i9, i10, i11, i12⟩ := h
  have e : ∀ c, 2 ≤ c → zst u 1 7 s c = u c := fun c hc => zst_o u (by omega)
  unfold tIs
  rw [e (1 + 1) (by omega), e (1 + 2) (by omega), e (1 + 3) (by omega), e (1 + 4) (by omega), e (1 + 5) (by omega), e (1 + 6) (by omega), row_st, upd_s]
  rw [upd_o (u 1) _ (by decide), upd_o (u 1) _ (by decide), upd_o (u 1) _ (by decide), upd_o (u 1) _ (by decide), upd_o (u 1) _ (by decide), upd_o (u 1) _ (by decide)]
  rw [upd_o t _ (by omega), upd_o t _ (by omega), upd_o t _ (by omega), upd_o t _ (by omega), upd_o t _ (by omega), upd_o t _ (by omega)]
  refine ⟨i0, hs, i2, i3, i4, i5, i6, fun b' hb' => ?_, fun b' m hb' hm => ?_, fun b' hb' => ?_, fun b' hb' => ?_, fun j hj => ?_, fun i hi => ?_⟩
  · unfold tK; rw [upd_o _ _ (by omega)]; exact i7 b' hb'
  · unfold tM; rw [upd_o _ _ (by omega)]; exact i8 b' m hb' hm
  · unfold tB; rw [upd_o _ _ (by omega)]; exact i9 b' hb'
  · unfold tP; rw [upd_o _ _ (by omega)]; exact i10 b' hb'
  · rw [upd_o _ _ (by omega)]; exact i11 j hj
  · rw [upd_o _ _ (by omega)]; exact i12 i hi
theorem p_here : B_here Inv := by
  intro a v hv u hu
  obtain ⟨⟨n, ho⟩, ht⟩ := id hu.1
  unfold m_X5_here m_X6_here
  simp only [ib5_eq (ht.1.trans ho.2.1), if_0]
  by_cases c : (0 : Int32) ≤ a ∧ a ≤ nI n - 1
  · rw [if_neg (fun z => z c)]
    obtain ⟨b, hb, rfl⟩ := (below a n (by have := ho.1; omega)).mp c
    have hb12 : b < 12 := Nat.lt_of_lt_of_le hb ho.1
    rw [show (6 : Int32) = nI 6 from rfl, te5 ht ho hb (by decide), zbind_s]
    have key : ∀ s : Int32, s = nI (tSet (upd (u 40) (6 + 7 * b + 6) v)) → ∃ (r : Int32) (u1 u2 : zM), (zlet (zst u 1 7 s) (fun u7 => some (tellS (u 40) b 6, u7)) : Option (Int32 × zM)) = some (r, u1) ∧ zbind2 (m_X6_become (nI 6 + 7 * nI b + nI 6) v u1) (fun x y => some (x, y)) = some (r, u2) ∧ Inv u2 := by
      intro s hs
      have e40 : zst u 1 7 s 40 = u 40 := zst_o u (by decide)
      refine ⟨_, _, _, rfl, ?_, hu.town ((sameT.st (u := u) (q := 1) (j := 7) (v := s) (by omega)).tr (sameT.st (q := 40) (j := 6 + 7 * b + 6) (v := v) (by omega))) ?_⟩
      · rw [show nI 6 + 7 * nI b + nI 6 = nI (6 + 7 * b + 6) from idx7 b 6, become_n (by omega), zbind2_s, e40]
        rfl
      · unfold vTown
        rw [row_st, e40]
        exact ⟨⟨n, ho.here hb hv⟩, tIs_congr (fun k hk => zst_o _ (by omega)) (ht.here hb12 hs)⟩
    have e1 : nI (tSet (u 40)) ||| zshl 1 (nI b) = nI (tSet (upd (u 40) (6 + 7 * b + 6) 1)) := by
      refine n_ext (fun i hi => ?_)
      have h := tSet_upd (t := u 40) hb12 true i
      rw [if_pos rfl] at h
      rw [h, b_or, n_shl (by omega), bt_n hi, bt_n hi, Nat.testBit_two_pow]
      by_cases c : i = b
      · subst c; simp
      · simp [c, show ¬ b = i by omega]
    have ib : ∀ u1 : zM, u1 40 = u 40 → (m_X6_isBody (nI b) u1 = 0 ↔ False) := fun u1 h1 => by
      rw [ib6_eq (by rw [h1]; exact ho.2.1), if_pos c]
      exact ⟨fun z => absurd z (by decide), False.elim⟩
    rcases hv with rfl | rfl
    · obtain ⟨r, u1, u2, h1, h2, h3⟩ := key (u 1 7 &&& (zshl 1 (nI b) ^^^ (-1))) (by rw [ht.2.1]; exact set_off hb12)
      refine ⟨r, u1, u2, by rw [if_pos rfl]; exact h1, ?_, h3⟩
      have e : u1 40 = u 40 := by
        cases h1
        exact zst_o u (by decide)
      rw [if_neg (fun z => (ib u1 e).mp z), if_pos rfl]
      exact h2
    · obtain ⟨r, u1, u2, h1, h2, h3⟩ := key (u 1 7 ||| zshl 1 (nI b)) (by rw [ht.2.1]; exact e1)
      refine ⟨r, u1, u2, by rw [if_neg (by decide)]; exact h1, ?_, h3⟩
      have e : u1 40 = u 40 := by
        cases h1
        exact zst_o u (by decide)
      rw [if_neg (fun z => (ib u1 e).mp z), if_neg (by decide)]
      exact h2
  · rw [if_pos c]
    refine fin0 hu (g := fun u1 => _) rfl ?_
    rw [ib6_f ho.2.1, if_neg c, if_pos rfl]
/-! fines -/
theorem p_fines : B_fines Inv := by
  intro u hu
  obtain ⟨⟨n, ho⟩, ht⟩ := id hu.1
  have hn : n ≤ 12 := ho.1
  have e5 : zit zF (fun s : Int32 × Int32 => m_X5_fines_b0 u s.1 s.2) (0, 0) = some (sI (fun b => if hereP (u 40) b = true then tP (u 40) b else 0) n) := by
    refine zit_fn (fun k => (sI (fun b => if hereP (u 40) b = true then tP (u 40) b else 0) k, nI k)) n _ (by omega) (fun k hk => ?_) ?_
    · unfold m_X5_fines_b0
      rw [ht.1, ho.2.1, if_neg (fun z => by have := (q_le (by omega) (by omega)).mp z; omega), ih5_eq ht (by omega)]
      by_cases c : hereP (u 40) k = true
      · simp only [if_pos c, if_neg (show ¬ (1 : Int32) = 0 by decide)]
        rw [show (5 : Int32) = nI 5 from rfl, te5 ht ho hk (by decide), zbind_s, show nI k + 1 = nI (k + 1) from q_add k 1]
        simp only [sI, if_pos c]
        rfl
      · simp only [if_neg c, if_true]
        rw [show nI k + 1 = nI (k + 1) from q_add k 1]
        simp only [sI, if_neg c]
    · unfold m_X5_fines_b0
      rw [ht.1, ho.2.1, if_pos (i_le_refl _)]
  have e6 : zit zF (fun s : Int32 × Int32 => m_X6_fines_b0 u s.1 s.2) (0, 0) = some (sI (fun b => if hereP (u 40) b = true then tP (u 40) b else 0) n) := by
    refine zit_fn (fun k => (sI (fun b => if hereP (u 40) b = true then tP (u 40) b else 0) k, nI k)) n _ (by omega) (fun k hk => ?_) ?_
    · unfold m_X6_fines_b0
      rw [ho.2.1, if_neg (fun z => by have := (q_le (by omega) (by omega)).mp z; omega), show (6 : Int32) = nI 6 from rfl, bi6 u (by omega) (by decide), zbind_s, show (5 : Int32) = nI 5 from rfl, bi6 u (by omega) (by decide), zbind_s, show nI k + 1 = nI (k + 1) from q_add k 1]
      have eh : u 40 (6 + 7 * k + 6) = if hereP (u 40) k = true then 1 else 0 := by
        rcases ho.2.2.2.1 k (by omega) with q | q
        · rw [if_neg (by simp [hereP, q])]; exact q
        · rw [if_pos (by simp [hereP, q])]; exact q
      rw [eh]
      by_cases c : hereP (u 40) k = true
      · simp only [sI, if_pos c, Int32.one_mul]
        rfl
      · simp only [sI, if_neg c, Int32.zero_mul]
    · unfold m_X6_fines_b0
      rw [ho.2.1, if_pos (i_le_refl _)]
  refine ⟨_, u, u, ⟨by unfold m_X5_fines; rw [e5, zbind_s], rfl⟩, ⟨by unfold m_X6_fines; rw [e6, zbind_s, ht.2.2.2.2.1], rfl⟩, hu⟩
