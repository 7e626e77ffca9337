/-! A BODY'S PARTS CHANGE -/
def fc (f : Nat) : Nat := if f = 0 then 2 else if f < 4 then 3 else f
def fi (f b : Nat) : Nat := if f = 0 then b else if f < 4 then 3 * b + (f - 1) else b
/-- what a part may be -/
def okF (f : Nat) (a : Int32) : Prop := (f = 0 → ∃ k : Nat, k ≤ 6 ∧ a = nI k) ∧ (1 ≤ f ∧ f ≤ 3 → ∃ v : Nat, 50 ≤ v ∧ v ≤ 250 ∧ a = nI v) ∧ (f = 4 → ∃ z : Int, -20 ≤ z ∧ z ≤ 20 ∧ a = Int32.ofInt z) ∧ (f = 5 → ∃ p : Nat, p ≤ 99 ∧ a = nI p)
theorem tOk.bd {t : Nat → Int32} {n b f : Nat} {a : Int32} (h : tOk t n) (hb : b < n) (hf : f < 6) (ha : okF f a) : tOk (upd t (6 + 7 * b + f) a) n := by
  obtain ⟨h1, h2, h3, h4, h5, h6, h7, h8, h9, h10⟩ := h
  refine ⟨h1, by rw [upd_o _ _ (by omega)]; exact h2, fun b' hb' => ?_, fun b' hb' => ?_, fun b' hn hb' => ?_, by rw [upd_o _ _ (by omega)]; exact h6, by rw [upd_o _ _ (by omega)]; exact h7, by rw [upd_o _ _ (by omega)]; exact h8, by rw [upd_o _ _ (by omega)]; exact h9, fun i hi => by rw [upd_o _ _ (by omega)]; exact h10 i hi⟩
  · obtain ⟨k1, k2, k3, k4⟩ := h3 b' hb'
    by_cases c : b' = b
    · subst c
      refine ⟨?_, fun m hm => ?_, ?_, ?_⟩
      · unfold tK
        by_cases c0 : f = 0
        · subst c0; rw [Nat.add_zero, upd_s]; exact ha.1 rfl
        · rw [upd_o _ _ (by omega)]; exact k1
      · unfold tM
        by_cases c0 : f = 1 + m
        · subst c0; rw [show 6 + 7 * b' + (1 + m) = 6 + 7 * b' + 1 + m by omega, upd_s]; exact ha.2.1 (by omega)
        · rw [upd_o _ _ (by omega)]; exact k2 m hm
      · unfold tB
        by_cases c0 : f = 4
        · subst c0; rw [upd_s]; exact ha.2.2.1 rfl
        · rw [upd_o _ _ (by omega)]; exact k3
      · unfold tP
        by_cases c0 : f = 5
        · subst c0; rw [upd_s]; exact ha.2.2.2 rfl
        · rw [upd_o _ _ (by omega)]; exact k4
    · refine ⟨?_, fun m hm => ?_, ?_, ?_⟩
      · unfold tK; rw [upd_o _ _ (by omega)]; exact k1
      · unfold tM; rw [upd_o _ _ (by omega)]; exact k2 m hm
      · unfold tB; rw [upd_o _ _ (by omega)]; exact k3
      · unfold tP; rw [upd_o _ _ (by omega)]; exact k4
  · unfold tH; rw [upd_o _ _ (by omega)]; exact h4 b' hb'
  · unfold tH; rw [upd_o _ _ (by omega)]; exact h5 b' hn hb'
theorem tIs.bd {u : zM} {t : Nat → Int32} {b f : Nat} {a : Int32} (h : tIs u 1 t) (hb : b < 12) (hf : f < 6) : tIs (zst u (fc f) (fi f b) a) 1 (upd t (6 + 7 * b + f) a) := by
  obtain ⟨i0, i1, i2, i3, i4, i5, i6, i7, i8, i9, i10, i11, i12⟩ := h
  have hc : 2 ≤ fc f ∧ fc f ≤ 5 := by unfold fc; split <;> (try split) <;> omega
  have e1 : zst u (fc f) (fi f b) a 1 = u 1 := zst_o u (by omega)
  have e6 : zst u (fc f) (fi f b) a (1 + 5) = u 6 := zst_o u (by omega)
  have e7 : zst u (fc f) (fi f b) a (1 + 6) = u 7 := zst_o u (by omega)
  have eH : tSet (upd t (6 + 7 * b + f) a) = tSet t := tSet_congr (fun b' _ => by unfold tH; rw [upd_o _ _ (by omega)])
  unfold tIs
  rw [e1, e6, e7, eH, upd_o _ _ (by omega), upd_o _ _ (by omega), upd_o _ _ (by omega), upd_o _ _ (by omega), upd_o _ _ (by omega), upd_o _ _ (by omega)]
  refine ⟨i0, i1, i2, i3, i4, i5, i6, fun b' hb' => ?_, fun b' m hb' hm => ?_, fun b' hb' => ?_, fun b' hb' => ?_, fun j hj => ?_, fun i hi => ?_⟩
  · show zst u (fc f) (fi f b) a 2 b' = _
    rw [zst_g]
    unfold tK fc fi
    by_cases c0 : f = 0
    · subst c0
      by_cases c : b' = b
      · subst c; simp [upd]
      · rw [if_neg (by simp [c]), upd_o _ _ (by omega)]; exact i7 b' hb'
    · rw [if_neg (by simp only [if_neg c0]; split <;> omega), upd_o _ _ (by omega)]; exact i7 b' hb'
  · show zst u (fc f) (fi f b) a 3 (3 * b' + m) = _
    rw [zst_g]
    unfold tM fc fi
    by_cases c0 : f = 0
    · rw [if_neg (by simp [c0]), upd_o _ _ (by omega)]; exact i8 b' m hb' hm
    · by_cases c4 : f < 4
      · simp only [if_neg c0, if_pos c4]
        by_cases c : 3 * b' + m = 3 * b + (f - 1)
        · have hbb : b' = b ∧ m = f - 1 := by omega
          rw [if_pos ⟨by first | rfl | trivial, c⟩, show 6 + 7 * b' + 1 + m = 6 + 7 * b + f by omega, upd_s]
        · rw [if_neg (fun z => c z.2), upd_o _ _ (by omega)]; exact i8 b' m hb' hm
      · simp only [if_neg c0, if_neg c4]
        rw [if_neg (by omega), upd_o _ _ (by omega)]; exact i8 b' m hb' hm
  · show zst u (fc f) (fi f b) a 4 b' = _
    rw [zst_g]
    unfold tB fc fi
    by_cases c0 : f = 4
    · subst c0
      by_cases c : b' = b
      · subst c; simp [upd]
      · rw [if_neg (by simp [c]), upd_o _ _ (by omega)]; exact i9 b' hb'
    · rw [if_neg (by split <;> (try split) <;> omega), upd_o _ _ (by omega)]; exact i9 b' hb'
  · show zst u (fc f) (fi f b) a 5 b' = _
    rw [zst_g]
    unfold tP fc fi
    by_cases c0 : f = 5
    · subst c0
      by_cases c : b' = b
      · subst c; simp [upd]
      · rw [if_neg (by simp [c]), upd_o _ _ (by omega)]; exact i10 b' hb'
    · rw [if_neg (by split <;> (try split) <;> omega), upd_o _ _ (by omega)]; exact i10 b' hb'
  · rw [upd_o _ _ (by omega)]; exact i11 j hj
  · rw [upd_o _ _ (by omega)]; exact i12 i hi
theorem fc_T {f : Nat} (hf : f < 6) : (1 ≤ fc f ∧ fc f ≤ 7) ∨ fc f = 40 := by unfold fc; split <;> (try split) <;> omega
theorem fc_40 {f : Nat} (hf : f < 6) : fc f ≠ 40 := by unfold fc; split <;> (try split) <;> omega
theorem vTown.bd {u : zM} {n b f : Nat} {a : Int32} (ho : tOk (u 40) n) (h : tIs u 1 (u 40)) (hb : b < n) (hf : f < 6) (ha : okF f a) : vTown (zst (zst u (fc f) (fi f b) a) 40 (6 + 7 * b + f) a) := by
  have e40 : zst (zst u (fc f) (fi f b) a) 40 (6 + 7 * b + f) a 40 = upd (u 40) (6 + 7 * b + f) a := by rw [row_st, zst_o u (Ne.symm (fc_40 hf))]
  unfold vTown
  rw [e40]
  exact ⟨⟨n, ho.bd hb hf ha⟩, tIs_congr (fun k hk => zst_o _ (by omega)) (h.bd (by have := ho.1; omega) hf)⟩
theorem put5_eq {u : zM} {b f : Nat} {a : Int32} (hb : b < 12) (hf : f < 6) : m_X4_put (nI b) (nI f) a u = some (zst u (fc f) (fi f b) a) := by
  have hi : ∀ m, m < 3 → ∀ x : Int32, x = nI m → m_X4_setInches (nI b) x a u = some (zst u 3 (3 * b + m) a) := by
    rintro m hm x rfl
    unfold m_X4_setInches
    rw [idx3, zsv_n (by omega) (by decide), zbind_s]
  have h1 := hi 0 (by decide) (nI 1 - 1) (by decide)
  have h2 := hi 1 (by decide) (nI 2 - 1) (by decide)
  have h3 := hi 2 (by decide) (nI 3 - 1) (by decide)
  unfold m_X4_put
  have hf' : f = 0 ∨ f = 1 ∨ f = 2 ∨ f = 3 ∨ f = 4 ∨ f = 5 := by omega
  rcases hf' with rfl | rfl | rfl | rfl | rfl | rfl <;> simp (decide := true) only [↓reduceIte, zsv_n hb (by decide : (12 : Nat) ≤ 100000), h1, h2, h3, zbind_s] <;> rfl
theorem mb_eq (v : Int32) : ∀ k, k < 6 → m_X4_mayBecome (nI k) v = m_X6_mayBe (nI k) v := by
  intro k hk
  unfold m_X4_mayBecome m_X6_mayBe m_X5_isKind
  have hf' : k = 0 ∨ k = 1 ∨ k = 2 ∨ k = 3 ∨ k = 4 ∨ k = 5 := by omega
  rcases hf' with rfl | rfl | rfl | rfl | rfl | rfl <;> simp (decide := true) only [↓reduceIte, w5_eq, w6_eq, zb_if]
theorem mb_ok {v : Int32} {k : Nat} (hk : k < 6) (h : ¬ m_X6_mayBe (nI k) v = 0) : okF k v := by
  unfold m_X6_mayBe at h
  have hf' : k = 0 ∨ k = 1 ∨ k = 2 ∨ k = 3 ∨ k = 4 ∨ k = 5 := by omega
  rcases hf' with rfl | rfl | rfl | rfl | rfl | rfl <;> simp (decide := true) only [↓reduceIte, w6_eq, zb_if, if_0, Classical.not_not] at h <;> refine ⟨fun q => ?_, fun q => ?_, fun q => ?_, fun q => ?_⟩ <;> first | (exfalso; omega) | skip
  · obtain ⟨k, -, h1, h2⟩ := (btw v 0 6 (by decide) (by decide)).mp h; exact ⟨k, h1, h2⟩
  · exact (btw v 50 250 (by decide) (by decide)).mp h
  · exact (btw v 50 250 (by decide) (by decide)).mp h
  · exact (btw v 50 250 (by decide) (by decide)).mp h
  · refine ⟨v.toInt, ?_, ?_, (Int32.ofInt_toInt v).symm⟩
    · exact Int32.le_iff_toInt_le.mp h.1
    · exact Int32.le_iff_toInt_le.mp h.2
  · obtain ⟨k, -, h1, h2⟩ := (btw v 0 99 (by decide) (by decide)).mp h; exact ⟨k, h1, h2⟩
theorem mb_no {w v : Int32} (h : ¬ (0 ≤ w ∧ w ≤ 5)) : m_X4_mayBecome w v = 0 := by
  have e : ∀ k : Nat, k < 6 → ¬ w = nI k := fun k hk z => h ((btw w 0 5 (by decide) (by decide)).mpr ⟨k, Nat.zero_le _, by omega, z⟩)
  unfold m_X4_mayBecome
  rw [if_neg (show ¬ w = 0 from e 0 (by decide)), if_neg (show ¬ w = 1 from e 1 (by decide)), if_neg (show ¬ w = 2 from e 2 (by decide)), if_neg (show ¬ w = 3 from e 3 (by decide)), if_neg (show ¬ w = 4 from e 4 (by decide)), if_neg (show ¬ w = 5 from e 5 (by decide))]
/-- an end with a finding, class and reference alike -/
theorem fin0 {u : zM} (hu : Inv u) {x : Option (Int32 × zM)} {g : zM → Option (Int32 × zM)} (hx : x = zbind2 (m_X5_finding 0 u) (fun x y => some (x, y))) (hg : g (fnd5 0 u) = zbind2 (m_X6_finding (-1000001) (fnd5 0 u)) (fun x y => some (x, y))) : ∃ (r : Int32) (u1 u2 : zM), x = some (r, u1) ∧ g u1 = some (r, u2) ∧ Inv u2 :=
  ⟨-1000001, fnd5 0 u, fnd6 0 (fnd5 0 u), by rw [hx, f5_0]; rfl, by rw [hg, f6_0]; rfl, hu.fnd (by decide)⟩
theorem p_change : B_change Inv := by
  intro a w v u hu
  obtain ⟨⟨n, ho⟩, ht⟩ := id hu.1
  unfold m_X5_change m_X6_change
  simp only [ib5_eq (ht.1.trans ho.2.1), w6_eq, if_0]
  have eF : ∀ x, m_X6_isBody x (fnd5 0 u) = if 0 ≤ x ∧ x ≤ nI n - 1 then 1 else 0 := fun x => ib6_eq (by rw [fnd5_c 0 u (by decide)]; exact ho.2.1) x
  by_cases c : (0 : Int32) ≤ a ∧ a ≤ nI n - 1
  · rw [if_neg (fun z => z c)]
    obtain ⟨b, hb, rfl⟩ := (below a n (by have := ho.1; omega)).mp c
    have hb12 : b < 12 := Nat.lt_of_lt_of_le hb ho.1
    by_cases c2 : (0 : Int32) ≤ w ∧ w ≤ 5
    · obtain ⟨f, -, hf, rfl⟩ := (btw w 0 5 (by decide) (by decide)).mp c2
      rw [mb_eq v f (by omega)]
      by_cases c3 : m_X6_mayBe (nI f) v = 0
      · rw [if_pos c3]
        refine fin0 hu (g := fun u1 => _) rfl ?_
        rw [eF, if_pos c, if_neg (by decide), if_neg (fun z => z c2), if_pos c3]
      · rw [if_neg c3, te5 ht ho hb (by omega), zbind_s, put5_eq hb12 (by omega), zbind_s]
        have hT := (sameT.st (u := u) (j := fi f b) (v := v) (fc_T (f := f) (by omega)))
        have e40 : zst u (fc f) (fi f b) v 40 = u 40 := zst_o u (Ne.symm (fc_40 (by omega)))
        refine ⟨_, _, _, rfl, ?_, hu.town (hT.tr (sameT.st (q := 40) (j := 6 + 7 * b + f) (v := v) (by omega))) (vTown.bd ho ht hb (by omega) (mb_ok (by omega) c3))⟩
        rw [ib6_eq (by rw [e40]; exact ho.2.1), if_pos c, if_neg (by decide), if_neg (fun z => z c2), if_neg c3, idx7, become_n (by omega), zbind2_s, e40]
        unfold tellS
        rw [if_pos (by omega)]
    · rw [mb_no c2, if_pos rfl]
      refine fin0 hu (g := fun u1 => _) rfl ?_
      rw [eF, if_pos c, if_neg (by decide), if_pos c2]
  · rw [if_pos c]
    refine fin0 hu (g := fun u1 => _) rfl ?_
    rw [eF, if_neg c, if_pos rfl]
