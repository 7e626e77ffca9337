/-! COST, PINS, FITS, COSTS -/
def far (t : Nat → Int32) (b : Nat) (K : Nat → Int32) : Int32 := sI (fun m => zabs (tM t b m - K m)) 3
def costS (t : Nat → Int32) (b : Nat) (K : Nat → Int32) : Int32 := zmax 0 (far t b K - tP t b)
theorem far5 {u : zM} {t : Nat → Int32} {K : Nat → Int32} {b : Nat} (ht : tIs u 1 t) (hK : ∀ m, m < 3 → u 19 m = K m) (hb : b < 12) : m_X2_farOf (nI b) u = some (far t b K) := by
  unfold m_X2_farOf
  have e : zit zF (fun s' : Int32 × Int32 => m_X2_farOf_b0 (nI b) u s'.1 s'.2) (sI (fun m => zabs (tM t b m - K m)) 0, nI 0) = some (far t b K) := by
    refine zit_fn (fun k => (sI (fun m => zabs (tM t b m - K m)) k, nI k)) 3 _ (by omega) (fun k hk => ?_) ?_
    · show m_X2_farOf_b0 (nI b) u (sI (fun m => zabs (tM t b m - K m)) k) (nI k) = some (.inl (sI (fun m => zabs (tM t b m - K m)) (k + 1), nI (k + 1)))
      unfold m_X2_farOf_b0
      rw [if_neg (show ¬ (3 : Int32) ≤ nI k from fun z => by have := (q_le (a := 3) (by decide) (by omega)).mp z; omega), in5 ht hb hk, zbind_s, zld_n hk (by decide), zbind_s, hK k hk, ← q_add k 1]; rfl
    · show m_X2_farOf_b0 (nI b) u (sI (fun m => zabs (tM t b m - K m)) 3) (nI 3) = _
      unfold m_X2_farOf_b0
      rw [if_pos (show (3 : Int32) ≤ nI 3 by decide)]; rfl
  exact (congrArg (fun x => zbind x (fun x3 => some x3)) e).trans rfl
theorem far6 {u : zM} {K : Nat → Int32} {b : Nat} (hK : ∀ m, m < 3 → u 43 m = K m) (hb : b < 12) : m_X6_distance (nI b) u = some (far (u 40) b K) := by
  unfold m_X6_distance
  have e : zit zF (fun s' : Int32 × Int32 => m_X6_distance_b0 (nI b) u s'.1 s'.2) (sI (fun m => zabs (tM (u 40) b m - K m)) 0, nI 0) = some (far (u 40) b K) := by
    refine zit_fn (fun k => (sI (fun m => zabs (tM (u 40) b m - K m)) k, nI k)) 3 _ (by omega) (fun k hk => ?_) ?_
    · show m_X6_distance_b0 (nI b) u (sI (fun m => zabs (tM (u 40) b m - K m)) k) (nI k) = some (.inl (sI (fun m => zabs (tM (u 40) b m - K m)) (k + 1), nI (k + 1)))
      unfold m_X6_distance_b0
      rw [if_neg (show ¬ (3 : Int32) ≤ nI k from fun z => by have := (q_le (a := 3) (by decide) (by omega)).mp z; omega), show (1 : Int32) + nI k = nI (1 + k) from q_add 1 k, bi6 u hb (f := 1 + k) (by omega), zbind_s, zld_n hk (by decide), zbind_s, hK k hk, ← q_add k 1, ← Nat.add_assoc]; rfl
    · show m_X6_distance_b0 (nI b) u (sI (fun m => zabs (tM (u 40) b m - K m)) 3) (nI 3) = _
      unfold m_X6_distance_b0
      rw [if_pos (show (3 : Int32) ≤ nI 3 by decide)]; rfl
  exact (congrArg (fun x => zbind x (fun x3 => some x3)) e).trans rfl
theorem cost5 {u : zM} {t : Nat → Int32} {K : Nat → Int32} {b : Nat} (ht : tIs u 1 t) (hK : ∀ m, m < 3 → u 19 m = K m) (hb : b < 12) : m_X2_costOf (nI b) u = some (costS t b K) := by
  unfold m_X2_costOf
  rw [far5 ht hK hb, zbind_s, pn5 ht hb, zbind_s]; rfl
theorem cost6 {u : zM} {K : Nat → Int32} {b : Nat} (hK : ∀ m, m < 3 → u 43 m = K m) (hb : b < 12) : m_X6_costOf (nI b) u = some (costS (u 40) b K) := by
  unfold m_X6_costOf
  rw [far6 hK hb, zbind_s, show m_X6_bodyIs (nI b) 5 u = some (u 40 (6 + 7 * b + 5)) from bi6 u (f := 5) hb (by decide), zbind_s]; rfl
theorem p_cost : B_cost Inv := by
  intro a u hu
  obtain ⟨⟨n, ho⟩, ht⟩ := id hu.1
  unfold m_X5_cost m_X6_cost
  simp only [ib5_eq (ht.1.trans ho.2.1), if_0]
  by_cases c : (0 : Int32) ≤ a ∧ a ≤ nI n - 1
  · obtain ⟨b, hb, rfl⟩ := (below a n (by have := ho.1; omega)).mp c
    have hn := ho.1
    rw [if_neg (fun z => z c)]
    obtain ⟨v, h1, h2, h⟩ := cfah_ok hu ho
    have hv := hu.congr h1.same
    have e40 : v 40 = u 40 := h1 40 (by decide) (by decide) (by decide) (by decide) (by decide)
    rcases h with ⟨h3, h4⟩ | ⟨h3, h4, h5⟩
    · rw [h4, zbind2_s, if_pos rfl]
      refine fin (j := 3) (by decide) hv (g := fun u1 => _) rfl ?_
      rw [ib6_f (by rw [e40]; exact ho.2.1), if_pos c, if_neg (show ¬ (1 : Int32) = 0 by decide), hereSet_ok (by rw [fnd5_c 3 v (by decide), e40]; exact ho), zbind_s, fnd5_c 3 v (by decide), e40, h3, if_pos (show nI 0 = 0 from rfl)]; rfl
    · rw [h4, zbind2_s, if_neg (by decide), cost5 (ht.cls h1) h5 (by omega), zbind_s]
      obtain ⟨w, e, r, hK⟩ := cut6_t hv (by rw [e40]; exact ho) (tSet_sOk ho) h3
      refine ⟨_, v, w, rfl, ?_, hv.congr r.same⟩
      have e41 : w 40 = u 40 := (r.1 40 (by decide) (by decide) (by decide)).trans e40
      rw [e40] at hK
      rw [ib6_eq (by rw [e40]; exact ho.2.1), if_pos c, if_neg (show ¬ (1 : Int32) = 0 by decide), hereSet_ok (by rw [e40]; exact ho), zbind_s, e40, if_neg (nz (tSet_lt _) h3), e, zbind_s, cost6 hK (by omega), zbind_s, e41]
  · rw [if_pos c]
    refine fin0 hu (g := fun u1 => _) rfl ?_
    rw [ib6_f ho.2.1, if_neg c, if_pos rfl]
theorem p_pins : B_pins Inv := by
  intro a u hu
  obtain ⟨⟨n, ho⟩, ht⟩ := id hu.1
  unfold m_X5_pins m_X6_pins
  simp only [ib5_eq (ht.1.trans ho.2.1), if_0]
  by_cases c : (0 : Int32) ≤ a ∧ a ≤ nI n - 1
  · obtain ⟨b, hb, rfl⟩ := (below a n (by have := ho.1; omega)).mp c
    have hn := ho.1
    rw [if_neg (fun z => z c)]
    obtain ⟨v, h1, h2, h⟩ := cfah_ok hu ho
    have hv := hu.congr h1.same
    have e40 : v 40 = u 40 := h1 40 (by decide) (by decide) (by decide) (by decide) (by decide)
    rcases h with ⟨h3, h4⟩ | ⟨h3, h4, h5⟩
    · rw [h4, zbind2_s, if_pos rfl]
      refine fin (j := 3) (by decide) hv (g := fun u1 => _) rfl ?_
      rw [ib6_f (by rw [e40]; exact ho.2.1), if_pos c, if_neg (show ¬ (1 : Int32) = 0 by decide), hereSet_ok (by rw [fnd5_c 3 v (by decide), e40]; exact ho), zbind_s, fnd5_c 3 v (by decide), e40, h3, if_pos (show nI 0 = 0 from rfl)]; rfl
    · have e19 : v 1 9 = u 40 2 := (ht.cls h1).2.2.2.1
      rw [h4, zbind2_s, if_neg (by decide), far5 (ht.cls h1) h5 (by omega), zbind_s, e19]
      by_cases c2 : zmax 0 (far (u 40) b (coatV (u 40) n (tSet (u 40))) - u 40 2) ≤ 99
      · obtain ⟨w, e, r, hK⟩ := cut6_t hv (by rw [e40]; exact ho) (tSet_sOk ho) h3
        have e41 : w 40 = u 40 := (r.1 40 (by decide) (by decide) (by decide)).trans e40
        rw [if_pos c2]
        refine ⟨_, v, w, rfl, ?_, hv.congr r.same⟩
        rw [e40] at hK
        rw [ib6_eq (by rw [e40]; exact ho.2.1), if_pos c, if_neg (show ¬ (1 : Int32) = 0 by decide), hereSet_ok (by rw [e40]; exact ho), zbind_s, e40, if_neg (nz (tSet_lt _) h3), e, zbind_s, far6 hK (by omega), zbind_s, e41, if_pos c2]
      · rw [if_neg c2]
        have hx : ∀ k, k ≠ 28 → fnd5 3 v k = v k := fun k h => fnd5_c 3 v h
        obtain ⟨w, e, r, hK⟩ := cut6_ok (u := fnd5 3 v) (n := n) (s := tSet (u 40)) (by rw [hx 40 (by decide), e40]; exact ho) (tSet_lt _) (by rw [hx 40 (by decide), e40]; exact (tSet_sOk ho).pos h3 (cnt_pos _))
        have e41 : w 40 = u 40 := (r.1 40 (by decide) (by decide) (by decide)).trans ((hx 40 (by decide)).trans e40)
        have hK' : ∀ m, m < 3 → w 43 m = coatV (u 40) n (tSet (u 40)) m := fun m hm => by
          rw [hK m hm, hx 40 (by decide), e40]
          refine cutV_cg (fun b' hb' => ?_)
          rw [measW_0 (u := fnd5 3 v) (by intro j hj; rw [hx 44 (by decide)]; exact hv.2.2.2.2.2 j hj) hn hm b' hb', hx 40 (by decide), e40]
        have hI : Inv (fnd6 3 w) := by
          have h6 := hv.fnd (j := 3) (by decide)
          refine h6.congr ?_
          refine ⟨fun k k1 k2 k3 => ?_, ?_, ?_, ?_⟩
          · have : w k = fnd5 3 v k := by
              refine r.1 k (fun e => ?_) k3 (fun e => ?_)
              · rw [e] at k1; exact absurd k1 (by decide)
              · rw [e] at k1; exact absurd k1 (by decide)
            funext j
            unfold fnd6
            simp only [zst_g, this, r.1 42 (by decide) (by decide) (by decide)]
          · unfold fnd6
            rw [zst_o _ (by decide), zst_o _ (by decide), zst_o _ (by decide), zst_o _ (by decide), r.1 20 (by decide) (by decide) (by decide)]
          · unfold fnd6
            rw [zst_o _ (by decide), zst_o _ (by decide), zst_o _ (by decide), zst_o _ (by decide), r.2 2 (by decide)]
          · unfold fnd6
            rw [zst_o _ (by decide), zst_o _ (by decide), zst_o _ (by decide), zst_o _ (by decide), r.2 12 (by decide)]
        refine ⟨_, fnd5 3 v, fnd6 3 w, by rw [show (3 : Int32) = nI 3 from rfl, f5_eq (by decide)]; rfl, ?_, hI⟩
        rw [ib6_f (by rw [e40]; exact ho.2.1), if_pos c, if_neg (show ¬ (1 : Int32) = 0 by decide), hereSet_ok (by rw [hx 40 (by decide), e40]; exact ho), zbind_s, hx 40 (by decide), e40, if_neg (nz (tSet_lt _) h3), e, zbind_s, far6 hK' (by omega), zbind_s, e41, if_neg c2]
        rw [show (-1000004 : Int32) = -1000001 - nI 3 from rfl, f6_eq (by decide)]; rfl
  · rw [if_pos c]
    refine fin0 hu (g := fun u1 => _) rfl ?_
    rw [ib6_f ho.2.1, if_neg c, if_pos rfl]
