/-! BEST -/
theorem cut6_s {u : zM} {n s : Nat} (hu : vSlip u) (ho : tOk (u 40) n) (hs : sOk n s) (h0 : s ≠ 0) :
    ∃ v, m_X6_cut (nI s) u = some v ∧ cutP u v ∧ ∀ m, m < 3 → v 43 m = coatV (u 40) n s m := by
  obtain ⟨v, e, h1, h2⟩ := cut6_ok ho hs.1 (hs.pos h0 (cnt_pos _))
  exact ⟨v, e, h1, fun m hm => (h2 m hm).trans (cutV_cg (fun b hb => measW_0 hu ho.1 hm b hb))⟩
theorem fitOf_s {u : zM} {n s : Nat} (hu : vSlip u) (ho : tOk (u 40) n) (hs : sOk n s) :
    ∃ v, m_X6_fitOf (nI s) u = some (nI (pset (fitP (u 40) s (coatV (u 40) n s)) n), v) ∧ cutP u v := by
  unfold m_X6_fitOf
  by_cases c : s = 0
  · subst c
    refine ⟨u, ?_, fun _ _ _ _ => rfl, fun _ _ => rfl⟩
    rw [if_pos (show nI 0 = 0 from rfl), zbind_s, fit6 ho (fun z => absurd rfl z) (by decide), zbind_s]
  · obtain ⟨v, e, h1, h2⟩ := cut6_s hu ho hs c
    have e40 : v 40 = u 40 := h1.1 40 (by decide) (by decide) (by decide)
    refine ⟨v, ?_, h1⟩
    rw [if_neg (nz hs.1 c), e, zbind_s, zbind_s, fit6 (by rw [e40]; exact ho) (fun _ => h2) hs.1, zbind_s, e40]
/-- how many of s fit by the rule -/
noncomputable def fitN (t : Nat → Int32) (n s : Nat) (rule : Int32) : Nat := bitsN (pset (fitP t s (fun m => cutV rule n (fun b => meas t b m) (cnt t) s)) n)
theorem pset_lt12 {p : Nat → Bool} {n : Nat} (h : n ≤ 12) : pset p n < 4096 := Nat.lt_of_lt_of_le (pset_lt p n) (Nat.pow_le_pow_right (by decide) h)
theorem fitBy5 {u : zM} {t : Nat → Int32} {n s : Nat} (rule : Int32) (ht : tIs u 1 t) (ho : tOk t n) (hs : sOk n s) (hm : msd u n (fun m b => meas t b m) (cnt t)) :
    ∃ v, m_X5_fittingBy rule (nI s) u = some (nI (fitN t n s rule), v) ∧ clsP u v ∧ msd v n (fun m b => meas t b m) (cnt t) := by
  unfold m_X5_fittingBy
  by_cases c : s = 0
  · subst c
    refine ⟨u, ?_, fun _ _ _ _ _ _ => rfl, hm⟩
    unfold m_X2_cutAll fitN
    rw [if_pos (show nI 0 = 0 from rfl), zbind2_s, if_pos rfl, fitP_0]; rfl
  · obtain ⟨v, e, h1, h2⟩ := cutAll_ok hm ho.1 hs.1 (hs.pos c (cnt_pos t)) (cnt_pos t) (cnt_le t) c rule
    have hc : clsP u v := fun q _ _ _ _ h => h1 q h
    refine ⟨v, ?_, hc, hm.cg ⟨h1 15 (by decide), h1 16 (by decide), h1 17 (by decide), h1 18 (by decide)⟩⟩
    rw [e, zbind2_s, if_neg (by decide), fit5 (ht.cls hc) ho (by rw [h1 15 (by decide)]; exact hm.1) h2 hs.1, zbind_s, bc5 (pset_lt12 ho.1)]; rfl
noncomputable def bstS (F : Nat → Nat) : Nat → Int32 × Int32
  | 0 => (0, -1)
  | k + 1 => if nI (F k) ≤ (bstS F k).2 then bstS F k else (nI k, nI (F k))
theorem tOk.rule {t : Nat → Int32} {n k : Nat} (h : tOk t n) (hk : k ≤ 2) : tOk (upd t 1 (nI k)) n :=
  h.lo (upd_o t _ (by decide)) (fun j h1 h2 => upd_o t _ (by omega)) (fun j h1 h2 => upd_o t _ (by omega)) ⟨k, hk, upd_s t 1 _⟩ (by rw [upd_o t _ (by decide)]; exact h.2.2.2.2.2.2.1) (by rw [upd_o t _ (by decide)]; exact h.2.2.2.2.2.2.2.1) (by rw [upd_o t _ (by decide)]; exact h.2.2.2.2.2.2.2.2.1)
theorem meas_rule (t : Nat → Int32) (v : Int32) (b m : Nat) : meas (upd t 1 v) b m = meas t b m := by
  unfold meas width tK tM tB
  simp only [upd_o t v (show 6 + 7 * b ≠ 1 by omega), upd_o t v (show 6 + 7 * b + 1 + m ≠ 1 by omega), upd_o t v (show 6 + 7 * b + 1 + 1 ≠ 1 by omega), upd_o t v (show 6 + 7 * b + 4 ≠ 1 by omega)]
theorem cnt_rule (t : Nat → Int32) (v : Int32) : cnt (upd t 1 v) = cnt t := by
  funext b
  unfold cnt tK
  rw [upd_o t v (show 6 + 7 * b ≠ 1 by omega)]
theorem fit_rule (t : Nat → Int32) (n s : Nat) (v : Int32) : bitsN (pset (fitP (upd t 1 v) s (coatV (upd t 1 v) n s)) n) = fitN t n s v := by
  unfold fitN coatV
  rw [upd_s, cnt_rule]
  have e : (fun m => cutV v n (fun b => meas (upd t 1 v) b m) (cnt t) s) = fun m => cutV v n (fun b => meas t b m) (cnt t) s := funext fun m => by
    rw [show (fun b => meas (upd t 1 v) b m) = fun b => meas t b m from funext fun b => meas_rule t v b m]
  have e2 : ∀ K, fitP (upd t 1 v) s K = fitP t s K := fun K => funext fun b => by
    unfold fitP costS far tM tP
    rw [upd_o t v (by decide), upd_o t v (show 6 + 7 * b + 5 ≠ 1 by omega)]
    have e3 : ∀ m, upd t 1 v (6 + 7 * b + 1 + m) = t (6 + 7 * b + 1 + m) := fun m => upd_o t v (by omega)
    simp only [e3]
  rw [e2]
  exact congrArg (fun K => bitsN (pset (fitP t s K) n)) e
theorem p_best : B_best Inv := by
  intro u hu
  obtain ⟨⟨n, ho⟩, ht⟩ := id hu.1
  have hn := ho.1
  let F := fun k => fitN (u 40) n (tSet (u 40)) (nI k)
  unfold m_X5_best m_X6_best
  obtain ⟨v, e1, v1, v2⟩ := measureAll_ok ht ho
  have hv1 : clsP u v := fun q a b c d _ => v1 q a b c d
  obtain ⟨⟨x, v'⟩, e2, hx, w1, w2⟩ : ∃ r : Int32 × zM, zit zF (fun s : Int32 × Int32 × Int32 × zM => m_X5_best_b0 s.1 s.2.1 s.2.2.1 s.2.2.2) (0, (-1), 0, v) = some r ∧ r.1 = (bstS F 3).1 ∧ clsP u r.2 ∧ msd r.2 n (fun m b => meas (u 40) b m) (cnt (u 40)) := by
    refine zit_inv (fun k s => s.1 = (bstS F k).1 ∧ s.2.1 = (bstS F k).2 ∧ s.2.2.1 = nI k ∧ clsP u s.2.2.2 ∧ msd s.2.2.2 n (fun m b => meas (u 40) b m) (cnt (u 40))) 3 _ _ (by omega) ⟨rfl, rfl, rfl, hv1, v2⟩ ?_ ?_
    · rintro k ⟨x, y, z, w⟩ hk ⟨rfl, rfl, rfl, h1, h2⟩
      simp only at h1 h2 ⊢
      unfold m_X5_best_b0
      have hw := ht.cls h1
      obtain ⟨w', e, h3, h4⟩ := fitBy5 (nI k) hw ho (tSet_sOk ho) h2
      rw [if_neg (show ¬ (2 : Int32) < nI k from fun z => by have := (q_lt (a := 2) (by decide) (by omega)).mp z; omega), hw.2.1, e, zbind2_s]
      have hc : clsP u w' := fun q a b c d e => (h3 q a b c d e).trans (h1 q a b c d e)
      have eb : bstS F (k + 1) = if nI (F k) ≤ (bstS F k).2 then bstS F k else (nI k, nI (F k)) := rfl
      rw [eb]
      by_cases c : nI (F k) ≤ (bstS F k).2
      · rw [if_pos (show nI (fitN (u 40) n (tSet (u 40)) (nI k)) ≤ (bstS F k).2 from c), if_pos c]
        exact ⟨_, rfl, rfl, rfl, q_add k 1, hc, h4⟩
      · rw [if_neg (show ¬ nI (fitN (u 40) n (tSet (u 40)) (nI k)) ≤ (bstS F k).2 from c), if_neg c]
        exact ⟨_, rfl, rfl, rfl, q_add k 1, hc, h4⟩
    · rintro ⟨x, y, z, w⟩ ⟨rfl, rfl, rfl, h1, h2⟩
      simp only at h1 h2 ⊢
      unfold m_X5_best_b0
      rw [if_pos (show (2 : Int32) < nI 3 by decide)]
      exact ⟨_, rfl, rfl, h1, h2⟩
  simp only at hx w1 w2
  have hI := hu.congr w1.same
  have e40 : v' 40 = u 40 := w1 40 (by decide) (by decide) (by decide) (by decide) (by decide)
  obtain ⟨⟨x2, y⟩, e3, hx2, y1, y2⟩ : ∃ r : Int32 × zM, zit zF (fun s : Int32 × Int32 × Int32 × zM => m_X6_best_b0 (nI (tSet (u 40))) s.1 s.2.1 s.2.2.1 s.2.2.2) (0, (-1), 0, v') = some r ∧ r.1 = (bstS F 3).1 ∧ cutP (zst v' 40 1 (r.2 40 1)) r.2 ∧ ∃ k, k ≤ 2 ∧ r.2 40 1 = nI k := by
    refine zit_inv (fun k s => s.1 = (bstS F k).1 ∧ s.2.1 = (bstS F k).2 ∧ s.2.2.1 = nI k ∧ cutP (zst v' 40 1 (s.2.2.2 40 1)) s.2.2.2 ∧ ∃ k, k ≤ 2 ∧ s.2.2.2 40 1 = nI k) 3 _ _ (by omega) ⟨rfl, rfl, rfl, by rw [zst_self v' 40 1 _ rfl]; exact ⟨fun _ _ _ _ => rfl, fun _ _ => rfl⟩, by show ∃ k, k ≤ 2 ∧ v' 40 1 = nI k; rw [e40]; exact ho.2.2.2.2.2.1⟩ ?_ ?_
    · rintro k ⟨x, y, z, w⟩ hk ⟨rfl, rfl, rfl, h1, h2⟩
      simp only at h1 h2 ⊢
      unfold m_X6_best_b0
      have ew : w 40 = upd (u 40) 1 (w 40 1) := by
        rw [h1.1 40 (by decide) (by decide) (by decide), row_st, e40, upd_s]
      have ew2 : zst w 40 1 (nI k) 40 = upd (u 40) 1 (nI k) := by
        rw [row_st, ew]; funext j; unfold upd; by_cases c : j = 1 <;> simp [c]
      obtain ⟨w', e, h3⟩ := fitOf_s (u := zst w 40 1 (nI k)) (s := tSet (u 40)) (n := n) (by
        intro j hj
        rw [zst_o _ (by decide), h1.1 44 (by decide) (by decide) (by decide), zst_o _ (by decide)]
        exact hI.2.2.2.2.2 j hj) (by rw [ew2]; exact ho.rule (by omega)) (tSet_sOk ho)
      rw [ew2] at e
      rw [if_neg (show ¬ (3 : Int32) ≤ nI k from fun z => by have := (q_le (a := 3) (by decide) (by omega)).mp z; omega), zlet_s, e, zbind2_s, bc6 (pset_lt12 hn), zbind_s, fit_rule]
      have hw40 : w' 40 1 = nI k := by rw [h3.1 40 (by decide) (by decide) (by decide), zst_s]
      have hc : cutP (zst v' 40 1 (w' 40 1)) w' := by
        rw [hw40]
        refine ⟨fun q a b c => ?_, fun j hj => ?_⟩
        · rw [h3.1 q a b c]
          by_cases cq : q = 40
          · subst cq
            rw [ew2, row_st, e40]
          · rw [zst_o _ cq, h1.1 q a b c, zst_o _ cq, zst_o _ cq]
        · rw [h3.2 j hj, zst_o _ (by decide), h1.2 j hj, zst_o _ (by decide), zst_o _ (by decide)]
      have eb : bstS F (k + 1) = if nI (F k) ≤ (bstS F k).2 then bstS F k else (nI k, nI (F k)) := rfl
      rw [eb]
      by_cases c : nI (F k) ≤ (bstS F k).2
      · rw [if_pos (show nI (fitN (u 40) n (tSet (u 40)) (nI k)) ≤ (bstS F k).2 from c), if_pos c]
        exact ⟨_, rfl, rfl, rfl, q_add k 1, hc, k, by omega, hw40⟩
      · rw [if_neg (show ¬ nI (fitN (u 40) n (tSet (u 40)) (nI k)) ≤ (bstS F k).2 from c), if_neg c]
        exact ⟨_, rfl, rfl, rfl, q_add k 1, hc, k, by omega, hw40⟩
    · rintro ⟨x, y, z, w⟩ ⟨rfl, rfl, rfl, h1, h2⟩
      simp only at h1 h2 ⊢
      unfold m_X6_best_b0
      rw [if_pos (show (3 : Int32) ≤ nI 3 by decide)]
      exact ⟨_, rfl, rfl, h1, h2⟩
  simp only at hx2 y1 y2
  refine ⟨x, v', zst y 40 1 (v' 40 1), ?_, ?_, hI.congr (cutP.same ⟨fun q a b c => ?_, fun j hj => ?_⟩)⟩
  · rw [e1, zbind_s, e2, zbind2_s]
  · rw [hereSet_ok (by rw [e40]; exact ho), zbind_s, e40, e3, zbind2_s, zlet_s, hx2, ← hx]
  · by_cases cq : q = 40
    · subst cq
      rw [row_st, y1.1 40 (by decide) (by decide) (by decide), row_st]
      funext j; unfold upd; by_cases c : j = 1 <;> simp [c]
    · rw [zst_o _ cq, y1.1 q a b c, zst_o _ cq]
  · rw [zst_o _ (by decide), y1.2 j hj, zst_o _ (by decide)]
