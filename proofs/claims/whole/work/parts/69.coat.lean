/-! COAT, COST, PINS -/
theorem pset_or (p : Nat → Bool) (k : Nat) : pset p (k + 1) = pset p k ||| (if p k = true then 2 ^ k else 0) := by
  refine Nat.eq_of_testBit_eq (fun i => ?_)
  rw [Nat.testBit_or, pset_bit, pset_bit]
  by_cases c : i = k
  · subst c
    cases hp : p i
    · simp
    · simp
  · have e : (if p k = true then 2 ^ k else 0 : Nat).testBit i = false := by
      cases hp : p k
      · simp
      · simp [Nat.testBit_two_pow]; omega
    rw [e, Bool.or_false]
    by_cases c2 : i < k
    · simp [c2, show i < k + 1 by omega]
    · simp [c2, show ¬ i < k + 1 by omega]
theorem pset_cut {p : Nat → Bool} {n m : Nat} (h : n ≤ m) (hp : ∀ b, n ≤ b → b < m → p b = false) : pset p n = pset p m := by
  refine Nat.eq_of_testBit_eq (fun i => ?_)
  rw [pset_bit, pset_bit]
  by_cases c : i < n
  · simp [c, show i < m by omega]
  · by_cases c2 : i < m
    · simp [c, hp i (by omega) c2]
    · simp [c, c2]
theorem tSet_n {t : Nat → Int32} {n : Nat} (ho : tOk t n) : tSet t = pset (hereP t) n := by
  rw [tSet_p]
  refine (pset_cut ho.1 (fun b h1 h2 => ?_)).symm
  unfold hereP
  rw [ho.2.2.2.2.1 b h1 h2]; rfl
theorem tSet_below {t : Nat → Int32} {n : Nat} (ho : tOk t n) (b : Nat) (h : (tSet t).testBit b = true) : b < n := by
  rw [tSet_n ho, pset_bit] at h
  simp at h
  exact h.1
theorem shl0 : ∀ k, k < 12 → zshl 0 (nI k) = 0 := by decide
theorem hereSet_ok {u : zM} {n : Nat} (ho : tOk (u 40) n) : m_X6_hereSet u = some (nI (tSet (u 40))) := by
  have hn := ho.1
  unfold m_X6_hereSet
  rw [tSet_n ho]
  have e : zit zF (fun s' : Int32 × Int32 => m_X6_hereSet_b0 u s'.1 s'.2) (nI (pset (hereP (u 40)) 0), nI 0) = some (nI (pset (hereP (u 40)) n)) := by
    refine zit_fn (fun k => (nI (pset (hereP (u 40)) k), nI k)) n _ (by omega) (fun k hk => ?_) ?_
    · show m_X6_hereSet_b0 u (nI (pset (hereP (u 40)) k)) (nI k) = some (.inl (nI (pset (hereP (u 40)) (k + 1)), nI (k + 1)))
      unfold m_X6_hereSet_b0
      rw [ho.2.1, if_neg (fun z => by have := (q_le (by omega) (by omega)).mp z; omega), show m_X6_bodyIs (nI k) 6 u = some (u 40 (6 + 7 * k + 6)) from bi6 u (f := 6) (by omega) (by decide), zbind_s, pset_or, ← n_or, ← q_add k 1]
      have e1 : zshl (u 40 (6 + 7 * k + 6)) (nI k) = nI (if hereP (u 40) k = true then 2 ^ k else 0) := by
        rcases ho.2.2.2.1 k (by omega) with z | z
        · have z' : u 40 (6 + 7 * k + 6) = 0 := z
          rw [z', shl0 k (by omega), if_neg (by unfold hereP; rw [z]; decide)]; rfl
        · have z' : u 40 (6 + 7 * k + 6) = 1 := z
          rw [z', n_shl (by omega), if_pos (by unfold hereP; rw [z]; decide)]
      rw [e1]; rfl
    · show m_X6_hereSet_b0 u (nI (pset (hereP (u 40)) n)) (nI n) = _
      unfold m_X6_hereSet_b0
      rw [ho.2.1, if_pos (i_le_refl _)]
  exact (congrArg (fun x => zbind x (fun x3 => some x3)) e).trans rfl
/-- the coat of the set s -/
noncomputable def coatV (t : Nat → Int32) (n s m : Nat) : Int32 := cutV (t 1) n (fun b => meas t b m) (cnt t) s
theorem measW_0 {u : zM} (h : vSlip u) {n m : Nat} (hn : n ≤ 12) (hm : m < 3) (b : Nat) (hb : b < n) : measW u m b = meas (u 40) b m := by
  unfold measW
  rw [h _ (by omega), Int32.add_zero]
theorem sI_one {f g : Nat → Int32} {n : Nat} (h : ∀ b, b < n → f b = g b) : sI f n = sI g n := sI_congr h
theorem isCut_cg {rule : Int32} {n s : Nat} {V V' : Nat → Int32} {C : Nat → Nat} {x : Int32} (h : ∀ b, b < n → V' b = V b) (hi : isCut rule n V C s x) : isCut rule n V' C s x := by
  have e1 : ∀ v, oLt n (wt C s) V' v = oLt n (wt C s) V v := fun v => sN_congr (fun b hb => by rw [h b hb])
  have e2 : ∀ v, oLe n (wt C s) V' v = oLe n (wt C s) V v := fun v => sN_congr (fun b hb => by rw [h b hb])
  have e3 : cSum n V' C s = cSum n V C s := sI_congr (fun b hb => by rw [h b hb])
  unfold isCut oAt at hi ⊢
  rw [e1, e2, e3]; exact hi
theorem cutV_cg {rule : Int32} {n s : Nat} {V V' : Nat → Int32} {C : Nat → Nat} (h : ∀ b, b < n → V' b = V b) : cutV rule n V' C s = cutV rule n V C s := by
  have e : (fun x => isCut rule n V' C s x) = fun x => isCut rule n V C s x := funext fun x => propext ⟨isCut_cg (fun b hb => (h b hb).symm), isCut_cg h⟩
  unfold cutV
  rw [e]
/-- what a coat's cutting changes in the reference -/
def cutP (u v : zM) : Prop := (∀ q, q ≠ 45 → q ≠ 39 → q ≠ 43 → v q = u q) ∧ ∀ j, j ≠ 7 → v 39 j = u 39 j
theorem cutP.same {u v : zM} (h : cutP u v) : sameP u v := by
  refine ⟨fun k h1 _ h3 => h.1 k (fun e => ?_) h3 (fun e => ?_), ?_, h.2 2 (by decide), h.2 12 (by decide)⟩
  · rw [e] at h1; exact absurd h1 (by decide)
  · rw [e] at h1; exact absurd h1 (by decide)
  · rw [h.1 20 (by decide) (by decide) (by decide)]
theorem rowP.cut {u v : zM} (h : rowP u v) : cutP u v := ⟨fun q a b _ => h.1 q a b, h.2⟩
theorem cut6_ok {u : zM} {n s : Nat} (ho : tOk (u 40) n) (hs : s < 4096) (h0 : 0 < tot n (cnt (u 40)) s) :
    ∃ v, m_X6_cut (nI s) u = some v ∧ cutP u v ∧ ∀ m, m < 3 → v 43 m = cutV (u 40 1) n (measW u m) (cnt (u 40)) s := by
  unfold m_X6_cut
  obtain ⟨v, e, h1, h2⟩ : ∃ v, zit zF (fun s' : Int32 × zM => m_X6_cut_b0 (nI s) s'.1 s'.2) (0, u) = some v ∧ cutP u v ∧ ∀ m, m < 3 → v 43 m = cutV (u 40 1) n (measW u m) (cnt (u 40)) s := by
    refine zit_inv (fun k s' => s'.1 = nI k ∧ cutP u s'.2 ∧ ∀ m, m < k → s'.2 43 m = cutV (u 40 1) n (measW u m) (cnt (u 40)) s) 3 _ _ (by omega) ⟨rfl, ⟨fun _ _ _ _ => rfl, fun _ _ => rfl⟩, fun m hm => absurd hm (by omega)⟩ ?_ ?_
    · rintro m ⟨x, w⟩ hm ⟨rfl, h1, h2⟩
      simp only at h1 h2 ⊢
      unfold m_X6_cut_b0
      have e40 : w 40 = u 40 := h1.1 40 (by decide) (by decide) (by decide)
      have eW : measW w = measW u := by funext m b; unfold measW; rw [e40, h1.1 44 (by decide) (by decide) (by decide)]
      rw [if_neg (show ¬ (3 : Int32) ≤ nI m from fun z => by have := (q_le (a := 3) (by decide) (by omega)).mp z; omega)]
      obtain ⟨v, e, r⟩ := cutFor_ok (u := w) (by rw [e40]; exact ho) hs hm (by rw [e40]; exact h0)
      rw [e40, eW] at e
      rw [e, zbind2_s, zsv_n (by omega) (by decide), zbind_s]
      refine ⟨_, rfl, q_add m 1, ⟨fun q p1 p2 p3 => (zst_o _ p3).trans ((r.1 q p1 p2).trans (h1.1 q p1 p2 p3)), fun j hj => (congrFun (zst_o (q := 43) (q' := 39) (j := m) (v := cutV (u 40 1) n (measW u m) (cnt (u 40)) s) v (by decide)) j).trans ((r.2 j hj).trans (h1.2 j hj))⟩, fun m' hm' => ?_⟩
      show zst v 43 m (cutV (u 40 1) n (measW u m) (cnt (u 40)) s) 43 m' = _
      rw [zst_g]
      by_cases c : m' = m
      · subst c; rw [if_pos ⟨rfl, rfl⟩]
      · rw [if_neg (by omega), r.1 43 (by decide) (by decide)]; exact h2 m' (by omega)
    · rintro ⟨x, w⟩ ⟨rfl, h1, h2⟩
      simp only at h1 h2 ⊢
      unfold m_X6_cut_b0
      rw [if_pos (show (3 : Int32) ≤ nI 3 by decide)]
      exact ⟨_, rfl, h1, h2⟩
  exact ⟨v, by rw [e, zbind_s], h1, h2⟩
/-- what cutting changes in the class -/
def clsP (u v : zM) : Prop := ∀ q, q ≠ 15 → q ≠ 16 → q ≠ 17 → q ≠ 18 → q ≠ 19 → v q = u q
theorem clsP.same {u v : zM} (h : clsP u v) : sameP u v := by
  have e : ∀ k, scr k = false → v k = u k := fun k hk => by
    refine h k ?_ ?_ ?_ ?_ ?_ <;> (intro e; rw [e] at hk; exact absurd hk (by decide))
  exact ⟨fun k h1 _ _ => e k h1, by rw [e 20 rfl], by rw [e 39 rfl], by rw [e 39 rfl]⟩
theorem tIs.cls {u v : zM} {t : Nat → Int32} (h : clsP u v) (ht : tIs u 1 t) : tIs v 1 t := tIs_congr (fun k hk => h _ (by omega) (by omega) (by omega) (by omega) (by omega)) ht
/-- a set of bodies of the town -/
def sOk (n s : Nat) : Prop := s < 4096 ∧ ∀ b, s.testBit b = true → b < n
theorem tSet_sOk {t : Nat → Int32} {n : Nat} (ho : tOk t n) : sOk n (tSet t) := ⟨tSet_lt t, tSet_below ho⟩
theorem sOk.pos {n s : Nat} {C : Nat → Nat} (h : sOk n s) (h0 : s ≠ 0) (hC : ∀ b, 1 ≤ C b) : 0 < tot n C s := tot_pos h0 h.2 hC
theorem cut5_ok {u : zM} {t : Nat → Int32} {n s : Nat} (ht : tIs u 1 t) (ho : tOk t n) (hs : sOk n s) (h0 : s ≠ 0) (hm : msd u n (fun m b => meas t b m) (cnt t)) :
    ∃ v, m_X2_cutAll (nI s) (t 1) u = some (1, v) ∧ clsP u v ∧ msd v n (fun m b => meas t b m) (cnt t) ∧ ∀ m, m < 3 → v 19 m = coatV t n s m := by
  obtain ⟨v, e, h1, h2⟩ := cutAll_ok hm ho.1 hs.1 (hs.pos h0 (cnt_pos t)) (cnt_pos t) (cnt_le t) h0 (t 1)
  exact ⟨v, e, fun q _ _ _ _ h => h1 q h, hm.cg ⟨h1 15 (by decide), h1 16 (by decide), h1 17 (by decide), h1 18 (by decide)⟩, h2⟩
theorem nz {s : Nat} (hs : s < 4096) (h0 : s ≠ 0) : ¬ nI s = 0 := fun e => h0 (q_inj (b := 0) (by omega) (by decide) e)
theorem cfah_ok {u : zM} {n : Nat} (hu : Inv u) (ho : tOk (u 40) n) :
    ∃ v, clsP u v ∧ msd v n (fun m b => meas (u 40) b m) (cnt (u 40)) ∧ ((tSet (u 40) = 0 ∧ m_X5_cutForAllHere u = some (0, v)) ∨ (tSet (u 40) ≠ 0 ∧ m_X5_cutForAllHere u = some (1, v) ∧ ∀ m, m < 3 → v 19 m = coatV (u 40) n (tSet (u 40)) m)) := by
  have ht := hu.1.2
  unfold m_X5_cutForAllHere
  obtain ⟨v, e, h1, h2⟩ := measureAll_ok ht ho
  have hc : clsP u v := fun q a b c d _ => h1 q a b c d
  rw [e, zbind_s, h1 1 (by decide) (by decide) (by decide) (by decide), ht.2.1, ht.2.2.1]
  by_cases c : tSet (u 40) = 0
  · refine ⟨v, hc, h2, Or.inl ⟨c, ?_⟩⟩
    rw [c]; unfold m_X2_cutAll; rw [if_pos (show nI 0 = 0 from rfl), zbind2_s, zb_0]
  · obtain ⟨w, e2, h3, h4, h5⟩ := cut5_ok (ht.cls hc) ho (tSet_sOk ho) c h2
    refine ⟨w, fun q a b c d e => (h3 q a b c d e).trans (hc q a b c d e), h4, Or.inr ⟨c, ?_, h5⟩⟩
    rw [e2, zbind2_s, zb_1]
theorem cut6_t {u : zM} {n s : Nat} (hu : Inv u) (ho : tOk (u 40) n) (hs : sOk n s) (h0 : s ≠ 0) :
    ∃ v, m_X6_cut (nI s) u = some v ∧ cutP u v ∧ ∀ m, m < 3 → v 43 m = coatV (u 40) n s m := by
  obtain ⟨v, e, h1, h2⟩ := cut6_ok ho hs.1 (hs.pos h0 (cnt_pos _))
  exact ⟨v, e, h1, fun m hm => (h2 m hm).trans (cutV_cg (fun b hb => measW_0 hu.2.2.2.2.2 ho.1 hm b hb))⟩
theorem im_eq (a : Int32) : m_X5_isMeasure a = if 0 ≤ a ∧ a ≤ 2 then 1 else 0 := by
  unfold m_X5_isMeasure; rw [w5_eq, zb_if]
theorem im6_eq (a : Int32) : m_X6_isMeasure a = if 0 ≤ a ∧ a ≤ 2 then 1 else 0 := by
  unfold m_X6_isMeasure; rw [w6_eq, zb_if]
theorem p_coat : B_coat Inv := by
  intro a u hu
  obtain ⟨⟨n, ho⟩, ht⟩ := id hu.1
  unfold m_X5_coat m_X6_coat
  simp only [im_eq, im6_eq, if_0]
  by_cases c : (0 : Int32) ≤ a ∧ a ≤ 2
  · obtain ⟨m, -, hm, rfl⟩ := (btw a 0 2 (by decide) (by decide)).mp c
    rw [if_neg (fun z => z c)]
    obtain ⟨v, h1, h2, h⟩ := cfah_ok hu ho
    have hv := hu.congr h1.same
    have e40 : v 40 = u 40 := h1 40 (by decide) (by decide) (by decide) (by decide) (by decide)
    rcases h with ⟨h3, h4⟩ | ⟨h3, h4, h5⟩
    · rw [h4, zbind2_s, if_pos rfl]
      refine fin (j := 3) (by decide) hv (g := fun u1 => _) rfl ?_
      rw [if_neg (fun z => z c), hereSet_ok (by rw [fnd5_c 3 v (by decide), e40]; exact ho), zbind_s, fnd5_c 3 v (by decide), e40, h3, if_pos (show nI 0 = 0 from rfl)]; rfl
    · rw [h4, zbind2_s, if_neg (by decide), zld_n (by omega) (by decide), zbind_s, h5 m (by omega)]
      obtain ⟨w, e, r⟩ := cutFor_ok (u := v) (m := m) (by rw [e40]; exact ho) (tSet_lt (u 40)) (by omega) (by rw [e40]; exact (tSet_sOk ho).pos h3 (cnt_pos _))
      refine ⟨_, v, w, rfl, ?_, hv.congr r.cut.same⟩
      rw [if_neg (fun z => z c), hereSet_ok (by rw [e40]; exact ho), zbind_s, e40, if_neg (nz (tSet_lt _) h3), e, zbind2_s, e40]
      rw [cutV_cg (fun b hb => (measW_0 hv.2.2.2.2.2 ho.1 (by omega) b hb))]
      rw [e40]; rfl
  · rw [if_pos c]
    refine fin0 hu (g := fun u1 => _) rfl ?_
    rw [if_pos c]
