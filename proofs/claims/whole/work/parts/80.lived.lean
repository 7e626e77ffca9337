/-! LIVED, SURELY -/
theorem finw {j : Nat} (hj : j < 7) {v w : zM} (hv : Inv v) (hw : sameP (fnd5 j v) w) {x : Option (Int32 × zM)} {g : zM → Option (Int32 × zM)} (hx : x = zbind2 (m_X5_finding (nI j) v) (fun x y => some (x, y))) (hg : g (fnd5 j v) = zbind2 (m_X6_finding (-1000001 - nI j) w) (fun x y => some (x, y))) : ∃ (r : Int32) (u1 u2 : zM), x = some (r, u1) ∧ g u1 = some (r, u2) ∧ Inv u2 := by
  refine ⟨_, fnd5 j v, fnd6 j w, by rw [hx, f5_eq hj]; rfl, by rw [hg, f6_eq hj]; rfl, (hv.fnd hj).congr ⟨fun k k1 k2 k3 => ?_, ?_, ?_, ?_⟩⟩
  · funext i
    unfold fnd6
    simp only [zst_g, hw.1 k k1 k2 k3, hw.c 42 (by decide)]
  · unfold fnd6
    rw [zst_o _ (by decide), zst_o _ (by decide), zst_o _ (by decide), zst_o _ (by decide), hw.2.1]
  · unfold fnd6
    rw [zst_o _ (by decide), zst_o _ (by decide), zst_o _ (by decide), zst_o _ (by decide), hw.2.2.1]
  · unfold fnd6
    rw [zst_o _ (by decide), zst_o _ (by decide), zst_o _ (by decide), zst_o _ (by decide), hw.2.2.2]
/-- the set s has the coat of the spring sp -/
noncomputable def livB (t : Nat → Int32) (n sp s : Nat) : Bool := decide (coatV t n s 0 = t (90 + 3 * sp + 0)) && decide (coatV t n s 1 = t (90 + 3 * sp + 1)) && decide (coatV t n s 2 = t (90 + 3 * sp + 2))
theorem livB_t {t : Nat → Int32} {n sp s : Nat} : livB t n sp s = true ↔ ∀ m, m < 3 → coatV t n s m = t (90 + 3 * sp + m) := by
  unfold livB
  rw [Bool.and_eq_true, Bool.and_eq_true, decide_eq_true_eq, decide_eq_true_eq, decide_eq_true_eq]
  constructor
  · rintro ⟨⟨h0, h1⟩, h2⟩ m hm
    have h : m = 0 ∨ m = 1 ∨ m = 2 := by omega
    rcases h with rfl | rfl | rfl
    · exact h0
    · exact h1
    · exact h2
  · intro h
    exact ⟨⟨h 0 (by decide), h 1 (by decide)⟩, h 2 (by decide)⟩
theorem liv5 {v : zM} {t : Nat → Int32} {n s sp : Nat} (ht : tIs v 1 t) (ho : tOk t n) (hm : msd v n (fun m b => meas t b m) (cnt t)) (hs : sOk n s) (h0 : s ≠ 0) (hp : sp < 20) : m_X5_cutsAsIn (nI sp) (nI s) v = some (if livB t n sp s = true then 1 else 0) := by
  have hn := ho.1
  unfold m_X5_cutsAsIn
  obtain ⟨r, e, hr⟩ : ∃ r, zit zF (fun x : Int32 => m_X5_cutsAsIn_b0 (nI s) v (nI sp) x) 0 = some r ∧ r = if livB t n sp s = true then 1 else 0 := by
    refine zit_inv2 (fun k x => x = nI k ∧ ∀ i, i < k → coatV t n s i = t (90 + 3 * sp + i)) 3 _ _ (by omega) ⟨rfl, fun i hi => absurd hi (by omega)⟩ ?_ ?_
    · rintro k x hk ⟨rfl, h⟩
      unfold m_X5_cutsAsIn_b0 m_X4_oldCoat
      have e8 : v 1 8 = t 1 := ht.2.2.1
      have ec : m_X2_cutOne (nI k) (nI s) (t 1) v = some (coatV t n s k) := cutOne_ok hm hn hs.1 hk (hs.pos h0 (cnt_pos t)) (cnt_pos t) (cnt_le t) (t 1)
      have e6 : v 6 (3 * sp + k) = t (90 + 3 * sp + k) := by
        rw [show 90 + 3 * sp + k = 90 + (3 * sp + k) by omega]
        exact ht.2.2.2.2.2.2.2.2.2.2.2.1 (3 * sp + k) (by omega)
      rw [if_neg (show ¬ (3 : Int32) ≤ nI k from fun z => by have := (q_le (a := 3) (by decide) (by omega)).mp z; omega), e8, ec, zbind_s, idx3, zld_n (by omega) (by decide), zbind_s, zbind_s, e6]
      by_cases c : coatV t n s k = t (90 + 3 * sp + k)
      · rw [if_pos c]
        refine Or.inl ⟨_, rfl, q_add k 1, fun i hi => ?_⟩
        by_cases ci : i = k
        · rw [ci]; exact c
        · exact h i (by omega)
      · rw [if_neg c]
        exact Or.inr ⟨_, rfl, (if_neg (fun z => c (livB_t.mp z k hk))).symm⟩
    · rintro x ⟨rfl, h⟩
      unfold m_X5_cutsAsIn_b0
      rw [if_pos (show (3 : Int32) ≤ nI 3 by decide)]
      exact ⟨_, rfl, (if_pos (livB_t.mpr h)).symm⟩
  rw [e, hr]
theorem liv6 {w : zM} {n s sp : Nat} (hS : vSlip w) (ho : tOk (w 40) n) (hs : sOk n s) (h0 : s ≠ 0) (hp : sp < 20) : ∃ r : Int32 × zM, zit zF (fun x : Int32 × Int32 × zM => m_X6_findLived_b1 (nI s) (nI sp) x.1 x.2.1 x.2.2) (1, 0, w) = some r ∧ r.1 = (if livB (w 40) n sp s = true then 1 else 0) ∧ rowP w r.2 := by
  have hn := ho.1
  refine zit_inv2 (fun k x => x.2.1 = nI k ∧ rowP w x.2.2 ∧ ((x.1 = 1 ∧ ∀ i, i < k → coatV (w 40) n s i = w 40 (90 + 3 * sp + i)) ∨ (x.1 = 0 ∧ ¬ livB (w 40) n sp s = true))) 3 _ _ (by omega) ⟨rfl, rowP.rfl' w, Or.inl ⟨rfl, fun i hi => absurd hi (by omega)⟩⟩ ?_ ?_
  · rintro k ⟨x, y, v⟩ hk ⟨rfl, h1, h⟩
    simp only at h1 h ⊢
    unfold m_X6_findLived_b1
    rw [if_neg (show ¬ (3 : Int32) ≤ nI k from fun z => by have := (q_le (a := 3) (by decide) (by omega)).mp z; omega)]
    rcases h with ⟨rfl, h⟩ | ⟨rfl, h⟩
    · have e40 : v 40 = w 40 := h1.1 40 (by decide) (by decide)
      obtain ⟨y, e, r⟩ := cutFor_ok (u := v) (n := n) (s := s) (m := k) (by rw [e40]; exact ho) hs.1 hk (by rw [e40]; exact hs.pos h0 (cnt_pos _))
      rw [e40, measW_cg h1, cutV_cg (fun b hb => measW_0 hS hn hk b hb)] at e
      have e' : m_X6_cutFor (nI s) (nI k) v = some (coatV (w 40) n s k, y) := e
      have ei : (90 : Int32) + 3 * nI sp + nI k = nI (90 + 3 * sp + k) := by
        have a1 : (3 : Int32) * nI sp = nI (3 * sp) := q_mul 3 sp
        have a2 : (90 : Int32) + nI (3 * sp) = nI (90 + 3 * sp) := q_add 90 (3 * sp)
        rw [a1, a2, q_add]
      have y40 : y 40 = w 40 := (r.1 40 (by decide) (by decide)).trans e40
      rw [if_neg (show ¬ (1 : Int32) = 0 by decide), e', zbind2_s, ei, zld_n (by omega) (by decide), zbind_s, y40]
      by_cases c : coatV (w 40) n s k = w 40 (90 + 3 * sp + k)
      · rw [if_pos c]
        refine Or.inl ⟨_, rfl, q_add k 1, h1.tr r, Or.inl ⟨rfl, fun i hi => ?_⟩⟩
        by_cases ci : i = k
        · rw [ci]; exact c
        · exact h i (by omega)
      · rw [if_neg c]
        exact Or.inl ⟨_, rfl, q_add k 1, h1.tr r, Or.inr ⟨rfl, fun z => c (livB_t.mp z k hk)⟩⟩
    · rw [if_pos rfl]
      exact Or.inr ⟨_, rfl, (if_neg h).symm, h1⟩
  · rintro ⟨x, y, v⟩ ⟨rfl, h1, h⟩
    simp only at h1 h ⊢
    unfold m_X6_findLived_b1
    rw [if_pos (show (3 : Int32) ≤ nI 3 by decide)]
    rcases h with ⟨rfl, h⟩ | ⟨rfl, h⟩
    · exact ⟨_, rfl, (if_pos (livB_t.mpr h)).symm, h1⟩
    · exact ⟨_, rfl, (if_neg h).symm, h1⟩
/-- of the sets up to k: how many have it, who is in all, in any -/
def lCnt (L : Nat → Bool) : Nat → Nat
  | 0 => 0
  | k + 1 => lCnt L k + if L (k + 1) = true then 1 else 0
def lAll (L : Nat → Bool) : Nat → Nat
  | 0 => 4095
  | k + 1 => if L (k + 1) = true then lAll L k &&& (k + 1) else lAll L k
def lAny (L : Nat → Bool) : Nat → Nat
  | 0 => 0
  | k + 1 => if L (k + 1) = true then lAny L k ||| (k + 1) else lAny L k
theorem lCnt_le (L : Nat → Bool) : ∀ k, lCnt L k ≤ k := by
  intro k
  induction k with
  | zero => exact Nat.le_refl _
  | succ k ih => rw [lCnt]; split <;> omega
theorem lAny_lt (L : Nat → Bool) : ∀ k, k < 4096 → lAny L k < 4096 := by
  intro k
  induction k with
  | zero => exact fun _ => Nat.succ_pos 4095
  | succ k ih =>
    intro h
    rw [lAny]
    split
    · exact Nat.or_lt_two_pow (n := 12) (ih (by omega)) h
    · exact ih (by omega)
theorem or_z {a b : Nat} (h : a ||| b = 0) : b = 0 := by
  refine Nat.eq_of_testBit_eq (fun i => ?_)
  have e := congrArg (fun x => Nat.testBit x i) h
  simp only [Nat.testBit_or, Nat.zero_testBit] at e ⊢
  exact (Bool.or_eq_false_iff.mp e).2
theorem l_case (L : Nat → Bool) : ∀ k, (lCnt L k = 0 ∧ lAll L k = 4095 ∧ lAny L k = 0) ∨ (0 < lCnt L k ∧ lAny L k ≠ 0) := by
  intro k
  induction k with
  | zero => exact Or.inl ⟨rfl, rfl, rfl⟩
  | succ k ih =>
    rw [lCnt, lAll, lAny]
    by_cases c : L (k + 1) = true
    · rw [if_pos c, if_pos c, if_pos c]
      exact Or.inr ⟨by omega, fun z => by have := or_z z; omega⟩
    · rw [if_neg c, if_neg c, if_neg c]
      exact ih
theorem m1_and (s : Nat) : (-1 : Int32) &&& nI s = nI s := b_ext (fun i hi => by rw [b_and, b_m1 i hi, Bool.true_and])
theorem and_4095 {s : Nat} (h : s < 4096) : 4095 &&& s = s := by
  rw [Nat.and_comm]
  exact Nat.and_two_pow_sub_one_of_lt_two_pow (n := 12) h
theorem set_below {n s : Nat} (h : s < 2 ^ n) (hn : n ≤ 12) : sOk n s := by
  have h2 : 2 ^ n ≤ 2 ^ 12 := Nat.pow_le_pow_right (by decide) hn
  refine ⟨Nat.lt_of_lt_of_le h h2, fun b hb => ?_⟩
  refine Classical.byContradiction fun c => ?_
  have h3 : 2 ^ n ≤ 2 ^ b := Nat.pow_le_pow_right (by decide) (by omega)
  rw [Nat.testBit_lt_two_pow (by omega)] at hb
  cases hb
/-- nothing has changed but what findLived uses -/
def livP (u v : zM) : Prop := (∀ q, q ≠ 45 → q ≠ 39 → v q = u q) ∧ ∀ j, j ≠ 7 → j ≠ 9 → j ≠ 10 → v 39 j = u 39 j
theorem livP.same {u v : zM} (h : livP u v) : sameP u v := by
  refine ⟨fun k h1 _ h3 => h.1 k (fun e => ?_) h3, ?_, h.2 2 (by decide) (by decide) (by decide), h.2 12 (by decide) (by decide) (by decide)⟩
  · rw [e] at h1; exact absurd h1 (by decide)
  · rw [h.1 20 (by decide) (by decide)]
theorem rowP.liv {u v : zM} (h : rowP u v) : livP u v := ⟨h.1, fun j a _ _ => h.2 j a⟩
theorem livP.tr {u v w : zM} (h : livP u v) (h' : livP v w) : livP u w := ⟨fun q a b => (h'.1 q a b).trans (h.1 q a b), fun j a b c => (h'.2 j a b c).trans (h.2 j a b c)⟩
theorem livP.st {u : zM} {j : Nat} {x : Int32} (h : j = 9 ∨ j = 10) : livP u (zst u 39 j x) := ⟨fun q _ b => zst_o _ b, fun i a b c => zst_j _ (by omega)⟩
theorem found6 {u : zM} {n sp : Nat} (hS : vSlip u) (ho : tOk (u 40) n) (hp : sp < 20) : ∃ v, m_X6_findLived (nI sp) u = some (nI (lCnt (livB (u 40) n sp) (2 ^ n - 1)), v) ∧ livP u v ∧ v 39 9 = nI (lAll (livB (u 40) n sp) (2 ^ n - 1)) ∧ v 39 10 = nI (lAny (livB (u 40) n sp) (2 ^ n - 1)) := by
  have hn := ho.1
  have h2 : 2 ^ n ≤ 2 ^ 12 := Nat.pow_le_pow_right (by decide) hn
  have h1 : 0 < 2 ^ n := Nat.two_pow_pos n
  let L := livB (u 40) n sp
  unfold m_X6_findLived
  rw [zlet_s, zlet_s]
  obtain ⟨⟨x, v⟩, e, ex, hv, h9, h10⟩ : ∃ r : Int32 × zM, zit zF (fun s : Int32 × Int32 × zM => m_X6_findLived_b0 (nI sp) s.1 s.2.1 s.2.2) (0, 1, zst (zst u 39 9 4095) 39 10 0) = some r ∧ r.1 = nI (lCnt L (2 ^ n - 1)) ∧ livP u r.2 ∧ r.2 39 9 = nI (lAll L (2 ^ n - 1)) ∧ r.2 39 10 = nI (lAny L (2 ^ n - 1)) := by
    refine zit_inv (fun k s => s.1 = nI (lCnt L k) ∧ s.2.1 = nI (k + 1) ∧ livP u s.2.2 ∧ s.2.2 39 9 = nI (lAll L k) ∧ s.2.2 39 10 = nI (lAny L k)) (2 ^ n - 1) _ _ (by omega) ⟨rfl, rfl, (livP.st (Or.inl rfl)).tr (livP.st (Or.inr rfl)), ?_, ?_⟩ ?_ ?_
    · show zst (zst u 39 9 4095) 39 10 0 39 9 = nI 4095
      rw [zst_j _ (by decide), zst_s]; rfl
    · show zst (zst u 39 9 4095) 39 10 0 39 10 = nI 0
      rw [zst_s]; rfl
    · rintro k ⟨x, y, v⟩ hk ⟨ex, ey, hv, h9, h10⟩
      simp only at ex ey hv h9 h10 ⊢
      subst ex ey
      unfold m_X6_findLived_b0
      have e40 : v 40 = u 40 := hv.1 40 (by decide) (by decide)
      rw [e40, ho.2.1, n_shl (by omega), if_neg (fun z => by have := (q_le (by omega) (by omega)).mp z; omega)]
      obtain ⟨⟨b, w⟩, e, eb, hw⟩ := liv6 (w := v) (n := n) (s := k + 1) (sp := sp) (by intro j hj; rw [hv.1 44 (by decide) (by decide)]; exact hS j hj) (by rw [e40]; exact ho) (set_below (by omega) hn) (by omega) hp
      simp only at eb hw
      rw [e40] at eb
      have w9 : w 39 9 = nI (lAll L k) := (hw.2 9 (by decide)).trans h9
      have w10 : w 39 10 = nI (lAny L k) := (hw.2 10 (by decide)).trans h10
      rw [e, zbind2_s, zlet_s, lCnt, lAll, lAny]
      by_cases c : L (k + 1) = true
      · have eb1 : b = 1 := eb.trans (if_pos c)
        subst eb1
        rw [if_neg (show ¬ (1 : Int32) = 0 by decide), if_neg (show ¬ (1 : Int32) = 0 by decide), zlet_s, if_neg (show ¬ (1 : Int32) = 0 by decide), zlet_s, if_pos c, if_pos c, if_pos c]
        refine ⟨_, rfl, q_add _ 1, q_add (k + 1) 1, hv.tr (hw.liv.tr ((livP.st (Or.inl rfl)).tr (livP.st (Or.inr rfl)))), ?_, ?_⟩
        · show zst (zst w 39 9 (w 39 9 &&& nI (k + 1))) 39 10 (zst w 39 9 (w 39 9 &&& nI (k + 1)) 39 10 ||| nI (k + 1)) 39 9 = _
          rw [zst_j _ (by decide), zst_s, w9, n_and]
        · show zst (zst w 39 9 (w 39 9 &&& nI (k + 1))) 39 10 (zst w 39 9 (w 39 9 &&& nI (k + 1)) 39 10 ||| nI (k + 1)) 39 10 = _
          rw [zst_s, zst_j _ (by decide), w10, n_or]
      · have eb0 : b = 0 := eb.trans (if_neg c)
        subst eb0
        rw [if_pos rfl, if_pos rfl, zlet_s, if_pos rfl, zlet_s, if_neg c, if_neg c, if_neg c]
        refine ⟨_, rfl, Int32.add_zero _, q_add (k + 1) 1, hv.tr (hw.liv.tr ((livP.st (Or.inl rfl)).tr (livP.st (Or.inr rfl)))), ?_, ?_⟩
        · show zst (zst w 39 9 (w 39 9 &&& w 39 9)) 39 10 (zst w 39 9 (w 39 9 &&& w 39 9) 39 10 ||| 0) 39 9 = _
          rw [zst_j _ (by decide), zst_s, w9, Int32.and_self]
        · show zst (zst w 39 9 (w 39 9 &&& w 39 9)) 39 10 (zst w 39 9 (w 39 9 &&& w 39 9) 39 10 ||| 0) 39 10 = _
          rw [zst_s, zst_j _ (by decide), w10, Int32.or_zero]
    · rintro ⟨x, y, v⟩ ⟨ex, ey, hv, h9, h10⟩
      simp only at ex ey hv h9 h10 ⊢
      unfold m_X6_findLived_b0
      have e40 : v 40 = u 40 := hv.1 40 (by decide) (by decide)
      rw [ey, e40, ho.2.1, n_shl (by omega), show 2 ^ n - 1 + 1 = 2 ^ n by omega, if_pos (i_le_refl _)]
      exact ⟨_, rfl, ex, hv, h9, h10⟩
  simp only at ex hv h9 h10
  exact ⟨v, by rw [e, zbind2_s, ex], hv, h9, h10⟩
theorem isp5 {u : zM} {s : Nat} (h : u 1 11 = nI s) (a : Int32) : m_X5_isSpring a u = if 0 ≤ a ∧ a ≤ nI s - 1 then 1 else 0 := by
  unfold m_X5_isSpring; rw [w5_eq, zb_if, h]
theorem isp6 {u : zM} {s : Nat} (h : u 40 4 = nI s) (a : Int32) : m_X6_isSpring a u = if 0 ≤ a ∧ a ≤ nI s - 1 then 1 else 0 := by
  unfold m_X6_isSpring; rw [w6_eq, zb_if, h]
theorem p_lived : B_lived Inv := by
  intro a u hu
  obtain ⟨⟨n, ho⟩, ht⟩ := id hu.1
  have hn := ho.1
  obtain ⟨s, hs, es⟩ := ho.2.2.2.2.2.2.2.2.1
  have e11 : u 1 11 = nI s := ht.2.2.2.2.2.1.trans es
  unfold m_X5_lived m_X6_lived
  simp only [isp5 e11, if_0]
  by_cases c : (0 : Int32) ≤ a ∧ a ≤ nI s - 1
  · rw [if_neg (fun z => z c)]
    obtain ⟨sp, hsp, rfl⟩ := (below a s (by omega)).mp c
    obtain ⟨v, e1, v1, v2⟩ := measureAll_ok ht ho
    have hv1 : clsP u v := measP v1
    have hI := hu.congr hv1.same
    have e40 : v 40 = u 40 := hv1.q rfl
    have h2 : 2 ^ n ≤ 2 ^ 12 := Nat.pow_le_pow_right (by decide) hn
    have h1 : 0 < 2 ^ n := Nat.two_pow_pos n
    let L := livB (u 40) n sp
    obtain ⟨w, ew, hw, -, -⟩ := found6 (u := v) (n := n) (sp := sp) hI.2.2.2.2.2 (by rw [e40]; exact ho) (by omega)
    rw [e40] at ew
    refine ⟨nI (lCnt L (2 ^ n - 1)), v, w, ?_, ?_, hI.congr hw.same⟩
    · rw [e1, zbind_s]
      have e2 : zit zF (fun x : Int32 × Int32 => m_X5_lived_b0 v (nI sp) x.1 x.2) (nI (lCnt L 0), nI (0 + 1)) = some (nI (lCnt L (2 ^ n - 1))) := by
        refine zit_fn (fun k => (nI (lCnt L k), nI (k + 1))) (2 ^ n - 1) _ (by omega) (fun k hk => ?_) ?_
        · show m_X5_lived_b0 v (nI sp) (nI (lCnt L k)) (nI (k + 1)) = some (.inl (nI (lCnt L k + if L (k + 1) = true then 1 else 0), nI (k + 1 + 1)))
          unfold m_X5_lived_b0
          rw [(ht.cls hv1).1.trans ho.2.1, n_shl (by omega), if_neg (fun z => by have := (q_le (by omega) (by omega)).mp z; omega), liv5 (ht.cls hv1) ho v2 (set_below (by omega) hn) (by omega) (by omega), zbind_s, ← q_add (lCnt L k), ← q_add (k + 1) 1]
          by_cases cl : livB (u 40) n sp (k + 1) = true
          · rw [if_pos cl, if_neg (by decide), if_pos (show L (k + 1) = true from cl)]; rfl
          · rw [if_neg cl, if_pos rfl, if_neg (show ¬ L (k + 1) = true from cl)]; rfl
        · show m_X5_lived_b0 v (nI sp) (nI (lCnt L (2 ^ n - 1))) (nI (2 ^ n - 1 + 1)) = _
          unfold m_X5_lived_b0
          rw [(ht.cls hv1).1.trans ho.2.1, n_shl (by omega), show 2 ^ n - 1 + 1 = 2 ^ n by omega, if_pos (i_le_refl _)]
      exact (congrArg (fun x => zbind x (fun x3 => some (x3, v))) e2).trans rfl
    · rw [isp6 (by rw [e40]; exact es), if_pos c, if_neg (show ¬ (1 : Int32) = 0 by decide), ew, zbind2_s]
  · rw [if_pos c]
    refine fin0 hu (g := fun u1 => _) rfl ?_
    rw [isp6 (by rw [fnd5_c 0 u (by decide)]; exact es), if_neg c, if_pos rfl]
theorem p_surely : B_surely Inv := by
  intro a a2 u hu
  obtain ⟨⟨n, ho⟩, ht⟩ := id hu.1
  have hn := ho.1
  obtain ⟨s, hs, es⟩ := ho.2.2.2.2.2.2.2.2.1
  have e11 : u 1 11 = nI s := ht.2.2.2.2.2.1.trans es
  unfold m_X5_surely m_X6_surely
  simp only [isp5 e11, w5_eq, w6_eq, if_0]
  by_cases c : (0 : Int32) ≤ a ∧ a ≤ nI s - 1
  · rw [if_neg (fun z => z c)]
    by_cases d : (0 : Int32) ≤ a2 ∧ a2 ≤ 1
    · rw [if_neg (fun z => z d)]
      obtain ⟨sp, hsp, rfl⟩ := (below a s (by omega)).mp c
      obtain ⟨v, e1, v1, v2⟩ := measureAll_ok ht ho
      have hv1 : clsP u v := measP v1
      have hI := hu.congr hv1.same
      have e40 : v 40 = u 40 := hv1.q rfl
      have h2 : 2 ^ n ≤ 2 ^ 12 := Nat.pow_le_pow_right (by decide) hn
      have h1 : 0 < 2 ^ n := Nat.two_pow_pos n
      let L := livB (u 40) n sp
      have e2 : zit zF (fun x : Int32 × Int32 × Int32 => m_X5_surely_b0 v (nI sp) x.1 x.2.1 x.2.2) (-1, nI (lAny L 0), nI (0 + 1)) = some (if lCnt L (2 ^ n - 1) = 0 then -1 else nI (lAll L (2 ^ n - 1)), nI (lAny L (2 ^ n - 1))) := by
        refine zit_fn (fun k => (if lCnt L k = 0 then -1 else nI (lAll L k), nI (lAny L k), nI (k + 1))) (2 ^ n - 1) _ (by omega) (fun k hk => ?_) ?_
        · show m_X5_surely_b0 v (nI sp) (if lCnt L k = 0 then -1 else nI (lAll L k)) (nI (lAny L k)) (nI (k + 1)) = some (.inl (if (lCnt L k + if L (k + 1) = true then 1 else 0) = 0 then -1 else nI (if L (k + 1) = true then lAll L k &&& (k + 1) else lAll L k), nI (if L (k + 1) = true then lAny L k ||| (k + 1) else lAny L k), nI (k + 1 + 1)))
          unfold m_X5_surely_b0
          rw [(ht.cls hv1).1.trans ho.2.1, n_shl (by omega), if_neg (fun z => by have := (q_le (by omega) (by omega)).mp z; omega), liv5 (ht.cls hv1) ho v2 (set_below (by omega) hn) (by omega) (by omega), zbind_s, ← q_add (k + 1) 1]
          by_cases cl : livB (u 40) n sp (k + 1) = true
          · have cl' : L (k + 1) = true := cl
            simp only [if_pos cl, if_pos cl']
            rw [if_neg (show ¬ (1 : Int32) = 0 by decide), if_neg (show ¬ lCnt L k + 1 = 0 by omega), n_or]
            have ea : (if lCnt L k = 0 then (-1 : Int32) else nI (lAll L k)) &&& nI (k + 1) = nI (lAll L k &&& (k + 1)) := by
              rcases l_case L k with ⟨q1, q2, -⟩ | ⟨q1, -⟩
              · rw [if_pos q1, m1_and, q2, and_4095 (by omega)]
              · rw [if_neg (by omega), n_and]
            rw [ea]; rfl
          · have cl' : ¬ L (k + 1) = true := cl
            simp only [if_neg cl, if_neg cl', if_true]
            rfl
        · show m_X5_surely_b0 v (nI sp) (if lCnt L (2 ^ n - 1) = 0 then -1 else nI (lAll L (2 ^ n - 1))) (nI (lAny L (2 ^ n - 1))) (nI (2 ^ n - 1 + 1)) = _
          unfold m_X5_surely_b0
          rw [(ht.cls hv1).1.trans ho.2.1, n_shl (by omega), show 2 ^ n - 1 + 1 = 2 ^ n by omega, if_pos (i_le_refl _)]
      have e2' : zit zF (fun x : Int32 × Int32 × Int32 => m_X5_surely_b0 v (nI sp) x.1 x.2.1 x.2.2) ((-1), 0, 1) = some (if lCnt L (2 ^ n - 1) = 0 then -1 else nI (lAll L (2 ^ n - 1)), nI (lAny L (2 ^ n - 1))) := e2
      have hle := lCnt_le L (2 ^ n - 1)
      have hlt := lAny_lt L (2 ^ n - 1) (by omega)
      rw [e1, zbind_s, e2', zbind2_s]
      rcases l_case L (2 ^ n - 1) with ⟨q1, q2, q3⟩ | ⟨q1, q3⟩
      · rw [q3, if_pos (show nI 0 = 0 from rfl)]
        have x40 : fnd5 3 v 40 = u 40 := (fnd5_c 3 v (by decide)).trans e40
        obtain ⟨w, ew, hw, -, -⟩ := found6 (u := fnd5 3 v) (n := n) (sp := sp) (by intro j hj; rw [fnd5_c 3 v (by decide)]; exact hI.2.2.2.2.2 j hj) (by rw [x40]; exact ho) (by omega)
        rw [x40] at ew
        refine finw (j := 3) (by decide) hI hw.same (g := fun u1 => _) rfl ?_
        rw [isp6 (by rw [x40]; exact es), if_pos c, if_neg (show ¬ (1 : Int32) = 0 by decide), if_neg (fun z => z d), ew, zbind2_s, show lCnt (livB (u 40) n sp) (2 ^ n - 1) = 0 from q1, if_pos (show nI 0 = 0 from rfl)]; rfl
      · obtain ⟨w, ew, hw, w9, w10⟩ := found6 (u := v) (n := n) (sp := sp) hI.2.2.2.2.2 (by rw [e40]; exact ho) (by omega)
        rw [e40] at ew w9 w10
        rw [if_neg (show ¬ nI (lAny L (2 ^ n - 1)) = 0 from nI_ne0 (by omega) (by omega)), if_neg (show ¬ lCnt L (2 ^ n - 1) = 0 by omega)]
        refine ⟨if a2 = 0 then nI (lAll L (2 ^ n - 1)) else nI (lAny L (2 ^ n - 1)), v, w, ?_, ?_, hI.congr hw.same⟩
        · by_cases c2 : a2 = 0
          · simp only [if_pos c2]
          · simp only [if_neg c2]
        · rw [isp6 (by rw [e40]; exact es), if_pos c, if_neg (show ¬ (1 : Int32) = 0 by decide), if_neg (fun z => z d), ew, zbind2_s, if_neg (show ¬ nI (lCnt L (2 ^ n - 1)) = 0 from nI_ne0 q1 (by omega)), w9, w10]
          by_cases c2 : a2 = 0
          · simp only [if_pos c2]; rfl
          · simp only [if_neg c2]; rfl
    · rw [if_pos d]
      refine fin0 hu (g := fun u1 => _) rfl ?_
      rw [isp6 (by rw [fnd5_c 0 u (by decide)]; exact es), if_pos c, if_neg (show ¬ (1 : Int32) = 0 by decide), if_pos d]
  · rw [if_pos c]
    refine fin0 hu (g := fun u1 => _) rfl ?_
    rw [isp6 (by rw [fnd5_c 0 u (by decide)]; exact es), if_neg c, if_pos rfl]
