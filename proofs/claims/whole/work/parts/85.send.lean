/-! SEND -/
def subS (s h : Nat) : Prop := ∀ i, s.testBit i = true → h.testBit i = true
theorem sub_c {s h : Nat} (hs : s < 4096) (hh : h < 4096) : nI s &&& (nI h ^^^ (-1)) = 0 ↔ subS s h := by
  constructor
  · intro e i hi
    have i12 : i < 12 := (set_below (n := 12) hs (Nat.le_refl _)).2 i hi
    have e1 : bt (nI s &&& (nI h ^^^ (-1))) i = bt 0 i := congrArg (fun x => bt x i) e
    rw [b_and, b_xor, bt_n (by omega), bt_n (by omega), b_m1 i (by omega), b_0, hi] at e1
    cases hq : h.testBit i
    · rw [hq] at e1; cases e1
    · rfl
  · intro e
    refine b_ext (fun i hi => ?_)
    rw [b_and, b_xor, bt_n hi, bt_n hi, b_m1 i hi, b_0]
    cases hq : s.testBit i
    · rfl
    · rw [e i hq]; rfl
theorem sub_le {s h : Nat} (e : subS s h) : s ≤ h := by
  have e1 : s &&& h = s := by
    refine Nat.eq_of_testBit_eq (fun i => ?_)
    rw [Nat.testBit_and]
    cases hq : s.testBit i
    · rfl
    · rw [e i hq]; rfl
  rw [← e1]
  exact Nat.and_le_right
/-- those of h who aren't in s -/
def dif (h s : Nat) : Nat := pset (fun b => h.testBit b && !s.testBit b) 12
theorem dif_bit {h s : Nat} (hh : h < 4096) (i : Nat) : (dif h s).testBit i = (h.testBit i && !s.testBit i) := by
  unfold dif
  rw [pset_bit]
  by_cases c : i < 12
  · simp [c]
  · have h3 : 2 ^ 12 ≤ 2 ^ i := Nat.pow_le_pow_right (by decide) (by omega)
    have e : h.testBit i = false := Nat.testBit_lt_two_pow (Nat.lt_of_lt_of_le hh h3)
    simp [c, e]
theorem dif_n {h s : Nat} (hh : h < 4096) : nI h &&& (nI s ^^^ (-1)) = nI (dif h s) := by
  refine n_ext (fun i hi => ?_)
  rw [b_and, b_xor, bt_n hi, bt_n hi, b_m1 i hi, dif_bit hh, Bool.xor_true]
theorem dif_ok {n h : Nat} (s : Nat) (hh : sOk n h) : sOk n (dif h s) := by
  refine ⟨pset_lt _ 12, fun b hb => ?_⟩
  rw [dif_bit hh.1] at hb
  simp at hb
  exact hh.2 b hb.1
/-- how many fit if s are sent away -/
noncomputable def fS (t : Nat → Int32) (n s : Nat) : Nat := fitN t n (dif (tSet t) s) (t 1)
theorem fS_le {t : Nat → Int32} {n s : Nat} (h : subS s (tSet t)) : fS t n s + bitsN s ≤ bitsN (tSet t) := by
  unfold fS fitN bitsN
  rw [← sN_add]
  refine sN_le (fun i hi => ?_)
  rw [pset_bit]
  by_cases c : s.testBit i = true
  · have c2 := h i c
    have e : (dif (tSet t) s).testBit i = false := by rw [dif_bit (tSet_lt t), c]; simp
    rw [if_pos c, if_pos c2, if_neg]
    · exact Nat.le_refl _
    · unfold fitP
      rw [e]; simp
  · rw [if_neg c]
    by_cases c2 : (tSet t).testBit i = true
    · rw [if_pos c2]; split <;> omega
    · have e : (dif (tSet t) s).testBit i = false := by rw [dif_bit (tSet_lt t)]; simp [c2]
      rw [if_neg c2, if_neg]
      · exact Nat.le_refl _
      · unfold fitP
        rw [e]; simp
theorem bits_z {s : Nat} (hs : s < 4096) (h : bitsN s = 0) : s = 0 := by
  refine Nat.eq_of_testBit_eq (fun i => ?_)
  rw [Nat.zero_testBit]
  cases hq : s.testBit i
  · rfl
  · have i12 := (set_below (n := 12) hs (Nat.le_refl _)).2 i hq
    have e := sN_one (g := fun i => if s.testBit i = true then 1 else 0) i12
    simp only [if_pos hq] at e
    unfold bitsN at h
    omega
/-- the rank of a set: most fit, then the fewest, then the lowest -/
def kf (f : Nat → Nat) (s : Nat) : Nat := f s * 1000000 + (12 - bitsN s) * 10000 + (4095 - s)
theorem kf_eq {f : Nat → Nat} {s s' : Nat} (hs : s < 4096) (hs' : s' < 4096) (h : kf f s = kf f s') : s = s' := by
  unfold kf at h
  have h1 := bitsN_le s
  have h2 := bitsN_le s'
  rcases Nat.lt_trichotomy (f s) (f s') with q | q | q
  · omega
  · rcases Nat.lt_trichotomy (bitsN s) (bitsN s') with p | p | p
    · omega
    · omega
    · omega
  · omega
theorem fis5 {u : zM} {t : Nat → Int32} {n s : Nat} (ht : tIs u 1 t) (ho : tOk t n) (hm : msd u n (fun m b => meas t b m) (cnt t)) : ∃ v, m_X5_fittingIfSent (nI s) u = some (nI (fS t n s), v) ∧ clsP u v ∧ msd v n (fun m b => meas t b m) (cnt t) := by
  obtain ⟨v, e, h1, h2⟩ := fitBy5 (t 1) ht ho (dif_ok s (tSet_sOk ho)) hm
  refine ⟨v, ?_, h1, h2⟩
  unfold m_X5_fittingIfSent
  rw [ht.2.2.1, ht.2.1, dif_n (tSet_lt t), e, zbind2_s]; rfl
/-- sets of fewer than z, or of z and below k -/
def seen (z k s : Nat) : Prop := bitsN s < z ∨ (bitsN s = z ∧ s < k)
theorem send5i {u : zM} {t : Nat → Int32} {n z g0 : Nat} (ht : tIs u 1 t) (ho : tOk t n) (hm : msd u n (fun m b => meas t b m) (cnt t)) (hz : z ≤ 12) (h0 : subS g0 (tSet t)) (hb : bitsN g0 < z) (hmx : ∀ s, subS s (tSet t) → bitsN s < z → kf (fS t n) s ≤ kf (fS t n) g0) :
    ∃ (g : Nat) (v : zM), zit zF (fun s : Int32 × Int32 × Int32 × zM => m_X5_send_b1 (nI z) s.1 s.2.1 s.2.2.1 s.2.2.2) (nI g0, nI (fS t n g0), 1, u) = some (nI g, nI (fS t n g), v) ∧ clsP u v ∧ msd v n (fun m b => meas t b m) (cnt t) ∧ subS g (tSet t) ∧ bitsN g ≤ z ∧ ∀ s, subS s (tSet t) → bitsN s ≤ z → kf (fS t n) s ≤ kf (fS t n) g := by
  have hH := tSet_lt t
  obtain ⟨⟨x, y, v⟩, e, g, ex, ey, v1, v2, g1, g2, g3⟩ : ∃ r : Int32 × Int32 × zM, zit zF (fun s : Int32 × Int32 × Int32 × zM => m_X5_send_b1 (nI z) s.1 s.2.1 s.2.2.1 s.2.2.2) (nI g0, nI (fS t n g0), 1, u) = some r ∧ ∃ g, r.1 = nI g ∧ r.2.1 = nI (fS t n g) ∧ clsP u r.2.2 ∧ msd r.2.2 n (fun m b => meas t b m) (cnt t) ∧ subS g (tSet t) ∧ seen z (tSet t + 1) g ∧ ∀ s, subS s (tSet t) → seen z (tSet t + 1) s → kf (fS t n) s ≤ kf (fS t n) g := by
    refine zit_inv (fun k s => s.2.2.1 = nI (k + 1) ∧ ∃ g, s.1 = nI g ∧ s.2.1 = nI (fS t n g) ∧ clsP u s.2.2.2 ∧ msd s.2.2.2 n (fun m b => meas t b m) (cnt t) ∧ subS g (tSet t) ∧ seen z (k + 1) g ∧ ∀ s, subS s (tSet t) → seen z (k + 1) s → kf (fS t n) s ≤ kf (fS t n) g) (tSet t) _ _ (by omega) ⟨rfl, g0, rfl, rfl, clsP.rfl' u, hm, h0, Or.inl hb, fun s hs hq => ?_⟩ ?_ ?_
    · rcases hq with q | ⟨q, q2⟩
      · exact hmx s hs q
      · have s0 : s = 0 := by omega
        subst s0
        exact hmx 0 hs (by show 0 < z; omega)
    · rintro k ⟨x, y, w, v⟩ hk ⟨ew, g, ex, ey, v1, v2, g1, g2, g3⟩
      simp only at ew ex ey v1 v2 ⊢
      subst ew ex ey
      unfold m_X5_send_b1
      have ht' := ht.cls v1
      have keep : ∀ v', clsP u v' → msd v' n (fun m b => meas t b m) (cnt t) → (subS (k + 1) (tSet t) → bitsN (k + 1) = z → fS t n (k + 1) ≤ fS t n g) → ∃ s', (some (.inl (nI g, nI (fS t n g), nI (k + 1) + 1, v')) : Option ((Int32 × Int32 × Int32 × zM) ⊕ (Int32 × Int32 × zM))) = some (.inl s') ∧ s'.2.2.1 = nI (k + 1 + 1) ∧ ∃ g, s'.1 = nI g ∧ s'.2.1 = nI (fS t n g) ∧ clsP u s'.2.2.2 ∧ msd s'.2.2.2 n (fun m b => meas t b m) (cnt t) ∧ subS g (tSet t) ∧ seen z (k + 1 + 1) g ∧ ∀ s, subS s (tSet t) → seen z (k + 1 + 1) s → kf (fS t n) s ≤ kf (fS t n) g := by
        intro v' h1 h2 h3
        refine ⟨_, rfl, q_add (k + 1) 1, g, rfl, rfl, h1, h2, g1, ?_, fun s hs hq => ?_⟩
        · rcases g2 with q | ⟨q, q2⟩
          · exact Or.inl q
          · exact Or.inr ⟨q, by omega⟩
        · rcases hq with q | ⟨q, q2⟩
          · exact g3 s hs (Or.inl q)
          · by_cases c : s = k + 1
            · subst c
              have h4 := h3 hs q
              have h5 := bitsN_le g
              have h6 : g < k + 1 ∨ bitsN g < z := by
                rcases g2 with p | ⟨p, p2⟩
                · exact Or.inr p
                · exact Or.inl p2
              have h7 := bitsN_le (k + 1)
              have h8 : bitsN g ≤ z := by
                rcases g2 with p | ⟨p, p2⟩
                · omega
                · omega
              unfold kf
              rcases Nat.lt_or_ge (fS t n (k + 1)) (fS t n g) with p | p
              · omega
              · rcases Nat.lt_or_ge (bitsN g) z with p2 | p2
                · omega
                · omega
            · exact g3 s hs (Or.inr ⟨q, by omega⟩)
      rw [ht'.2.1, if_neg (fun z => by have := (q_lt (by omega) (by omega)).mp z; omega)]
      by_cases c : subS (k + 1) (tSet t)
      · rw [if_pos ((sub_c (by omega) hH).mpr c), bc5 (by omega)]
        by_cases c2 : bitsN (k + 1) = z
        · rw [if_pos (congrArg nI c2)]
          obtain ⟨w1, e1, w2, w3⟩ := fis5 (s := k + 1) ht' ho v2
          have fle : ∀ s, fS t n s ≤ 12 := fun s => bitsN_le _
          have f1 := fle (k + 1)
          have f2 := fle g
          rw [e1, zbind2_s]
          by_cases c3 : fS t n (k + 1) ≤ fS t n g
          · rw [if_pos ((q_le (by omega) (by omega)).mpr c3)]
            exact keep w1 (v1.tr w2) w3 (fun _ _ => c3)
          · obtain ⟨y1, e2, y2, y3⟩ := fis5 (s := k + 1) (ht'.cls w2) ho w3
            rw [if_neg (fun z => c3 ((q_le (by omega) (by omega)).mp z)), e2, zbind2_s]
            refine ⟨_, rfl, q_add (k + 1) 1, k + 1, rfl, rfl, v1.tr (w2.tr y2), y3, c, Or.inr ⟨c2, by omega⟩, fun s hs hq => ?_⟩
            have h5 := bitsN_le g
            have h6 := bitsN_le (k + 1)
            have hgk : kf (fS t n) g ≤ kf (fS t n) (k + 1) := by
              unfold kf; omega
            rcases hq with q | ⟨q, q2⟩
            · exact Nat.le_trans (g3 s hs (Or.inl q)) hgk
            · by_cases cs : s = k + 1
              · rw [cs]; exact Nat.le_refl _
              · exact Nat.le_trans (g3 s hs (Or.inr ⟨q, by omega⟩)) hgk
        · have hb12 := bitsN_le (k + 1)
          rw [if_neg (q_ne (by omega) (by omega) c2)]
          exact keep v v1 v2 (fun _ q => absurd q c2)
      · rw [if_neg (fun z => c ((sub_c (by omega) hH).mp z))]
        exact keep v v1 v2 (fun q _ => absurd q c)
    · rintro ⟨x, y, w, v⟩ ⟨ew, g, ex, ey, v1, v2, g1, g2, g3⟩
      simp only at ew ex ey v1 v2 ⊢
      unfold m_X5_send_b1
      rw [(ht.cls v1).2.1, ew, if_pos ((q_lt (by omega) (by omega)).mpr (by omega))]
      exact ⟨_, rfl, g, ex, ey, v1, v2, g1, g2, g3⟩
  simp only at ex ey v1 v2
  refine ⟨g, v, by rw [e, ex, ey], v1, v2, g1, ?_, fun s hs hq => g3 s hs ?_⟩
  · rcases g2 with q | ⟨q, -⟩ <;> omega
  · rcases Nat.lt_or_ge (bitsN s) z with q | q
    · exact Or.inl q
    · exact Or.inr ⟨by omega, by have := sub_le hs; omega⟩
theorem send5 {u : zM} {t : Nat → Int32} {n N : Nat} (ht : tIs u 1 t) (ho : tOk t n) (hm : msd u n (fun m b => meas t b m) (cnt t)) (hN : N ≤ 12) :
    ∃ (g : Nat) (v : zM), zit zF (fun s : Int32 × Int32 × Int32 × zM => m_X5_send_b0 (nI N) u s.1 s.2.1 s.2.2.1 s.2.2.2) (0, nI (fS t n 0), 1, u) = some (nI g, v) ∧ clsP u v ∧ subS g (tSet t) ∧ bitsN g ≤ N ∧ ∀ s, subS s (tSet t) → bitsN s ≤ N → kf (fS t n) s ≤ kf (fS t n) g := by
  have hH := tSet_lt t
  obtain ⟨⟨x, v⟩, e, g, ex, v1, g1, g2, g3⟩ : ∃ r : Int32 × zM, zit zF (fun s : Int32 × Int32 × Int32 × zM => m_X5_send_b0 (nI N) u s.1 s.2.1 s.2.2.1 s.2.2.2) (0, nI (fS t n 0), 1, u) = some r ∧ ∃ g, r.1 = nI g ∧ clsP u r.2 ∧ subS g (tSet t) ∧ bitsN g ≤ N ∧ ∀ s, subS s (tSet t) → bitsN s ≤ N → kf (fS t n) s ≤ kf (fS t n) g := by
    refine zit_inv2 (fun k s => s.2.2.1 = nI (k + 1) ∧ ∃ g, s.1 = nI g ∧ s.2.1 = nI (fS t n g) ∧ clsP u s.2.2.2 ∧ msd s.2.2.2 n (fun m b => meas t b m) (cnt t) ∧ subS g (tSet t) ∧ bitsN g ≤ k ∧ ∀ s, subS s (tSet t) → bitsN s ≤ k → kf (fS t n) s ≤ kf (fS t n) g) N _ _ (by omega) ⟨rfl, 0, rfl, rfl, clsP.rfl' u, hm, (fun i hi => by rw [Nat.zero_testBit] at hi; cases hi), Nat.le_refl _, fun s hs hq => ?_⟩ ?_ ?_
    · have h1 := sub_le hs
      have h2 := bits_z (s := s) (by omega) (by omega)
      rw [h2]; exact Nat.le_refl _
    · rintro k ⟨x, y, w, v⟩ hk ⟨ew, g, ex, ey, v1, v2, g1, g2, g3⟩
      simp only at ew ex ey v1 v2 ⊢
      subst ew ex ey
      unfold m_X5_send_b0
      have bH := bitsN_le (tSet t)
      have f2 : fS t n g ≤ 12 := bitsN_le _
      rw [if_neg (fun z => by have := (q_lt (by omega) (by omega)).mp z; omega), ht.2.1, bc5 hH]
      by_cases c : nI (bitsN (tSet t)) - nI (k + 1) ≤ nI (fS t n g)
      · rw [if_pos c]
        have hp : bitsN (tSet t) ≤ fS t n g + (k + 1) := by
          rcases Nat.lt_or_ge (bitsN (tSet t)) (k + 1) with q | q
          · omega
          · rw [q_sub q] at c
            have := (q_le (by omega) (by omega)).mp c
            omega
        refine Or.inr ⟨_, rfl, g, rfl, v1, g1, by omega, fun s hs hq => ?_⟩
        rcases Nat.lt_or_ge k (bitsN s) with q | q
        · have h1 := fS_le (n := n) hs
          have h2 := bitsN_le s
          have h3 := bitsN_le g
          have h4 := sub_le hs
          have h5 := sub_le g1
          unfold kf
          rcases Nat.lt_or_ge (fS t n s) (fS t n g) with p | p
          · omega
          · omega
        · exact g3 s hs q
      · rw [if_neg c]
        obtain ⟨g', v', e, w1, w2, w3, w4, w5⟩ := send5i (z := k + 1) (g0 := g) (ht.cls v1) ho v2 (by omega) g1 (by omega) (fun s hs hq => g3 s hs (by omega))
        have e' : zit zF (fun s : Int32 × Int32 × Int32 × zM => m_X5_send_b1 (nI (k + 1)) s.1 s.2.1 s.2.2.1 s.2.2.2) (nI g, nI (fS t n g), 1, v) = some (nI g', nI (fS t n g'), v') := e
        rw [e', zbind3_s]
        exact Or.inl ⟨_, rfl, q_add (k + 1) 1, g', rfl, rfl, v1.tr w1, w2, w3, w4, w5⟩
    · rintro ⟨x, y, w, v⟩ ⟨ew, g, ex, ey, v1, v2, g1, g2, g3⟩
      simp only at ew ex ey v1 v2 ⊢
      unfold m_X5_send_b0
      rw [ew, if_pos ((q_lt (by omega) (by omega)).mpr (by omega))]
      exact ⟨_, rfl, g, ex, v1, g1, g2, g3⟩
  simp only at ex v1
  exact ⟨g, v, by rw [e, ex], v1, g1, g2, g3⟩
theorem send6 {u : zM} {n N : Nat} (hS : vSlip u) (ho : tOk (u 40) n) (hN : N ≤ 12) :
    ∃ (g : Nat) (v : zM), zit zF (fun s : Int32 × Int32 × Int32 × zM => m_X6_send_b0 (nI (tSet (u 40))) (nI N) s.1 s.2.1 s.2.2.1 s.2.2.2) (0, (-1), 0, u) = some (nI g, v) ∧ cutP u v ∧ subS g (tSet (u 40)) ∧ bitsN g ≤ N ∧ ∀ s, subS s (tSet (u 40)) → bitsN s ≤ N → kf (fS (u 40) n) s ≤ kf (fS (u 40) n) g := by
  have hn := ho.1
  have hH := tSet_lt (u 40)
  have h2 : 2 ^ n ≤ 2 ^ 12 := Nat.pow_le_pow_right (by decide) hn
  have h1 : 0 < 2 ^ n := Nat.two_pow_pos n
  have hHn : tSet (u 40) < 2 ^ n := by rw [tSet_n ho]; exact pset_lt _ n
  have z0 : subS 0 (tSet (u 40)) := fun i hi => by rw [Nat.zero_testBit] at hi; cases hi
  let F := fS (u 40) n
  have fle : ∀ s, F s ≤ 12 := fun s => bitsN_le _
  obtain ⟨⟨x, v⟩, e, g, ex, v1, g1, g2, g3⟩ : ∃ r : Int32 × zM, zit zF (fun s : Int32 × Int32 × Int32 × zM => m_X6_send_b0 (nI (tSet (u 40))) (nI N) s.1 s.2.1 s.2.2.1 s.2.2.2) (0, (-1), 0, u) = some r ∧ ∃ g, r.1 = nI g ∧ cutP u r.2 ∧ subS g (tSet (u 40)) ∧ bitsN g ≤ N ∧ ∀ s, subS s (tSet (u 40)) → bitsN s ≤ N → kf F s ≤ kf F g := by
    refine zit_inv (fun k s => s.2.2.1 = nI k ∧ cutP u s.2.2.2 ∧ ((k = 0 ∧ s.1 = 0 ∧ s.2.1 = -1) ∨ ∃ g, s.1 = nI g ∧ s.2.1 = nI (F g) ∧ subS g (tSet (u 40)) ∧ bitsN g ≤ N ∧ g < k ∧ ∀ s, s < k → subS s (tSet (u 40)) → bitsN s ≤ N → kf F s ≤ kf F g)) (2 ^ n) _ _ (by omega) ⟨rfl, cutP.rfl' u, Or.inl ⟨rfl, rfl, rfl⟩⟩ ?_ ?_
    · rintro k ⟨x, y, w, v⟩ hk ⟨ew, v1, h⟩
      simp only at ew v1 h ⊢
      subst ew
      unfold m_X6_send_b0
      have e40 : v 40 = u 40 := v1.q rfl (by decide)
      rw [e40, ho.2.1, n_shl (by omega), if_neg (fun z => by have := (q_le (by omega) (by omega)).mp z; omega)]
      have skip : ∀ v', cutP u v' → ¬ (subS k (tSet (u 40)) ∧ bitsN k ≤ N) → ∃ s', (some (.inl (x, y, nI k + 1, v')) : Option ((Int32 × Int32 × Int32 × zM) ⊕ (Int32 × zM))) = some (.inl s') ∧ s'.2.2.1 = nI (k + 1) ∧ cutP u s'.2.2.2 ∧ ((k + 1 = 0 ∧ s'.1 = 0 ∧ s'.2.1 = -1) ∨ ∃ g, s'.1 = nI g ∧ s'.2.1 = nI (F g) ∧ subS g (tSet (u 40)) ∧ bitsN g ≤ N ∧ g < k + 1 ∧ ∀ s, s < k + 1 → subS s (tSet (u 40)) → bitsN s ≤ N → kf F s ≤ kf F g) := by
        intro v' hv' hno
        refine ⟨_, rfl, q_add k 1, hv', Or.inr ?_⟩
        rcases h with ⟨rfl, -, -⟩ | ⟨g, q1, q2, q3, q4, q5, q6⟩
        · exact absurd ⟨z0, Nat.zero_le _⟩ hno
        · refine ⟨g, q1, q2, q3, q4, by omega, fun s hs h1 h2 => ?_⟩
          by_cases c : s = k
          · rw [c] at h1 h2; exact absurd ⟨h1, h2⟩ hno
          · exact q6 s (by omega) h1 h2
      have b12 := bitsN_le k
      by_cases c : subS k (tSet (u 40))
      · rw [if_pos ((sub_c (by omega) hH).mpr c), bc6 (by omega), zbind_s]
        by_cases c2 : N < bitsN k
        · rw [if_pos ((q_lt (by omega) (by omega)).mpr c2)]
          exact skip v v1 (fun z => by omega)
        · rw [if_neg (fun z => c2 ((q_lt (by omega) (by omega)).mp z)), dif_n hH]
          obtain ⟨w, e1, w1⟩ := fitOf_s (u := v) (n := n) (s := dif (tSet (u 40)) k) (fun j hj => by rw [v1.q rfl (by decide)]; exact hS j hj) (by rw [e40]; exact ho) (dif_ok k (tSet_sOk ho))
          rw [e40] at e1
          have eF : bitsN (pset (fitP (u 40) (dif (tSet (u 40)) k) (coatV (u 40) n (dif (tSet (u 40)) k))) n) = F k := rfl
          rw [e1, zbind2_s, bc6 (pset_lt12 hn), zbind_s, eF]
          have f1 := fle k
          have hcw := v1.tr w1
          have take : (∀ s, s < k → subS s (tSet (u 40)) → bitsN s ≤ N → kf F s ≤ kf F k) → ∃ s', (some (.inl (nI k, nI (F k), nI k + 1, w)) : Option ((Int32 × Int32 × Int32 × zM) ⊕ (Int32 × zM))) = some (.inl s') ∧ s'.2.2.1 = nI (k + 1) ∧ cutP u s'.2.2.2 ∧ ((k + 1 = 0 ∧ s'.1 = 0 ∧ s'.2.1 = -1) ∨ ∃ g, s'.1 = nI g ∧ s'.2.1 = nI (F g) ∧ subS g (tSet (u 40)) ∧ bitsN g ≤ N ∧ g < k + 1 ∧ ∀ s, s < k + 1 → subS s (tSet (u 40)) → bitsN s ≤ N → kf F s ≤ kf F g) := by
            intro hle
            refine ⟨_, rfl, q_add k 1, hcw, Or.inr ⟨k, rfl, rfl, c, by omega, by omega, fun s hs h1 h2 => ?_⟩⟩
            by_cases cs : s = k
            · rw [cs]; exact Nat.le_refl _
            · exact hle s (by omega) h1 h2
          rcases h with ⟨rfl, rfl, rfl⟩ | ⟨g, q1, q2, q3, q4, q5, q6⟩
          · rw [if_pos (i_lt_le (b := 0) (by decide) ((q_le (a := 0) (by decide) (by omega)).mpr (Nat.zero_le _)))]
            exact take (fun s hs => absurd hs (by omega))
          · subst q1 q2
            have f2 := fle g
            have b12' := bitsN_le g
            by_cases c3 : F g < F k
            · rw [if_pos ((q_lt (by omega) (by omega)).mpr c3)]
              refine take (fun s hs h1 h2 => Nat.le_trans (q6 s hs h1 h2) ?_)
              unfold kf; omega
            · rw [if_neg (fun z => c3 ((q_lt (by omega) (by omega)).mp z))]
              have keep : kf F k ≤ kf F g → ∃ s', (some (.inl (nI g, nI (F g), nI k + 1, w)) : Option ((Int32 × Int32 × Int32 × zM) ⊕ (Int32 × zM))) = some (.inl s') ∧ s'.2.2.1 = nI (k + 1) ∧ cutP u s'.2.2.2 ∧ ((k + 1 = 0 ∧ s'.1 = 0 ∧ s'.2.1 = -1) ∨ ∃ g, s'.1 = nI g ∧ s'.2.1 = nI (F g) ∧ subS g (tSet (u 40)) ∧ bitsN g ≤ N ∧ g < k + 1 ∧ ∀ s, s < k + 1 → subS s (tSet (u 40)) → bitsN s ≤ N → kf F s ≤ kf F g) := by
                intro hle
                refine ⟨_, rfl, q_add k 1, hcw, Or.inr ⟨g, rfl, rfl, q3, q4, by omega, fun s hs h1 h2 => ?_⟩⟩
                by_cases cs : s = k
                · rw [cs]; exact hle
                · exact q6 s (by omega) h1 h2
              by_cases c4 : F k = F g
              · rw [if_pos (congrArg nI c4), zbind_s, bc6 (by omega), zbind_s]
                by_cases c5 : bitsN g ≤ bitsN k
                · rw [if_pos ((q_le (by omega) (by omega)).mpr c5)]
                  refine keep ?_
                  unfold kf; omega
                · rw [if_neg (fun z => c5 ((q_le (by omega) (by omega)).mp z))]
                  refine take (fun s hs h1 h2 => Nat.le_trans (q6 s hs h1 h2) ?_)
                  unfold kf; omega
              · rw [if_neg (q_ne (by omega) (by omega) c4)]
                refine keep ?_
                unfold kf; omega
      · rw [if_neg (fun z => c ((sub_c (by omega) hH).mp z))]
        exact skip v v1 (fun z => c z.1)
    · rintro ⟨x, y, w, v⟩ ⟨ew, v1, h⟩
      simp only at ew v1 h ⊢
      unfold m_X6_send_b0
      have e40 : v 40 = u 40 := v1.q rfl (by decide)
      rw [e40, ho.2.1, n_shl (by omega), ew, if_pos (i_le_refl _)]
      rcases h with ⟨h, -, -⟩ | ⟨g, q1, q2, q3, q4, q5, q6⟩
      · omega
      · exact ⟨_, rfl, g, q1, v1, q3, q4, fun s hs h2 => q6 s (by have := sub_le hs; omega) hs h2⟩
  simp only at ex v1
  exact ⟨g, v, by rw [e, ex], v1, g1, g2, g3⟩
theorem p_send : B_send Inv := by
  intro a u hu
  obtain ⟨⟨n, ho⟩, ht⟩ := id hu.1
  have hn := ho.1
  unfold m_X5_send m_X6_send
  simp only [w5_eq, w6_eq, if_0]
  by_cases c : (0 : Int32) ≤ a ∧ a ≤ 12
  · rw [if_neg (fun z => z c)]
    obtain ⟨N, -, hN, rfl⟩ := (btw a 0 12 (by decide) (by decide)).mp c
    obtain ⟨v, e1, v1, v2⟩ := measureAll_ok ht ho
    have hv1 : clsP u v := measP v1
    obtain ⟨w, e2, w1, w2⟩ := fis5 (s := 0) (ht.cls hv1) ho v2
    obtain ⟨g, y, e3, y1, g1, g2, g3⟩ := send5 (N := N) ((ht.cls hv1).cls w1) ho w2 hN
    have hI := hu.congr (hv1.tr (w1.tr y1)).same
    have e40 : y 40 = u 40 := (hv1.tr (w1.tr y1)).q rfl
    obtain ⟨g', q, e4, q1, g1', g2', g3'⟩ := send6 (u := y) (n := n) (N := N) hI.2.2.2.2.2 (by rw [e40]; exact ho) hN
    rw [e40] at e4 g1' g3'
    have eg : g' = g := by
      have h1 := sub_le g1
      have h2 := sub_le g1'
      have h3 := tSet_lt (u 40)
      exact kf_eq (f := fS (u 40) n) (by omega) (by omega) (Nat.le_antisymm (g3 g' g1' g2') (g3' g g1 g2))
    subst eg
    refine ⟨nI g', y, q, ?_, ?_, hI.congr q1.same⟩
    · rw [e1, zbind_s, show m_X5_fittingIfSent 0 v = some (nI (fS (u 40) n 0), w) from e2, zbind2_s, e3, zbind2_s]
    · rw [if_neg (fun z => z c), hereSet_ok (by rw [e40]; exact ho), zbind_s, e40, e4, zbind2_s]
  · rw [if_pos c]
    refine fin0 hu (g := fun u1 => _) rfl ?_
    rw [if_pos c]
