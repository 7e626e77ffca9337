/-! ODDS -/
def dr (z : Int32) : Int32 := z * 1103515245 + 12345
def drn : Nat → Int32 → Int32
  | 0, z => z
  | i + 1, z => dr (drn i z)
/-- the seed behind the slips of the bodies below k -/
def zq (h : Nat → Bool) (z : Int32) : Nat → Int32
  | 0 => z
  | k + 1 => if h k = true then drn 3 (zq h z k) else zq h z k
def slp (z : Int32) : Int32 := zrem (zushr z 8) 3 - 1
def eB (h : Nat → Bool) (z : Int32) (b m : Nat) : Int32 := if h b = true then slp (drn (m + 1) (zq h z b)) else 0
theorem zlet2_s {α0 α1 β : Type} (x : α0) (y : α1) (f : α0 → α1 → β) : zlet2 (x, y) f = f x y := rfl
theorem draw5 (u : zM) : m_X4_draw u = (zushr (dr (u 1 12)) 8, zst u 1 12 (dr (u 1 12))) := by
  unfold m_X4_draw
  rw [zlet_s, zst_s]; rfl
theorem drawn6 (u : zM) : m_X6_drawn 3 u = some (zrem (zushr (dr (u 40 5)) 8) 3, zst u 40 5 (dr (u 40 5))) := by
  unfold m_X6_drawn
  rw [zlet_s, if_neg (show ¬ (3 : Int32) = 0 by decide), zst_s]; rfl
theorem ih5s {u : zM} {s b : Nat} (h : u 1 7 = nI s) (hs : s < 4096) (hb : b < 12) : m_X4_isHere (nI b) u = if s.testBit b = true then 1 else 0 := by
  unfold m_X4_isHere
  rw [h, h5_eq (by omega) (by omega), zb_if]
/-- only slips have changed, and the seed -/
def slP (u v : zM) : Prop := (∀ q, q ≠ 1 → q ≠ 16 → q ≠ 17 → v q = u q) ∧ ∀ j, j ≠ 12 → v 1 j = u 1 j
theorem slP.tr {u v w : zM} (h : slP u v) (h' : slP v w) : slP u w := ⟨fun q a b c => (h'.1 q a b c).trans (h.1 q a b c), fun j a => (h'.2 j a).trans (h.2 j a)⟩
theorem slP.rfl' (u : zM) : slP u u := ⟨fun _ _ _ _ => rfl, fun _ _ => rfl⟩
theorem slp_i {u : zM} {n b : Nat} {V : Nat → Nat → Int32} {C : Nat → Nat} (h : msd u n V C) (hn : n ≤ 12) (hb : b < n) : ∃ v, zit zF (fun s : Int32 × zM => m_X5_slipAll_b1 (nI b) s.1 s.2) (0, u) = some v ∧ slP u v ∧ v 1 12 = drn 3 (u 1 12) ∧ msd v n (fun m' b' => if b' = b then V m' b + slp (drn (m' + 1) (u 1 12)) else V m' b') C := by
  refine zit_inv (fun k x => x.1 = nI k ∧ slP u x.2 ∧ x.2 1 12 = drn k (u 1 12) ∧ msd x.2 n (fun m' b' => if m' < k ∧ b' = b then V m' b + slp (drn (m' + 1) (u 1 12)) else V m' b') C) 3 _ _ (by omega) ⟨rfl, slP.rfl' u, rfl, h.ext (fun m' b' _ _ => if_neg (by omega))⟩ ?_ ?_
  · rintro k ⟨x, v⟩ hk ⟨rfl, h1, h2, h3⟩
    simp only at h1 h2 h3 ⊢
    unfold m_X5_slipAll_b1
    rw [if_neg (show ¬ (3 : Int32) ≤ nI k from fun z => by have := (q_le (a := 3) (by decide) (by omega)).mp z; omega), draw5]
    obtain ⟨w, e, w1, w2⟩ := slip_ok (u := zst v 1 12 (dr (v 1 12))) (m := k) (b := b) (x := zrem (zushr (dr (v 1 12)) 8) 3 - 1) (h3.cg ⟨zst_o _ (by decide), zst_o _ (by decide), zst_o _ (by decide), zst_o _ (by decide)⟩) hn hk hb
    rw [zlet2_s, e, zbind_s]
    refine ⟨_, rfl, q_add k 1, h1.tr ⟨fun q a b c => (w1 q b c).trans (zst_o _ a), fun j hj => ?_⟩, ?_, w2.ext (fun m' b' hm' hb' => ?_)⟩
    · show w 1 j = v 1 j
      rw [w1 1 (by decide) (by decide), zst_j _ hj]
    · show w 1 12 = dr (drn k (u 1 12))
      rw [w1 1 (by decide) (by decide), zst_s, h2]
    · show (if m' < k + 1 ∧ b' = b then V m' b + slp (drn (m' + 1) (u 1 12)) else V m' b') = if m' = k ∧ b' = b then (if k < k ∧ b = b then V k b + slp (drn (k + 1) (u 1 12)) else V k b) + slp (dr (v 1 12)) else (if m' < k ∧ b' = b then V m' b + slp (drn (m' + 1) (u 1 12)) else V m' b')
      by_cases c : m' = k ∧ b' = b
      · obtain ⟨rfl, rfl⟩ := c
        rw [if_pos ⟨by omega, rfl⟩, if_pos ⟨rfl, rfl⟩, if_neg (by omega), h2]; rfl
      · rw [if_neg c]
        by_cases c2 : m' < k ∧ b' = b
        · rw [if_pos c2, if_pos ⟨by omega, c2.2⟩]
        · rw [if_neg c2, if_neg (by omega)]
  · rintro ⟨x, v⟩ ⟨rfl, h1, h2, h3⟩
    simp only at h1 h2 h3 ⊢
    unfold m_X5_slipAll_b1
    rw [if_pos (show (3 : Int32) ≤ nI 3 by decide)]
    refine ⟨_, rfl, h1, h2, h3.ext (fun m' b' hm' hb' => ?_)⟩
    show (if b' = b then V m' b + slp (drn (m' + 1) (u 1 12)) else V m' b') = if m' < 3 ∧ b' = b then V m' b + slp (drn (m' + 1) (u 1 12)) else V m' b'
    by_cases c : b' = b
    · rw [if_pos c, if_pos ⟨hm', c⟩]
    · rw [if_neg c, if_neg (fun z => c z.2)]
theorem slp5 {u : zM} {n s : Nat} {V : Nat → Nat → Int32} {C : Nat → Nat} (h : msd u n V C) (hn : n ≤ 12) (h6 : u 1 6 = nI n) (h7 : u 1 7 = nI s) (hs : s < 4096) : ∃ v, m_X5_slipAll u = some v ∧ slP u v ∧ v 1 12 = zq s.testBit (u 1 12) n ∧ msd v n (fun m b => V m b + eB s.testBit (u 1 12) b m) C := by
  unfold m_X5_slipAll
  obtain ⟨v, e, h1, h2, h3⟩ : ∃ v, zit zF (fun x : Int32 × zM => m_X5_slipAll_b0 x.1 x.2) (0, u) = some v ∧ slP u v ∧ v 1 12 = zq s.testBit (u 1 12) n ∧ msd v n (fun m b => V m b + eB s.testBit (u 1 12) b m) C := by
    refine zit_inv (fun k x => x.1 = nI k ∧ slP u x.2 ∧ x.2 1 12 = zq s.testBit (u 1 12) k ∧ msd x.2 n (fun m b => if b < k then V m b + eB s.testBit (u 1 12) b m else V m b) C) n _ _ (by omega) ⟨rfl, slP.rfl' u, rfl, h.ext (fun m b _ _ => if_neg (by omega))⟩ ?_ ?_
    · rintro k ⟨x, v⟩ hk ⟨rfl, h1, h2, h3⟩
      simp only at h1 h2 h3 ⊢
      unfold m_X5_slipAll_b0
      rw [h1.2 6 (by decide), h6, if_neg (fun z => by have := (q_le (by omega) (by omega)).mp z; omega), ih5s ((h1.2 7 (by decide)).trans h7) hs (by omega), zq]
      by_cases c : s.testBit k = true
      · rw [if_pos c, if_neg (show ¬ (1 : Int32) = 0 by decide), if_pos c]
        obtain ⟨w, e, w1, w2, w3⟩ := slp_i h3 hn hk
        rw [e, zbind_s]
        refine ⟨_, rfl, q_add k 1, h1.tr w1, by rw [← h2]; exact w2, w3.ext (fun m b hm hb => ?_)⟩
        show (if b < k + 1 then V m b + eB s.testBit (u 1 12) b m else V m b) = if b = k then (if k < k then V m k + eB s.testBit (u 1 12) k m else V m k) + slp (drn (m + 1) (v 1 12)) else (if b < k then V m b + eB s.testBit (u 1 12) b m else V m b)
        by_cases cb : b = k
        · subst cb
          rw [if_pos (by omega), if_pos rfl, if_neg (by omega), h2, eB, if_pos c]
        · rw [if_neg cb]
          by_cases c2 : b < k
          · rw [if_pos c2, if_pos (by omega)]
          · rw [if_neg c2, if_neg (by omega)]
      · rw [if_neg c, if_pos rfl, if_neg c]
        refine ⟨_, rfl, q_add k 1, h1, h2, h3.ext (fun m b hm hb => ?_)⟩
        show (if b < k + 1 then V m b + eB s.testBit (u 1 12) b m else V m b) = if b < k then V m b + eB s.testBit (u 1 12) b m else V m b
        by_cases cb : b = k
        · subst cb
          rw [if_pos (by omega), if_neg (by omega), eB, if_neg c, Int32.add_zero]
        · by_cases c2 : b < k
          · rw [if_pos c2, if_pos (by omega)]
          · rw [if_neg c2, if_neg (by omega)]
    · rintro ⟨x, v⟩ ⟨rfl, h1, h2, h3⟩
      simp only at h1 h2 h3 ⊢
      unfold m_X5_slipAll_b0
      rw [h1.2 6 (by decide), h6, if_pos (i_le_refl _)]
      refine ⟨_, rfl, h1, h2, h3.ext (fun m b hm hb => ?_)⟩
      exact (if_pos hb).symm
  exact ⟨v, by rw [e, zbind_s], h1, h2, h3⟩
def eq3 (f g : Nat → Int32) : Bool := decide (f 0 = g 0) && decide (f 1 = g 1) && decide (f 2 = g 2)
theorem eq3_t {f g : Nat → Int32} : eq3 f g = true ↔ ∀ m, m < 3 → f m = g m := by
  unfold eq3
  rw [Bool.and_eq_true, Bool.and_eq_true, decide_eq_true_eq, decide_eq_true_eq, decide_eq_true_eq]
  constructor
  · rintro ⟨⟨h0, h1⟩, h2⟩ m hm
    have h : m = 0 ∨ m = 1 ∨ m = 2 := by omega
    rcases h with rfl | rfl | rfl
    · exact h0
    · exact h1
    · exact h2
  · intro h
    exact ⟨⟨h 0 (by decide), h 1 (by decide)⟩, h 2 (by decide)⟩
theorem before5 {v : zM} {f g : Nat → Int32} (hf : ∀ m, m < 3 → v 19 m = f m) (hg : ∀ m, m < 3 → v 30 m = g m) : m_X5_isCoatAsBefore v = some (if eq3 f g = true then 1 else 0) := by
  unfold m_X5_isCoatAsBefore
  obtain ⟨r, e, hr⟩ : ∃ r, zit zF (fun x : Int32 => m_X5_isCoatAsBefore_b0 v x) 0 = some r ∧ r = if eq3 f g = true then 1 else 0 := by
    refine zit_inv2 (fun k x => x = nI k ∧ ∀ i, i < k → f i = g i) 3 _ _ (by omega) ⟨rfl, fun i hi => absurd hi (by omega)⟩ ?_ ?_
    · rintro k x hk ⟨rfl, h⟩
      unfold m_X5_isCoatAsBefore_b0
      rw [if_neg (show ¬ (3 : Int32) ≤ nI k from fun z => by have := (q_le (a := 3) (by decide) (by omega)).mp z; omega), zld_n hk (by decide), zbind_s, zld_n hk (by decide), zbind_s, hf k hk, hg k hk]
      by_cases c : f k = g k
      · rw [if_pos c]
        refine Or.inl ⟨_, rfl, q_add k 1, fun i hi => ?_⟩
        by_cases ci : i = k
        · rw [ci]; exact c
        · exact h i (by omega)
      · rw [if_neg c]
        exact Or.inr ⟨_, rfl, (if_neg (fun z => c (eq3_t.mp z k hk))).symm⟩
    · rintro x ⟨rfl, h⟩
      unfold m_X5_isCoatAsBefore_b0
      rw [if_pos (show (3 : Int32) ≤ nI 3 by decide)]
      exact ⟨_, rfl, (if_pos (eq3_t.mpr h)).symm⟩
  rw [e, hr]
theorem tIs.z {u v : zM} {t : Nat → Int32} {x : Int32} (h : tIs u 1 t) (h1 : ∀ q, 2 ≤ q → q ≤ 7 → v q = u q) (h2 : ∀ j, j ≠ 12 → v 1 j = u 1 j) (h3 : v 1 12 = x) : tIs v 1 (upd t 5 x) := by
  obtain ⟨i0, i1, i2, i3, i4, i5, i6, i7, i8, i9, i10, i11, i12⟩ := h
  have eo : ∀ j, j ≠ 5 → upd t 5 x j = t j := fun j hj => upd_o t x hj
  have eS : tSet (upd t 5 x) = tSet t := tSet_congr (fun b _ => eo _ (by omega))
  unfold tIs
  rw [h1 (1 + 1) (by decide) (by decide), h1 (1 + 2) (by decide) (by decide), h1 (1 + 3) (by decide) (by decide), h1 (1 + 4) (by decide) (by decide), h1 (1 + 5) (by decide) (by decide), h1 (1 + 6) (by decide) (by decide), h2 6 (by decide), h2 7 (by decide), h2 8 (by decide), h2 9 (by decide), h2 10 (by decide), h2 11 (by decide), h3, upd_s, eo 0 (by decide), eo 1 (by decide), eo 2 (by decide), eo 3 (by decide), eo 4 (by decide), eS]
  refine ⟨i0, i1, i2, i3, i4, i5, rfl, fun b hb => ?_, fun b m hb hm => ?_, fun b hb => ?_, fun b hb => ?_, fun j hj => ?_, fun i hi => ?_⟩
  · unfold tK; rw [eo _ (by omega)]; exact i7 b hb
  · unfold tM; rw [eo _ (by omega)]; exact i8 b m hb hm
  · unfold tB; rw [eo _ (by omega)]; exact i9 b hb
  · unfold tP; rw [eo _ (by omega)]; exact i10 b hb
  · rw [eo _ (by omega)]; exact i11 j hj
  · rw [eo _ (by omega)]; exact i12 i hi
theorem tOk.z {t : Nat → Int32} {n : Nat} (h : tOk t n) (x : Int32) : tOk (upd t 5 x) n :=
  h.lo (upd_o t _ (by decide)) (fun j h1 h2 => upd_o t _ (by omega)) (fun j h1 h2 => upd_o t _ (by omega)) (by rw [upd_o t _ (by decide)]; exact h.2.2.2.2.2.1) (by rw [upd_o t _ (by decide)]; exact h.2.2.2.2.2.2.1) (by rw [upd_o t _ (by decide)]; exact h.2.2.2.2.2.2.2.1) (by rw [upd_o t _ (by decide)]; exact h.2.2.2.2.2.2.2.2.1)
theorem meas_z (t : Nat → Int32) (v : Int32) (b m : Nat) : meas (upd t 5 v) b m = meas t b m := by
  unfold meas width tK tM tB
  simp only [upd_o t v (show 6 + 7 * b ≠ 5 by omega), upd_o t v (show 6 + 7 * b + 1 + m ≠ 5 by omega), upd_o t v (show 6 + 7 * b + 1 + 1 ≠ 5 by omega), upd_o t v (show 6 + 7 * b + 4 ≠ 5 by omega)]
theorem cnt_z (t : Nat → Int32) (v : Int32) : cnt (upd t 5 v) = cnt t := by
  funext b
  unfold cnt tK
  rw [upd_o t v (show 6 + 7 * b ≠ 5 by omega)]
/-- does the coat come out the same with the slips from the seed z -/
noncomputable def sameC (t : Nat → Int32) (n s : Nat) (z : Int32) : Bool := eq3 (fun m => cutV (t 1) n (fun b => meas t b m + eB s.testBit z b m) (cnt t) s) (coatV t n s)
/-- the seed at the time i; how often it came out the same before -/
def zz (h : Nat → Bool) (z : Int32) (n : Nat) : Nat → Int32
  | 0 => z
  | i + 1 => zq h (zz h z n i) n
noncomputable def oC (t : Nat → Int32) (n s : Nat) (z : Int32) : Nat → Nat
  | 0 => 0
  | i + 1 => oC t n s z i + if sameC t n s (zz s.testBit z n i) = true then 1 else 0
def odP (u v : zM) : Prop := (∀ q, q ≠ 1 → ¬ (15 ≤ q ∧ q ≤ 19) → v q = u q) ∧ ∀ j, j ≠ 12 → v 1 j = u 1 j
theorem odds5 {u : zM} {t : Nat → Int32} {n s N : Nat} {z : Int32} (ht : tIs u 1 t) (ho : tOk t n) (hz : u 1 12 = z) (hs : s = tSet t) (h0 : s ≠ 0) (hK : ∀ m, m < 3 → u 30 m = coatV t n s m) (hN : N ≤ 30) : ∃ r : Int32 × zM, zit zF (fun x : Int32 × Int32 × zM => m_X5_odds_b0 (nI N) x.1 x.2.1 x.2.2) (0, 0, u) = some r ∧ r.1 = nI (oC t n s z N) ∧ odP u r.2 ∧ r.2 1 12 = zz s.testBit z n N := by
  have hn := ho.1
  have hso : sOk n s := by rw [hs]; exact tSet_sOk ho
  refine zit_inv (fun k x => x.1 = nI (oC t n s z k) ∧ x.2.1 = nI k ∧ odP u x.2.2 ∧ x.2.2 1 12 = zz s.testBit z n k) N _ _ (by omega) ⟨rfl, rfl, ⟨fun _ _ _ => rfl, fun _ _ => rfl⟩, hz⟩ ?_ ?_
  · rintro k ⟨x, y, v⟩ hk ⟨ex, ey, h1, h2⟩
    simp only at ex ey h1 h2 ⊢
    subst ex ey
    unfold m_X5_odds_b0
    have ht' : tIs v 1 (upd t 5 (zz s.testBit z n k)) := ht.z (fun q a b => h1.1 q (by omega) (by omega)) h1.2 h2
    obtain ⟨w, e1, w1, w2⟩ := measureAll_ok ht' (ho.z _)
    have w2' : msd w n (fun m b => meas t b m) (cnt t) := by
      rw [cnt_z] at w2
      exact w2.ext (fun m b _ _ => (meas_z t _ b m).symm)
    have a6 : w 1 6 = nI n := by rw [w1 1 (by decide) (by decide) (by decide) (by decide), h1.2 6 (by decide)]; exact ht.1.trans ho.2.1
    have a7 : w 1 7 = nI s := by rw [w1 1 (by decide) (by decide) (by decide) (by decide), h1.2 7 (by decide), hs]; exact ht.2.1
    obtain ⟨y, e2, y1, y2, y3⟩ := slp5 w2' hn a6 a7 hso.1
    have a12 : w 1 12 = zz s.testBit z n k := by rw [w1 1 (by decide) (by decide) (by decide) (by decide)]; exact h2
    rw [a12] at y2 y3
    have b7 : y 1 7 = nI s := (y1.2 7 (by decide)).trans a7
    have b8 : y 1 8 = t 1 := by rw [y1.2 8 (by decide), w1 1 (by decide) (by decide) (by decide) (by decide), h1.2 8 (by decide)]; exact ht.2.2.1
    obtain ⟨x, e3, x1, x2⟩ := cutAll_ok y3 hn hso.1 (hso.pos h0 (cnt_pos t)) (cnt_pos t) (cnt_le t) h0 (t 1)
    have e4 := before5 (v := x) (f := fun m => cutV (t 1) n (fun b => meas t b m + eB s.testBit (zz s.testBit z n k) b m) (cnt t) s) (g := coatV t n s) x2 (fun m hm => by
      rw [x1 30 (by decide), y1.1 30 (by decide) (by decide) (by decide), w1 30 (by decide) (by decide) (by decide) (by decide), h1.1 30 (by decide) (by decide)]
      exact hK m hm)
    have e4' : m_X5_isCoatAsBefore x = some (if sameC t n s (zz s.testBit z n k) = true then 1 else 0) := e4
    have hodp : odP u x := ⟨fun q a b => by
      rw [x1 q (by omega), y1.1 q a (by omega) (by omega), w1 q (by omega) (by omega) (by omega) (by omega)]
      exact h1.1 q a b, fun j hj => by
      rw [x1 1 (by decide), y1.2 j hj, w1 1 (by decide) (by decide) (by decide) (by decide)]
      exact h1.2 j hj⟩
    have hx12 : x 1 12 = zz s.testBit z n (k + 1) := by rw [x1 1 (by decide)]; exact y2
    rw [if_neg (fun z => by have := (q_le (by omega) (by omega)).mp z; omega), e1, zbind_s, e2, zbind_s, b7, b8, e3, zbind2_s, e4', zbind_s, oC]
    by_cases c : sameC t n s (zz s.testBit z n k) = true
    · simp only [if_pos c]
      rw [if_neg (show ¬ (1 : Int32) = 0 by decide)]
      exact ⟨_, rfl, q_add _ 1, q_add k 1, hodp, hx12⟩
    · simp only [if_neg c]
      rw [if_pos trivial]
      exact ⟨_, rfl, Int32.add_zero _, q_add k 1, hodp, hx12⟩
  · rintro ⟨x, y, v⟩ ⟨ex, ey, h1, h2⟩
    simp only at ex ey h1 h2 ⊢
    unfold m_X5_odds_b0
    rw [ey, if_pos (i_le_refl _)]
    exact ⟨_, rfl, ex, h1, h2⟩
/-! the reference's slips -/
theorem idx3' (b m : Nat) : (3 : Int32) * nI b + nI m = nI (3 * b + m) := by
  have a1 : (3 : Int32) * nI b = nI (3 * b) := q_mul 3 b
  rw [a1, q_add]
theorem slp6i {u : zM} {h : Nat → Bool} {b : Nat} (hb : b < 12) (hH : u 40 (6 + 7 * b + 6) = if h b = true then 1 else 0) : ∃ v, zit zF (fun s : Int32 × zM => m_X6_slip_b1 (nI b) s.1 s.2) (0, u) = some v ∧ (∀ q, q ≠ 40 → q ≠ 44 → v q = u q) ∧ v 40 = upd (u 40) 5 (if h b = true then drn 3 (u 40 5) else u 40 5) ∧ ∀ j, v 44 j = if 3 * b ≤ j ∧ j < 3 * b + 3 then (if h b = true then slp (drn (j - 3 * b + 1) (u 40 5)) else 0) else u 44 j := by
  refine zit_inv (fun k x => x.1 = nI k ∧ (∀ q, q ≠ 40 → q ≠ 44 → x.2 q = u q) ∧ x.2 40 = upd (u 40) 5 (if h b = true then drn k (u 40 5) else u 40 5) ∧ ∀ j, x.2 44 j = if 3 * b ≤ j ∧ j < 3 * b + k then (if h b = true then slp (drn (j - 3 * b + 1) (u 40 5)) else 0) else u 44 j) 3 _ _ (by omega) ⟨rfl, fun _ _ _ => rfl, ?_, fun j => (if_neg (by omega)).symm⟩ ?_ ?_
  · show u 40 = upd (u 40) 5 (if h b = true then u 40 5 else u 40 5)
    rw [ite_self]
    funext j
    unfold upd
    by_cases c : j = 5
    · rw [if_pos c, c]
    · rw [if_neg c]
  · rintro k ⟨x, v⟩ hk ⟨rfl, h1, h2, h3⟩
    simp only at h1 h2 h3 ⊢
    unfold m_X6_slip_b1
    have eH : v 40 (6 + 7 * b + 6) = if h b = true then 1 else 0 := by rw [h2, upd_o _ _ (by omega)]; exact hH
    rw [if_neg (show ¬ (3 : Int32) ≤ nI k from fun z => by have := (q_le (a := 3) (by decide) (by omega)).mp z; omega), show m_X6_bodyIs (nI b) 6 v = some (v 40 (6 + 7 * b + 6)) from bi6 v (f := 6) hb (by decide), zbind_s, eH, idx3']
    by_cases c : h b = true
    · rw [if_pos c] at h2
      simp only [if_pos c] at h3 ⊢
      rw [if_pos trivial, drawn6, zbind2_s, zsv_n (by omega) (by decide), zbind_s]
      have e5 : v 40 5 = drn k (u 40 5) := by rw [h2, upd_s]
      refine ⟨_, rfl, q_add k 1, fun q a b => (zst_o _ b).trans ((zst_o _ a).trans (h1 q a b)), ?_, fun j => ?_⟩
      · show zst (zst v 40 5 (dr (v 40 5))) 44 (3 * b + k) (slp (dr (v 40 5))) 40 = upd (u 40) 5 (dr (drn k (u 40 5)))
        rw [zst_o _ (by decide), row_st, h2, upd_upd, upd_s]
      · show zst (zst v 40 5 (dr (v 40 5))) 44 (3 * b + k) (slp (dr (v 40 5))) 44 j = _
        rw [zst_g, zst_o _ (by decide)]
        by_cases cj : j = 3 * b + k
        · subst cj
          rw [if_pos ⟨rfl, rfl⟩, if_pos (by omega), e5, show 3 * b + k - 3 * b + 1 = k + 1 by omega]; rfl
        · rw [if_neg (fun z => cj z.2), h3 j]
          by_cases c2 : 3 * b ≤ j ∧ j < 3 * b + k
          · rw [if_pos c2, if_pos (by omega)]
          · rw [if_neg c2, if_neg (by omega)]
    · rw [if_neg c] at h2
      simp only [if_neg c] at h3 ⊢
      rw [if_neg (show ¬ (0 : Int32) = 1 by decide), zsv_n (by omega) (by decide), zbind_s]
      refine ⟨_, rfl, q_add k 1, fun q a b => (zst_o _ b).trans (h1 q a b), ?_, fun j => ?_⟩
      · show zst v 44 (3 * b + k) 0 40 = _
        rw [zst_o _ (by decide)]; exact h2
      show zst v 44 (3 * b + k) 0 44 j = _
      rw [zst_g]
      by_cases cj : j = 3 * b + k
      · subst cj
        rw [if_pos ⟨rfl, rfl⟩, if_pos (by omega)]
      · rw [if_neg (fun z => cj z.2), h3 j]
        by_cases c2 : 3 * b ≤ j ∧ j < 3 * b + k
        · rw [if_pos c2, if_pos (by omega)]
        · rw [if_neg c2, if_neg (by omega)]
  · rintro ⟨x, v⟩ ⟨rfl, h1, h2, h3⟩
    simp only at h1 h2 h3 ⊢
    unfold m_X6_slip_b1
    rw [if_pos (show (3 : Int32) ≤ nI 3 by decide)]
    exact ⟨_, rfl, h1, h2, h3⟩
theorem slp6 {u : zM} {t : Nat → Int32} {n : Nat} {z : Int32} (ho : tOk t n) (h40 : u 40 = upd t 5 z) : ∃ v, m_X6_slip u = some v ∧ (∀ q, q ≠ 40 → q ≠ 44 → v q = u q) ∧ v 40 = upd t 5 (zq (tSet t).testBit z n) ∧ ∀ j, v 44 j = if j < 3 * n then eB (tSet t).testBit z (j / 3) (j % 3) else u 44 j := by
  have hn := ho.1
  unfold m_X6_slip
  obtain ⟨v, e, h1, h2, h3⟩ : ∃ v, zit zF (fun s : Int32 × zM => m_X6_slip_b0 s.1 s.2) (0, u) = some v ∧ (∀ q, q ≠ 40 → q ≠ 44 → v q = u q) ∧ v 40 = upd t 5 (zq (tSet t).testBit z n) ∧ ∀ j, v 44 j = if j < 3 * n then eB (tSet t).testBit z (j / 3) (j % 3) else u 44 j := by
    refine zit_inv (fun k x => x.1 = nI k ∧ (∀ q, q ≠ 40 → q ≠ 44 → x.2 q = u q) ∧ x.2 40 = upd t 5 (zq (tSet t).testBit z k) ∧ ∀ j, x.2 44 j = if j < 3 * k then eB (tSet t).testBit z (j / 3) (j % 3) else u 44 j) n _ _ (by omega) ⟨rfl, fun _ _ _ => rfl, h40, fun j => (if_neg (by omega)).symm⟩ ?_ ?_
    · rintro k ⟨x, v⟩ hk ⟨rfl, h1, h2, h3⟩
      simp only at h1 h2 h3 ⊢
      unfold m_X6_slip_b0
      have e0 : v 40 0 = nI n := by rw [h2, upd_o _ _ (by decide)]; exact ho.2.1
      have e5 : v 40 5 = zq (tSet t).testBit z k := by rw [h2, upd_s]
      have eH : v 40 (6 + 7 * k + 6) = if (tSet t).testBit k = true then 1 else 0 := by
        rw [h2, upd_o _ _ (by omega), tSet_bit t (by omega)]
        rcases ho.2.2.2.1 k (by omega) with q | q
        · rw [if_neg (by simp [hereP, q])]; exact q
        · rw [if_pos (by simp [hereP, q])]; exact q
      rw [e0, if_neg (fun z => by have := (q_le (by omega) (by omega)).mp z; omega)]
      obtain ⟨w, e, w1, w2, w3⟩ := slp6i (u := v) (h := (tSet t).testBit) (b := k) (by omega) eH
      rw [e, zbind_s]
      refine ⟨_, rfl, q_add k 1, fun q a b => (w1 q a b).trans (h1 q a b), ?_, fun j => ?_⟩
      · show w 40 = upd t 5 (if (tSet t).testBit k = true then drn 3 (zq (tSet t).testBit z k) else zq (tSet t).testBit z k)
        rw [w2, h2, upd_upd, upd_s]
      · show w 44 j = _
        rw [w3 j, e5]
        by_cases c : 3 * k ≤ j ∧ j < 3 * k + 3
        · rw [if_pos c, if_pos (show j < 3 * (k + 1) by omega), show j / 3 = k by omega, show j - 3 * k = j % 3 by omega]; rfl
        · rw [if_neg c, h3 j]
          by_cases c2 : j < 3 * k
          · rw [if_pos c2, if_pos (by omega)]
          · rw [if_neg c2, if_neg (by omega)]
    · rintro ⟨x, v⟩ ⟨rfl, h1, h2, h3⟩
      simp only at h1 h2 h3 ⊢
      unfold m_X6_slip_b0
      have e0 : v 40 0 = nI n := by rw [h2, upd_o _ _ (by decide)]; exact ho.2.1
      rw [e0, if_pos (i_le_refl _)]
      exact ⟨_, rfl, h1, h2, h3⟩
  exact ⟨v, by rw [e, zbind_s], h1, h2, h3⟩
theorem cmp6 {w : zM} {n s : Nat} {f g : Nat → Int32} (ho : tOk (w 40) n) (hs : sOk n s) (h0 : s ≠ 0) (hf : ∀ m, m < 3 → cutV (w 40 1) n (measW w m) (cnt (w 40)) s = f m) (hg : ∀ m, m < 3 → w 43 m = g m) : ∃ r : Int32 × zM, zit zF (fun x : Int32 × Int32 × zM => m_X6_odds_b1 (nI s) x.1 x.2.1 x.2.2) (1, 0, w) = some r ∧ r.1 = (if eq3 f g = true then 1 else 0) ∧ rowP w r.2 := by
  have hn := ho.1
  refine zit_inv (fun k x => x.2.1 = nI k ∧ rowP w x.2.2 ∧ ((x.1 = 1 ∧ ∀ i, i < k → f i = g i) ∨ (x.1 = 0 ∧ ¬ eq3 f g = true))) 3 _ _ (by omega) ⟨rfl, rowP.rfl' w, Or.inl ⟨rfl, fun i hi => absurd hi (by omega)⟩⟩ ?_ ?_
  · rintro k ⟨x, y, v⟩ hk ⟨rfl, h1, h⟩
    simp only at h1 h ⊢
    unfold m_X6_odds_b1
    rw [if_neg (show ¬ (3 : Int32) ≤ nI k from fun z => by have := (q_le (a := 3) (by decide) (by omega)).mp z; omega)]
    rcases h with ⟨rfl, h⟩ | ⟨rfl, h⟩
    · have e40 : v 40 = w 40 := h1.1 40 (by decide) (by decide)
      obtain ⟨y, e, r⟩ := cutFor_ok (u := v) (n := n) (s := s) (m := k) (by rw [e40]; exact ho) hs.1 hk (by rw [e40]; exact hs.pos h0 (cnt_pos _))
      rw [e40, measW_cg h1, hf k hk] at e
      have y43 : y 43 k = g k := by rw [r.1 43 (by decide) (by decide), h1.1 43 (by decide) (by decide)]; exact hg k hk
      rw [if_neg (show ¬ (1 : Int32) = 0 by decide), e, zbind2_s, zld_n hk (by decide), zbind_s, y43]
      by_cases c : f k = g k
      · rw [if_pos c]
        refine ⟨_, rfl, q_add k 1, h1.tr r, Or.inl ⟨rfl, fun i hi => ?_⟩⟩
        by_cases ci : i = k
        · rw [ci]; exact c
        · exact h i (by omega)
      · rw [if_neg c]
        exact ⟨_, rfl, q_add k 1, h1.tr r, Or.inr ⟨rfl, fun z => c (eq3_t.mp z k hk)⟩⟩
    · rw [if_pos rfl]
      exact ⟨_, rfl, q_add k 1, h1, Or.inr ⟨rfl, h⟩⟩
  · rintro ⟨x, y, v⟩ ⟨rfl, h1, h⟩
    simp only at h1 h ⊢
    unfold m_X6_odds_b1
    rw [if_pos (show (3 : Int32) ≤ nI 3 by decide)]
    rcases h with ⟨rfl, h⟩ | ⟨rfl, h⟩
    · exact ⟨_, rfl, (if_pos (eq3_t.mpr h)).symm, h1⟩
    · exact ⟨_, rfl, (if_neg h).symm, h1⟩
theorem rst6 (u : zM) : ∃ v, zit zF (fun x : Int32 × zM => m_X6_odds_b2 x.1 x.2) (0, u) = some v ∧ (∀ q, q ≠ 44 → v q = u q) ∧ ∀ j, v 44 j = if j < 36 then 0 else u 44 j := by
  refine zit_inv (fun k x => x.1 = nI k ∧ (∀ q, q ≠ 44 → x.2 q = u q) ∧ ∀ j, x.2 44 j = if j < k then 0 else u 44 j) 36 _ _ (by omega) ⟨rfl, fun _ _ => rfl, fun j => (if_neg (by omega)).symm⟩ ?_ ?_
  · rintro k ⟨x, v⟩ hk ⟨rfl, h1, h2⟩
    simp only at h1 h2 ⊢
    unfold m_X6_odds_b2
    rw [if_neg (show ¬ (36 : Int32) ≤ nI k from fun z => by have := (q_le (a := 36) (by decide) (by omega)).mp z; omega), zsv_n hk (by decide), zbind_s]
    refine ⟨_, rfl, q_add k 1, fun q a => (zst_o _ a).trans (h1 q a), fun j => ?_⟩
    show zst v 44 k 0 44 j = _
    rw [zst_g]
    by_cases cj : j = k
    · subst cj; rw [if_pos ⟨rfl, rfl⟩, if_pos (by omega)]
    · rw [if_neg (fun z => cj z.2), h2 j]
      by_cases c2 : j < k
      · rw [if_pos c2, if_pos (by omega)]
      · rw [if_neg c2, if_neg (by omega)]
  · rintro ⟨x, v⟩ ⟨rfl, h1, h2⟩
    simp only at h1 h2 ⊢
    unfold m_X6_odds_b2
    rw [if_pos (show (36 : Int32) ≤ nI 36 by decide)]
    exact ⟨_, rfl, h1, h2⟩
def odR (u v : zM) : Prop := (∀ q, q ≠ 40 → q ≠ 45 → q ≠ 39 → q ≠ 43 → v q = u q) ∧ ∀ j, j ≠ 7 → v 39 j = u 39 j
theorem odds6 {u : zM} {t : Nat → Int32} {n s N : Nat} {z : Int32} (hS : vSlip u) (h40 : u 40 = upd t 5 z) (ho : tOk t n) (hs : s = tSet t) (h0 : s ≠ 0) (hN : N ≤ 30) : ∃ r : Int32 × zM, zit zF (fun x : Int32 × Int32 × zM => m_X6_odds_b0 (nI N) (nI s) x.1 x.2.1 x.2.2) (0, 0, u) = some r ∧ r.1 = nI (oC t n s z N) ∧ odR u r.2 ∧ r.2 40 = upd t 5 (zz s.testBit z n N) := by
  have hn := ho.1
  have hso : sOk n s := by rw [hs]; exact tSet_sOk ho
  refine zit_inv (fun k x => x.1 = nI (oC t n s z k) ∧ x.2.1 = nI k ∧ odR u x.2.2 ∧ x.2.2 40 = upd t 5 (zz s.testBit z n k)) N _ _ (by omega) ⟨rfl, rfl, ⟨fun _ _ _ _ _ => rfl, fun _ _ => rfl⟩, h40⟩ ?_ ?_
  · rintro k ⟨x, y, v⟩ hk ⟨ex, ey, h1, h2⟩
    simp only at ex ey h1 h2 ⊢
    subst ex ey
    unfold m_X6_odds_b0
    have hv44 : v 44 = u 44 := h1.1 44 (by decide) (by decide) (by decide) (by decide)
    have hvS : vSlip v := fun j hj => by rw [hv44]; exact hS j hj
    have hok : tOk (v 40) n := by rw [h2]; exact ho.z _
    obtain ⟨w, e1, w1, w2⟩ := cut6_s (u := v) hvS hok hso h0
    have w40 : w 40 = upd t 5 (zz s.testBit z n k) := (w1.q rfl (by decide)).trans h2
    have hcoat : ∀ x m, coatV (upd t 5 x) n s m = coatV t n s m := fun x m => by
      unfold coatV
      rw [cnt_z, upd_o t _ (by decide)]
      exact cutV_cg (fun b _ => meas_z t x b m)
    obtain ⟨y, e2, y1, y2, y3⟩ := slp6 ho w40
    rw [← hs] at y2 y3
    have y44 : ∀ b m, b < n → m < 3 → measW y m b = meas t b m + eB s.testBit (zz s.testBit z n k) b m := fun b m hb hm => by
      unfold measW
      rw [y2, meas_z, y3, if_pos (by omega), show (3 * b + m) / 3 = b by omega, show (3 * b + m) % 3 = m by omega]
    obtain ⟨⟨r, x⟩, e3, er, x1⟩ := cmp6 (w := y) (n := n) (s := s) (f := fun m => cutV (t 1) n (fun b => meas t b m + eB s.testBit (zz s.testBit z n k) b m) (cnt t) s) (g := coatV t n s) (by rw [y2]; exact ho.z _) hso h0 (fun m hm => by
      rw [y2, cnt_z, upd_o t _ (by decide)]
      exact cutV_cg (fun b hb => y44 b m hb hm)) (fun m hm => by
      rw [y1 43 (by decide) (by decide), w2 m hm, h2, hcoat])
    simp only at er x1
    obtain ⟨q, e4, q1, q2⟩ := rst6 x
    have hod : odR u q := by
      refine ⟨fun c c1 c2 c3 c4 => ?_, fun j hj => ?_⟩
      · by_cases c5 : c = 44
        · subst c5
          rw [← hv44]
          funext j
          rw [q2 j]
          by_cases cj : j < 36
          · rw [if_pos cj]; exact (hvS j cj).symm
          · rw [if_neg cj, x1.1 44 (by decide) (by decide), y3 j, if_neg (by omega), w1.q rfl (by decide)]
        · rw [q1 c c5, x1.1 c c2 c3, y1 c c1 c5, w1.1 c c2 c3 c4]
          exact h1.1 c c1 c2 c3 c4
      · rw [q1 39 (by decide), x1.2 j hj, y1 39 (by decide) (by decide), w1.2 j hj]
        exact h1.2 j hj
    have hq40 : q 40 = upd t 5 (zz s.testBit z n (k + 1)) := by rw [q1 40 (by decide), x1.1 40 (by decide) (by decide)]; exact y2
    rw [if_neg (fun z => by have := (q_le (by omega) (by omega)).mp z; omega), e1, zbind_s, e2, zbind_s, e3, zbind2_s, zlet_s, e4, zbind_s, oC]
    have er' : r = if sameC t n s (zz s.testBit z n k) = true then 1 else 0 := er
    rw [er']
    by_cases c : sameC t n s (zz s.testBit z n k) = true
    · simp only [if_pos c]
      rw [if_neg (show ¬ (1 : Int32) = 0 by decide)]
      exact ⟨_, rfl, q_add _ 1, q_add k 1, hod, hq40⟩
    · simp only [if_neg c]
      rw [if_pos trivial]
      exact ⟨_, rfl, Int32.add_zero _, q_add k 1, hod, hq40⟩
  · rintro ⟨x, y, v⟩ ⟨ex, ey, h1, h2⟩
    simp only at ex ey h1 h2 ⊢
    unfold m_X6_odds_b0
    rw [ey, if_pos (i_le_refl _)]
    exact ⟨_, rfl, ex, h1, h2⟩
theorem p_odds : B_odds Inv := by
  intro a u hu
  obtain ⟨⟨n, ho⟩, ht⟩ := id hu.1
  have hn := ho.1
  unfold m_X5_odds m_X6_odds
  simp only [w5_eq, w6_eq, if_0]
  by_cases c : (1 : Int32) ≤ a ∧ a ≤ 30
  · rw [if_neg (fun z => z c)]
    obtain ⟨N, hN1, hN, rfl⟩ := (btw a 1 30 (by decide) (by decide)).mp c
    obtain ⟨v, h1, h2, h⟩ := cfah_ok hu ho
    have hv := hu.congr h1.same
    have e40 : v 40 = u 40 := h1.q rfl
    rcases h with ⟨h3, h4⟩ | ⟨h3, h4, h5⟩
    · rw [h4, zbind2_s, if_pos rfl]
      refine fin (j := 3) (by decide) hv (g := fun u1 => _) rfl ?_
      rw [if_neg (fun z => z c), hereSet_ok (by rw [fnd5_c 3 v (by decide), e40]; exact ho), zbind_s, fnd5_c 3 v (by decide), e40, h3, if_pos (show nI 0 = 0 from rfl)]; rfl
    · have ecp : zcp v 19 3 0 30 3 0 3 = some (zup v 30 (va_cpy (v 19) (v 30) 0 0 3)) := zcp_n (sp := 0) (dp := 0) (n := 3) (by omega) (by omega) ⟨by decide, by decide⟩
      rw [h4, zbind2_s, if_neg (show ¬ (1 : Int32) = 0 by decide), ecp, zbind_s]
      generalize hw : zup v 30 (va_cpy (v 19) (v 30) 0 0 3) = w
      have w1 : ∀ q, q ≠ 30 → w q = v q := fun q hq => by rw [← hw]; exact zup_o v _ hq
      have wt' : tIs w 1 (u 40) := tIs_congr (fun k hk => w1 _ (by omega)) (ht.cls h1)
      have w12 : w 1 12 = u 40 5 := wt'.2.2.2.2.2.2.1
      obtain ⟨⟨x, y⟩, e5, ex, y1, y2⟩ := odds5 (N := N) wt' ho w12 rfl h3 (fun m hm => by
        rw [← hw, zup_s, pk_cpy_in (Nat.zero_le _) (by omega), Nat.zero_add, Nat.sub_zero]
        exact h5 m hm) hN
      simp only at ex y1 y2
      have y40 : y 40 = u 40 := by rw [y1.1 40 (by decide) (by decide), w1 40 (by decide)]; exact e40
      have y44 : vSlip y := fun j hj => by rw [y1.1 44 (by decide) (by decide), w1 44 (by decide)]; exact hv.2.2.2.2.2 j hj
      obtain ⟨⟨x', q⟩, e6, ex', q1, q2⟩ := odds6 (u := y) (t := u 40) (n := n) (N := N) (z := u 40 5) y44 (by
        rw [y40]
        funext j
        unfold upd
        by_cases cj : j = 5
        · rw [if_pos cj, cj]
        · rw [if_neg cj]) ho rfl h3 hN
      simp only at ex' q1 q2
      refine ⟨nI (oC (u 40) n (tSet (u 40)) (u 40 5) N), y, q, ?_, ?_, hu.town ⟨fun k k1 k2 k3 k4 k5 => ?_, ?_, ?_, ?_⟩ ⟨⟨n, by rw [q2]; exact ho.z _⟩, ?_⟩⟩
      · rw [e5, zbind2_s, ex]
      · rw [if_neg (fun z => z c), hereSet_ok (by rw [y40]; exact ho), zbind_s, y40, if_neg (nz (tSet_lt _) h3), e6, zbind2_s, ex']
      · have s1 : k ≠ 45 := fun e => by rw [e] at k1; exact absurd k1 (by decide)
        have s2 : k ≠ 43 := fun e => by rw [e] at k1; exact absurd k1 (by decide)
        have s3 : k ≠ 30 := fun e => by rw [e] at k1; exact absurd k1 (by decide)
        have s4 : ¬ (15 ≤ k ∧ k ≤ 19) := fun e => by
          have : k = 15 ∨ k = 16 ∨ k = 17 ∨ k = 18 ∨ k = 19 := by omega
          rcases this with rfl | rfl | rfl | rfl | rfl <;> exact absurd k1 (by decide)
        rw [q1.1 k k5 s1 k3 s2, y1.1 k (by omega) s4, w1 k s3, h1.q k1]
      · rw [q1.1 20 (by decide) (by decide) (by decide) (by decide), y1.1 20 (by decide) (by decide), w1 20 (by decide), h1.q rfl]
      · rw [q1.2 2 (by decide), y1.1 39 (by decide) (by decide), w1 39 (by decide), h1.q rfl]
      · rw [q1.2 12 (by decide), y1.1 39 (by decide) (by decide), w1 39 (by decide), h1.q rfl]
      · rw [q2]
        refine wt'.z (fun k a b => ?_) (fun j hj => ?_) ?_
        · rw [q1.1 k (by omega) (by omega) (by omega) (by omega), y1.1 k (by omega) (by omega)]
        · rw [q1.1 1 (by decide) (by decide) (by decide) (by decide), y1.2 j hj]
        · rw [q1.1 1 (by decide) (by decide) (by decide) (by decide)]; exact y2
  · rw [if_pos c]
    refine fin0 hu (g := fun u1 => _) rfl ?_
    rw [if_pos c]
