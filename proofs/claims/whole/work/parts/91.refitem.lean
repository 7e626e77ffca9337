/-! TEXT: the reference reads an item -/
/-- what reading an item changes in the reference -/
def i6P (u v : zM) : Prop := (∀ q, q ≠ 39 → q ≠ 50 → v q = u q) ∧ ∀ i, i < 13 ∨ (17 < i ∧ i ≠ 21 ∧ i ≠ 22) → v 39 i = u 39 i
theorem i6P.tr {u v w : zM} (h : i6P u v) (h' : i6P v w) : i6P u w := ⟨fun q a b => (h'.1 q a b).trans (h.1 q a b), fun j a => (h'.2 j a).trans (h.2 j a)⟩
theorem nxP.i {u v : zM} (h : nxP u v) : i6P u v := ⟨fun q a _ => h.1 q a, fun i a => h.2 i (by omega)⟩
theorem i6P.s50 {u : zM} {j : Nat} {x : Int32} : i6P u (zst u 50 j x) := ⟨fun q _ a => zst_o _ a, fun i _ => by rw [zst_o _ (by decide)]⟩
theorem i6P.s39 {u : zM} {j : Nat} {x : Int32} (h : j = 21 ∨ j = 22) : i6P u (zst u 39 j x) := ⟨fun q a _ => zst_o _ a, fun i a => zst_j _ (by omega)⟩
theorem i6P.rfl' (u : zM) : i6P u u := ⟨fun _ _ _ => rfl, fun _ _ => rfl⟩
section R6
variable {u : zM} {y : Nat → Nat} {L c : Nat} {T : Nat → Nat × Nat × Nat} {s : Bool × Nat}
theorem rt.s50 {j : Nat} {x : Int32} (h : rt u y L c T s) : rt (zst u 50 j x) y L c T s := h.cg (fun i _ _ => by rw [zst_o _ (by decide)]) (zst_o _ (by decide))
theorem rt.s39 {j : Nat} {x : Int32} (h : rt u y L c T s) (hj : 17 < j) : rt (zst u 39 j x) y L c T s := h.cg (fun i _ h2 => zst_j _ (by omega)) (zst_o _ (by decide))
theorem rt.w (h : rt u y L c T s) : u 39 17 = 0 ↔ s.1 = false := by
  rw [h.2.1]
  cases s.1
  · exact ⟨fun _ => rfl, fun _ => rfl⟩
  · exact ⟨fun z => absurd z (by decide), fun z => by cases z⟩
theorem body6t (hC : rdC y L c T) (h : rt u y L c T s) {m n bm rm k : Nat} (hm : m < 120) (h40 : u 40 0 = nI n) (h22 : u 39 22 = nI bm) (hrm : n + bm + rm = 12) : ∃ v, m_X6_readBody (nI (6 * m)) u = some v ∧ rt v y L c T (b4 y c T (pm c (decide (0 < rm)) s)) ∧ i6P u v ∧ v 39 21 = u 39 21 ∧ v 39 22 = nI (bm + 1) ∧ (∀ i, 1 ≤ i → i < 6 → v 50 (6 * m + i) = bIt y c T k (pm c (decide (0 < rm)) s) i) ∧ ∀ z, z < 6 * m + 1 → v 50 z = u 50 z := by
  unfold m_X6_readBody
  have ex : ((if 12 ≤ ((u 40 0) + (u 39 22)) then 0 else 1) : Int32) = if decide (0 < rm) = true then 1 else 0 := by
    rw [h40, h22, q_add]
    by_cases c0 : 0 < rm
    · rw [decide_eq_true c0, if_neg (show ¬ (12 : Int32) ≤ nI (n + bm) from fun z => by have := (q_le (a := 12) (by decide) (by omega)).mp z; omega)]; rfl
    · rw [decide_eq_false c0, if_pos (show (12 : Int32) ≤ nI (n + bm) from (q_le (a := 12) (by decide) (by omega)).mpr (by omega))]; rfl
  obtain ⟨u1, e1, p1, h1⟩ := must6 hC h (decide (0 < rm))
  rw [ex, zlet_s, e1, zbind_s, zlet_s, p1.2 22 (by omega), h22, show nI bm + 1 = nI (bm + 1) from q_add bm 1]
  generalize pm c (decide (0 < rm)) s = s1 at h1 ⊢
  have h1' := h1.s39 (j := 22) (x := nI (bm + 1)) (by decide)
  have q1 : i6P u (zst u1 39 22 (nI (bm + 1))) := p1.i.tr (i6P.s39 (Or.inr rfl))
  have a21 : zst u1 39 22 (nI (bm + 1)) 39 21 = u 39 21 := by rw [zst_j _ (by decide)]; exact p1.2 21 (by omega)
  have a22 : zst u1 39 22 (nI (bm + 1)) 39 22 = nI (bm + 1) := zst_s _ _ _ _
  have a50 : ∀ z, z < 6 * m + 1 → zst u1 39 22 (nI (bm + 1)) 50 z = u 50 z := fun z _ => by rw [zst_o _ (by decide), p1.1 50 (by decide)]
  obtain ⟨u2, e2, h2, q2, m2, b2', i2, o2⟩ : ∃ v, zit zF (fun s : Int32 × zM => m_X6_readBody_b0 (nI (6 * m)) s.1 s.2) (0, zst u1 39 22 (nI (bm + 1))) = some v ∧ rt v y L c T (b2 y c T s1) ∧ i6P u v ∧ v 39 21 = u 39 21 ∧ v 39 22 = nI (bm + 1) ∧ (∀ i, i < 3 → v 50 (6 * m + 1 + i) = nI (tokV y (T (pM y c T i s1).2))) ∧ ∀ z, z < 6 * m + 1 → v 50 z = u 50 z := by
    refine zit_inv (fun k x => x.1 = nI k ∧ rt x.2 y L c T (pM y c T k s1) ∧ i6P u x.2 ∧ x.2 39 21 = u 39 21 ∧ x.2 39 22 = nI (bm + 1) ∧ (∀ i, i < k → x.2 50 (6 * m + 1 + i) = nI (tokV y (T (pM y c T i s1).2))) ∧ ∀ z, z < 6 * m + 1 → x.2 50 z = u 50 z) 3 _ _ (by omega) ⟨rfl, h1', q1, a21, a22, fun i hi => absurd hi (by omega), a50⟩ ?_ ?_
    · rintro k ⟨x, v⟩ hk ⟨rfl, g1, g2, g3, g4, g5, g6⟩
      simp only at g1 g2 g3 g4 g5 g6 ⊢
      unfold m_X6_readBody_b0
      obtain ⟨w, e, w1, w2⟩ := numb6 hC g1 (lo := 50) (hi := 250) (by decide) (by decide)
      have ei : nI (6 * m) + 1 + nI k = nI (6 * m + 1 + k) := by
        have a1 : nI (6 * m) + 1 = nI (6 * m + 1) := q_add _ 1
        rw [a1, q_add]
      rw [if_neg (show ¬ (3 : Int32) ≤ nI k from fun z => by have := (q_le (a := 3) (by decide) (by omega)).mp z; omega), show m_X6_number 50 250 v = some (nI (tokV y (T (pM y c T k s1).2)), w) from e, zbind2_s, ei, zsv_n (by omega) (by decide), zbind_s]
      refine ⟨_, rfl, q_add k 1, w2.s50, g2.tr (w1.i.tr i6P.s50), ?_, ?_, fun i hi => ?_, fun z hz => ?_⟩
      · show zst w 50 (6 * m + 1 + k) (nI (tokV y (T (pM y c T k s1).2))) 39 21 = _
        rw [zst_o _ (by decide), w1.2 21 (by omega)]; exact g3
      · show zst w 50 (6 * m + 1 + k) (nI (tokV y (T (pM y c T k s1).2))) 39 22 = _
        rw [zst_o _ (by decide), w1.2 22 (by omega)]; exact g4
      · show zst w 50 (6 * m + 1 + k) (nI (tokV y (T (pM y c T k s1).2))) 50 (6 * m + 1 + i) = _
        rw [zst_g]
        by_cases ci : i = k
        · rw [ci, if_pos ⟨rfl, rfl⟩]
        · rw [if_neg (by omega), w1.1 50 (by decide)]; exact g5 i (by omega)
      · show zst w 50 (6 * m + 1 + k) (nI (tokV y (T (pM y c T k s1).2))) 50 z = _
        rw [zst_g, if_neg (by omega), w1.1 50 (by decide)]; exact g6 z hz
    · rintro ⟨x, v⟩ ⟨rfl, g⟩
      simp only at g ⊢
      unfold m_X6_readBody_b0
      rw [if_pos (show (3 : Int32) ≤ nI 3 by decide)]
      exact ⟨_, rfl, g⟩
  have i4 : nI (6 * m) + 4 = nI (6 * m + 4) := q_add _ 4
  have i5 : nI (6 * m) + 5 = nI (6 * m + 5) := q_add _ 5
  rw [e2, zbind_s, i4, i5, zsv_n (by omega) (by decide), zbind_s, zsv_n (by omega) (by decide), zbind_s]
  generalize hU : zst (zst u2 50 (6 * m + 4) 0) 50 (6 * m + 5) 0 = u3
  have h3 : rt u3 y L c T (b2 y c T s1) := by rw [← hU]; exact h2.s50.s50
  have q3 : i6P u u3 := by rw [← hU]; exact q2.tr (i6P.s50.tr i6P.s50)
  have o39 : ∀ i, u3 39 i = u2 39 i := fun i => by rw [← hU, zst_o _ (by decide), zst_o _ (by decide)]
  have o50 : ∀ z, u3 50 z = if z = 6 * m + 4 ∨ z = 6 * m + 5 then 0 else u2 50 z := fun z => by
    rw [← hU, zst_g, zst_g]
    by_cases c5 : z = 6 * m + 5
    · rw [if_pos ⟨rfl, c5⟩, if_pos (Or.inr c5)]
    · rw [if_neg (fun q => c5 q.2)]
      by_cases c4 : z = 6 * m + 4
      · rw [if_pos ⟨rfl, c4⟩, if_pos (Or.inl c4)]
      · rw [if_neg (fun q => c4 q.2), if_neg (fun q => q.elim c4 c5)]
  -- the bribe
  obtain ⟨u4, e4, h4, q4, m4, n4, v4, o4⟩ : ∃ v, ((if (u3 39 17) = 0 then zbind (m_X6_isWord 13 u3) (fun x25 => (if x25 = 0 then some u3 else zbind (m_X6_must 1 u3) (fun u28 => zbind (m_X6_isSign 45 u28) (fun x30 => zbind ((if x30 = 0 then some u28 else zbind (m_X6_must 1 u28) (fun u35 => some u35)) : Option (zM)) (fun u32 => zbind2 (m_X6_number 0 20 u32) (fun x37 u38 => (if x30 = 0 then zbind (zsv u38 50 720 (nI (6 * m + 4)) x37) (fun u41 => some u41) else zbind (zsv u38 50 720 (nI (6 * m + 4)) (-x37)) (fun u43 => some u43)))))))) else some u3) : Option (zM)) = some v ∧ rt v y L c T (b3 y c T s1) ∧ i6P u v ∧ v 39 21 = u3 39 21 ∧ v 39 22 = u3 39 22 ∧ v 50 (6 * m + 4) = (if (b2 y c T s1).1 = true then 0 else vB y c T (b2 y c T s1)) ∧ ∀ z, z ≠ 6 * m + 4 → v 50 z = u3 50 z := by
    have z4 : u3 50 (6 * m + 4) = 0 := by rw [o50, if_pos (Or.inl rfl)]
    cases hb2 : (b2 y c T s1).1 with
    | true =>
      have eb : b3 y c T s1 = b2 y c T s1 := if_pos hb2
      rw [if_neg (fun z => by rw [h3.w.mp z] at hb2; cases hb2), eb, if_pos rfl]
      exact ⟨_, rfl, h3, q3, rfl, rfl, z4, fun _ _ => rfl⟩
    | false =>
      have eb : b3 y c T s1 = pB y c T (b2 y c T s1) := if_neg (by rw [hb2]; decide)
      have es : b2 y c T s1 = (false, (b2 y c T s1).2) := Prod.ext hb2 rfl
      rw [if_pos (h3.w.mpr hb2), word6w hC h3 (by decide), zbind_s, eb, if_neg (show ¬ false = true by decide)]
      unfold pB vB
      by_cases c1 : wdB y (T (b2 y c T s1).2) 13 = true
      · rw [if_pos c1, if_neg (show ¬ (1 : Int32) = 0 by decide), if_pos c1, if_pos c1]
        obtain ⟨w1, f1, p1, g1⟩ := must6 hC h3 true
        have eA : pm c true (b2 y c T s1) = (false, nx c (b2 y c T s1).2) := by rw [es]; rfl
        have eA' : pA c (b2 y c T s1) = (false, nx c (b2 y c T s1).2) := eA
        rw [eA] at g1
        have sg := sign6 hC g1 (x := 45) (Or.inr rfl)
        rw [show m_X6_must 1 u3 = some w1 from f1, zbind_s, show m_X6_isSign 45 w1 = _ from sg, zbind_s]
        unfold pBb
        rw [eA']
        have fin4 : ∀ (w : zM) (t : Bool × Nat) (neg : Bool), rt w y L c T t → nxP u3 w → ∃ v, (zbind2 (m_X6_number 0 20 w) (fun x37 u38 => (if (if neg = true then (1 : Int32) else 0) = 0 then zbind (zsv u38 50 720 (nI (6 * m + 4)) x37) (fun u41 => some u41) else zbind (zsv u38 50 720 (nI (6 * m + 4)) (-x37)) (fun u43 => some u43))) : Option zM) = some v ∧ rt v y L c T (pN y c T 0 20 t) ∧ i6P u v ∧ v 39 21 = u3 39 21 ∧ v 39 22 = u3 39 22 ∧ v 50 (6 * m + 4) = (if neg = true then -nI (tokV y (T t.2)) else nI (tokV y (T t.2))) ∧ ∀ z, z ≠ 6 * m + 4 → v 50 z = u3 50 z := by
          intro w t neg hw pw
          obtain ⟨v, e, v1, v2⟩ := numb6 hC hw (lo := 0) (hi := 20) (by decide) (by decide)
          rw [show m_X6_number 0 20 w = some (nI (tokV y (T t.2)), v) from e, zbind2_s, zsv_n (by omega) (by decide), zsv_n (by omega) (by decide), zbind_s, zbind_s]
          have fr : ∀ x : Int32, rt (zst v 50 (6 * m + 4) x) y L c T (pN y c T 0 20 t) ∧ i6P u (zst v 50 (6 * m + 4) x) ∧ zst v 50 (6 * m + 4) x 39 21 = u3 39 21 ∧ zst v 50 (6 * m + 4) x 39 22 = u3 39 22 ∧ zst v 50 (6 * m + 4) x 50 (6 * m + 4) = x ∧ ∀ z, z ≠ 6 * m + 4 → zst v 50 (6 * m + 4) x 50 z = u3 50 z := fun x => ⟨v2.s50, q3.tr ((pw.tr v1).i.tr i6P.s50), by rw [zst_o _ (by decide), (pw.tr v1).2 21 (by omega)], by rw [zst_o _ (by decide), (pw.tr v1).2 22 (by omega)], zst_s _ _ _ _, fun z hz => by rw [zst_j _ hz, (pw.tr v1).1 50 (by decide)]⟩
          cases neg with
          | true => rw [if_neg (show ¬ (if true = true then (1 : Int32) else 0) = 0 by decide)]; exact ⟨_, rfl, fr _⟩
          | false => rw [if_pos (show (if false = true then (1 : Int32) else 0) = 0 by decide)]; exact ⟨_, rfl, fr _⟩
        dsimp only
        cases c2 : sgB y (T (nx c (b2 y c T s1).2)) 45 with
        | true =>
          obtain ⟨w2, f2, p2, g2⟩ := must6 hC g1 true
          have ec : (if false = false ∧ true = true then (1 : Int32) else 0) = (if true = true then (1 : Int32) else 0) := by decide
          rw [ec, if_neg (show ¬ (if true = true then (1 : Int32) else 0) = 0 by decide), show m_X6_must 1 w1 = some w2 from f2, zbind_s, zbind_s]
          exact fin4 w2 _ true g2 (p1.tr p2)
        | false =>
          have ec : (if false = false ∧ false = true then (1 : Int32) else 0) = (if false = true then (1 : Int32) else 0) := by decide
          rw [ec, if_pos (show (if false = true then (1 : Int32) else 0) = 0 by decide), zbind_s]
          exact fin4 w1 _ false g1 p1
      · rw [if_neg c1, if_pos rfl, if_neg c1, if_neg c1]
        exact ⟨_, rfl, h3, q3, rfl, rfl, z4, fun _ _ => rfl⟩
  have e4' := e4
  rw [e4', zbind_s]
  -- the pins
  obtain ⟨u5, e5, h5, q5, m5, n5, v5, o5⟩ : ∃ v, ((if (u4 39 17) = 0 then zbind (m_X6_isWord 14 u4) (fun x46 => (if x46 = 0 then some u4 else zbind (m_X6_must 1 u4) (fun u49 => zbind2 (m_X6_number 0 99 u49) (fun x51 u52 => zbind (zsv u52 50 720 (nI (6 * m + 5)) x51) (fun u54 => some u54))))) else some u4) : Option (zM)) = some v ∧ rt v y L c T (b4 y c T s1) ∧ i6P u v ∧ v 39 21 = u4 39 21 ∧ v 39 22 = u4 39 22 ∧ v 50 (6 * m + 5) = (if (b3 y c T s1).1 = true then 0 else vP y c T (b3 y c T s1)) ∧ ∀ z, z ≠ 6 * m + 5 → v 50 z = u4 50 z := by
    have z5 : u4 50 (6 * m + 5) = 0 := by rw [o4 _ (by omega), o50, if_pos (Or.inr rfl)]
    cases hb3 : (b3 y c T s1).1 with
    | true =>
      have eb : b4 y c T s1 = b3 y c T s1 := if_pos hb3
      rw [if_neg (fun z => by rw [h4.w.mp z] at hb3; cases hb3), eb, if_pos rfl]
      exact ⟨_, rfl, h4, q4, rfl, rfl, z5, fun _ _ => rfl⟩
    | false =>
      have eb : b4 y c T s1 = pP y c T (b3 y c T s1) := if_neg (by rw [hb3]; decide)
      rw [if_pos (h4.w.mpr hb3), word6w hC h4 (by decide), zbind_s, eb, if_neg (show ¬ false = true by decide)]
      unfold pP vP
      by_cases c1 : wdB y (T (b3 y c T s1).2) 14 = true
      · rw [if_pos c1, if_neg (show ¬ (1 : Int32) = 0 by decide), if_pos c1, if_pos c1]
        obtain ⟨w1, f1, p1, g1⟩ := must6 hC h4 true
        obtain ⟨v, e, v1, v2⟩ := numb6 hC g1 (lo := 0) (hi := 99) (by decide) (by decide)
        rw [show m_X6_must 1 u4 = some w1 from f1, zbind_s, show m_X6_number 0 99 w1 = some (nI (tokV y (T (pm c true (b3 y c T s1)).2)), v) from e, zbind2_s, zsv_n (by omega) (by decide), zbind_s]
        exact ⟨_, rfl, v2.s50, q4.tr ((p1.tr v1).i.tr i6P.s50), by rw [zst_o _ (by decide), (p1.tr v1).2 21 (by omega)], by rw [zst_o _ (by decide), (p1.tr v1).2 22 (by omega)], zst_s _ _ _ _, fun z hz => by rw [zst_j _ hz, (p1.tr v1).1 50 (by decide)]⟩
      · rw [if_neg c1, if_pos rfl, if_neg c1, if_neg c1]
        exact ⟨_, rfl, h4, q4, rfl, rfl, z5, fun _ _ => rfl⟩
  refine ⟨u5, e5, h5, q5, ?_, ?_, fun i i1 i6 => ?_, fun z hz => ?_⟩
  · rw [m5, m4, o39, m2]
  · rw [n5, n4, o39, b2']
  · by_cases c5 : i = 5
    · subst c5; exact v5
    · rw [o5 _ (by omega)]
      by_cases c4 : i = 4
      · subst c4; exact v4
      · rw [o4 _ (by omega), o50, if_neg (by omega), show 6 * m + i = 6 * m + 1 + (i - 1) by omega, i2 _ (by omega)]
        unfold bIt
        rw [if_neg (by omega), if_pos (by omega)]
  · rw [o5 _ (by omega), o4 _ (by omega), o50, if_neg (by omega)]
    exact o2 z hz
/-- what holds behind the reference's reading of an item -/
theorem item6 (hC : rdC y L c T) {j : Nat} (h : rt u y L c T (false, j)) {m n bm rm : Nat} (hm : m < 120) (h40 : u 40 0 = nI n) (h21 : u 39 21 = nI m) (h22 : u 39 22 = nI bm) (hrm : n + bm + rm = 12) : ∃ v, m_X6_readItem u = some v ∧ rt v y L c T (pI y c T (decide (0 < rm)) j) ∧ i6P u v ∧ v 39 21 = nI (m + 1) ∧ v 39 22 = nI (bm + isB y T j) ∧ (v 50 (6 * m) = iIt y c T (decide (0 < rm)) j 0 ∧ v 50 (6 * m + 1) = iIt y c T (decide (0 < rm)) j 1 ∧ (kd y (T j) < 7 → ∀ i, i < 6 → v 50 (6 * m + i) = iIt y c T (decide (0 < rm)) j i)) ∧ ∀ z, z < 6 * m → v 50 z = u 50 z := by
  unfold m_X6_readItem
  have i0 : (6 : Int32) * nI m = nI (6 * m) := q_mul 6 m
  have i1 : nI (6 * m) + 1 = nI (6 * m + 1) := q_add _ 1
  rw [which6 hC h, zbind_s, h21, zlet_s, show nI m + 1 = nI (m + 1) from q_add m 1, i0, zsv_n (by omega) (by decide), zbind_s, i1]
  by_cases ck : kd y (T j) < 7
  · have ck' : kd y (T (false, j).2) < 7 := ck
    have eB : isB y T j = 1 := if_pos ck
    have eI : pI y c T (decide (0 < rm)) j = b4 y c T (pm c (decide (0 < rm)) (false, j)) := if_pos ck
    have eT : iIt y c T (decide (0 < rm)) j = bIt y c T (kd y (T j)) (pm c (decide (0 < rm)) (false, j)) := funext fun i => if_pos ck
    have hg : ∀ x, rt (zst (zst u 39 21 (nI (m + 1))) 50 (6 * m) x) y L c T (false, j) := fun x => (h.s39 (by decide)).s50
    rw [if_pos ck', if_neg (show ¬ nI (kd y (T (false, j).2)) < 0 from nI_pos (by omega))]
    obtain ⟨v, e, v1, v2, v3, v4, v5, v6⟩ := body6t (k := kd y (T j)) hC (hg (nI (kd y (T j)))) hm (show _ = nI n by rw [zst_o _ (by decide), zst_o _ (by decide)]; exact h40) (show _ = nI bm by rw [zst_o _ (by decide), zst_j _ (by decide)]; exact h22) hrm
    have e' := e
    refine ⟨v, by rw [show m_X6_readBody (nI (6 * m)) (zst (zst u 39 21 (nI (m + 1))) 50 (6 * m) (nI (kd y (T (false, j).2)))) = some v from e, zbind_s], ?_, ((i6P.s39 (Or.inl rfl)).tr i6P.s50).tr v2, ?_, ?_, ?_, fun z hz => ?_⟩
    · rw [eI]; exact v1
    · rw [v3, zst_o _ (by decide), zst_s]
    · rw [eB]; exact v4
    · rw [eT]
      have x0 : v 50 (6 * m) = bIt y c T (kd y (T j)) (pm c (decide (0 < rm)) (false, j)) 0 := by
        rw [v6 _ (by omega), zst_s]; rfl
      refine ⟨x0, v5 1 (by decide) (by decide), fun _ i hi => ?_⟩
      by_cases ci : i = 0
      · rw [ci]; exact x0
      · exact v5 i (by omega) hi
    · rw [v6 z (by omega), zst_j _ (by omega), zst_o _ (by decide)]
  · have ck' : ¬ kd y (T (false, j).2) < 7 := ck
    have eB : isB y T j = 0 := if_neg ck
    have hg : ∀ x, rt (zst (zst u 39 21 (nI (m + 1))) 50 (6 * m) x) y L c T (false, j) := fun x => (h.s39 (by decide)).s50
    rw [if_neg ck', if_pos (show (-1 : Int32) < 0 by decide)]
    generalize hU : zst (zst u 39 21 (nI (m + 1))) 50 (6 * m) (-1) = u5
    have g5 : rt u5 y L c T (false, j) := by rw [← hU]; exact hg _
    have q5 : i6P u u5 := by rw [← hU]; exact (i6P.s39 (Or.inl rfl)).tr i6P.s50
    have m21 : u5 39 21 = nI (m + 1) := by rw [← hU, zst_o _ (by decide), zst_s]
    have m22 : u5 39 22 = nI bm := by rw [← hU, zst_o _ (by decide), zst_j _ (by decide)]; exact h22
    have o50 : ∀ z, z < 6 * m → u5 50 z = u 50 z := fun z hz => by rw [← hU, zst_j _ (by omega), zst_o _ (by decide)]
    have eI0 : pI y c T (decide (0 < rm)) j = (if wdB y (T j) 10 = true then pm c (decide (rl y (T (pA c (false, j)).2) < 3)) (pA c (false, j)) else if wdB y (T j) 11 = true then pN y c T 0 999 (pA c (false, j)) else pN y c T 0 99 (pm c (wdB y (T j) 12) (false, j))) := if_neg ck
    have eT0 : iIt y c T (decide (0 < rm)) j = fun i => (if wdB y (T j) 10 = true then (if i = 0 then 10 else if rl y (T (pA c (false, j)).2) < 3 then nI (rl y (T (pA c (false, j)).2)) else -1) else if wdB y (T j) 11 = true then (if i = 0 then 11 else nI (tokV y (T (pA c (false, j)).2))) else (if i = 0 then 12 else nI (tokV y (T (pm c (wdB y (T j) 12) (false, j)).2)))) := funext fun i => if_neg ck
    have endI : ∀ (w : zM) (P : Bool × Nat) (x0 x1 : Int32), rt w y L c T P → nxP u5 w → ∀ v, v = zst (zst w 50 (6 * m) x0) 50 (6 * m + 1) x1 → rt v y L c T P ∧ i6P u v ∧ v 39 21 = nI (m + 1) ∧ v 39 22 = nI (bm + 0) ∧ (v 50 (6 * m) = x0 ∧ v 50 (6 * m + 1) = x1) ∧ ∀ z, z < 6 * m → v 50 z = u 50 z := by
      intro w P x0 x1 hw pw v hv
      subst hv
      exact ⟨hw.s50.s50, q5.tr (pw.i.tr (i6P.s50.tr i6P.s50)), by rw [zst_o _ (by decide), zst_o _ (by decide), pw.2 21 (by omega)]; exact m21, by rw [zst_o _ (by decide), zst_o _ (by decide), pw.2 22 (by omega)]; exact m22, ⟨by rw [zst_j _ (by omega), zst_s], zst_s _ _ _ _⟩, fun z hz => by rw [zst_j _ (by omega), zst_j _ (by omega), pw.1 50 (by decide)]; exact o50 z hz⟩
    have w10 := word6w hC g5 (id := 10) (by decide)
    have w11 := word6w hC g5 (id := 11) (by decide)
    have w12 := word6w hC g5 (id := 12) (by decide)
    dsimp only at w10 w11 w12
    rw [w10, zbind_s, eB]
    by_cases c10 : wdB y (T j) 10 = true
    · simp only [if_pos c10] at eI0 eT0
      obtain ⟨w1, f1, p1, g1⟩ := must6 hC g5 true
      have eA : pm c true (false, j) = (false, nx c j) := rfl
      have eA' : pA c (false, j) = (false, nx c j) := rfl
      rw [eA] at g1
      have wr := which6r hC g1
      dsimp only at wr
      have ex : ((if (if rl y (T (nx c j)) < 3 then nI (rl y (T (nx c j))) else -1) < 0 then 0 else 1) : Int32) = if decide (rl y (T (nx c j)) < 3) = true then 1 else 0 := by
        by_cases cr : rl y (T (nx c j)) < 3
        · rw [if_pos cr, decide_eq_true cr, if_neg (nI_pos (by omega))]; rfl
        · rw [if_neg cr, decide_eq_false cr]; rfl
      obtain ⟨w2, f2, p2, g2⟩ := must6 hC g1 (decide (rl y (T (nx c j)) < 3))
      rw [if_pos c10, if_neg (show ¬ (1 : Int32) = 0 by decide), show m_X6_must 1 u5 = some w1 from f1, zbind_s, wr, zbind_s, ex, zlet_s, f2, zbind_s, zsv_n (by omega) (by decide), zbind_s, zsv_n (by omega) (by decide), zbind_s, eI0, eT0, eA']
      obtain ⟨z1, z2, z3, z4, z5, z6⟩ := endI w2 _ 10 (if rl y (T (nx c j)) < 3 then nI (rl y (T (nx c j))) else -1) g2 (p1.tr p2) _ rfl
      exact ⟨_, rfl, z1, z2, z3, z4, ⟨z5.1, z5.2, fun z => absurd z ck⟩, z6⟩
    · simp only [if_neg c10] at eI0 eT0
      rw [if_neg c10, if_pos rfl, w11, zbind_s]
      by_cases c11 : wdB y (T j) 11 = true
      · simp only [if_pos c11] at eI0 eT0
        obtain ⟨w1, f1, p1, g1⟩ := must6 hC g5 true
        have eA : pm c true (false, j) = (false, nx c j) := rfl
        have eA' : pA c (false, j) = (false, nx c j) := rfl
        rw [eA] at g1
        obtain ⟨w2, f2, p2, g2⟩ := numb6 hC (g1.s50 (j := 6 * m) (x := 11)) (lo := 0) (hi := 999) (by decide) (by decide)
        rw [if_pos c11, if_neg (show ¬ (1 : Int32) = 0 by decide), show m_X6_must 1 u5 = some w1 from f1, zbind_s, zsv_n (by omega) (by decide), zbind_s, show m_X6_number 0 999 (zst w1 50 (6 * m) 11) = some (nI (tokV y (T (nx c j))), w2) from f2, zbind2_s, zsv_n (by omega) (by decide), zbind_s, eI0, eT0, eA']
        refine ⟨_, rfl, g2.s50, q5.tr (p1.i.tr (i6P.s50.tr (p2.i.tr i6P.s50))), ?_, ?_, ⟨?_, zst_s _ _ _ _, fun z => absurd z ck⟩, fun z hz => ?_⟩
        · rw [zst_o _ (by decide), p2.2 21 (by omega), zst_o _ (by decide), p1.2 21 (by omega)]; exact m21
        · rw [zst_o _ (by decide), p2.2 22 (by omega), zst_o _ (by decide), p1.2 22 (by omega)]; exact m22
        · rw [zst_j _ (by omega), p2.1 50 (by decide), zst_s]; rfl
        · rw [zst_j _ (by omega), p2.1 50 (by decide), zst_j _ (by omega), p1.1 50 (by decide)]; exact o50 z hz
      · simp only [if_neg c11] at eI0 eT0
        obtain ⟨w1, f1, p1, g1⟩ := must6 hC g5 (wdB y (T j) 12)
        obtain ⟨w2, f2, p2, g2⟩ := numb6 hC (g1.s50 (j := 6 * m) (x := 12)) (lo := 0) (hi := 99) (by decide) (by decide)
        rw [if_neg c11, if_pos rfl, w12, zbind_s, f1, zbind_s, zsv_n (by omega) (by decide), zbind_s, show m_X6_number 0 99 (zst w1 50 (6 * m) 12) = some (nI (tokV y (T (pm c (wdB y (T j) 12) (false, j)).2)), w2) from f2, zbind2_s, zsv_n (by omega) (by decide), zbind_s, eI0, eT0]
        refine ⟨_, rfl, g2.s50, q5.tr (p1.i.tr (i6P.s50.tr (p2.i.tr i6P.s50))), ?_, ?_, ⟨?_, zst_s _ _ _ _, fun z => absurd z ck⟩, fun z hz => ?_⟩
        · rw [zst_o _ (by decide), p2.2 21 (by omega), zst_o _ (by decide), p1.2 21 (by omega)]; exact m21
        · rw [zst_o _ (by decide), p2.2 22 (by omega), zst_o _ (by decide), p1.2 22 (by omega)]; exact m22
        · rw [zst_j _ (by omega), p2.1 50 (by decide), zst_s]; rfl
        · rw [zst_j _ (by omega), p2.1 50 (by decide), zst_j _ (by omega), p1.1 50 (by decide)]; exact o50 z hz
end R6
