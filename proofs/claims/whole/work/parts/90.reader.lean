/-! TEXT: the class reads an item -/
section CR
variable {u : zM} {y : Nat → Nat} {L c : Nat} {T : Nat → Nat × Nat × Nat} {j : Nat}
theorem meas5t (hC : rdC y L c T) (h : cl u y L c T j) : ∃ r v, m_X0_readMeasures u = some (r, v) ∧ r = (if (b2 y c T (false, j)).1 = true then 0 else 1) ∧ cl v y L c T (b2 y c T (false, j)).2 ∧ rfP u v ∧ v 25 = u 25 ∧ ((b2 y c T (false, j)).1 = false → ∀ m, m < 3 → v 26 m = nI (tokV y (T (pM y c T m (false, j)).2))) := by
  unfold m_X0_readMeasures
  obtain ⟨⟨r, v⟩, e, r1, r2, r3, r4, r5⟩ : ∃ r : Int32 × zM, zit zF (fun s : Int32 × zM => m_X0_readMeasures_b0 s.1 s.2) (0, u) = some r ∧ r.1 = (if (b2 y c T (false, j)).1 = true then 0 else 1) ∧ cl r.2 y L c T (b2 y c T (false, j)).2 ∧ rfP u r.2 ∧ r.2 25 = u 25 ∧ ((b2 y c T (false, j)).1 = false → ∀ m, m < 3 → r.2 26 m = nI (tokV y (T (pM y c T m (false, j)).2))) := by
    refine zit_inv2 (fun k s => s.1 = nI k ∧ cl s.2 y L c T (pM y c T k (false, j)).2 ∧ (pM y c T k (false, j)).1 = false ∧ rfP u s.2 ∧ s.2 25 = u 25 ∧ ∀ m, m < k → s.2 26 m = nI (tokV y (T (pM y c T m (false, j)).2))) 3 _ _ (by omega) ⟨rfl, h, rfl, rfP.rfl' u, rfl, fun m hm => absurd hm (by omega)⟩ ?_ ?_
    · rintro k ⟨x, v⟩ hk ⟨rfl, h1, h2, h3, h4, h5⟩
      simp only at h1 h3 h4 h5 ⊢
      unfold m_X0_readMeasures_b0
      obtain ⟨w, e, w1, w2, w3, w4⟩ := take5 hC h1 (lo := 50) (hi := 250) (by decide) (by decide)
      have e' : m_X0_takeNumber 50 250 v = some (if okB y (T (pM y c T k (false, j)).2) 50 250 = true then nI (tokV y (T (pM y c T k (false, j)).2)) else -1, w) := e
      rw [if_neg (show ¬ (3 : Int32) ≤ nI k from fun z => by have := (q_le (a := 3) (by decide) (by omega)).mp z; omega), e', zbind2_s, zsv_n hk (by decide), zbind_s, zld_n hk (by decide), zbind_s, zst_s]
      have ep : pM y c T (k + 1) (false, j) = pm c (okB y (T (pM y c T k (false, j)).2) 50 250) (pM y c T k (false, j)) := rfl
      have hv := tokV_le y (T (pM y c T k (false, j)).2)
      by_cases c1 : okB y (T (pM y c T k (false, j)).2) 50 250 = true
      · rw [if_pos c1] at w1 ⊢
        have ep2 : pM y c T (k + 1) (false, j) = (false, nx c (pM y c T k (false, j)).2) := by
          rw [ep]; unfold pm
          rw [if_neg (by rw [h2]; decide), if_pos c1]
        rw [if_neg (m1_ne (by omega))]
        refine Or.inl ⟨_, rfl, q_add k 1, by rw [ep2]; exact w1.st (Or.inr rfl), by rw [ep2], h3.tr (w2.tr (rfP.st (Or.inr rfl))), (zst_o (q := 26) (q' := 25) (j := k) (v := nI (tokV y (T (pM y c T k (false, j)).2))) w (by decide)).trans (w3.trans h4), fun m hm => ?_⟩
        show zst w 26 k (nI (tokV y (T (pM y c T k (false, j)).2))) 26 m = _
        rw [zst_g]
        by_cases cm : m = k
        · rw [cm, if_pos ⟨rfl, rfl⟩]
        · rw [if_neg (fun z => cm z.2), w4]; exact h5 m (by omega)
      · rw [if_neg c1] at w1 ⊢
        have ep2 : pM y c T (k + 1) (false, j) = (true, (pM y c T k (false, j)).2) := by
          rw [ep]; unfold pm
          rw [if_neg (by rw [h2]; decide), if_neg c1]
        have ep3 : b2 y c T (false, j) = (true, (pM y c T k (false, j)).2) := by
          rw [← ep2]
          exact pM_w (k := k + 1) (by rw [ep2]) 3 (by omega)
        rw [if_pos rfl]
        refine Or.inr ⟨_, rfl, by rw [ep3]; rfl, by rw [ep3]; exact w1.st (Or.inr rfl), h3.tr (w2.tr (rfP.st (Or.inr rfl))), (zst_o (q := 26) (q' := 25) (j := k) (v := -1) w (by decide)).trans (w3.trans h4), fun z => by rw [ep3] at z; cases z⟩
    · rintro ⟨x, v⟩ ⟨rfl, h1, h2, h3, h4, h5⟩
      simp only at h1 h3 h4 h5 ⊢
      unfold m_X0_readMeasures_b0
      rw [if_pos (show (3 : Int32) ≤ nI 3 by decide)]
      refine ⟨_, rfl, ?_, h1, h3, h4, fun _ => h5⟩
      rw [show (b2 y c T (false, j)).1 = false from h2]; rfl
  exact ⟨r, v, e, r1, r2, r3, r4, r5⟩
theorem pm_t (c j : Nat) : pm c true (false, j) = (false, nx c j) := rfl
theorem pm_o {c j : Nat} (x : Bool) : pm c x (false, j) = (if x = true then (false, nx c j) else (true, j)) := rfl
theorem brib5 (hC : rdC y L c T) (h : cl u y L c T j) : ∃ r v, m_X0_readBribe u = some (r, v) ∧ r = (if (pB y c T (false, j)).1 = true then 0 else 1) ∧ cl v y L c T (pB y c T (false, j)).2 ∧ rfP u v ∧ v 26 = u 26 ∧ v 25 3 = u 25 3 ∧ ((pB y c T (false, j)).1 = false → v 25 1 = vB y c T (false, j)) := by
  unfold m_X0_readBribe
  have h0 : cl (zst u 25 1 0) y L c T j := h.st (Or.inl rfl)
  have r0 : rfP u (zst u 25 1 0) := rfP.st (Or.inl rfl)
  rw [zlet_s, word5 hC h0 (by decide), zbind_s]
  unfold pB vB
  by_cases c1 : wdB y (T j) 13 = true
  · rw [if_pos c1, if_neg (show ¬ (1 : Int32) = 0 by decide), zlet_s, if_pos c1, if_pos c1]
    obtain ⟨a1, a2, a3, a4⟩ := move5 hC h0
    rw [show m_X3_isSign 45 (m_X3_moveOn (zst u 25 1 0)) = some (if sgB y (T (nx c j)) 45 = true then 1 else 0) from sign5 hC a1 (x := 45) (by decide), zbind_s]
    have key : ∀ (w : zM) (k : Nat), cl w y L c T k → rfP u w → w 26 = u 26 → w 25 3 = u 25 3 → ∀ (sg : Bool), ∃ r v, (zbind2 (m_X0_takeNumber 0 20 w) (fun x15 u16 => (if (if sg = true then (1 : Int32) else 0) = 0 then zlet (zst u16 25 1 x15) (fun u19 => (if x15 = (-1) then some (0, u19) else some (1, u19))) else zlet (zst u16 25 1 (-x15)) (fun u22 => (if x15 = (-1) then some (0, u22) else some (1, u22))))) : Option (Int32 × zM)) = some (r, v) ∧ r = (if (pN y c T 0 20 (false, k)).1 = true then 0 else 1) ∧ cl v y L c T (pN y c T 0 20 (false, k)).2 ∧ rfP u v ∧ v 26 = u 26 ∧ v 25 3 = u 25 3 ∧ ((pN y c T 0 20 (false, k)).1 = false → v 25 1 = if sg = true then -nI (tokV y (T k)) else nI (tokV y (T k))) := by
      intro w k hw1 hw2 hw3 hw4 sg
      obtain ⟨v, e, v1, v2, v3, v4⟩ := take5 hC hw1 (lo := 0) (hi := 20) (by decide) (by decide)
      have e' : m_X0_takeNumber 0 20 w = some (if okB y (T k) 0 20 = true then nI (tokV y (T k)) else -1, v) := e
      have hv := tokV_le y (T k)
      rw [e', zbind2_s]
      have ep : pN y c T 0 20 (false, k) = (if okB y (T k) 0 20 = true then (false, nx c k) else (true, k)) := rfl
      rw [ep]
      have fr : ∀ x : Int32, cl (zst v 25 1 x) y L c T (if okB y (T k) 0 20 = true then nx c k else k) ∧ rfP u (zst v 25 1 x) ∧ zst v 25 1 x 26 = u 26 ∧ zst v 25 1 x 25 3 = u 25 3 ∧ zst v 25 1 x 25 1 = x := fun x => ⟨v1.st (Or.inl rfl), hw2.tr (v2.tr (rfP.st (Or.inl rfl))), (zst_o _ (by decide)).trans (v4.trans hw3), by rw [zst_j _ (by decide), v3]; exact hw4, zst_s _ _ _ _⟩
      by_cases c2 : okB y (T k) 0 20 = true
      · simp only [if_pos c2] at fr ⊢
        cases sg with
        | true =>
          rw [if_neg (show ¬ (if true = true then (1 : Int32) else 0) = 0 by decide), zlet_s, if_neg (m1_ne (by omega))]
          obtain ⟨f1, f2, f3, f4, f5⟩ := fr (-nI (tokV y (T k)))
          exact ⟨_, _, rfl, rfl, f1, f2, f3, f4, fun _ => f5⟩
        | false =>
          rw [if_pos (show (if false = true then (1 : Int32) else 0) = 0 by decide), zlet_s, if_neg (m1_ne (by omega))]
          obtain ⟨f1, f2, f3, f4, f5⟩ := fr (nI (tokV y (T k)))
          exact ⟨_, _, rfl, rfl, f1, f2, f3, f4, fun _ => f5⟩
      · simp only [if_neg c2] at fr ⊢
        cases sg with
        | true =>
          rw [if_neg (show ¬ (if true = true then (1 : Int32) else 0) = 0 by decide), zlet_s]
          simp only [if_true]
          obtain ⟨f1, f2, f3, f4, f5⟩ := fr (- -1)
          exact ⟨_, _, rfl, rfl, f1, f2, f3, f4, (fun z => by cases z)⟩
        | false =>
          rw [if_pos (show (if false = true then (1 : Int32) else 0) = 0 by decide), zlet_s]
          simp only [if_true]
          obtain ⟨f1, f2, f3, f4, f5⟩ := fr (-1)
          exact ⟨_, _, rfl, rfl, f1, f2, f3, f4, (fun z => by cases z)⟩
    have r1 := r0.tr a2
    have m26 : m_X3_moveOn (zst u 25 1 0) 26 = u 26 := a4.trans (zst_o u (by decide))
    have m25 : m_X3_moveOn (zst u 25 1 0) 25 3 = u 25 3 := by rw [a3, zst_j _ (by decide)]
    unfold pBb
    rw [show pA c (false, j) = (false, nx c j) from rfl, show pA c (false, nx c j) = (false, nx c (nx c j)) from rfl]
    dsimp only
    cases c2 : sgB y (T (nx c j)) 45 with
    | true =>
      obtain ⟨d1, d2, d3, d4⟩ := move5 hC a1
      rw [if_neg (show ¬ (if true = true then (1 : Int32) else 0) = 0 by decide), zlet_s, zlet_s]
      exact key (m_X3_moveOn (m_X3_moveOn (zst u 25 1 0))) (nx c (nx c j)) d1 (r1.tr d2) (d4.trans m26) (by rw [d3]; exact m25) true
    | false =>
      rw [if_pos (show (if false = true then (1 : Int32) else 0) = 0 by decide), zlet_s]
      exact key (m_X3_moveOn (zst u 25 1 0)) (nx c j) a1 r1 m26 m25 false
  · rw [if_neg c1, if_pos rfl, if_neg c1, if_neg c1]
    exact ⟨_, _, rfl, rfl, h0, r0, zst_o u (by decide), zst_j u (by decide), fun _ => zst_s _ _ _ _⟩
theorem pins5 (hC : rdC y L c T) (h : cl u y L c T j) : ∃ r v, m_X0_readPins u = some (r, v) ∧ r = (if (pP y c T (false, j)).1 = true then 0 else 1) ∧ cl v y L c T (pP y c T (false, j)).2 ∧ rfP u v ∧ v 26 = u 26 ∧ v 25 3 = u 25 3 ∧ v 25 1 = u 25 1 ∧ ((pP y c T (false, j)).1 = false → v 25 2 = vP y c T (false, j)) := by
  unfold m_X0_readPins
  have h0 : cl (zst u 25 2 0) y L c T j := h.st (Or.inl rfl)
  have r0 : rfP u (zst u 25 2 0) := rfP.st (Or.inl rfl)
  rw [zlet_s, word5 hC h0 (by decide), zbind_s]
  unfold pP vP
  by_cases c1 : wdB y (T j) 14 = true
  · rw [if_pos c1, if_neg (show ¬ (1 : Int32) = 0 by decide), zlet_s, if_pos c1, if_pos c1]
    obtain ⟨a1, a2, a3, a4⟩ := move5 hC h0
    obtain ⟨v, e, v1, v2, v3, v4⟩ := take5 hC a1 (lo := 0) (hi := 99) (by decide) (by decide)
    have e' : m_X0_takeNumber 0 99 (m_X3_moveOn (zst u 25 2 0)) = some (if okB y (T (nx c j)) 0 99 = true then nI (tokV y (T (nx c j))) else -1, v) := e
    have hv := tokV_le y (T (nx c j))
    rw [show pA c (false, j) = (false, nx c j) from rfl, e', zbind2_s, zlet_s, zst_s]
    have ep : pN y c T 0 99 (false, nx c j) = (if okB y (T (nx c j)) 0 99 = true then (false, nx c (nx c j)) else (true, nx c j)) := rfl
    rw [ep]
    have fr : ∀ x : Int32, cl (zst v 25 2 x) y L c T (if okB y (T (nx c j)) 0 99 = true then nx c (nx c j) else nx c j) ∧ rfP u (zst v 25 2 x) ∧ zst v 25 2 x 26 = u 26 ∧ zst v 25 2 x 25 3 = u 25 3 ∧ zst v 25 2 x 25 1 = u 25 1 ∧ zst v 25 2 x 25 2 = x := fun x => ⟨v1.st (Or.inl rfl), r0.tr (a2.tr (v2.tr (rfP.st (Or.inl rfl)))), by rw [zst_o _ (by decide), v4, a4, zst_o _ (by decide)], by rw [zst_j _ (by decide), v3, a3, zst_j _ (by decide)], by rw [zst_j _ (by decide), v3, a3, zst_j _ (by decide)], zst_s _ _ _ _⟩
    by_cases c2 : okB y (T (nx c j)) 0 99 = true
    · simp only [if_pos c2] at fr ⊢
      rw [if_neg (m1_ne (by omega))]
      obtain ⟨f1, f2, f3, f4, f5, f6⟩ := fr (nI (tokV y (T (nx c j))))
      exact ⟨_, _, rfl, rfl, f1, f2, f3, f4, f5, fun _ => f6⟩
    · simp only [if_neg c2] at fr ⊢
      simp only [if_true]
      obtain ⟨f1, f2, f3, f4, f5, f6⟩ := fr (-1)
      exact ⟨_, _, rfl, rfl, f1, f2, f3, f4, f5, (fun z => by cases z)⟩
  · rw [if_neg c1, if_pos rfl, if_neg c1, if_neg c1]
    exact ⟨_, _, rfl, rfl, h0, r0, zst_o u (by decide), zst_j u (by decide), zst_j u (by decide), fun _ => zst_s _ _ _ _⟩
/-- what reading with doing changes -/
def rgP (u v : zM) : Prop := (∀ q, q ≠ 20 → q ≠ 25 → q ≠ 26 → ¬ (1 ≤ q ∧ q ≤ 7) → v q = u q) ∧ ∀ j, j ≠ 6 → v 20 j = u 20 j
theorem rgP.tr {u v w : zM} (h : rgP u v) (h' : rgP v w) : rgP u w := ⟨fun q a b c d => (h'.1 q a b c d).trans (h.1 q a b c d), fun j a => (h'.2 j a).trans (h.2 j a)⟩
theorem rfP.g {u v : zM} (h : rfP u v) : rgP u v := ⟨fun q a b c _ => h.1 q a b c, h.2⟩
theorem rgP.st {u : zM} {q j : Nat} {x : Int32} (h : 1 ≤ q ∧ q ≤ 7) : rgP u (zst u q j x) := ⟨fun c _ h1 h2 h3 => zst_o _ (by omega), fun j _ => by rw [zst_o _ (by omega)]⟩
theorem cl.cg2 {v : zM} (h : cl u y L c T j) (hP : rgP u v) {j' : Nat} (h6 : v 20 6 = nI j') (hj : j' ≤ c) : cl v y L c T j' := by
  obtain ⟨-, -, h3, h4, h5⟩ := h
  refine ⟨h6, hj, (hP.2 5 (by decide)).trans h3, fun i hi => ?_, fun k hk => ?_⟩
  · rw [hP.1 22 (by decide) (by decide) (by decide) (by decide), hP.1 23 (by decide) (by decide) (by decide) (by decide), hP.1 24 (by decide) (by decide) (by decide) (by decide)]
    exact h4 i hi
  · rw [hP.1 21 (by decide) (by decide) (by decide) (by decide)]; exact h5 k hk
theorem cl.st2 {q i : Nat} {x : Int32} (h : cl u y L c T j) (hq : 1 ≤ q ∧ q ≤ 7) : cl (zst u q i x) y L c T j := h.cg2 (rgP.st hq) (by rw [zst_o _ (by omega)]; exact h.1) h.2.1
end CR
/-- what an item does to a town of n bodies -/
def app (it : Nat → Int32) (n : Nat) (t : Nat → Int32) : Nat → Int32 := if it 0 = 10 then upd t 1 (it 1) else if it 0 = 11 then upd t 2 (it 1) else if it 0 = 12 then upd t 3 (it 1) else newT t n (it 0) (it 1) (it 2) (it 3) (it 4) (it 5)
theorem tIs.s {u : zM} {t : Nat → Int32} {i : Nat} {x : Int32} (h : tIs u 1 t) (hi : i = 1 ∨ i = 2 ∨ i = 3) : tIs (zst u 1 (7 + i) x) 1 (upd t i x) := by
  obtain ⟨i0, i1, i2, i3, i4, i5, i6, i7, i8, i9, i10, i11, i12⟩ := h
  have eo : ∀ j, j ≠ i → upd t i x j = t j := fun j hj => upd_o t x hj
  have eS : tSet (upd t i x) = tSet t := tSet_congr (fun b _ => eo _ (by omega))
  have e1 : ∀ q, 2 ≤ q → zst u 1 (7 + i) x q = u q := fun q hq => zst_o u (by omega)
  have e2 : ∀ f, f ≠ 7 + i → zst u 1 (7 + i) x 1 f = u 1 f := fun f hf => zst_j u hf
  unfold tIs
  rw [e1 (1 + 1) (by decide), e1 (1 + 2) (by decide), e1 (1 + 3) (by decide), e1 (1 + 4) (by decide), e1 (1 + 5) (by decide), e1 (1 + 6) (by decide), e2 6 (by omega), e2 7 (by omega), eS, eo 0 (by omega), e2 11 (by omega), eo 4 (by omega), e2 12 (by omega), eo 5 (by omega)]
  refine ⟨i0, i1, ?_, ?_, ?_, i5, i6, fun b hb => ?_, fun b m hb hm => ?_, fun b hb => ?_, fun b hb => ?_, fun j hj => ?_, fun k hk => ?_⟩
  · rcases hi with rfl | rfl | rfl
    · rw [zst_s, upd_s]
    · rw [e2 8 (by decide), eo 1 (by decide)]; exact i2
    · rw [e2 8 (by decide), eo 1 (by decide)]; exact i2
  · rcases hi with rfl | rfl | rfl
    · rw [e2 9 (by decide), eo 2 (by decide)]; exact i3
    · rw [zst_s, upd_s]
    · rw [e2 9 (by decide), eo 2 (by decide)]; exact i3
  · rcases hi with rfl | rfl | rfl
    · rw [e2 10 (by decide), eo 3 (by decide)]; exact i4
    · rw [e2 10 (by decide), eo 3 (by decide)]; exact i4
    · rw [zst_s, upd_s]
  · unfold tK; rw [eo _ (by omega)]; exact i7 b hb
  · unfold tM; rw [eo _ (by omega)]; exact i8 b m hb hm
  · unfold tB; rw [eo _ (by omega)]; exact i9 b hb
  · unfold tP; rw [eo _ (by omega)]; exact i10 b hb
  · rw [eo _ (by omega)]; exact i11 j hj
  · rw [eo _ (by omega)]; exact i12 k hk
theorem newT_bp (t : Nat → Int32) (n : Nat) (k x y z br pn : Int32) : upd (upd (newT t n k x y z 0 0) (6 + 7 * n + 4) br) (6 + 7 * n + 5) pn = newT t n k x y z br pn := by
  funext j
  unfold upd newT
  by_cases c5 : j = 6 + 7 * n + 5
  · rw [if_pos c5, if_neg (by omega), if_neg (by omega), if_pos c5]
  · rw [if_neg c5]
    by_cases c4 : j = 6 + 7 * n + 4
    · rw [if_pos c4, if_neg (show ¬ j = 0 by omega), if_neg (show ¬ j = 6 + 7 * n + 6 by omega), if_neg c5, if_pos c4]
    · rw [if_neg c4]
      simp only [if_neg c4, if_neg c5]
theorem add5_t {u : zM} {t : Nat → Int32} {n : Nat} {k x y z br pn : Int32} (ht : tIs u 1 t) (ho : tOk t n) (hn : n < 12) (hk : ∃ q : Nat, q ≤ 6 ∧ k = nI q) (hx : ∃ v : Nat, 50 ≤ v ∧ v ≤ 250 ∧ x = nI v) (hy : ∃ v : Nat, 50 ≤ v ∧ v ≤ 250 ∧ y = nI v) (hz : ∃ v : Nat, 50 ≤ v ∧ v ≤ 250 ∧ z = nI v) : tIs (zst (zst (addU5 k x y z n u) 4 n br) 5 n pn) 1 (newT t n k x y z br pn) := by
  let u' := zup u 40 t
  have e40 : u' 40 = t := zup_s u 40 t
  have ho' : tOk (u' 40) n := by rw [e40]; exact ho
  have ht' : tIs u' 1 (u' 40) := by
    rw [e40]
    exact tIs_congr (fun q hq => zup_o u t (by omega)) ht
  have h := (vTown.add ho' ht' hn hk hx hy hz).2
  rw [add_row, addU5_40, e40] at h
  have h2 : tIs (addU5 k x y z n u) 1 (newT t n k x y z 0 0) := by
    refine tIs_congr (fun q hq => ?_) h
    have eC : addU6 k x y z n (addU5 k x y z n u') (1 + q) = addU5 k x y z n u' (1 + q) := by
      unfold addU6
      simp only [zst_o _ (show 1 + q ≠ 40 by omega)]
    rw [eC]
    have e1 : u' (1 + q) = u (1 + q) := zup_o u t (by omega)
    have e2 : u' 1 = u 1 := zup_o u t (by omega)
    funext i
    unfold addU5
    simp only [zst_g, e1, e2]
  have h3 := (h2.bd (b := n) (f := 4) (a := br) hn (by decide)).bd (b := n) (f := 5) (a := pn) hn (by decide)
  rw [newT_bp] at h3
  exact h3
section CI
variable {u : zM} {y : Nat → Nat} {L c : Nat} {T : Nat → Nat × Nat × Nat} {j : Nat}
/-- what holds behind the class's reading of an item -/
def itm (u : zM) (y : Nat → Nat) (L c : Nat) (T : Nat → Nat × Nat × Nat) (t : Nat → Int32) (n rm : Nat) (a : Int32) (P : Bool × Nat) (it : Nat → Int32) (d : Nat) (r : Int32) (v : zM) : Prop := r = (if P.1 = true then 0 else 1) ∧ cl v y L c T P.2 ∧ rgP u v ∧ (P.1 = false → v 25 3 = nI (rm - d)) ∧ (a = 0 → ∀ q, 1 ≤ q → q ≤ 7 → v q = u q) ∧ (a = 1 → P.1 = false → tIs v 1 (app it n t))
theorem body5t (hC : rdC y L c T) (h : cl u y L c T j) {rm n : Nat} {t : Nat → Int32} (hr : u 25 3 = nI rm) (hrm : n + rm ≤ 12) (ht : tIs u 1 t) (ho : tOk t n) {a : Int32} (ha : a = 0 ∨ a = 1) {k : Nat} (hk : k < 7) : ∃ r v, m_X0_readBody (nI k) a u = some (r, v) ∧ itm u y L c T t n rm a (b4 y c T (pm c (decide (0 < rm)) (false, j))) (bIt y c T k (pm c (decide (0 < rm)) (false, j))) 1 r v := by
  unfold m_X0_readBody itm
  rw [hr]
  by_cases c0 : 0 < rm
  · rw [if_pos (show (0 : Int32) < nI rm from (q_lt (a := 0) (by decide) (by omega)).mpr c0), zlet_s, zlet_s, decide_eq_true c0, pm_t]
    have e1 : nI rm - 1 = nI (rm - 1) := q_sub (b := 1) (by omega)
    have h0 : cl (zst u 25 3 (nI rm - 1)) y L c T j := h.st (Or.inl rfl)
    have r0 : rfP u (zst u 25 3 (nI rm - 1)) := rfP.st (Or.inl rfl)
    obtain ⟨a1, a2, a3, a4⟩ := move5 hC h0
    obtain ⟨r1, v1, f1, f2, f3, f4, f5, f6⟩ := meas5t hC a1
    have q1 : rfP u v1 := r0.tr (a2.tr f4)
    have m1 : v1 25 3 = nI (rm - 1) := by rw [f5, a3, zst_s, e1]
    rw [f1, zbind2_s, f2]
    cases hb2 : (b2 y c T (false, nx c j)).1 with
    | true =>
      have e3 : b3 y c T (false, nx c j) = b2 y c T (false, nx c j) := if_pos hb2
      have e4 : b4 y c T (false, nx c j) = b2 y c T (false, nx c j) := by unfold b4; rw [e3, if_pos hb2]
      rw [if_pos rfl, if_pos rfl, e4, hb2]
      exact ⟨_, _, rfl, rfl, f3, q1.g, (fun z => by cases z), fun _ q p1 p2 => q1.1 q (by omega) (by omega) (by omega), (fun _ z => by cases z)⟩
    | false =>
      rw [if_neg (show ¬ false = true by decide), if_neg (show ¬ (1 : Int32) = 0 by decide)]
      have es : b2 y c T (false, nx c j) = (false, (b2 y c T (false, nx c j)).2) := Prod.ext hb2 rfl
      obtain ⟨r2, v2, g1, g2, g3, g4, g5, g6, g7⟩ := brib5 hC f3
      rw [← es] at g2 g3 g7
      have e3 : b3 y c T (false, nx c j) = pB y c T (b2 y c T (false, nx c j)) := if_neg (by rw [hb2]; decide)
      rw [← e3] at g2 g3 g7
      have q2 : rfP u v2 := q1.tr g4
      rw [g1, zbind2_s, g2]
      cases hb3 : (b3 y c T (false, nx c j)).1 with
      | true =>
        have e4 : b4 y c T (false, nx c j) = b3 y c T (false, nx c j) := if_pos hb3
        rw [if_pos rfl, if_pos rfl, e4, hb3]
        exact ⟨_, _, rfl, rfl, g3, q2.g, (fun z => by cases z), fun _ q p1 p2 => q2.1 q (by omega) (by omega) (by omega), (fun _ z => by cases z)⟩
      | false =>
        rw [if_neg (show ¬ false = true by decide), if_neg (show ¬ (1 : Int32) = 0 by decide)]
        have es3 : b3 y c T (false, nx c j) = (false, (b3 y c T (false, nx c j)).2) := Prod.ext hb3 rfl
        obtain ⟨r3, v3, k1, k2, k3, k4, k5, k6, k7, k8⟩ := pins5 hC g3
        rw [← es3] at k2 k3 k8
        have e4 : b4 y c T (false, nx c j) = pP y c T (b3 y c T (false, nx c j)) := if_neg (by rw [hb3]; decide)
        rw [← e4] at k2 k3 k8
        have q3 : rfP u v3 := q2.tr k4
        have m3 : v3 25 3 = nI (rm - 1) := k6.trans (g6.trans m1)
        rw [k1, zbind2_s, k2]
        cases hb4 : (b4 y c T (false, nx c j)).1 with
        | true =>
          rw [if_pos rfl, if_pos rfl]
          exact ⟨_, _, rfl, rfl, k3, q3.g, (fun z => by cases z), fun _ q p1 p2 => q3.1 q (by omega) (by omega) (by omega), (fun _ z => by cases z)⟩
        | false =>
          rw [if_neg (show ¬ false = true by decide), if_neg (show ¬ (1 : Int32) = 0 by decide)]
          rcases ha with rfl | rfl
          · rw [if_pos rfl]
            exact ⟨_, _, rfl, rfl, k3, q3.g, fun _ => m3, fun _ q p1 p2 => q3.1 q (by omega) (by omega) (by omega), fun z => absurd z (by decide)⟩
          · rw [if_neg (show ¬ (1 : Int32) = 0 by decide)]
            obtain ⟨-, -, -, t1, t2, t3⟩ := b4_f hb4
            have ht3 : tIs v3 1 t := tIs_congr (fun q hq => q3.1 _ (by omega) (by omega) (by omega)) ht
            have n6 : v3 1 6 = nI n := ht3.1.trans ho.2.1
            have hn12 : n < 12 := by omega
            have i26 : ∀ m, m < 3 → v3 26 m = nI (tokV y (T (pM y c T m (false, nx c j)).2)) := fun m hm => by rw [k5, g5]; exact f6 hb2 m hm
            have o1 : ∀ X Y Z : Int32, addU5 (nI k) X Y Z n v3 25 = v3 25 := fun X Y Z => by
              unfold addU5
              simp only [zst_o _ (show (25 : Nat) ≠ 1 by decide), zst_o _ (show (25 : Nat) ≠ 2 by decide), zst_o _ (show (25 : Nat) ≠ 3 by decide), zst_o _ (show (25 : Nat) ≠ 4 by decide), zst_o _ (show (25 : Nat) ≠ 5 by decide)]
            rw [i26 0 (by decide), i26 1 (by decide), i26 2 (by decide), add5_eq n6 hn12, zbind2_s, o1, k7, g7 hb3]
            generalize hU : addU5 (nI k) (nI (tokV y (T (pM y c T 0 (false, nx c j)).2))) (nI (tokV y (T (pM y c T 1 (false, nx c j)).2))) (nI (tokV y (T (pM y c T 2 (false, nx c j)).2))) n v3 = U
            have rgU : rgP v3 U := by
              rw [← hU]
              unfold addU5
              exact ((((((((rgP.st (by decide)).tr (rgP.st (by decide))).tr (rgP.st (by decide))).tr (rgP.st (by decide))).tr (rgP.st (by decide))).tr (rgP.st (by decide))).tr (rgP.st (by decide))).tr (rgP.st (by decide)))
            have U25 : U 25 = v3 25 := by rw [← hU]; exact o1 _ _ _
            have p4 : ∀ x : Int32, m_X4_put (nI n) 4 x U = some (zst U 4 n x) := fun x => put5_eq (f := 4) hn12 (by decide)
            rw [p4, zbind_s, zst_o (q := 4) (q' := 25) _ (by decide), U25, k8 hb4]
            have p5 : ∀ x : Int32, m_X4_put (nI n) 5 x (zst U 4 n (vB y c T (b2 y c T (false, nx c j)))) = some (zst (zst U 4 n (vB y c T (b2 y c T (false, nx c j)))) 5 n x) := fun x => put5_eq (f := 5) hn12 (by decide)
            rw [p5, zbind_s]
            have rgA : rgP u (zst (zst U 4 n (vB y c T (b2 y c T (false, nx c j)))) 5 n (vP y c T (b3 y c T (false, nx c j)))) := q3.g.tr (rgU.tr ((rgP.st (by decide)).tr (rgP.st (by decide))))
            have hcl : cl (zst (zst U 4 n (vB y c T (b2 y c T (false, nx c j)))) 5 n (vP y c T (b3 y c T (false, nx c j)))) y L c T (b4 y c T (false, nx c j)).2 := by
              refine (cl.cg2 k3 rgU ?_ k3.2.1).st2 (by decide) |>.st2 (by decide)
              rw [← hU]
              unfold addU5
              simp only [zst_o _ (show (20 : Nat) ≠ 1 by decide), zst_o _ (show (20 : Nat) ≠ 2 by decide), zst_o _ (show (20 : Nat) ≠ 3 by decide), zst_o _ (show (20 : Nat) ≠ 4 by decide), zst_o _ (show (20 : Nat) ≠ 5 by decide)]
              exact k3.1
            refine ⟨_, _, rfl, rfl, hcl, rgA, fun _ => ?_, fun z => absurd z (by decide), fun _ _ => ?_⟩
            · rw [zst_o _ (by decide), zst_o _ (by decide), U25]; exact m3
            · have tw := fun m (hm : m < 3) => t1 m hm
              have ht5 := add5_t (br := vB y c T (b2 y c T (false, nx c j))) (pn := vP y c T (b3 y c T (false, nx c j))) ht3 ho hn12 ⟨k, by omega, rfl⟩ ⟨_, (tw 0 (by decide)).1, (tw 0 (by decide)).2, rfl⟩ ⟨_, (tw 1 (by decide)).1, (tw 1 (by decide)).2, rfl⟩ ⟨_, (tw 2 (by decide)).1, (tw 2 (by decide)).2, rfl⟩
              rw [hU] at ht5
              have ea : app (bIt y c T k (false, nx c j)) n t = newT t n (nI k) (nI (tokV y (T (pM y c T 0 (false, nx c j)).2))) (nI (tokV y (T (pM y c T 1 (false, nx c j)).2))) (nI (tokV y (T (pM y c T 2 (false, nx c j)).2))) (vB y c T (b2 y c T (false, nx c j))) (vP y c T (b3 y c T (false, nx c j))) := by
                have x0 : bIt y c T k (false, nx c j) 0 = nI k := rfl
                have x4 : bIt y c T k (false, nx c j) 4 = vB y c T (b2 y c T (false, nx c j)) := by
                  show (if (b2 y c T (false, nx c j)).1 = true then 0 else vB y c T (b2 y c T (false, nx c j))) = _
                  rw [hb2]; rfl
                have x5 : bIt y c T k (false, nx c j) 5 = vP y c T (b3 y c T (false, nx c j)) := by
                  show (if (b3 y c T (false, nx c j)).1 = true then 0 else vP y c T (b3 y c T (false, nx c j))) = _
                  rw [hb3]; rfl
                unfold app
                rw [x0, x4, x5, if_neg (show ¬ nI k = 10 from q_ne (b := 10) (by omega) (by decide) (by omega)), if_neg (show ¬ nI k = 11 from q_ne (b := 11) (by omega) (by decide) (by omega)), if_neg (show ¬ nI k = 12 from q_ne (b := 12) (by omega) (by decide) (by omega))]
                rfl
              rw [ea]
              exact ht5
  · rw [if_neg (show ¬ (0 : Int32) < nI rm from fun z => c0 ((q_lt (a := 0) (by decide) (by omega)).mp z)), decide_eq_false c0]
    have e0 : pm c false (false, j) = (true, j) := rfl
    have e2 : b2 y c T (true, j) = (true, j) := pM_w (k := 0) rfl 3 (by omega)
    have e3 : b3 y c T (true, j) = (true, j) := by unfold b3; rw [e2]; rfl
    have e4 : b4 y c T (true, j) = (true, j) := by unfold b4; rw [e3]; rfl
    rw [e0, e4]
    exact ⟨_, _, rfl, rfl, h, (rfP.rfl' u).g, (fun z => by cases z), fun _ _ _ _ => rfl, (fun _ z => by cases z)⟩
theorem item5 (hC : rdC y L c T) (h : cl u y L c T j) {rm n : Nat} {t : Nat → Int32} (hr : u 25 3 = nI rm) (hrm : n + rm ≤ 12) (ht : tIs u 1 t) (ho : tOk t n) {a : Int32} (ha : a = 0 ∨ a = 1) : ∃ r v, m_X0_readItem a u = some (r, v) ∧ itm u y L c T t n rm a (pI y c T (decide (0 < rm)) j) (iIt y c T (decide (0 < rm)) j) (isB y T j) r v := by
  unfold m_X0_readItem
  rw [kind5 hC h, zbind_s]
  by_cases ck : kd y (T j) < 7
  · obtain ⟨r, v, e, h1⟩ := body5t hC h hr hrm ht ho ha ck
    have eI : pI y c T (decide (0 < rm)) j = b4 y c T (pm c (decide (0 < rm)) (false, j)) := if_pos ck
    have eT : iIt y c T (decide (0 < rm)) j = bIt y c T (kd y (T j)) (pm c (decide (0 < rm)) (false, j)) := funext fun i => if_pos ck
    have eB : isB y T j = 1 := if_pos ck
    rw [if_pos ck, if_neg (m1_ne (by omega)), e, zbind2_s, eI, eT, eB]
    refine ⟨_, _, rfl, ?_, h1.2⟩
    rw [h1.1]
    split <;> rfl
  · have eB : isB y T j = 0 := if_neg ck
    rw [if_neg ck, if_pos rfl, word5 hC h (by decide), zbind_s, eB]
    have eI0 : pI y c T (decide (0 < rm)) j = (if wdB y (T j) 10 = true then pm c (decide (rl y (T (pA c (false, j)).2) < 3)) (pA c (false, j)) else if wdB y (T j) 11 = true then pN y c T 0 999 (pA c (false, j)) else pN y c T 0 99 (pm c (wdB y (T j) 12) (false, j))) := if_neg ck
    have eT0 : iIt y c T (decide (0 < rm)) j = fun i => (if wdB y (T j) 10 = true then (if i = 0 then 10 else if rl y (T (pA c (false, j)).2) < 3 then nI (rl y (T (pA c (false, j)).2)) else -1) else if wdB y (T j) 11 = true then (if i = 0 then 11 else nI (tokV y (T (pA c (false, j)).2))) else (if i = 0 then 12 else nI (tokV y (T (pm c (wdB y (T j) 12) (false, j)).2)))) := funext fun i => if_neg ck
    by_cases c10 : wdB y (T j) 10 = true
    · simp only [if_pos c10] at eI0 eT0
      rw [if_pos c10, if_neg (show ¬ (1 : Int32) = 0 by decide), eI0, eT0, show pA c (false, j) = (false, nx c j) from rfl]
      unfold m_X0_readRule itm
      obtain ⟨a1, a2, a3, a4⟩ := move5 hC h
      rw [zlet_s, rule5 hC a1, zbind_s]
      by_cases cr : rl y (T (nx c j)) < 3
      · have ep : pm c (decide (rl y (T (false, nx c j).2) < 3)) (false, nx c j) = (false, nx c (nx c j)) := by rw [decide_eq_true (show rl y (T (false, nx c j).2) < 3 from cr)]; rfl
        rw [ep, if_pos cr, if_neg (m1_ne (by omega))]
        rcases ha with rfl | rfl
        · rw [if_pos rfl, zlet_s, zlet_s, zst_self _ _ _ _ rfl, zbind2_s]
          obtain ⟨d1, d2, d3, d4⟩ := move5 hC a1
          have q := a2.tr d2
          exact ⟨_, _, rfl, rfl, d1, q.g, fun _ => by rw [d3, a3, hr]; rfl, fun _ i p1 p2 => q.1 i (by omega) (by omega) (by omega), fun z => absurd z (by decide)⟩
        · rw [if_neg (show ¬ (1 : Int32) = 0 by decide), zlet_s, zlet_s, zbind2_s]
          have h2 : cl (zst (m_X3_moveOn u) 1 8 (nI (rl y (T (nx c j))))) y L c T (nx c j) := a1.st2 (by decide)
          obtain ⟨d1, d2, d3, d4⟩ := move5 hC h2
          have ht2 : tIs (zst (m_X3_moveOn u) 1 8 (nI (rl y (T (nx c j))))) 1 (upd t 1 (nI (rl y (T (nx c j))))) := (tIs_congr (fun q hq => a2.1 _ (by omega) (by omega) (by omega)) ht).s (i := 1) (Or.inl rfl)
          refine ⟨_, _, rfl, rfl, d1, a2.g.tr ((rgP.st (by decide)).tr d2.g), fun _ => by rw [d3, zst_o _ (by decide), a3, hr]; rfl, fun z => absurd z (by decide), fun _ _ => ?_⟩
          unfold app
          rw [if_pos (show (if (0 : Nat) = 0 then (10 : Int32) else _) = 10 from rfl)]
          exact tIs_congr (fun q hq => d2.1 _ (by omega) (by omega) (by omega)) ht2
      · have ep : pm c (decide (rl y (T (false, nx c j).2) < 3)) (false, nx c j) = (true, nx c j) := by rw [decide_eq_false (show ¬ rl y (T (false, nx c j).2) < 3 from cr)]; rfl
        rw [ep, if_neg cr, if_pos rfl, zbind2_s]
        exact ⟨_, _, rfl, rfl, a1, a2.g, (fun z => by cases z), fun _ i p1 p2 => a2.1 i (by omega) (by omega) (by omega), (fun _ z => by cases z)⟩
    · simp only [if_neg c10] at eI0 eT0
      rw [if_neg c10, if_pos rfl, word5 hC h (by decide), zbind_s]
      have key : ∀ (w : zM) (k : Nat) (hi i : Nat) (hcl : cl w y L c T k) (q : rfP u w) (q25 : w 25 = u 25) (hhi : hi < 1000) (hi23 : (i = 2 ∨ i = 3)) (x0 : Int32) (hx0 : x0 = (if i = 2 then 11 else 12)), ∃ r v, (zbind2 (m_X0_takeNumber 0 (nI hi) w) (fun x3 u4 => (if a = 0 then zlet (zst u4 1 (7 + i) (u4 1 (7 + i))) (fun u7 => (if x3 = (-1) then some (0, u7) else some (1, u7))) else zlet (zst u4 1 (7 + i) x3) (fun u10 => (if x3 = (-1) then some (0, u10) else some (1, u10))))) : Option (Int32 × zM)) = some (r, v) ∧ itm u y L c T t n rm a (pN y c T 0 hi (false, k)) (fun z => if z = 0 then x0 else nI (tokV y (T k))) 0 r v := by
        intro w k hi i hcl q q25 hhi hi23 x0 hx0
        unfold itm
        obtain ⟨v, e, v1, v2, v3, v4⟩ := take5 hC hcl (lo := 0) (hi := hi) (by decide) (by omega)
        have e' : m_X0_takeNumber 0 (nI hi) w = some (if okB y (T k) 0 hi = true then nI (tokV y (T k)) else -1, v) := e
        have hv := tokV_le y (T k)
        have qv := q.tr v2
        have m25 : v 25 3 = nI rm := by rw [v3, q25]; exact hr
        rw [e', zbind2_s]
        have ep : pN y c T 0 hi (false, k) = (if okB y (T k) 0 hi = true then (false, nx c k) else (true, k)) := rfl
        rw [ep]
        by_cases c2 : okB y (T k) 0 hi = true
        · simp only [if_pos c2] at v1 ⊢
          rcases ha with rfl | rfl
          · rw [if_pos rfl, zlet_s, zst_self _ _ _ _ rfl, if_neg (m1_ne (by omega))]
            exact ⟨_, _, rfl, rfl, v1, qv.g, fun _ => m25, fun _ i p1 p2 => qv.1 i (by omega) (by omega) (by omega), fun z => absurd z (by decide)⟩
          · rw [if_neg (show ¬ (1 : Int32) = 0 by decide), zlet_s, if_neg (m1_ne (by omega))]
            refine ⟨_, _, rfl, rfl, v1.st2 (by decide), qv.g.tr (rgP.st (by decide)), fun _ => (congrFun (zst_o _ (by decide)) 3).trans m25, fun z => absurd z (by decide), fun _ _ => ?_⟩
            have ht2 := (tIs_congr (fun q hq => qv.1 _ (by omega) (by omega) (by omega)) ht).s (i := i) (x := nI (tokV y (T k))) (Or.inr hi23)
            have ea : app (fun z => if z = 0 then x0 else nI (tokV y (T k))) n t = upd t i (nI (tokV y (T k))) := by
              unfold app
              show (if x0 = 10 then upd t 1 (nI (tokV y (T k))) else if x0 = 11 then upd t 2 (nI (tokV y (T k))) else if x0 = 12 then upd t 3 (nI (tokV y (T k))) else _) = _
              rcases hi23 with rfl | rfl
              · rw [show x0 = 11 from hx0, if_neg (show ¬ (11 : Int32) = 10 by decide), if_pos rfl]
              · rw [show x0 = 12 from hx0, if_neg (show ¬ (12 : Int32) = 10 by decide), if_neg (show ¬ (12 : Int32) = 11 by decide), if_pos rfl]
            rw [ea]; exact ht2
        · simp only [if_neg c2] at v1 ⊢
          rcases ha with rfl | rfl
          · rw [if_pos rfl, zlet_s, zst_self _ _ _ _ rfl]
            simp only [if_true]
            exact ⟨_, _, rfl, rfl, v1, qv.g, (fun z => by cases z), fun _ i p1 p2 => qv.1 i (by omega) (by omega) (by omega), (fun _ z => by cases z)⟩
          · rw [if_neg (show ¬ (1 : Int32) = 0 by decide), zlet_s]
            simp only [if_true]
            exact ⟨_, _, rfl, rfl, v1.st2 (by decide), qv.g.tr (rgP.st (by decide)), (fun z => by cases z), fun z => absurd z (by decide), (fun _ z => by cases z)⟩
      by_cases c11 : wdB y (T j) 11 = true
      · simp only [if_pos c11] at eI0 eT0
        rw [if_pos c11, if_neg (show ¬ (1 : Int32) = 0 by decide), eI0, eT0, show pA c (false, j) = (false, nx c j) from rfl]
        unfold m_X0_readEase
        obtain ⟨a1, a2, a3, a4⟩ := move5 hC h
        obtain ⟨r, v, e, h1⟩ := key (m_X3_moveOn u) (nx c j) 999 2 a1 a2 a3 (by decide) (Or.inl rfl) 11 rfl
        have e' := e
        rw [zlet_s]
        refine ⟨zb r, v, ?_, ?_, h1.2⟩
        · exact (congrArg (fun x => zbind2 x (fun x17 u18 => some (zb x17, u18))) e').trans rfl
        · rw [h1.1]
          split <;> rfl
      · simp only [if_neg c11] at eI0 eT0
        rw [if_neg c11, if_pos rfl, word5 hC h (by decide), zbind_s, eI0, eT0]
        by_cases c12 : wdB y (T j) 12 = true
        · rw [if_pos c12, if_neg (show ¬ (1 : Int32) = 0 by decide), c12, pm_t]
          unfold m_X0_readPrice
          obtain ⟨a1, a2, a3, a4⟩ := move5 hC h
          obtain ⟨r, v, e, h1⟩ := key (m_X3_moveOn u) (nx c j) 99 3 a1 a2 a3 (by decide) (Or.inr rfl) 12 rfl
          have e' := e
          rw [zlet_s]
          refine ⟨if r = 0 then 0 else 1, v, ?_, ?_, h1.2⟩
          · refine (congrArg (fun x => zbind2 x (fun x13 u14 => (if x13 = 0 then some (0, u14) else some (1, u14)))) e').trans ?_
            rw [zbind2_s]
            split <;> rfl
          · rw [h1.1]
            split <;> rfl
        · have c12' : wdB y (T j) 12 = false := Bool.eq_false_iff.mpr c12
          rw [if_neg c12, if_pos rfl, c12']
          have ep : pm c false (false, j) = (true, j) := rfl
          have ep2 : pN y c T 0 99 (true, j) = (true, j) := rfl
          unfold itm
          rw [ep, ep2]
          exact ⟨_, _, rfl, rfl, h, (rfP.rfl' u).g, (fun z => by cases z), fun _ _ _ _ => rfl, (fun _ z => by cases z)⟩
end CI
