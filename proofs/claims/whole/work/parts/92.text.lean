/-! TEXT: whole texts -/
theorem tok_det {y : Nat → Nat} {L p b e s b' e' s' : Nat} (h : Tok y L p b e s) (h' : Tok y L p b' e' s') : b = b' ∧ e = e' ∧ s = s' := by
  obtain ⟨a1, a2, a3, a4, a5, a6, a7, a8⟩ := h
  obtain ⟨d1, d2, d3, d4, d5, d6, d7, d8⟩ := h'
  have eb : b = b' := by
    rcases Nat.lt_trichotomy b b' with q | q | q
    · have h1 := d4 b a1 q
      rw [a5 b (Nat.le_refl _) a2] at h1; exact absurd h1 a6
    · exact q
    · have h1 := a4 b' d1 q
      rw [d5 b' (Nat.le_refl _) d2] at h1; exact absurd h1 d6
  subst eb
  have es : s = s' := (a5 b (Nat.le_refl _) a2).symm.trans (d5 b (Nat.le_refl _) d2)
  subst es
  refine ⟨rfl, ?_, rfl⟩
  by_cases c : s = 1 ∨ s = 2
  · rcases Nat.lt_trichotomy e e' with q | q | q
    · rcases a8 c with z | z
      · omega
      · exact absurd (d5 e (by omega) q) z
    · exact q
    · rcases d8 c with z | z
      · omega
      · exact absurd (a5 e' (by omega) q) z
  · have h1 : e = b + 1 := by
      rcases a7 with z | z | z
      · exact absurd (Or.inl z) c
      · exact absurd (Or.inr z) c
      · exact z
    have h2 : e' = b + 1 := by
      rcases d7 with z | z | z
      · exact absurd (Or.inl z) c
      · exact absurd (Or.inr z) c
      · exact z
    omega
theorem chain_det {y : Nat → Nat} {L c c' : Nat} {T T' : Nat → Nat × Nat × Nat} (h : Chain y L c T) (h' : Chain y L c' T') : c = c' ∧ ∀ j, j < c → T j = T' j := by
  have key : ∀ j, j ≤ c → j ≤ c' → ∀ i, i < j → T i = T' i := by
    intro j
    induction j with
    | zero => intro _ _ i hi; omega
    | succ j ih =>
      intro h1 h2 i hi
      have ih' := ih (by omega) (by omega)
      by_cases ci : i = j
      · subst ci
        have t1 := h.1 i (by omega)
        have t2 := h'.1 i (by omega)
        rw [pE_ext (T := T) (T' := T') (fun k hk => (ih' k hk).symm)] at t2
        obtain ⟨q1, q2, q3⟩ := tok_det t1 t2
        exact Prod.ext q1 (Prod.ext q2 q3)
      · exact ih' i (by omega)
  have hc : c = c' := by
    rcases Nat.lt_trichotomy c c' with q | q | q
    · have e := pE_ext (T := T) (T' := T') (j := c) (fun k hk => (key c (Nat.le_refl _) (by omega) k hk).symm)
      obtain ⟨a1, a2, a3, a4, a5, a6, -⟩ := h'.1 c q
      rw [e] at a1
      have h3 := h.2.1 _ a1 (by omega)
      rw [a5 _ (Nat.le_refl _) a2] at h3
      exact absurd h3 a6
    · exact q
    · have e := pE_ext (T := T) (T' := T') (j := c') (fun k hk => (key c' (by omega) (Nat.le_refl _) k hk).symm)
      obtain ⟨a1, a2, a3, a4, a5, a6, -⟩ := h.1 c' q
      rw [← e] at a1
      have h3 := h'.2.1 _ a1 (by omega)
      rw [a5 _ (Nat.le_refl _) a2] at h3
      exact absurd h3 a6
  exact ⟨hc, fun j hj => key c (Nat.le_refl _) (by omega) j hj⟩
section TX
variable (y : Nat → Nat) (c : Nat) (T : Nat → Nat × Nat × Nat) (R : Nat)
/-- where the item i begins; how many bodies more there is room for -/
def hdS : Nat → Nat × Nat
  | 0 => (0, R)
  | i + 1 => (nx c (pI y c T (decide (0 < (hdS i).2)) (hdS i).1).2, (hdS i).2 - isB y T (hdS i).1)
def pS (i : Nat) : Bool × Nat := pI y c T (decide (0 < (hdS y c T R i).2)) (hdS y c T R i).1
def itS (i z : Nat) : Int32 := iIt y c T (decide (0 < (hdS y c T R i).2)) (hdS y c T R i).1 z
/-- another item follows the item i -/
def ct (i : Nat) : Prop := (pS y c T R i).1 = false ∧ sgB y (T (pS y c T R i).2) 59 = true
def nb (k : Nat) : Nat := sN (fun i => isB y T (hdS y c T R i).1) k
def twS (t : Nat → Int32) (n : Nat) : Nat → Nat → Int32
  | 0 => t
  | i + 1 => app (itS y c T R i) (n + nb y c T R i) (twS t n i)
def ans (i : Nat) : Int32 := if (pS y c T R i).1 = true then -1 - nI (T (pS y c T R i).2).1 else if (T (pS y c T R i).2).2.2 = 0 then nI (i + 1) else -1 - nI (T (pS y c T R i).2).1
end TX
section TY
variable {y : Nat → Nat} {L c : Nat} {T : Nat → Nat × Nat × Nat} {R : Nat}
theorem sg_3 {T : Nat × Nat × Nat} {x : Nat} (h : sgB y T x = true) : T.2.2 = 3 := by
  unfold sgB at h
  rw [Bool.and_eq_true, decide_eq_true_eq] at h
  exact h.1
theorem isB_le (j : Nat) : isB y T j ≤ 1 := by unfold isB; split <;> omega
theorem isB_r {rm j : Nat} (h : (pI y c T (decide (0 < rm)) j).1 = false) : isB y T j ≤ rm := by
  unfold isB
  by_cases ck : kd y (T j) < 7
  · rw [if_pos ck]
    unfold pI at h
    rw [if_pos ck] at h
    have h1 := (pm_f (b4_f h).1).2.1
    have h2 := of_decide_eq_true h1
    omega
  · rw [if_neg ck]; omega
theorem hd_ok (hC : rdC y L c T) : ∀ k, (∀ i, i < k → ct y c T R i) → 2 * k ≤ (hdS y c T R k).1 ∧ (hdS y c T R k).1 ≤ c ∧ nb y c T R k + (hdS y c T R k).2 = R := by
  intro k
  induction k with
  | zero => exact fun _ => ⟨Nat.le_refl _, Nat.zero_le _, by show 0 + R = R; omega⟩
  | succ k ih =>
    intro h
    obtain ⟨i1, i2, i3⟩ := ih (fun i hi => h i (by omega))
    obtain ⟨h1, h2⟩ := h k (by omega)
    have p := pI_2 (ro := decide (0 < (hdS y c T R k).2)) hC i2
    have p2 := p.2 h1
    have s3 := (hC.b p.1).2.2.2 (by rw [show (T (pI y c T (decide (0 < (hdS y c T R k).2)) (hdS y c T R k).1).2).2.2 = 3 from sg_3 h2]; decide)
    have e1 : (hdS y c T R (k + 1)).1 = nx c (pI y c T (decide (0 < (hdS y c T R k).2)) (hdS y c T R k).1).2 := rfl
    have e2 : (hdS y c T R (k + 1)).2 = (hdS y c T R k).2 - isB y T (hdS y c T R k).1 := rfl
    have e3 : nb y c T R (k + 1) = nb y c T R k + isB y T (hdS y c T R k).1 := rfl
    have r := isB_r (y := y) (c := c) (T := T) (rm := (hdS y c T R k).2) (j := (hdS y c T R k).1) h1
    refine ⟨?_, ?_, by rw [e2, e3]; omega⟩
    · rw [e1]; unfold nx; rw [if_pos s3.1]; omega
    · rw [e1]; exact nx_le
theorem app_ok {t : Nat → Int32} {n rm j : Nat} (ho : tOk t n) (h : (pI y c T (decide (0 < rm)) j).1 = false) (hrm : n + rm ≤ 12) : tOk (app (iIt y c T (decide (0 < rm)) j) n t) (n + isB y T j) := by
  unfold app isB
  unfold pI at h
  by_cases ck : kd y (T j) < 7
  · rw [if_pos ck] at h ⊢
    obtain ⟨s1, -, -, f1, f2, f3⟩ := b4_f h
    have h1 := of_decide_eq_true (pm_f s1).2.1
    have eT : iIt y c T (decide (0 < rm)) j = bIt y c T (kd y (T j)) (pm c (decide (0 < rm)) (false, j)) := funext fun i => if_pos ck
    have x0 : bIt y c T (kd y (T j)) (pm c (decide (0 < rm)) (false, j)) 0 = nI (kd y (T j)) := rfl
    rw [eT, x0, if_neg (show ¬ nI (kd y (T j)) = 10 from q_ne (b := 10) (by omega) (by decide) (by omega)), if_neg (show ¬ nI (kd y (T j)) = 11 from q_ne (b := 11) (by omega) (by decide) (by omega)), if_neg (show ¬ nI (kd y (T j)) = 12 from q_ne (b := 12) (by omega) (by decide) (by omega))]
    obtain ⟨-, b2f, b3f, -⟩ := b4_f h
    refine newT_ok ho (by omega) ⟨_, by omega, rfl⟩ ⟨_, (f1 0 (by decide)).1, (f1 0 (by decide)).2, rfl⟩ ⟨_, (f1 1 (by decide)).1, (f1 1 (by decide)).2, rfl⟩ ⟨_, (f1 2 (by decide)).1, (f1 2 (by decide)).2, rfl⟩ ?_ ?_
    · show ∃ q : Int, -20 ≤ q ∧ q ≤ 20 ∧ (if (b2 y c T (pm c (decide (0 < rm)) (false, j))).1 = true then 0 else vB y c T (b2 y c T (pm c (decide (0 < rm)) (false, j)))) = Int32.ofInt q
      rw [if_neg (by rw [b2f]; decide)]; exact f2
    · show ∃ q : Nat, q ≤ 99 ∧ (if (b3 y c T (pm c (decide (0 < rm)) (false, j))).1 = true then 0 else vP y c T (b3 y c T (pm c (decide (0 < rm)) (false, j)))) = nI q
      rw [if_neg (by rw [b3f]; decide)]; exact f3
  · rw [if_neg ck] at h ⊢
    have eT : ∀ z, iIt y c T (decide (0 < rm)) j z = (if wdB y (T j) 10 = true then (if z = 0 then 10 else if rl y (T (pA c (false, j)).2) < 3 then nI (rl y (T (pA c (false, j)).2)) else -1) else if wdB y (T j) 11 = true then (if z = 0 then 11 else nI (tokV y (T (pA c (false, j)).2))) else (if z = 0 then 12 else nI (tokV y (T (pm c (wdB y (T j) 12) (false, j)).2)))) := fun z => if_neg ck
    rw [eT 0, eT 1]
    have lo : ∀ (i : Nat) (x : Int32), (i = 1 ∧ (∃ r : Nat, r ≤ 2 ∧ x = nI r)) ∨ (i = 2 ∧ (∃ r : Nat, r ≤ 999 ∧ x = nI r)) ∨ (i = 3 ∧ (∃ r : Nat, r ≤ 99 ∧ x = nI r)) → tOk (upd t i x) (n + 0) := by
      intro i x hx
      refine ho.lo (upd_o t _ (by omega)) (fun z z1 z2 => upd_o t _ (by omega)) (fun z z1 z2 => upd_o t _ (by omega)) ?_ ?_ ?_ (by rw [upd_o t _ (by omega)]; exact ho.2.2.2.2.2.2.2.2.1)
      · rcases hx with ⟨rfl, hx⟩ | ⟨rfl, hx⟩ | ⟨rfl, hx⟩
        · rw [upd_s]; exact hx
        · rw [upd_o t _ (by decide)]; exact ho.2.2.2.2.2.1
        · rw [upd_o t _ (by decide)]; exact ho.2.2.2.2.2.1
      · rcases hx with ⟨rfl, hx⟩ | ⟨rfl, hx⟩ | ⟨rfl, hx⟩
        · rw [upd_o t _ (by decide)]; exact ho.2.2.2.2.2.2.1
        · rw [upd_s]; exact hx
        · rw [upd_o t _ (by decide)]; exact ho.2.2.2.2.2.2.1
      · rcases hx with ⟨rfl, hx⟩ | ⟨rfl, hx⟩ | ⟨rfl, hx⟩
        · rw [upd_o t _ (by decide)]; exact ho.2.2.2.2.2.2.2.1
        · rw [upd_o t _ (by decide)]; exact ho.2.2.2.2.2.2.2.1
        · rw [upd_s]; exact hx
    by_cases c10 : wdB y (T j) 10 = true
    · simp only [if_pos c10] at h ⊢
      have h1 := of_decide_eq_true (pm_f (c := c) h).2.1
      simp only [if_true, if_neg (show ¬ (1 : Nat) = 0 by decide), if_pos h1]
      exact lo 1 _ (Or.inl ⟨rfl, _, by omega, rfl⟩)
    · simp only [if_neg c10] at h ⊢
      by_cases c11 : wdB y (T j) 11 = true
      · simp only [if_pos c11] at h ⊢
        have h1 := (okB_t (pm_f (c := c) h).2.1).2
        simp only [if_true, if_neg (show ¬ (1 : Nat) = 0 by decide), if_neg (show ¬ (11 : Int32) = 10 by decide)]
        exact lo 2 _ (Or.inr (Or.inl ⟨rfl, _, h1, rfl⟩))
      · simp only [if_neg c11] at h ⊢
        have h1 := (okB_t (pm_f (c := c) h).2.1).2
        simp only [if_true, if_neg (show ¬ (1 : Nat) = 0 by decide), if_neg (show ¬ (12 : Int32) = 10 by decide), if_neg (show ¬ (12 : Int32) = 11 by decide)]
        exact lo 3 _ (Or.inr (Or.inr ⟨rfl, _, h1, rfl⟩))
theorem itS_e (k : Nat) : itS y c T R k = iIt y c T (decide (0 < (hdS y c T R k).2)) (hdS y c T R k).1 := rfl
theorem tw_ok (hC : rdC y L c T) {t : Nat → Int32} {n : Nat} (ho : tOk t n) (hR : n + R = 12) : ∀ k, (∀ i, i < k → (pS y c T R i).1 = false) → (∀ i, i + 1 < k → ct y c T R i) → tOk (twS y c T R t n k) (n + nb y c T R k) := by
  intro k
  induction k with
  | zero => exact fun _ _ => ho
  | succ k ih =>
    intro h1 h2
    have h := ih (fun i hi => h1 i (by omega)) (fun i hi => h2 i (by omega))
    obtain ⟨i1, i2, i3⟩ := hd_ok (R := R) hC k (fun i hi => h2 i (by omega))
    have e := app_ok (rm := (hdS y c T R k).2) (j := (hdS y c T R k).1) h (h1 k (by omega)) (by omega)
    rw [twS, itS_e, show nb y c T R (k + 1) = nb y c T R k + isB y T (hdS y c T R k).1 from rfl, ← Nat.add_assoc]
    exact e
theorem ct_bound (hC : rdC y L c T) {k : Nat} (h : ∀ i, i < k → ct y c T R i) : k ≤ 60 := by
  have h1 := hd_ok hC k h
  have h2 := hC.c
  omega
/-- the class reads all items -/
theorem items5 (hC : rdC y L c T) {u : zM} {t : Nat → Int32} {n : Nat} (h : cl u y L c T 0) (hr : u 25 3 = nI R) (hR : n + R = 12) (ht : tIs u 1 t) (ho : tOk t n) {a : Int32} (ha : a = 0 ∨ a = 1) : ∃ (r : Int32) (v : zM) (i : Nat), zit zF (fun s : Int32 × zM => m_X0_readItems_b0 a s.1 s.2) (1, u) = some (r, v) ∧ (∀ k, k < i → ct y c T R k) ∧ ¬ ct y c T R i ∧ r = ans y c T R i ∧ rgP u v ∧ (a = 0 → ∀ q, 1 ≤ q → q ≤ 7 → v q = u q) ∧ (a = 1 → (pS y c T R i).1 = false → tIs v 1 (twS y c T R t n (i + 1))) := by
  obtain ⟨⟨r, v⟩, e, i, c1, c2, e1, v1, v2, v3⟩ : ∃ r : Int32 × zM, zit zF (fun s : Int32 × zM => m_X0_readItems_b0 a s.1 s.2) (1, u) = some r ∧ ∃ i, (∀ k, k < i → ct y c T R k) ∧ ¬ ct y c T R i ∧ r.1 = ans y c T R i ∧ rgP u r.2 ∧ (a = 0 → ∀ q, 1 ≤ q → q ≤ 7 → r.2 q = u q) ∧ (a = 1 → (pS y c T R i).1 = false → tIs r.2 1 (twS y c T R t n (i + 1))) := by
    refine zit_inv2 (fun k s => s.1 = nI (k + 1) ∧ cl s.2 y L c T (hdS y c T R k).1 ∧ s.2 25 3 = nI (hdS y c T R k).2 ∧ rgP u s.2 ∧ (∀ i, i < k → ct y c T R i) ∧ (a = 0 → ∀ q, 1 ≤ q → q ≤ 7 → s.2 q = u q) ∧ (a = 1 → tIs s.2 1 (twS y c T R t n k))) 61 _ _ (by omega) ⟨rfl, h, hr, (rfP.rfl' u).g, fun i hi => absurd hi (by omega), fun _ _ _ _ => rfl, fun _ => ht⟩ ?_ ?_
    · rintro k ⟨x, v⟩ hk ⟨rfl, g1, g2, g3, g4, g5, g6⟩
      simp only at g1 g2 g3 g4 g5 g6 ⊢
      unfold m_X0_readItems_b0
      have k60 := ct_bound hC g4
      obtain ⟨b1, b2, b3⟩ := hd_ok (R := R) hC k g4
      have hT : ∃ t' n', tIs v 1 t' ∧ tOk t' n' ∧ n' + (hdS y c T R k).2 ≤ 12 ∧ (a = 1 → t' = twS y c T R t n k ∧ n' = n + nb y c T R k) := by
        rcases ha with rfl | rfl
        · exact ⟨t, n, tIs_congr (fun q hq => g5 rfl _ (by omega) (by omega)) ht, ho, by omega, fun z => absurd z (by decide)⟩
        · exact ⟨_, _, g6 rfl, tw_ok hC ho hR k (fun i hi => (g4 i hi).1) (fun i hi => g4 i (by omega)), by omega, fun _ => ⟨rfl, rfl⟩⟩
      obtain ⟨t', n', t1, t2, t3, t4⟩ := hT
      obtain ⟨r, w, e, f1, f2, f3, f4, f5, f6⟩ := item5 hC g1 g2 t3 t1 t2 ha
      have hP : pI y c T (decide (0 < (hdS y c T R k).2)) (hdS y c T R k).1 = pS y c T R k := rfl
      rw [hP] at f1 f2 f4 f6
      have q0 : a = 0 → ∀ q, 1 ≤ q → q ≤ 7 → w q = u q := fun z q z1 z2 => (f5 z q z1 z2).trans (g5 z q z1 z2)
      have q1 : a = 1 → (pS y c T R k).1 = false → tIs w 1 (twS y c T R t n (k + 1)) := fun z1 z2 => by
        have := f6 z1 z2
        rw [(t4 z1).1, (t4 z1).2] at this
        exact this
      rw [if_neg (show ¬ (120 : Int32) < nI (k + 1) from fun z => by have := (q_lt (a := 120) (by decide) (by omega)).mp z; omega), e, zbind2_s, f1]
      cases hp : (pS y c T R k).1 with
      | true =>
        have hct : ¬ ct y c T R k := fun z => by rw [z.1] at hp; cases hp
        rw [if_pos rfl, if_pos rfl, begin5 hC f2, zbind_s]
        refine Or.inr ⟨_, rfl, k, g4, hct, ?_, g3.tr f3, q0, q1⟩
        unfold ans
        rw [if_pos hp]
      | false =>
        rw [if_neg (show ¬ false = true by decide), if_neg (show ¬ (1 : Int32) = 0 by decide), end5 hC f2, zbind_s]
        by_cases c0 : (T (pS y c T R k).2).2.2 = 0
        · have hct : ¬ ct y c T R k := fun z => by have := sg_3 z.2; omega
          rw [if_pos c0, if_neg (show ¬ (1 : Int32) = 0 by decide)]
          refine Or.inr ⟨_, rfl, k, g4, hct, ?_, g3.tr f3, q0, q1⟩
          unfold ans
          rw [if_neg (by rw [hp]; decide), if_pos c0]
        · rw [if_neg c0, if_pos rfl, show m_X3_isSign 59 w = some (if sgB y (T (pS y c T R k).2) 59 = true then 1 else 0) from sign5 hC f2 (x := 59) (by decide), zbind_s]
          by_cases cs : sgB y (T (pS y c T R k).2) 59 = true
          · rw [if_pos cs, if_neg (show ¬ (1 : Int32) = 0 by decide), zlet_s]
            obtain ⟨d1, d2, d3, d4⟩ := move5 hC f2
            refine Or.inl ⟨_, rfl, q_add (k + 1) 1, d1, ?_, g3.tr (f3.tr d2.g), fun i hi => ?_, fun z q z1 z2 => (d2.1 q (by omega) (by omega) (by omega)).trans (q0 z q z1 z2), fun z => tIs_congr (fun q hq => d2.1 _ (by omega) (by omega) (by omega)) (q1 z hp)⟩
            · show m_X3_moveOn w 25 3 = _
              rw [d3]; exact f4 hp
            · by_cases ci : i = k
              · rw [ci]; exact ⟨hp, cs⟩
              · exact g4 i (by omega)
          · have hct : ¬ ct y c T R k := fun z => cs z.2
            rw [if_neg cs, if_pos rfl, begin5 hC f2, zbind_s]
            refine Or.inr ⟨_, rfl, k, g4, hct, ?_, g3.tr f3, q0, q1⟩
            unfold ans
            rw [if_neg (by rw [hp]; decide), if_neg c0]
    · rintro ⟨x, v⟩ ⟨-, -, -, -, g4, -⟩
      have := ct_bound hC g4
      omega
  exact ⟨r, v, i, e, c1, c2, e1, v1, v2, v3⟩
/-- the first k items lie in the reference's row -/
def itOk (v : zM) (y : Nat → Nat) (c : Nat) (T : Nat → Nat × Nat × Nat) (R k : Nat) : Prop := ∀ i, i < k → v 50 (6 * i) = itS y c T R i 0 ∧ v 50 (6 * i + 1) = itS y c T R i 1 ∧ (kd y (T (hdS y c T R i).1) < 7 → ∀ z, z < 6 → v 50 (6 * i + z) = itS y c T R i z)
theorem itOk.more {v w : zM} {k : Nat} (h : itOk v y c T R k) (ho : ∀ z, z < 6 * k → w 50 z = v 50 z) (h2 : w 50 (6 * k) = itS y c T R k 0 ∧ w 50 (6 * k + 1) = itS y c T R k 1 ∧ (kd y (T (hdS y c T R k).1) < 7 → ∀ z, z < 6 → w 50 (6 * k + z) = itS y c T R k z)) : itOk w y c T R (k + 1) := by
  intro i hi
  by_cases ci : i = k
  · rw [ci]; exact h2
  · obtain ⟨a1, a2, a3⟩ := h i (by omega)
    exact ⟨by rw [ho _ (by omega)]; exact a1, by rw [ho _ (by omega)]; exact a2, fun hk z hz => by rw [ho _ (by omega)]; exact a3 hk z hz⟩
theorem items6 (hC : rdC y L c T) {u : zM} {n : Nat} (h : rt u y L c T (false, 0)) (h40 : u 40 0 = nI n) (h21 : u 39 21 = nI 0) (h22 : u 39 22 = nI 0) (hR : n + R = 12) : ∃ (w v : zM) (i : Nat), m_X6_readItem u = some w ∧ zit zF (fun s : zM => m_X6_text_b0 s) w = some v ∧ (∀ k, k < i → ct y c T R k) ∧ ¬ ct y c T R i ∧ rt v y L c T (pS y c T R i) ∧ i6P u v ∧ v 39 21 = nI (i + 1) ∧ itOk v y c T R (i + 1) := by
  obtain ⟨w, e, w1, w2, w3, w4, w5, -⟩ := item6 (m := 0) (rm := R) hC h (by decide) h40 h21 h22 (by omega)
  obtain ⟨v, e2, i, g⟩ : ∃ v, zit zF (fun s : zM => m_X6_text_b0 s) w = some v ∧ ∃ i, (∀ k, k < i → ct y c T R k) ∧ ¬ ct y c T R i ∧ rt v y L c T (pS y c T R i) ∧ i6P u v ∧ v 39 21 = nI (i + 1) ∧ itOk v y c T R (i + 1) := by
    refine zit_inv2 (fun k s => (∀ i, i < k → ct y c T R i) ∧ rt s y L c T (pS y c T R k) ∧ i6P u s ∧ s 39 21 = nI (k + 1) ∧ s 39 22 = nI (nb y c T R (k + 1)) ∧ itOk s y c T R (k + 1)) 61 _ _ (by omega) ⟨fun i hi => absurd hi (by omega), w1, w2, w3, w4, fun i hi => ?_⟩ ?_ ?_
    · have ci : i = 0 := by omega
      rw [ci]; exact w5
    · rintro k s hk ⟨g1, g2, g3, g4, g5, g6⟩
      unfold m_X6_text_b0
      have k60 := ct_bound hC g1
      rw [show m_X6_isSign 59 s = _ from sign6 hC g2 (x := 59) (Or.inl rfl), zbind_s]
      by_cases cc : ct y c T R k
      · have g1' : ∀ i, i < k + 1 → ct y c T R i := fun i hi => by
          by_cases ci : i = k
          · rw [ci]; exact cc
          · exact g1 i (by omega)
        obtain ⟨b1, b2, b3⟩ := hd_ok (R := R) hC (k + 1) g1'
        have k60' := ct_bound hC g1'
        rw [if_pos (show (pS y c T R k).1 = false ∧ sgB y (T (pS y c T R k).2) 59 = true from cc), if_neg (show ¬ (1 : Int32) = 0 by decide)]
        obtain ⟨x, f1, p1, q1⟩ := must6 hC g2 true
        have ex : pm c true (pS y c T R k) = (false, (hdS y c T R (k + 1)).1) := by
          have es : pS y c T R k = (false, (pS y c T R k).2) := Prod.ext cc.1 rfl
          rw [es]; rfl
        rw [ex] at q1
        obtain ⟨z, e, z1, z2, z3, z4, z5, z6⟩ := item6 (m := k + 1) (n := n) (bm := nb y c T R (k + 1)) (rm := (hdS y c T R (k + 1)).2) hC q1 (by omega) (by rw [p1.1 40 (by decide), g3.1 40 (by decide) (by decide)]; exact h40) (by rw [p1.2 21 (by omega)]; exact g4) (by rw [p1.2 22 (by omega)]; exact g5) (by omega)
        rw [show m_X6_must 1 s = some x from f1, zbind_s, e, zbind_s]
        exact Or.inl ⟨_, rfl, g1', z1, g3.tr (p1.i.tr z2), z3, z4, itOk.more g6 (fun i hi => by rw [z6 i hi, p1.1 50 (by decide)]) z5⟩
      · rw [if_neg (show ¬ ((pS y c T R k).1 = false ∧ sgB y (T (pS y c T R k).2) 59 = true) from cc), if_pos rfl]
        exact Or.inr ⟨_, rfl, k, g1, cc, g2, g3, g4, g6⟩
    · rintro s ⟨g1, -⟩
      have := ct_bound hC g1
      omega
  exact ⟨w, v, i, e, e2, g⟩
theorem isSo6 {u : zM} {t : Nat → Int32} {n rm j m : Nat} (hm : m < 120) (h40 : u 40 = t) (ho : tOk t n) (h : (pI y c T (decide (0 < rm)) j).1 = false) (hrm : n + rm ≤ 12) (h0 : u 50 (6 * m) = iIt y c T (decide (0 < rm)) j 0) (h1 : u 50 (6 * m + 1) = iIt y c T (decide (0 < rm)) j 1) (h2 : kd y (T j) < 7 → ∀ z, z < 6 → u 50 (6 * m + z) = iIt y c T (decide (0 < rm)) j z) : ∃ v, m_X6_isSo (nI (6 * m)) u = some v ∧ (∀ q, q ≠ 40 → v q = u q) ∧ v 40 = app (iIt y c T (decide (0 < rm)) j) n t := by
  have i1 : nI (6 * m) + 1 = nI (6 * m + 1) := q_add _ 1
  have i2 : nI (6 * m) + 2 = nI (6 * m + 2) := q_add _ 2
  have i3 : nI (6 * m) + 3 = nI (6 * m + 3) := q_add _ 3
  have i4 : nI (6 * m) + 4 = nI (6 * m + 4) := q_add _ 4
  have i5 : nI (6 * m) + 5 = nI (6 * m + 5) := q_add _ 5
  unfold m_X6_isSo app
  rw [i1, i2, i3, i4, i5, zld_n (by omega) (by decide), zbind_s, zld_n (by omega) (by decide), zbind_s, h0, h1]
  generalize hit : iIt y c T (decide (0 < rm)) j = it at *
  by_cases c10 : it 0 = 10
  · rw [if_pos c10, if_pos c10, zlet_s]
    exact ⟨_, rfl, fun q hq => zst_o _ hq, by rw [row_st, h40]⟩
  · rw [if_neg c10, if_neg c10]
    by_cases c11 : it 0 = 11
    · rw [if_pos c11, if_pos c11, zlet_s]
      exact ⟨_, rfl, fun q hq => zst_o _ hq, by rw [row_st, h40]⟩
    · rw [if_neg c11, if_neg c11]
      by_cases c12 : it 0 = 12
      · rw [if_pos c12, if_pos c12, zlet_s]
        exact ⟨_, rfl, fun q hq => zst_o _ hq, by rw [row_st, h40]⟩
      · rw [if_neg c12, if_neg c12]
        have ck : kd y (T j) < 7 := by
          refine Classical.byContradiction fun z => ?_
          have e0 : it 0 = (if wdB y (T j) 10 = true then 10 else if wdB y (T j) 11 = true then 11 else 12) := by rw [← hit]; exact if_neg z
          rw [e0] at c10 c11 c12
          by_cases d10 : wdB y (T j) 10 = true
          · rw [if_pos d10] at c10; exact c10 rfl
          · rw [if_neg d10] at c11 c12
            by_cases d11 : wdB y (T j) 11 = true
            · rw [if_pos d11] at c11; exact c11 rfl
            · rw [if_neg d11] at c12; exact c12 rfl
        have hz := h2 ck
        have hn12 : n < 12 := by
          unfold pI at h
          rw [if_pos ck] at h
          have h1 := of_decide_eq_true (pm_f (b4_f h).1).2.1
          omega
        have n0 : u 40 0 = nI n := by rw [h40]; exact ho.2.1
        rw [zbind_s, zld_n (by omega) (by decide), zbind_s, zld_n (by omega) (by decide), zbind_s, com6_eq n0 hn12, zbind2_s, hz 2 (by decide), hz 3 (by decide)]
        generalize hU : addU6 (it 0) (it 1) (it 2) (it 3) n u = U
        have uo : ∀ q, q ≠ 40 → U q = u q := fun q hq => by
          rw [← hU]; unfold addU6
          simp only [zst_o _ hq]
        have e4 : (6 : Int32) + 7 * nI n + 4 = nI (6 + 7 * n + 4) := idx7 n 4
        have e5 : (6 : Int32) + 7 * nI n + 5 = nI (6 + 7 * n + 5) := idx7 n 5
        rw [e4, e5, zld_n (by omega) (by decide), zbind_s, uo 50 (by decide), hz 4 (by decide), zsv_n (by omega) (by decide), zbind_s, zld_n (by omega) (by decide), zbind_s, zst_o _ (by decide), uo 50 (by decide), hz 5 (by decide), zsv_n (by omega) (by decide), zbind_s]
        refine ⟨_, rfl, fun q hq => by rw [zst_o _ hq, zst_o _ hq, uo q hq], ?_⟩
        rw [row_st, row_st, ← hU, add_row, h40, newT_bp]
end TY
