/-! TEXT: bytes, tokens -/
def sof (x : Nat) : Nat := if 97 ≤ x ∧ x ≤ 122 then 1 else if 48 ≤ x ∧ x ≤ 57 then 2 else if x = 59 ∨ x = 45 then 3 else if x = 32 then 4 else 5
theorem sof_5 : ∀ x : Nat, x < 256 → m_X3_sortOf (nI x) = nI (sof x) := by decide +kernel
theorem sof_4 : ∀ x : Nat, x < 256 → (sof x = 4 ↔ x = 32) := by decide +kernel
theorem sof_lt (x : Nat) : sof x ≤ 5 := by
  unfold sof; split
  · decide
  · split
    · decide
    · split
      · decide
      · split <;> decide
/-- the next token behind p, of a text of L bytes, begins at b, ends at e, is of the sort s -/
def Tok (y : Nat → Nat) (L p b e s : Nat) : Prop := p ≤ b ∧ b < e ∧ e ≤ L ∧ (∀ k, p ≤ k → k < b → sof (y k) = 4) ∧ (∀ k, b ≤ k → k < e → sof (y k) = s) ∧ s ≠ 4 ∧ (s = 1 ∨ s = 2 ∨ e = b + 1) ∧ (s = 1 ∨ s = 2 → e = L ∨ sof (y e) ≠ s)
/-- where the token j's search begins -/
def pE (T : Nat → Nat × Nat × Nat) (j : Nat) : Nat := if j = 0 then 0 else (T (j - 1)).2.1
/-- c tokens of the first L bytes -/
def Chain (y : Nat → Nat) (L c : Nat) (T : Nat → Nat × Nat × Nat) : Prop := (∀ j, j < c → Tok y L (pE T j) (T j).1 (T j).2.1 (T j).2.2) ∧ (∀ k, pE T c ≤ k → k < L → sof (y k) = 4) ∧ pE T c ≤ L
theorem chain_le {y : Nat → Nat} {L c : Nat} {T : Nat → Nat × Nat × Nat} (h : Chain y L c T) : ∀ j, j ≤ c → j ≤ pE T j := by
  intro j
  induction j with
  | zero => exact fun _ => Nat.zero_le _
  | succ j ih =>
    intro hj
    have h1 := ih (by omega)
    obtain ⟨a1, a2, -⟩ := h.1 j (by omega)
    unfold pE at h1 ⊢
    rw [if_neg (by omega), Nat.add_sub_cancel]
    unfold pE at a1
    omega
theorem chain_c {y : Nat → Nat} {L c : Nat} {T : Nat → Nat × Nat × Nat} (h : Chain y L c T) : c ≤ L := Nat.le_trans (chain_le h c (Nat.le_refl _)) h.2.2
/-- the last byte belongs to the last token, unless it is blank -/
theorem chain_last {y : Nat → Nat} {i c : Nat} {T : Nat → Nat × Nat × Nat} (h : Chain y (i + 1) c T) (hs : sof (y i) ≠ 4) : 0 < c ∧ (T (c - 1)).2.1 = i + 1 ∧ (T (c - 1)).2.2 = sof (y i) := by
  have h1 : ¬ pE T c ≤ i := fun z => hs (h.2.1 i z (by omega))
  have h2 := h.2.2
  have h3 : 0 < c := by
    refine Nat.pos_of_ne_zero (fun z => h1 ?_)
    unfold pE
    rw [if_pos z]; exact Nat.zero_le _
  have h4 : pE T c = (T (c - 1)).2.1 := by unfold pE; rw [if_neg (by omega)]
  obtain ⟨a1, a2, a3, a4, a5, -⟩ := h.1 (c - 1) (by omega)
  exact ⟨h3, by omega, (a5 i (by omega) (by omega)).symm⟩
theorem pE_ext {T T' : Nat → Nat × Nat × Nat} {j : Nat} (h : ∀ i, i < j → T' i = T i) : pE T' j = pE T j := by
  unfold pE
  by_cases c : j = 0
  · rw [if_pos c, if_pos c]
  · rw [if_neg c, if_neg c, h _ (by omega)]
/-- one byte more, which doesn't go on with the last token -/
theorem tok_more {y : Nat → Nat} {L p b e s : Nat} (h : Tok y L p b e s) (hn : e = L → s = 1 ∨ s = 2 → sof (y L) ≠ s) : Tok y (L + 1) p b e s := by
  obtain ⟨a1, a2, a3, a4, a5, a6, a7, a8⟩ := h
  refine ⟨a1, a2, by omega, a4, a5, a6, a7, fun z => ?_⟩
  rcases a8 z with q | q
  · refine Or.inr ?_
    have := hn q z
    rw [q]; exact this
  · exact Or.inr q
theorem chain_blank {y : Nat → Nat} {L c : Nat} {T : Nat → Nat × Nat × Nat} (h : Chain y L c T) (hb : sof (y L) = 4) : Chain y (L + 1) c T := by
  refine ⟨fun j hj => tok_more (h.1 j hj) (fun _ hs z => ?_), fun k h1 h2 => ?_, by have := h.2.2; omega⟩
  · rw [hb] at z; omega
  · by_cases c : k = L
    · rw [c]; exact hb
    · exact h.2.1 k h1 (by omega)
theorem chain_new {y : Nat → Nat} {L c : Nat} {T T' : Nat → Nat × Nat × Nat} (h : Chain y L c T) (hb : sof (y L) ≠ 4) (hg : ∀ i, L = i + 1 → sof (y L) = sof (y i) → ¬ (sof (y L) = 1 ∨ sof (y L) = 2)) (h1 : ∀ j, j < c → T' j = T j) (h2 : T' c = (L, L + 1, sof (y L))) : Chain y (L + 1) (c + 1) T' := by
  have hp := h.2.2
  refine ⟨fun j hj => ?_, fun k k1 k2 => ?_, ?_⟩
  · by_cases cj : j = c
    · subst cj
      rw [h2, pE_ext h1]
      refine ⟨hp, Nat.lt_succ_self _, Nat.le_refl _, fun k k1 k2 => h.2.1 k k1 k2, fun k k1 k2 => ?_, hb, Or.inr (Or.inr rfl), fun _ => Or.inl rfl⟩
      have : k = L := by
        have k1' : L ≤ k := k1
        have k2' : k < L + 1 := k2
        omega
      rw [this]
    · have hj' : j < c := by omega
      rw [h1 j hj', pE_ext (fun i hi => h1 i (by omega))]
      refine tok_more (h.1 j hj') (fun e1 hs z => ?_)
      obtain ⟨a1, a2, a3, a4, a5, -⟩ := h.1 j hj'
      have e2 : L = L - 1 + 1 := by omega
      have e3 := a5 (L - 1) (by omega) (by omega)
      exact hg (L - 1) e2 (by rw [z, e3]) (by rw [z]; exact hs)
  · unfold pE at k1
    rw [if_neg (by omega), Nat.add_sub_cancel, h2] at k1
    have : L + 1 ≤ k := k1
    omega
  · unfold pE
    rw [if_neg (by omega), Nat.add_sub_cancel, h2]
    exact Nat.le_refl _
theorem chain_on {y : Nat → Nat} {i c : Nat} {T T' : Nat → Nat × Nat × Nat} (h : Chain y (i + 1) c T) (hs : sof (y (i + 1)) = sof (y i)) (hw : sof (y (i + 1)) = 1 ∨ sof (y (i + 1)) = 2) (h1 : ∀ j, j < c → j ≠ c - 1 → T' j = T j) (h2 : T' (c - 1) = ((T (c - 1)).1, i + 2, (T (c - 1)).2.2)) : Chain y (i + 2) c T' := by
  obtain ⟨c1, c2, c3⟩ := chain_last h (by rw [← hs]; omega)
  refine ⟨fun j hj => ?_, fun k k1 k2 => ?_, ?_⟩
  · rw [pE_ext (T := T) (T' := T') (fun i hi => h1 i (by omega) (by omega))]
    obtain ⟨a1, a2, a3, a4, a5, a6, a7, a8⟩ := h.1 j hj
    by_cases cj : j = c - 1
    · subst cj
      rw [h2]
      refine ⟨a1, show (T (c - 1)).1 < i + 2 by omega, Nat.le_refl _, a4, fun k k1 k2 => ?_, a6, ?_, fun _ => Or.inl rfl⟩
      · have k2' : k < i + 2 := k2
        by_cases ck : k = i + 1
        · rw [ck]
          show sof (y (i + 1)) = (T (c - 1)).2.2
          rw [c3, hs]
        · exact a5 k k1 (by omega)
      · show (T (c - 1)).2.2 = 1 ∨ (T (c - 1)).2.2 = 2 ∨ _
        rw [c3, ← hs]
        rcases hw with z | z
        · exact Or.inl z
        · exact Or.inr (Or.inl z)
    · rw [h1 j hj cj]
      obtain ⟨b1, b2, b3, -⟩ := h.1 (c - 1) (by omega)
      have h3 : (T j).2.1 ≤ (T (c - 1)).1 := by
        have h4 : ∀ m, j < m → m < c → (T j).2.1 ≤ (T m).1 := by
          intro m
          induction m with
          | zero => intro z; omega
          | succ m ih =>
            intro z1 z2
            obtain ⟨d1, d2, -⟩ := h.1 (m + 1) z2
            unfold pE at d1
            rw [if_neg (by omega), Nat.add_sub_cancel] at d1
            by_cases cm : j = m
            · rw [cm]; exact d1
            · have := ih (by omega) (by omega)
              obtain ⟨e1, e2, -⟩ := h.1 m (by omega)
              omega
        exact h4 (c - 1) (by omega) (by omega)
      exact tok_more ⟨a1, a2, a3, a4, a5, a6, a7, a8⟩ (fun z => by omega)
  · unfold pE at k1
    rw [if_neg (by omega), h2] at k1
    have : i + 2 ≤ k := k1
    omega
  · unfold pE
    rw [if_neg (by omega), h2]
    exact Nat.le_refl _
/-- the tokens lie in the class's rows, the end behind them -/
def Lay (u : zM) (c : Nat) (T : Nat → Nat × Nat × Nat) : Prop := ∀ j, j < c → u 22 j = nI (T j).1 ∧ u 23 j = nI (T j).2.1 ∧ u 24 j = nI (T j).2.2
def spP (u v : zM) : Prop := (∀ q, q ≠ 20 → q ≠ 22 → q ≠ 23 → q ≠ 24 → v q = u q) ∧ ∀ j, j ≠ 5 → j ≠ 6 → v 20 j = u 20 j
theorem spP.tr {u v w : zM} (h : spP u v) (h' : spP v w) : spP u w := ⟨fun q a b c d => (h'.1 q a b c d).trans (h.1 q a b c d), fun j a b => (h'.2 j a b).trans (h.2 j a b)⟩
theorem spP.rfl' (u : zM) : spP u u := ⟨fun _ _ _ _ _ => rfl, fun _ _ _ => rfl⟩
theorem spP.st {u : zM} {q j : Nat} {x : Int32} (h : q = 22 ∨ q = 23 ∨ q = 24) : spP u (zst u q j x) := ⟨fun c _ h1 h2 h3 => zst_o _ (by omega), fun j _ _ => by rw [zst_o _ (by omega)]⟩
theorem spP.s5 {u : zM} {x : Int32} : spP u (zst u 20 5 x) := ⟨fun q a _ _ _ => zst_o _ a, fun j a _ => zst_j _ a⟩
theorem lay5t {u : zM} {c b e s : Nat} (hc : c < 121) : m_X3_lay (nI c) (nI b) (nI e) (nI s) u = some (zst (zst (zst u 22 c (nI b)) 23 c (nI e)) 24 c (nI s)) := by
  unfold m_X3_lay
  rw [zsv_n hc (by decide), zbind_s, zsv_n hc (by decide), zbind_s, zsv_n hc (by decide), zbind_s]
theorem lay5_ok {u : zM} {c b e s : Nat} {T : Nat → Nat × Nat × Nat} (h : Lay u c T) : Lay (zst (zst (zst u 22 c (nI b)) 23 c (nI e)) 24 c (nI s)) (c + 1) (fun j => if j = c then (b, e, s) else T j) ∧ spP u (zst (zst (zst u 22 c (nI b)) 23 c (nI e)) 24 c (nI s)) := by
  refine ⟨fun j hj => ?_, fun q _ b c d => (zst_o _ d).trans ((zst_o _ c).trans (zst_o _ b)), fun j _ _ => by rw [zst_o _ (by decide), zst_o _ (by decide), zst_o _ (by decide)]⟩
  simp only [zst_g]
  by_cases cj : j = c
  · subst cj
    simp
  · simp only [cj, and_false, if_false]
    exact h j (by omega)
theorem split5 {u : zM} {y : Nat → Nat} {L : Nat} (hL : L ≤ 120) (h4 : u 20 4 = nI L) (hy : ∀ j, j < L → u 21 j = nI (y j) ∧ y j < 256) : ∃ (v : zM) (c : Nat) (T : Nat → Nat × Nat × Nat), m_X3_split u = some v ∧ spP u v ∧ v 20 5 = nI c ∧ v 20 6 = 0 ∧ Chain y L c T ∧ Lay v (c + 1) T ∧ T c = (L, L, 0) := by
  unfold m_X3_split
  rw [zlet_s, zlet_s]
  obtain ⟨v, e, c, T, v1, v2, v3, v4, v5⟩ : ∃ v, zit zF (fun s : Int32 × Int32 × zM => m_X3_split_b0 s.1 s.2.1 s.2.2) (4, 0, zst (zst u 20 5 0) 20 6 0) = some v ∧ ∃ (c : Nat) (T : Nat → Nat × Nat × Nat), spP u v ∧ v 20 5 = nI c ∧ v 20 6 = 0 ∧ Chain y L c T ∧ Lay v c T := by
    refine zit_inv (fun i s => s.1 = (if i = 0 then 4 else nI (sof (y (i - 1)))) ∧ s.2.1 = nI i ∧ ∃ (c : Nat) (T : Nat → Nat × Nat × Nat), spP u s.2.2 ∧ s.2.2 20 5 = nI c ∧ s.2.2 20 6 = 0 ∧ Chain y i c T ∧ Lay s.2.2 c T) L _ _ (by omega) ⟨rfl, rfl, 0, fun _ => (0, 0, 0), ⟨fun q a _ _ _ => (zst_o _ a).trans (zst_o _ a), fun j a b => (zst_j (zst u 20 5 0) b).trans (zst_j u a)⟩, ?_, ?_, ⟨fun j hj => absurd hj (by omega), fun k _ h => absurd h (by omega), Nat.le_refl _⟩, fun j hj => absurd hj (by omega)⟩ ?_ ?_
    · show zst (zst u 20 5 0) 20 6 0 20 5 = nI 0
      rw [zst_j _ (by decide), zst_s]; rfl
    · show zst (zst u 20 5 0) 20 6 0 20 6 = 0
      rw [zst_s]
    · rintro i ⟨la, w, v⟩ hi ⟨ela, ew, c, T, v1, v2, v3, v4, v5⟩
      simp only at ela ew v1 v2 v3 v5 ⊢
      subst ew
      have hc := chain_c v4
      unfold m_X3_split_b0
      have y21 : v 21 i = nI (y i) := by rw [v1.1 21 (by decide) (by decide) (by decide) (by decide)]; exact (hy i hi).1
      have y4 : v 20 4 = nI L := by rw [v1.2 4 (by decide) (by decide)]; exact h4
      have s5 := sof_lt (y i)
      rw [y4, if_neg (fun z => by have := (q_le (by omega) (by omega)).mp z; omega), zld_n (by omega) (by decide), zbind_s, y21, sof_5 _ (hy i hi).2, v2]
      have nw : ∀ (hb : sof (y i) ≠ 4) (hg : ∀ i', i = i' + 1 → sof (y i) = sof (y i') → ¬ (sof (y i) = 1 ∨ sof (y i) = 2)), ∃ s', (if nI (sof (y i)) = 4 then some (Sum.inl (nI (sof (y i)), nI i + 1, v)) else zbind (m_X3_lay (nI c) (nI i) (nI i + 1) (nI (sof (y i))) v) (fun u21 => zlet (zst u21 20 5 (u21 20 5 + 1)) (fun u23 => some (Sum.inl (nI (sof (y i)), nI i + 1, u23)))) : Option ((Int32 × Int32 × zM) ⊕ zM)) = some (Sum.inl s') ∧ s'.1 = (if i + 1 = 0 then 4 else nI (sof (y (i + 1 - 1)))) ∧ s'.2.1 = nI (i + 1) ∧ ∃ (c : Nat) (T : Nat → Nat × Nat × Nat), spP u s'.2.2 ∧ s'.2.2 20 5 = nI c ∧ s'.2.2 20 6 = 0 ∧ Chain y (i + 1) c T ∧ Lay s'.2.2 c T := by
        intro hb hg
        obtain ⟨l1, l2⟩ := lay5_ok (b := i) (e := i + 1) (s := sof (y i)) v5
        rw [if_neg (show ¬ nI (sof (y i)) = 4 from q_ne (b := 4) (by omega) (by decide) hb), show nI i + 1 = nI (i + 1) from q_add i 1, lay5t (by omega), zbind_s, zlet_s]
        refine ⟨_, rfl, by rw [if_neg (by omega), Nat.add_sub_cancel], rfl, c + 1, fun j => if j = c then (i, i + 1, sof (y i)) else T j, v1.tr (l2.tr spP.s5), ?_, ?_, chain_new v4 hb hg (fun j hj => if_neg (by omega)) (if_pos rfl), ?_⟩
        · show zst (zst (zst (zst v 22 c (nI i)) 23 c (nI (i + 1))) 24 c (nI (sof (y i)))) 20 5 ((zst (zst (zst v 22 c (nI i)) 23 c (nI (i + 1))) 24 c (nI (sof (y i)))) 20 5 + 1) 20 5 = nI (c + 1)
          rw [zst_s, zst_o _ (by decide), zst_o _ (by decide), zst_o _ (by decide), v2]
          exact q_add c 1
        · show zst (zst (zst (zst v 22 c (nI i)) 23 c (nI (i + 1))) 24 c (nI (sof (y i)))) 20 5 (zst (zst (zst v 22 c (nI i)) 23 c (nI (i + 1))) 24 c (nI (sof (y i))) 20 5 + 1) 20 6 = 0
          rw [zst_j _ (by decide), zst_o _ (by decide), zst_o _ (by decide), zst_o _ (by decide), v3]
        · intro j hj
          show zst (zst (zst (zst v 22 c (nI i)) 23 c (nI (i + 1))) 24 c (nI (sof (y i)))) 20 5 ((zst (zst (zst v 22 c (nI i)) 23 c (nI (i + 1))) 24 c (nI (sof (y i)))) 20 5 + 1) 22 j = _ ∧ zst (zst (zst (zst v 22 c (nI i)) 23 c (nI (i + 1))) 24 c (nI (sof (y i)))) 20 5 ((zst (zst (zst v 22 c (nI i)) 23 c (nI (i + 1))) 24 c (nI (sof (y i)))) 20 5 + 1) 23 j = _ ∧ zst (zst (zst (zst v 22 c (nI i)) 23 c (nI (i + 1))) 24 c (nI (sof (y i)))) 20 5 ((zst (zst (zst v 22 c (nI i)) 23 c (nI (i + 1))) 24 c (nI (sof (y i)))) 20 5 + 1) 24 j = _
          rw [zst_o (q := 20) (q' := 22) _ (by decide), zst_o (q := 20) (q' := 23) _ (by decide), zst_o (q := 20) (q' := 24) _ (by decide)]
          exact l1 j hj
      by_cases c4 : sof (y i) = 4
      · have ebl : (zlet ((if nI (sof (y i)) = la then (if nI c ≤ 0 then 0 else (if nI (sof (y i)) = 1 then 1 else (if nI (sof (y i)) = 2 then 1 else 0))) else 0) : Int32) (fun x13 => (if x13 = 0 then (if nI (sof (y i)) = 4 then some (Sum.inl (nI (sof (y i)), nI i + 1, v)) else zbind (m_X3_lay (nI c) (nI i) (nI i + 1) (nI (sof (y i))) v) (fun u21 => zlet (zst u21 20 5 (u21 20 5 + 1)) (fun u23 => some (Sum.inl (nI (sof (y i)), nI i + 1, u23))))) else zbind (zsv v 23 121 (nI c - 1) (nI i + 1)) (fun u25 => some (Sum.inl (nI (sof (y i)), nI i + 1, u25))))) : Option ((Int32 × Int32 × zM) ⊕ zM)) = some (Sum.inl (nI (sof (y i)), nI i + 1, v)) := by
          rw [c4, if_neg (show ¬ nI 4 = 1 by decide), if_neg (show ¬ nI 4 = 2 by decide), zlet_s]
          have : (if nI 4 = la then (if nI c ≤ 0 then (0 : Int32) else 0) else 0) = 0 := by split <;> (try split) <;> rfl
          rw [this, if_pos rfl, if_pos (show nI 4 = 4 from rfl)]
        rw [ebl]
        exact ⟨_, rfl, by rw [if_neg (by omega), Nat.add_sub_cancel], q_add i 1, c, T, v1, v2, v3, chain_blank v4 c4, v5⟩
      · by_cases cg : ∃ i', i = i' + 1 ∧ sof (y i) = sof (y i') ∧ (sof (y i) = 1 ∨ sof (y i) = 2)
        · obtain ⟨i', rfl, hs, hw⟩ := cg
          obtain ⟨k1, k2, k3⟩ := chain_last v4 (by rw [← hs]; exact c4)
          rw [if_neg (by omega), Nat.add_sub_cancel, ← hs] at ela
          have eg : (if nI (sof (y (i' + 1))) = la then (if nI c ≤ 0 then 0 else (if nI (sof (y (i' + 1))) = 1 then 1 else (if nI (sof (y (i' + 1))) = 2 then 1 else 0))) else 0 : Int32) = 1 := by
            rw [if_pos ela.symm, if_neg (nI_nle k1 (by omega))]
            rcases hw with z | z
            · rw [z, if_pos (show nI 1 = 1 from rfl)]
            · rw [z, if_neg (show ¬ nI 2 = 1 by decide), if_pos (show nI 2 = 2 from rfl)]
          have ec : nI c - 1 = nI (c - 1) := q_sub (b := 1) (by omega)
          rw [eg, zlet_s, if_neg (show ¬ (1 : Int32) = 0 by decide), ec, show nI (i' + 1) + 1 = nI (i' + 2) from q_add (i' + 1) 1, zsv_n (by omega) (by decide), zbind_s]
          refine ⟨_, rfl, by rw [if_neg (by omega), Nat.add_sub_cancel], rfl, c, fun j => if j = c - 1 then ((T (c - 1)).1, i' + 2, (T (c - 1)).2.2) else T j, v1.tr (spP.st (Or.inr (Or.inl rfl))), ?_, ?_, chain_on v4 hs hw (fun j _ hj => if_neg hj) (if_pos rfl), fun j hj => ?_⟩
          · show zst v 23 (c - 1) (nI (i' + 2)) 20 5 = _
            rw [zst_o _ (by decide)]; exact v2
          · show zst v 23 (c - 1) (nI (i' + 2)) 20 6 = _
            rw [zst_o _ (by decide)]; exact v3
          · show zst v 23 (c - 1) (nI (i' + 2)) 22 j = _ ∧ zst v 23 (c - 1) (nI (i' + 2)) 23 j = _ ∧ zst v 23 (c - 1) (nI (i' + 2)) 24 j = _
            rw [zst_o (q := 23) (q' := 22) _ (by decide), zst_o (q := 23) (q' := 24) _ (by decide), zst_g]
            by_cases cj : j = c - 1
            · subst cj
              simp only [and_self, if_true]
              exact ⟨(v5 _ hj).1, trivial, (v5 _ hj).2.2⟩
            · simp only [cj, and_false, if_false]
              exact v5 j hj
        · have eg : (if nI (sof (y i)) = la then (if nI c ≤ 0 then 0 else (if nI (sof (y i)) = 1 then 1 else (if nI (sof (y i)) = 2 then 1 else 0))) else 0 : Int32) = 0 := by
            by_cases d1 : nI (sof (y i)) = la
            · rw [if_pos d1]
              by_cases d2 : nI c ≤ 0
              · rw [if_pos d2]
              · rw [if_neg d2]
                have hw : ¬ (sof (y i) = 1 ∨ sof (y i) = 2) := by
                  intro hw
                  have hi0 : i ≠ 0 := fun z => by
                    rw [if_pos z] at ela
                    rw [ela] at d1
                    exact c4 (q_inj (b := 4) (by omega) (by decide) d1)
                  refine cg ⟨i - 1, by omega, ?_, hw⟩
                  rw [if_neg hi0] at ela
                  rw [ela] at d1
                  have s6 := sof_lt (y (i - 1))
                  exact q_inj (by omega) (by omega) d1
                rw [if_neg (show ¬ nI (sof (y i)) = 1 from q_ne (b := 1) (by omega) (by decide) (fun z => hw (Or.inl z))), if_neg (show ¬ nI (sof (y i)) = 2 from q_ne (b := 2) (by omega) (by decide) (fun z => hw (Or.inr z)))]
            · rw [if_neg d1]
          rw [eg, zlet_s, if_pos rfl]
          exact nw c4 (fun i' e1 e2 e3 => cg ⟨i', e1, e2, e3⟩)
    · rintro ⟨la, w, v⟩ ⟨ela, ew, c, T, v1, v2, v3, v4, v5⟩
      simp only at ela ew v1 v2 v3 v5 ⊢
      unfold m_X3_split_b0
      have y4 : v 20 4 = nI L := by rw [v1.2 4 (by decide) (by decide)]; exact h4
      rw [y4, ew, if_pos (i_le_refl _)]
      exact ⟨_, rfl, c, T, v1, v2, v3, v4, v5⟩
  have hc := chain_c v4
  have y4 : v 20 4 = nI L := by rw [v1.2 4 (by decide) (by decide)]; exact h4
  obtain ⟨l1, l2⟩ := lay5_ok (b := L) (e := L) (s := 0) v5
  refine ⟨_, c, fun j => if j = c then (L, L, 0) else T j, ?_, v1.tr l2, ?_, ?_, ?_, l1, if_pos rfl⟩
  · rw [e, zbind_s, v2, y4, show m_X3_lay (nI c) (nI L) (nI L) 0 v = _ from lay5t (s := 0) (by omega), zbind_s]
  · rw [zst_o _ (by decide), zst_o _ (by decide), zst_o _ (by decide)]; exact v2
  · rw [zst_o _ (by decide), zst_o _ (by decide), zst_o _ (by decide)]; exact v3
  · refine ⟨fun j hj => ?_, fun k k1 k2 => ?_, ?_⟩
    · rw [pE_ext (T := T) (fun i hi => if_neg (by omega))]
      show Tok y L (pE T j) (if j = c then (L, L, 0) else T j).1 (if j = c then (L, L, 0) else T j).2.1 (if j = c then (L, L, 0) else T j).2.2
      rw [if_neg (by omega)]
      exact v4.1 j hj
    · rw [pE_ext (T := T) (fun i hi => if_neg (by omega))] at k1
      exact v4.2.1 k k1 k2
    · rw [pE_ext (T := T) (fun i hi => if_neg (by omega))]
      exact v4.2.2
