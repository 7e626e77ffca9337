/-! TEXT: words, signs, numbers -/
def wl (id : Nat) : Nat := zLen.getD id 0
def chr (id k : Nat) : Int32 := (zByt.getD id []).getD k 0
def allB (f : Nat → Bool) : Nat → Bool
  | 0 => true
  | k + 1 => allB f k && f k
theorem allB_f {f : Nat → Bool} {k : Nat} : ∀ n, k < n → f k = false → allB f n = false := by
  intro n
  induction n with
  | zero => intro h; omega
  | succ n ih =>
    intro h hf
    rw [allB]
    by_cases c : k = n
    · rw [← c, hf, Bool.and_false]
    · rw [ih (by omega) hf, Bool.false_and]
theorem allB_t {f : Nat → Bool} : ∀ n, allB f n = true → ∀ k, k < n → f k = true := by
  intro n h k hk
  cases hf : f k
  · rw [allB_f n hk hf] at h; cases h
  · rfl
/-- the token T is the word id -/
def wdB (y : Nat → Nat) (T : Nat × Nat × Nat) (id : Nat) : Bool := (decide (T.2.2 = 1) && decide (T.2.1 - T.1 = wl id)) && allB (fun k => decide (nI (y (T.1 + k)) = chr id k)) (wl id)
theorem chr_ok : ∀ id : Nat, id < 15 → ∀ k : Nat, k < wl id → zbind (m_J1_charAt_3b067 id (nI k)) (fun x2 => some (zc16 x2)) = some (chr id k) := by decide +kernel
theorem len_ok : ∀ id : Nat, id < 15 → zshr (Int32.ofNat (zLen.getD id 0)) (if (1 : Int32) = 0 then zi2b 1 else zi2b 0) = nI (wl id) := by decide +kernel
theorem wl_le : ∀ id : Nat, id < 15 → wl id ≤ 9 := by decide
theorem char_n {id k : Nat} (u : zM) (hi : id < 15) (hk : k < wl id) : m_J0_charAt_5068e id (nI k) u = some (chr id k) := by
  unfold m_J0_charAt_5068e m_J0_isLatin1_aae02
  rw [if_neg (by decide)]
  exact chr_ok id hi k hk
theorem len_n {id : Nat} (u : zM) (hi : id < 15) : m_J0_length_8abf5 id u = nI (wl id) := by
  unfold m_J0_length_8abf5 m_J0_coder_7d493
  exact len_ok id hi
theorem wd_q : ∀ a : Nat, a < 15 → ∀ b : Nat, b < 15 → (a = b ∨ (a = 2 ∧ b = 13) ∨ (a = 13 ∧ b = 2) ∨ wl a ≠ wl b ∨ (chr a 0 ≠ chr b 0 ∨ chr a 1 ≠ chr b 1)) ∧ 2 ≤ wl a := by decide +kernel
theorem wd_inj {y : Nat → Nat} {T : Nat × Nat × Nat} {a b : Nat} (ha : a < 13) (hb : b < 13) (h : wdB y T a = true) (h' : wdB y T b = true) : a = b := by
  unfold wdB at h h'
  rw [Bool.and_eq_true, Bool.and_eq_true, decide_eq_true_eq, decide_eq_true_eq] at h h'
  obtain ⟨⟨-, h1⟩, h2⟩ := h
  obtain ⟨⟨-, h1'⟩, h2'⟩ := h'
  have l1 := (wd_q a (by omega) b (by omega)).2
  have l2 := (wd_q b (by omega) a (by omega)).2
  have c0 := of_decide_eq_true (allB_t _ h2 0 (by omega))
  have c1 := of_decide_eq_true (allB_t _ h2 1 (by omega))
  have d0 := of_decide_eq_true (allB_t _ h2' 0 (by omega))
  have d1 := of_decide_eq_true (allB_t _ h2' 1 (by omega))
  rcases (wd_q a (by omega) b (by omega)).1 with z | z | z | z | z | z
  · exact z
  · omega
  · omega
  · omega
  · exact absurd (c0.symm.trans d0) z
  · exact absurd (c1.symm.trans d1) z
/-- the tokens of a text of L bytes -/
def rdC (y : Nat → Nat) (L c : Nat) (T : Nat → Nat × Nat × Nat) : Prop := L ≤ 120 ∧ (∀ j, j < L → y j < 256) ∧ Chain y L c T ∧ T c = (L, L, 0)
theorem rdC.b {y : Nat → Nat} {L c : Nat} {T : Nat → Nat × Nat × Nat} (h : rdC y L c T) {j : Nat} (hj : j ≤ c) : (T j).1 ≤ (T j).2.1 ∧ (T j).2.1 ≤ L ∧ (T j).2.2 ≤ 5 ∧ ((T j).2.2 ≠ 0 → j < c ∧ (T j).1 < (T j).2.1 ∧ ∀ k, (T j).1 ≤ k → k < (T j).2.1 → sof (y k) = (T j).2.2) := by
  by_cases c1 : j = c
  · rw [c1, h.2.2.2]
    exact ⟨Nat.le_refl _, Nat.le_refl _, Nat.zero_le _, fun z => absurd rfl z⟩
  · obtain ⟨a1, a2, a3, a4, a5, -⟩ := h.2.2.1.1 j (by omega)
    have e := a5 (T j).1 (Nat.le_refl _) a2
    have l := sof_lt (y (T j).1)
    exact ⟨by omega, a3, by omega, fun _ => ⟨by omega, a2, a5⟩⟩
theorem rdC.c {y : Nat → Nat} {L c : Nat} {T : Nat → Nat × Nat × Nat} (h : rdC y L c T) : c ≤ 120 := Nat.le_trans (chain_c h.2.2.1) h.1
/-- the class stands at the token j -/
def cl (u : zM) (y : Nat → Nat) (L c : Nat) (T : Nat → Nat × Nat × Nat) (j : Nat) : Prop := u 20 6 = nI j ∧ j ≤ c ∧ u 20 5 = nI c ∧ Lay u (c + 1) T ∧ ∀ k, k < L → u 21 k = nI (y k)
/-- what reading changes in the class, besides the town -/
def rfP (u v : zM) : Prop := (∀ q, q ≠ 20 → q ≠ 25 → q ≠ 26 → v q = u q) ∧ ∀ j, j ≠ 6 → v 20 j = u 20 j
theorem rfP.tr {u v w : zM} (h : rfP u v) (h' : rfP v w) : rfP u w := ⟨fun q a b c => (h'.1 q a b c).trans (h.1 q a b c), fun j a => (h'.2 j a).trans (h.2 j a)⟩
theorem rfP.rfl' (u : zM) : rfP u u := ⟨fun _ _ _ _ => rfl, fun _ _ => rfl⟩
theorem rfP.st {u : zM} {q j : Nat} {x : Int32} (h : q = 25 ∨ q = 26) : rfP u (zst u q j x) := ⟨fun c _ h1 h2 => zst_o _ (by omega), fun j _ => by rw [zst_o _ (by omega)]⟩
section RD
variable {u : zM} {y : Nat → Nat} {L c : Nat} {T : Nat → Nat × Nat × Nat} {j : Nat}
theorem cl.cg {v : zM} (h : cl u y L c T j) (hP : rfP u v) {j' : Nat} (h6 : v 20 6 = nI j') (hj : j' ≤ c) : cl v y L c T j' := by
  obtain ⟨-, -, h3, h4, h5⟩ := h
  refine ⟨h6, hj, (hP.2 5 (by decide)).trans h3, fun i hi => ?_, fun k hk => ?_⟩
  · rw [hP.1 22 (by decide) (by decide) (by decide), hP.1 23 (by decide) (by decide) (by decide), hP.1 24 (by decide) (by decide) (by decide)]
    exact h4 i hi
  · rw [hP.1 21 (by decide) (by decide) (by decide)]; exact h5 k hk
theorem cl.st {q i : Nat} {x : Int32} (h : cl u y L c T j) (hq : q = 25 ∨ q = 26) : cl (zst u q i x) y L c T j := h.cg (rfP.st hq) (by rw [zst_o _ (by omega)]; exact h.1) h.2.1
def nx (c j : Nat) : Nat := if j < c then j + 1 else c
theorem move5 (hC : rdC y L c T) (h : cl u y L c T j) : cl (m_X3_moveOn u) y L c T (nx c j) ∧ rfP u (m_X3_moveOn u) ∧ (m_X3_moveOn u) 25 = u 25 ∧ (m_X3_moveOn u) 26 = u 26 := by
  have hc := hC.c
  have hj := h.2.1
  unfold m_X3_moveOn nx
  rw [h.1, h.2.2.1]
  by_cases c1 : j < c
  · rw [if_neg (fun z => by have := (q_le (by omega) (by omega)).mp z; omega), if_pos c1, zlet_s]
    have hP : rfP u (zst u 20 6 (nI j + 1)) := ⟨fun q a _ _ => zst_o _ a, fun i a => zst_j _ a⟩
    exact ⟨h.cg hP (by rw [zst_s]; exact q_add j 1) (by omega), hP, zst_o _ (by decide), zst_o _ (by decide)⟩
  · rw [if_pos ((q_le (by omega) (by omega)).mpr (by omega)), if_neg c1]
    exact ⟨⟨by rw [h.1]; congr 1; omega, Nat.le_refl _, h.2.2⟩, rfP.rfl' u, rfl, rfl⟩
theorem word5 (hC : rdC y L c T) (h : cl u y L c T j) {id : Nat} (hi : id < 15) : m_X3_isWord id u = some (if wdB y (T j) id = true then 1 else 0) := by
  have hc := hC.c
  have hL := hC.1
  obtain ⟨h6, hj, -, hl, h21⟩ := h
  obtain ⟨l1, l2, l3⟩ := hl j (by omega)
  obtain ⟨b1, b2, b3, b4⟩ := hC.b hj
  have w9 := wl_le id hi
  unfold m_X3_isWord wdB
  rw [h6, zld_n (by omega) (by decide), zbind_s, l3]
  by_cases c1 : (T j).2.2 = 1
  · rw [if_pos (show nI (T j).2.2 = 1 from congrArg nI c1), zld_n (by omega) (by decide), zbind_s, zld_n (by omega) (by decide), zbind_s, l1, l2, len_n u hi, q_sub b1, decide_eq_true c1, Bool.true_and]
    by_cases c2 : (T j).2.1 - (T j).1 = wl id
    · rw [if_pos (congrArg nI c2.symm), decide_eq_true c2, Bool.true_and]
      obtain ⟨r, e, hr⟩ : ∃ r, zit zF (fun s : Int32 => m_X3_isWord_b0 id u s) 0 = some r ∧ r = if allB (fun k => decide (nI (y ((T j).1 + k)) = chr id k)) (wl id) = true then 1 else 0 := by
        refine zit_inv2 (fun k x => x = nI k ∧ allB (fun k => decide (nI (y ((T j).1 + k)) = chr id k)) k = true) (wl id) _ _ (by omega) ⟨rfl, rfl⟩ ?_ ?_
        · rintro k x hk ⟨rfl, ha⟩
          unfold m_X3_isWord_b0
          rw [len_n u hi, if_neg (fun z => by have := (q_le (by omega) (by omega)).mp z; omega), h6, zld_n (by omega) (by decide), zbind_s, l1, q_add, zld_n (by omega) (by decide), zbind_s, char_n u hi hk, zbind_s, h21 _ (by omega)]
          by_cases c3 : nI (y ((T j).1 + k)) = chr id k
          · rw [if_pos c3]
            exact Or.inl ⟨_, rfl, q_add k 1, by rw [allB, ha, decide_eq_true c3]; rfl⟩
          · rw [if_neg c3]
            exact Or.inr ⟨_, rfl, by rw [allB_f (k := k) (wl id) hk (decide_eq_false c3)]; rfl⟩
        · rintro x ⟨rfl, ha⟩
          unfold m_X3_isWord_b0
          rw [len_n u hi, if_pos (i_le_refl _)]
          exact ⟨_, rfl, (if_pos ha).symm⟩
      rw [e, hr]
    · rw [if_neg (show ¬ nI (wl id) = nI ((T j).2.1 - (T j).1) from q_ne (by omega) (by omega) (fun z => c2 z.symm)), decide_eq_false c2, Bool.false_and]; rfl
  · rw [if_neg (show ¬ nI (T j).2.2 = 1 from q_ne (b := 1) (by omega) (by decide) c1), decide_eq_false c1, Bool.false_and, Bool.false_and]; rfl
/-- the token T is the sign x -/
def sgB (y : Nat → Nat) (T : Nat × Nat × Nat) (x : Nat) : Bool := decide (T.2.2 = 3) && decide (y T.1 = x)
theorem sign5 (hC : rdC y L c T) (h : cl u y L c T j) {x : Nat} (hx : x < 256) : m_X3_isSign (nI x) u = some (if sgB y (T j) x = true then 1 else 0) := by
  have hc := hC.c
  have hL := hC.1
  obtain ⟨h6, hj, -, hl, h21⟩ := h
  obtain ⟨l1, l2, l3⟩ := hl j (by omega)
  obtain ⟨b1, b2, b3, b4⟩ := hC.b hj
  unfold m_X3_isSign sgB
  rw [h6, zld_n (by omega) (by decide), zbind_s, l3]
  by_cases c1 : (T j).2.2 = 3
  · obtain ⟨d1, d2, -⟩ := b4 (by omega)
    have hy := hC.2.1 (T j).1 (by omega)
    rw [if_pos (show nI (T j).2.2 = 3 from congrArg nI c1), zld_n (by omega) (by decide), zbind_s, l1, zld_n (by omega) (by decide), zbind_s, h21 _ (by omega), decide_eq_true c1, Bool.true_and]
    by_cases c2 : y (T j).1 = x
    · rw [if_pos (congrArg nI c2), decide_eq_true c2]; rfl
    · rw [if_neg (q_ne (by omega) (by omega) c2), decide_eq_false c2]; rfl
  · rw [if_neg (show ¬ nI (T j).2.2 = 3 from q_ne (b := 3) (by omega) (by decide) c1), decide_eq_false c1, Bool.false_and]; rfl
theorem end5 (hC : rdC y L c T) (h : cl u y L c T j) : m_X3_isEnd u = some (if (T j).2.2 = 0 then 1 else 0) := by
  have hc := hC.c
  obtain ⟨h6, hj, -, hl, h21⟩ := h
  obtain ⟨l1, l2, l3⟩ := hl j (by omega)
  obtain ⟨b1, b2, b3, b4⟩ := hC.b hj
  unfold m_X3_isEnd
  rw [h6, zld_n (by omega) (by decide), zbind_s, l3]
  by_cases c1 : (T j).2.2 = 0
  · rw [if_pos (show nI (T j).2.2 = 0 from congrArg nI c1), if_pos c1]
  · rw [if_neg (show ¬ nI (T j).2.2 = 0 from q_ne (b := 0) (by omega) (by decide) c1), if_neg c1]
theorem begin5 (hC : rdC y L c T) (h : cl u y L c T j) : m_X3_begin u = some (nI (T j).1) := by
  have hc := hC.c
  obtain ⟨h6, hj, -, hl, h21⟩ := h
  unfold m_X3_begin
  rw [h6, zld_n (by omega) (by decide), zbind_s, (hl j (by omega)).1]
/-- the token T is a number from lo to hi -/
def okB (y : Nat → Nat) (T : Nat × Nat × Nat) (lo hi : Nat) : Bool := decide (T.2.2 = 2) && decide (lo ≤ tokV y T ∧ tokV y T ≤ hi)
theorem w5_n {x a b : Nat} (hx : x < 100000) (ha : a < 100000) (hb : b < 100000) : m_X5_within (nI x) (nI a) (nI b) = if a ≤ x ∧ x ≤ b then 1 else 0 := by
  rw [w5_eq]
  by_cases c : a ≤ x ∧ x ≤ b
  · rw [if_pos c, if_pos ⟨(q_le (by omega) (by omega)).mpr c.1, (q_le (by omega) (by omega)).mpr c.2⟩]
  · rw [if_neg c, if_neg (fun z => c ⟨(q_le (by omega) (by omega)).mp z.1, (q_le (by omega) (by omega)).mp z.2⟩)]
theorem tokV_le (y : Nat → Nat) (T : Nat × Nat × Nat) : tokV y T ≤ 1000 := by
  unfold tokV; split
  · exact dgt_le _ _ _
  · exact Nat.zero_le _
theorem numb5 (hC : rdC y L c T) (h : cl u y L c T j) {lo hi : Nat} (h1 : lo ≤ 1000) (h2 : hi ≤ 1000) : m_X3_numberWithin (nI lo) (nI hi) u = some (if okB y (T j) lo hi = true then nI (tokV y (T j)) else -1) := by
  have hc := hC.c
  have hL := hC.1
  obtain ⟨h6, hj, -, hl, h21⟩ := h
  obtain ⟨l1, l2, l3⟩ := hl j (by omega)
  obtain ⟨b1, b2, b3, b4⟩ := hC.b hj
  unfold m_X3_numberWithin okB
  rw [h6, zld_n (by omega) (by decide), zbind_s, l3]
  by_cases c1 : (T j).2.2 = 2
  · obtain ⟨d1, d2, d3⟩ := b4 (by omega)
    have e : zit zF (fun s : Int32 × Int32 => m_X3_numberWithin_b0 u s.1 s.2) (nI (dgt y (T j).1 0), nI ((T j).1 + 0)) = some (nI (tokV y (T j))) := by
      refine zit_fn (fun k => (nI (dgt y (T j).1 k), nI ((T j).1 + k))) ((T j).2.1 - (T j).1) _ (by omega) (fun k hk => ?_) ?_
      · show m_X3_numberWithin_b0 u (nI (dgt y (T j).1 k)) (nI ((T j).1 + k)) = some (.inl (nI (min 1000 (10 * dgt y (T j).1 k + (y ((T j).1 + k) - 48))), nI ((T j).1 + (k + 1))))
        unfold m_X3_numberWithin_b0
        have hs := (d3 ((T j).1 + k) (by omega) (by omega)).trans c1
        have hd := (sof_w _ (hC.2.1 ((T j).1 + k) (by omega))).2.mpr hs
        rw [h6, zld_n (by omega) (by decide), zbind_s, l2, if_neg (fun z => by have := (q_le (by omega) (by omega)).mp z; omega), zld_n (by omega) (by decide), zbind_s, h21 _ (by omega), Int32.mul_comm, dig_n (dgt_le _ _ _) hd.1 hd.2, ← Nat.add_assoc, ← q_add ((T j).1 + k) 1]; rfl
      · show m_X3_numberWithin_b0 u (nI (dgt y (T j).1 ((T j).2.1 - (T j).1))) (nI ((T j).1 + ((T j).2.1 - (T j).1))) = _
        unfold m_X3_numberWithin_b0 tokV
        rw [h6, zld_n (by omega) (by decide), zbind_s, l2, show (T j).1 + ((T j).2.1 - (T j).1) = (T j).2.1 by omega, if_pos (i_le_refl _), if_pos c1]
    have e' : zit zF (fun s : Int32 × Int32 => m_X3_numberWithin_b0 u s.1 s.2) (0, nI (T j).1) = some (nI (tokV y (T j))) := e
    have hv := tokV_le y (T j)
    rw [if_pos (show nI (T j).2.2 = 2 from congrArg nI c1), zld_n (by omega) (by decide), zbind_s, l1, e', zbind_s, w5_n (by omega) (by omega) (by omega), decide_eq_true c1, Bool.true_and]
    by_cases c2 : lo ≤ tokV y (T j) ∧ tokV y (T j) ≤ hi
    · rw [if_pos c2, if_neg (show ¬ (1 : Int32) = 0 by decide), decide_eq_true c2]; rfl
    · rw [if_neg c2, if_pos rfl, decide_eq_false c2]; rfl
  · rw [if_neg (show ¬ nI (T j).2.2 = 2 from q_ne (b := 2) (by omega) (by decide) c1), decide_eq_false c1, Bool.false_and]; rfl
theorem m1_ne {v : Nat} (h : v < 2147483648) : ¬ nI v = -1 := fun z => by
  have h1 : (0 : Int32) ≤ nI v := nI_pos' (by omega)
  rw [z] at h1; exact absurd h1 (by decide)
theorem take5 (hC : rdC y L c T) (h : cl u y L c T j) {lo hi : Nat} (h1 : lo ≤ 1000) (h2 : hi ≤ 1000) : ∃ v, m_X0_takeNumber (nI lo) (nI hi) u = some (if okB y (T j) lo hi = true then nI (tokV y (T j)) else -1, v) ∧ cl v y L c T (if okB y (T j) lo hi = true then nx c j else j) ∧ rfP u v ∧ v 25 = u 25 ∧ v 26 = u 26 := by
  have hv := tokV_le y (T j)
  unfold m_X0_takeNumber
  rw [numb5 hC h h1 h2, zbind_s]
  by_cases c1 : okB y (T j) lo hi = true
  · rw [if_pos c1, if_pos c1, if_neg (m1_ne (by omega)), zlet_s]
    obtain ⟨a1, a2, a3⟩ := move5 hC h
    exact ⟨_, rfl, a1, a2, a3⟩
  · rw [if_neg c1, if_neg c1, if_pos rfl]
    exact ⟨_, rfl, h, rfP.rfl' u, rfl, rfl⟩
/-! the same in the reference -/
/-- the reference stands at the token j; w: something was wrong -/
def rt (u : zM) (y : Nat → Nat) (L c : Nat) (T : Nat → Nat × Nat × Nat) (s : Bool × Nat) : Prop := at6 u y (T s.2) ∧ u 39 17 = (if s.1 = true then 1 else 0) ∧ s.2 ≤ c ∧ txt6 u y L
def pm (c : Nat) (x : Bool) (s : Bool × Nat) : Bool × Nat := if s.1 = true then s else if x = true then (false, nx c s.2) else (true, s.2)
theorem rt.cg {v : zM} {s : Bool × Nat} (h : rt u y L c T s) (e : ∀ i, 12 ≤ i → i ≤ 17 → v 39 i = u 39 i) (e2 : v 47 = u 47) : rt v y L c T s := by
  obtain ⟨h1, h2, h3, h4⟩ := h
  unfold at6 at h1
  refine ⟨?_, by rw [e 17 (by omega) (by omega)]; exact h2, h3, h4.cg (e 12 (by omega) (by omega)) e2⟩
  unfold at6
  rw [e 13 (by omega) (by omega), e 14 (by omega) (by omega), e 15 (by omega) (by omega), e 16 (by omega) (by omega)]
  exact h1
theorem nextT (hC : rdC y L c T) (hj : j ≤ c) (h : txt6 u y L) (h14 : u 39 14 = nI (T j).2.1) : ∃ v, m_X6_next u = some v ∧ nxP u v ∧ v 39 17 = u 39 17 ∧ at6 v y (T (nx c j)) := by
  refine next6 h h14 ?_
  unfold nx
  by_cases c1 : j < c
  · rw [if_pos c1]
    by_cases c2 : j + 1 = c
    · refine Or.inr ⟨by rw [c2]; exact hC.2.2.2, (hC.b hj).2.1, fun k k1 k2 => hC.2.2.1.2.1 k ?_ k2⟩
      unfold pE
      rw [if_neg (by omega), ← c2, Nat.add_sub_cancel]; exact k1
    · have h := hC.2.2.1.1 (j + 1) (by omega)
      unfold pE at h
      rw [if_neg (by omega), Nat.add_sub_cancel] at h
      exact Or.inl h
  · have e : j = c := by omega
    rw [if_neg c1, e, hC.2.2.2]
    exact Or.inr ⟨rfl, Nat.le_refl _, fun k k1 k2 => by have k1' : L ≤ k := k1; omega⟩
theorem nx_le {c j : Nat} : nx c j ≤ c := by unfold nx; split <;> omega
theorem must6 (hC : rdC y L c T) {s : Bool × Nat} (h : rt u y L c T s) (x : Bool) : ∃ v, m_X6_must (if x = true then 1 else 0) u = some v ∧ nxP u v ∧ rt v y L c T (pm c x s) := by
  obtain ⟨w, j⟩ := s
  obtain ⟨h1, h2, h3, h4⟩ := h
  simp only at h1 h2 h3
  unfold m_X6_must pm
  cases w with
  | true =>
    rw [if_pos rfl] at h2
    rw [h2, if_neg (show ¬ (1 : Int32) = 0 by decide), zlet_s, zst_s, if_neg (show ¬ (1 : Int32) = 0 by decide), if_pos rfl]
    have hP : nxP u (zst u 39 17 1) := nxP.st (by omega)
    refine ⟨_, rfl, hP, ?_, zst_s _ _ _ _, h3, hP.txt h4⟩
    unfold at6 at h1 ⊢
    rw [zst_j _ (by decide), zst_j _ (by decide), zst_j _ (by decide), zst_j _ (by decide)]
    exact h1
  | false =>
    rw [if_neg (by decide)] at h2
    rw [h2, if_pos rfl, if_neg (show ¬ false = true by decide)]
    cases x with
    | true =>
      rw [if_neg (show ¬ (if true = true then (1 : Int32) else 0) = 0 by decide), zlet_s, zst_s, if_pos rfl, if_pos rfl]
      have hP : nxP u (zst u 39 17 0) := nxP.st (by omega)
      obtain ⟨v, e, v1, v2, v3⟩ := nextT (u := zst u 39 17 0) hC h3 (hP.txt h4) ((zst_j _ (by decide)).trans h1.2.1)
      refine ⟨v, by rw [e, zbind_s], hP.tr v1, v3, ?_, nx_le, v1.txt (hP.txt h4)⟩
      rw [v2, zst_s]; rfl
    | false =>
      rw [if_pos (show (if false = true then (1 : Int32) else 0) = 0 by decide), zlet_s, zst_s, if_neg (show ¬ (1 : Int32) = 0 by decide), if_neg (show ¬ false = true by decide)]
      have hP : nxP u (zst u 39 17 1) := nxP.st (by omega)
      refine ⟨_, rfl, hP, ?_, zst_s _ _ _ _, h3, hP.txt h4⟩
      unfold at6 at h1 ⊢
      rw [zst_j _ (by decide), zst_j _ (by decide), zst_j _ (by decide), zst_j _ (by decide)]
      exact h1
theorem word6w (hC : rdC y L c T) {s : Bool × Nat} (h : rt u y L c T s) {id : Nat} (hi : id < 15) : m_X6_isWord id u = some (if wdB y (T s.2) id = true then 1 else 0) := by
  obtain ⟨w, j⟩ := s
  obtain ⟨⟨a13, a14, a15, a16⟩, h2, hj, h4⟩ := h
  simp only at a13 a14 a15 a16 h2 hj ⊢
  have hL := hC.1
  have w9 := wl_le id hi
  obtain ⟨b1, b2, b3, b4⟩ := hC.b hj
  have hpre : (zlet ((if u 39 15 = 1 then (if (u 39 14 - u 39 13) = m_J0_length_8abf5 id u then 1 else 0) else 0) : Int32) (fun x1 => zbind (zit zF (fun s : Int32 × Int32 => m_X6_isWord_b0 id u s.1 s.2) (x1, 0)) (fun x7 => some (zb x7)))) = zbind (zit zF (fun s : Int32 × Int32 => m_X6_isWord_b0 id u s.1 s.2) (if (decide ((T j).2.2 = 1) && decide ((T j).2.1 - (T j).1 = wl id)) = true then 1 else 0, 0)) (fun x7 => some (zb x7)) := by
    rw [zlet_s, a13, a14, a15, len_n u hi, q_sub b1]
    have r1 : nI (rs (T j).2.2) = 1 ↔ (T j).2.2 = 1 := by
      unfold rs
      constructor
      · intro z
        have z' := q_inj (b := 1) (by split <;> omega) (by decide) z
        split at z' <;> omega
      · intro z; rw [z]; rfl
    by_cases c1 : (T j).2.2 = 1
    · rw [if_pos (r1.mpr c1), decide_eq_true c1, Bool.true_and]
      by_cases c2 : (T j).2.1 - (T j).1 = wl id
      · rw [if_pos (congrArg nI c2), decide_eq_true c2]; rfl
      · rw [if_neg (q_ne (by omega) (by omega) c2), decide_eq_false c2]; rfl
    · rw [if_neg (fun z => c1 (r1.mp z)), decide_eq_false c1, Bool.false_and]; rfl
  unfold m_X6_isWord
  rw [hpre]
  obtain ⟨r, e, hr⟩ : ∃ r, zit zF (fun s : Int32 × Int32 => m_X6_isWord_b0 id u s.1 s.2) (if (decide ((T j).2.2 = 1) && decide ((T j).2.1 - (T j).1 = wl id)) = true then 1 else 0, 0) = some r ∧ r = if wdB y (T j) id = true then 1 else 0 := by
    refine zit_inv2 (fun k x => x.2 = nI k ∧ ((x.1 = 1 ∧ (decide ((T j).2.2 = 1) && decide ((T j).2.1 - (T j).1 = wl id)) = true ∧ allB (fun k => decide (nI (y ((T j).1 + k)) = chr id k)) k = true) ∨ (x.1 = 0 ∧ wdB y (T j) id = false))) (wl id) _ _ (by omega) ⟨rfl, ?_⟩ ?_ ?_
    · cases hp : (decide ((T j).2.2 = 1) && decide ((T j).2.1 - (T j).1 = wl id))
      · refine Or.inr ⟨rfl, ?_⟩
        unfold wdB
        rw [hp, Bool.false_and]
      · exact Or.inl ⟨rfl, rfl, rfl⟩
    · rintro k ⟨x, z⟩ hk ⟨rfl, hx⟩
      simp only at hx ⊢
      unfold m_X6_isWord_b0
      rw [len_n u hi, if_neg (fun z => by have := (q_le (by omega) (by omega)).mp z; omega)]
      rcases hx with ⟨rfl, hp, ha⟩ | ⟨rfl, hx⟩
      · have hp' := hp
        rw [Bool.and_eq_true, decide_eq_true_eq, decide_eq_true_eq] at hp'
        rw [if_neg (show ¬ (1 : Int32) = 0 by decide), a13, q_add, zld_n (by omega) (by decide), zbind_s, char_n u hi hk, zbind_s, (h4.2.2 ((T j).1 + k) (by omega)).1]
        by_cases c3 : nI (y ((T j).1 + k)) = chr id k
        · rw [if_pos c3]
          exact Or.inl ⟨_, rfl, q_add k 1, Or.inl ⟨rfl, hp, by rw [allB, ha, decide_eq_true c3]; rfl⟩⟩
        · rw [if_neg c3]
          refine Or.inl ⟨_, rfl, q_add k 1, Or.inr ⟨rfl, ?_⟩⟩
          unfold wdB
          rw [allB_f (k := k) (wl id) hk (decide_eq_false c3), Bool.and_false]
      · rw [if_pos rfl]
        exact Or.inr ⟨_, rfl, by rw [hx]; rfl⟩
    · rintro ⟨x, z⟩ ⟨rfl, hx⟩
      simp only at hx ⊢
      unfold m_X6_isWord_b0
      rw [len_n u hi, if_pos (i_le_refl _)]
      rcases hx with ⟨rfl, hp, ha⟩ | ⟨rfl, hx⟩
      · refine ⟨_, rfl, ?_⟩
        unfold wdB
        rw [hp, ha]; rfl
      · exact ⟨_, rfl, by rw [hx]; rfl⟩
  rw [e, zbind_s, hr, zb_if]
theorem sof_s : ∀ x : Nat, x < 256 → sof x = 5 → x ≠ 59 ∧ x ≠ 45 := by decide +kernel
theorem sign6 (hC : rdC y L c T) {s : Bool × Nat} (h : rt u y L c T s) {x : Nat} (hx : x = 59 ∨ x = 45) : m_X6_isSign (nI x) u = some (if s.1 = false ∧ sgB y (T s.2) x = true then 1 else 0) := by
  obtain ⟨w, j⟩ := s
  obtain ⟨⟨a13, a14, a15, a16⟩, h2, hj, h4⟩ := h
  simp only at a13 a14 a15 a16 h2 hj ⊢
  have hL := hC.1
  obtain ⟨b1, b2, b3, b4⟩ := hC.b hj
  unfold m_X6_isSign sgB
  cases w with
  | true =>
    rw [h2, if_pos rfl, if_neg (show ¬ (1 : Int32) = 0 by decide), if_neg (fun z => by cases z.1)]
  | false =>
    rw [h2, if_neg (show ¬ false = true by decide), if_pos rfl, a15, a13]
    by_cases c1 : (T j).2.2 = 3
    · obtain ⟨d1, d2, d3⟩ := b4 (by omega)
      have hy := hC.2.1 (T j).1 (by omega)
      have er : nI (rs (T j).2.2) = 3 := by rw [c1]; rfl
      rw [if_pos er, zld_n (by omega) (by decide), zbind_s, (h4.2.2 (T j).1 (by omega)).1, decide_eq_true c1, Bool.true_and]
      by_cases c2 : y (T j).1 = x
      · rw [if_pos (congrArg nI c2), decide_eq_true c2]; rfl
      · rw [if_neg (q_ne (by omega) (by omega) c2), decide_eq_false c2]; rfl
    · rw [decide_eq_false c1, Bool.false_and, if_neg (show ¬ (false = false ∧ false = true) from fun z => by cases z.2)]
      by_cases c5 : (T j).2.2 = 5
      · obtain ⟨d1, d2, d3⟩ := b4 (by omega)
        have hy := hC.2.1 (T j).1 (by omega)
        have h5 := sof_s _ hy ((d3 _ (Nat.le_refl _) d2).trans c5)
        have er : nI (rs (T j).2.2) = 3 := by rw [c5]; rfl
        rw [if_pos er, zld_n (by omega) (by decide), zbind_s, (h4.2.2 (T j).1 (by omega)).1, if_neg (q_ne (by omega) (by omega) (by omega))]
      · have er : ¬ nI (rs (T j).2.2) = 3 := by
          unfold rs
          rw [if_neg c5]
          exact q_ne (b := 3) (by omega) (by decide) c1
        rw [if_neg er]
def pN (y : Nat → Nat) (c : Nat) (T : Nat → Nat × Nat × Nat) (lo hi : Nat) (s : Bool × Nat) : Bool × Nat := pm c (okB y (T s.2) lo hi) s
theorem numb6 (hC : rdC y L c T) {s : Bool × Nat} (h : rt u y L c T s) {lo hi : Nat} (h1 : lo < 1000) (h2 : hi < 1000) : ∃ v, m_X6_number (nI lo) (nI hi) u = some (nI (tokV y (T s.2)), v) ∧ nxP u v ∧ rt v y L c T (pN y c T lo hi s) := by
  obtain ⟨v, e, v1, v2⟩ := must6 hC h (okB y (T s.2) lo hi)
  obtain ⟨⟨a13, a14, a15, a16⟩, h3, hj, h4⟩ := h
  obtain ⟨b1, b2, b3, b4⟩ := hC.b hj
  have hv := tokV_le y (T s.2)
  refine ⟨v, ?_, v1, v2⟩
  unfold m_X6_number
  rw [a15, a16]
  by_cases c1 : (T s.2).2.2 = 2
  · have er : nI (rs (T s.2).2.2) = 2 := by rw [c1]; rfl
    have hw : m_X6_within (nI (tokV y (T s.2))) (nI lo) (nI hi) = if lo ≤ tokV y (T s.2) ∧ tokV y (T s.2) ≤ hi then 1 else 0 := w5_n (by omega) (by omega) (by omega)
    unfold okB at e
    rw [decide_eq_true c1, Bool.true_and] at e
    rw [if_pos er, hw]
    by_cases c2 : lo ≤ tokV y (T s.2) ∧ tokV y (T s.2) ≤ hi
    · rw [decide_eq_true c2, if_pos rfl] at e
      rw [if_pos c2, if_neg (show ¬ (1 : Int32) = 0 by decide), e, zbind_s]
    · rw [decide_eq_false c2, if_neg (by decide)] at e
      rw [if_neg c2, if_pos rfl, e, zbind_s]
  · have er : ¬ nI (rs (T s.2).2.2) = 2 := by
      unfold rs
      split
      · decide
      · exact q_ne (b := 2) (by omega) (by decide) c1
    unfold okB at e
    rw [decide_eq_false c1, Bool.false_and, if_neg (by decide)] at e
    rw [if_neg er, e, zbind_s]
end RD
