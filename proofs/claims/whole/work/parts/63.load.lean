/-! LOAD -/
def ld1 (num : Nat → Int32) (k : Nat) (t : Nat → Int32) : Nat → Nat → Int32
  | 0 => t
  | m + 1 => upd (ld1 num k t m) (6 + 7 * k + (1 + m)) (num (3 * k + m))
def ldR (num : Nat → Int32) (t : Nat → Int32) : Nat → Nat → Int32
  | 0 => t
  | k + 1 => ld1 num k (ldR num t k) 3
abbrev okI (x : Int32) : Prop := 50 ≤ x ∧ x ≤ 250
abbrev good (num : Nat → Int32) (l i : Nat) : Prop := 3 * i + 3 ≤ l ∧ okI (num (3 * i)) ∧ okI (num (3 * i + 1)) ∧ okI (num (3 * i + 2))
theorem scrS : ∀ s, s < 4 → scr (31 + 2 * s) = false ∧ scr (31 + 2 * s + 1) = false := by decide
theorem ldR_0 (num t : Nat → Int32) : ∀ k, ldR num t k 0 = t 0 := by
  intro k
  induction k with
  | zero => rfl
  | succ k ih =>
    rw [ldR, ld1, ld1, ld1, ld1, upd_o _ _ (by omega), upd_o _ _ (by omega), upd_o _ _ (by omega), ih]
theorem ldR_ok {num t : Nat → Int32} {n l : Nat} (h : tOk t n) : ∀ k, k ≤ n → (∀ i, i < k → good num l i) → tOk (ldR num t k) n := by
  intro k
  induction k with
  | zero => intro _ _; exact h
  | succ k ih =>
    intro hk hg
    obtain ⟨-, g0, g1, g2⟩ := hg k (by omega)
    have h0 := ih (by omega) (fun i hi => hg i (by omega))
    have okF' : ∀ f, 1 ≤ f → f ≤ 3 → ∀ x, okI x → okF f x := fun f h1 h3 x hx => ⟨fun z => by omega, fun _ => (btw x 50 250 (by decide) (by decide)).mp hx, fun z => by omega, fun z => by omega⟩
    rw [ldR, ld1, ld1, ld1, ld1]
    exact ((h0.bd (b := k) (f := 1 + 0) (by omega) (by decide) (okF' _ (by decide) (by decide) _ g0)).bd (b := k) (f := 1 + 1) (by omega) (by decide) (okF' _ (by decide) (by decide) _ g1)).bd (b := k) (f := 1 + 2) (by omega) (by decide) (okF' _ (by decide) (by decide) _ g2)
theorem hasM5 {u : zM} {q l i : Nat} (h2 : u q 2 = nI l) (hl : l ≤ 40) (hi : i < 13) : m_X1_hasMeasures q (nI i * 3) u = some (if okI (u (q + 1) (3 * i)) ∧ okI (u (q + 1) (3 * i + 1)) ∧ okI (u (q + 1) (3 * i + 2)) ∧ 3 * i + 3 ≤ l then 1 else 0) := by
  unfold m_X1_hasMeasures
  have e3 : nI i * 3 = nI (3 * i) := by rw [show (3 : Int32) = nI 3 from rfl, q_mul, Nat.mul_comm]
  rw [e3, has5_eq h2 hl, nI_toInt (by omega), show (3 : Int32).toInt = 3 by decide]
  simp only [if_0, w5_eq]
  by_cases c : 3 * i + 3 ≤ l
  · rw [if_neg (fun z => z ⟨(q_le (a := 0) (by decide) (by omega)).mpr (Nat.zero_le _), by decide, by omega⟩), zld_n (by omega) (by decide), zbind_s, show nI (3 * i) + 1 = nI (3 * i + 1) from q_add _ 1, zld_n (by omega) (by decide), zbind_s, show nI (3 * i) + 2 = nI (3 * i + 2) from q_add _ 2, zld_n (by omega) (by decide), zbind_s]
    by_cases a0 : 50 ≤ u (q + 1) (3 * i) ∧ u (q + 1) (3 * i) ≤ 250
    · rw [if_neg (fun z => z a0)]
      by_cases a1 : 50 ≤ u (q + 1) (3 * i + 1) ∧ u (q + 1) (3 * i + 1) ≤ 250
      · rw [if_neg (fun z => z a1)]
        by_cases a2 : 50 ≤ u (q + 1) (3 * i + 2) ∧ u (q + 1) (3 * i + 2) ≤ 250
        · rw [if_neg (fun z => z a2), if_pos ⟨a0, a1, a2, c⟩]
        · rw [if_pos a2, if_neg (fun z => a2 z.2.2.1)]
      · rw [if_pos a1, if_neg (fun z => a1 z.2.1)]
    · rw [if_pos a0, if_neg (fun z => a0 z.1)]
  · rw [if_pos (fun z => c (by have := z.2.2; omega)), if_neg (fun z => c z.2.2.2)]
theorem setM5 {s k : Nat} (hs : s < 4) (hk : k < 12) (h13 : 3 * k + 3 ≤ 40) {u : zM} {t num : Nat → Int32} (ht : tIs u 1 t) (hnum : ∀ j, j < 40 → u (31 + 2 * s + 1) j = num j) : ∃ v, zit zF (fun x : Int32 × zM => m_X5_load_b1 (nI s) (nI k) x.1 x.2) (0, u) = some v ∧ (∀ q, q ≠ 3 → v q = u q) ∧ tIs v 1 (ld1 num k t 3) := by
  obtain ⟨v, e, h1, h2⟩ := zit_inv (body := fun x : Int32 × zM => m_X5_load_b1 (nI s) (nI k) x.1 x.2) (fun m x => x.1 = nI m ∧ (∀ q, q ≠ 3 → x.2 q = u q) ∧ tIs x.2 1 (ld1 num k t m)) 3 (fun r => (∀ q, q ≠ 3 → r q = u q) ∧ tIs r 1 (ld1 num k t 3)) (0, u) (by omega) ⟨rfl, fun _ _ => rfl, ht⟩ (by
    rintro m ⟨i, v⟩ hm ⟨rfl, h1, h2⟩
    simp only at h1 h2 ⊢
    unfold m_X5_load_b1 m_X4_setInches
    rw [if_neg (show ¬ 3 ≤ nI m from fun z => by have := (q_le (a := 3) (by omega) (by omega)).mp z; omega), zsheet_n hs, zbind_s, idx3, zld_n (by omega) (by decide), zbind_s, zsv_n (by omega) (by decide), zbind_s, zbind_s, show nI m + 1 = nI (m + 1) from q_add m 1]
    refine ⟨_, rfl, rfl, fun q hq => (zst_o _ hq).trans (h1 q hq), ?_⟩
    show tIs (zst v 3 (3 * k + m) (v (31 + 2 * s + 1) (3 * k + m))) 1 _
    rw [h1 _ (by omega), hnum _ (by omega), ld1]
    have := h2.bd (a := num (3 * k + m)) (b := k) (f := 1 + m) (by omega) (by omega)
    have ef : fc (1 + m) = 3 := by unfold fc; rw [if_neg (by omega), if_pos (by omega)]
    have ei : fi (1 + m) k = 3 * k + m := by unfold fi; rw [if_neg (by omega), if_pos (by omega)]; omega
    rw [ef, ei] at this
    exact this) (by
    rintro ⟨i, v⟩ ⟨rfl, h1, h2⟩
    simp only at h1 h2 ⊢
    unfold m_X5_load_b1
    rw [if_pos (show (3 : Int32) ≤ nI 3 by decide)]
    exact ⟨_, rfl, h1, h2⟩)
  exact ⟨v, e, h1, h2⟩
theorem setM6 {s k : Nat} (hs : s < 4) (hk : k < 12) (h13 : 3 * k + 3 ≤ 40) {u : zM} {num : Nat → Int32} (hnum : ∀ j, j < 40 → u 53 (40 * s + j) = num j) : ∃ v, zit zF (fun x : Int32 × zM => m_X6_load_b2 1 (nI s) (nI k) x.1 x.2) (0, u) = some v ∧ (∀ q, q ≠ 40 → v q = u q) ∧ v 40 = ld1 num k (u 40) 3 := by
  obtain ⟨v, e, h1, h2⟩ := zit_inv (body := fun x : Int32 × zM => m_X6_load_b2 1 (nI s) (nI k) x.1 x.2) (fun m x => x.1 = nI m ∧ (∀ q, q ≠ 40 → x.2 q = u q) ∧ x.2 40 = ld1 num k (u 40) m) 3 (fun r => (∀ q, q ≠ 40 → r q = u q) ∧ r 40 = ld1 num k (u 40) 3) (0, u) (by omega) ⟨rfl, fun _ _ => rfl, rfl⟩ (by
    rintro m ⟨i, v⟩ hm ⟨rfl, h1, h2⟩
    simp only at h1 h2 ⊢
    unfold m_X6_load_b2
    have e1 : (40 : Int32) * nI s + 3 * nI k + nI m = nI (40 * s + 3 * k + m) := by rw [show (40 : Int32) = nI 40 from rfl, show (3 : Int32) = nI 3 from rfl, q_mul, q_mul, q_add, q_add]
    have e2 : (6 : Int32) + 7 * nI k + 1 + nI m = nI (6 + 7 * k + 1 + m) := by rw [show (6 : Int32) + 7 * nI k + 1 = nI (6 + 7 * k + 1) from idx7 k 1, q_add]
    rw [if_neg (show ¬ 3 ≤ nI m from fun z => by have := (q_le (a := 3) (by omega) (by omega)).mp z; omega), if_neg (by decide), e1, e2, zld_n (by omega) (by decide), zbind_s, zsv_n (by omega) (by decide), zbind_s, show nI m + 1 = nI (m + 1) from q_add m 1]
    refine ⟨_, rfl, rfl, fun q hq => (zst_o _ hq).trans (h1 q hq), ?_⟩
    show zst v 40 (6 + 7 * k + 1 + m) (v 53 (40 * s + 3 * k + m)) 40 = _
    rw [row_st, h2, h1 53 (by decide), show 40 * s + 3 * k + m = 40 * s + (3 * k + m) by omega, hnum _ (by omega), ld1, show 6 + 7 * k + (1 + m) = 6 + 7 * k + 1 + m by omega]) (by
    rintro ⟨i, v⟩ ⟨rfl, h1, h2⟩
    simp only at h1 h2 ⊢
    unfold m_X6_load_b2
    rw [if_pos (show (3 : Int32) ≤ nI 3 by decide)]
    exact ⟨_, rfl, h1, h2⟩)
  exact ⟨v, e, h1, h2⟩
theorem noM6 (s k : Nat) (u : zM) : zit zF (fun x : Int32 × zM => m_X6_load_b2 0 (nI s) (nI k) x.1 x.2) (0, u) = some u := by
  refine zit_fn (fun _ => ((0 : Int32), u)) 0 u (by decide) (fun k hk => absurd hk (by omega)) ?_
  show m_X6_load_b2 0 (nI s) (nI k) 0 u = _
  unfold m_X6_load_b2
  rw [if_neg (by decide), if_pos rfl]
theorem flag6 {s k : Nat} (hs : s < 4) (hk : 3 * k + 3 ≤ 40) {u : zM} {num : Nat → Int32} (hnum : ∀ j, j < 40 → u 53 (40 * s + j) = num j) (p : Prop) [Decidable p] (hp : p ↔ okI (num (3 * k)) ∧ okI (num (3 * k + 1)) ∧ okI (num (3 * k + 2))) : zit zF (fun x : Int32 × Int32 => m_X6_load_b1 u (nI s) (nI k) x.1 x.2) (1, 0) = some (if p then 1 else 0) := by
  obtain ⟨r, e, h1⟩ := zit_inv (body := fun x : Int32 × Int32 => m_X6_load_b1 u (nI s) (nI k) x.1 x.2) (fun m x => x.2 = nI m ∧ ((x.1 = 1 ∧ ∀ i, i < m → okI (num (3 * k + i))) ∨ (x.1 = 0 ∧ ¬ ∀ i, i < m → okI (num (3 * k + i))))) 3 (fun r => (r = 1 ∧ ∀ i, i < 3 → okI (num (3 * k + i))) ∨ (r = 0 ∧ ¬ ∀ i, i < 3 → okI (num (3 * k + i)))) (1, 0) (by omega) ⟨rfl, Or.inl ⟨rfl, fun i hi => absurd hi (by omega)⟩⟩ (by
    rintro m ⟨g, i⟩ hm ⟨rfl, h⟩
    simp only at h ⊢
    unfold m_X6_load_b1
    rw [if_neg (show ¬ 3 ≤ nI m from fun z => by have := (q_le (a := 3) (by omega) (by omega)).mp z; omega), show nI m + 1 = nI (m + 1) from q_add m 1]
    rcases h with ⟨rfl, h⟩ | ⟨rfl, h⟩
    · have e1 : (40 : Int32) * nI s + 3 * nI k + nI m = nI (40 * s + (3 * k + m)) := by rw [show (40 : Int32) = nI 40 from rfl, show (3 : Int32) = nI 3 from rfl, q_mul, q_mul, q_add, q_add, Nat.add_assoc]
      rw [if_neg (by decide), e1, zld_n (by omega) (by decide), zbind_s, hnum _ (by omega), w6_eq]
      simp only [if_0]
      by_cases c : 50 ≤ num (3 * k + m) ∧ num (3 * k + m) ≤ 250
      · rw [if_neg (fun z => z c)]
        refine ⟨_, rfl, rfl, Or.inl ⟨rfl, fun i hi => ?_⟩⟩
        by_cases ci : i = m
        · subst ci; exact c
        · exact h i (by omega)
      · rw [if_pos c]
        exact ⟨_, rfl, rfl, Or.inr ⟨rfl, fun z => c (z m (by omega))⟩⟩
    · rw [if_pos rfl]
      exact ⟨_, rfl, rfl, Or.inr ⟨rfl, fun z => h (fun i hi => z i (by omega))⟩⟩) (by
    rintro ⟨g, i⟩ ⟨rfl, h⟩
    simp only at h ⊢
    unfold m_X6_load_b1
    rw [if_pos (show (3 : Int32) ≤ nI 3 by decide)]
    exact ⟨_, rfl, h⟩)
  rw [e]
  have e3 : (∀ i, i < 3 → okI (num (3 * k + i))) ↔ okI (num (3 * k)) ∧ okI (num (3 * k + 1)) ∧ okI (num (3 * k + 2)) := ⟨fun h => ⟨h 0 (by decide), h 1 (by decide), h 2 (by decide)⟩, fun h i hi => by
    have : i = 0 ∨ i = 1 ∨ i = 2 := by omega
    rcases this with rfl | rfl | rfl
    · exact h.1
    · exact h.2.1
    · exact h.2.2⟩
  rcases h1 with ⟨rfl, h⟩ | ⟨rfl, h⟩
  · rw [if_pos (hp.mpr (e3.mp h))]
  · rw [if_neg (fun z => h (e3.mpr (hp.mp z)))]
theorem p_load : B_load Inv := by
  intro a u hu
  obtain ⟨⟨n, ho⟩, ht⟩ := id hu.1
  have hn : n ≤ 12 := ho.1
  unfold m_X5_load m_X6_load m_X5_isSheet m_X6_isSheet m_X1_isMissing
  simp only [w5_eq, w6_eq, zb_if, if_0]
  by_cases c : (0 : Int32) ≤ a ∧ a ≤ 3
  · rw [if_neg (fun z => z c)]
    simp only [if_neg (fun z : ¬ (0 ≤ a ∧ a ≤ 3) => z c)]
    obtain ⟨s, -, hs3, rfl⟩ := (btw a 0 3 (by decide) (by decide)).mp c
    have hs : s < 4 := by omega
    obtain ⟨p1, p2, ⟨l, hl, p3, p3'⟩, p4⟩ := hu.2.2.2.2.1 s hs
    simp only [zsheet_n hs, zbind_s, p1]
    by_cases d1 : u 51 s = 0
    · rw [if_neg (fun z => z d1)]
      refine fin (j := 5) (by decide) hu (g := fun u1 => _) rfl ?_
      rw [zld_n hs (by decide), zbind_s, fnd5_c 5 u (by decide), if_pos d1]
      rfl
    · rw [if_pos d1]
      generalize hnum : u (31 + 2 * s + 1) = num at p4
      obtain ⟨⟨r5, u5⟩, e5, k, hk, rk, gk, sk, tk, Tk, rowk⟩ := zit_inv2 (body := fun x : Int32 × zM => m_X5_load_b0 (nI s) x.1 x.2) (fun k x => x.1 = nI k ∧ (∀ i, i < k → good num l i) ∧ tIs x.2 1 (ldR num (u 40) k) ∧ sameT u x.2 ∧ x.2 40 = u 40) n (fun r => ∃ k : Nat, k ≤ n ∧ r.1 = nI k ∧ (∀ i, i < k → good num l i) ∧ (k = n ∨ ¬ good num l k) ∧ tIs r.2 1 (ldR num (u 40) k) ∧ sameT u r.2 ∧ r.2 40 = u 40) (0, u) (by omega) ⟨rfl, fun i hi => absurd hi (by omega), ht, (sameP.rfl' u).T, rfl⟩ (by
        rintro k ⟨i, v⟩ hk ⟨rfl, h1, h2, h3, h4⟩
        simp only at h1 h2 h3 h4 ⊢
        unfold m_X5_load_b0
        have ev : v (31 + 2 * s) = u (31 + 2 * s) := h3.1 _ (scrS s hs).1 (by omega) (by omega) (by omega) (by omega)
        have ev1 : v (31 + 2 * s + 1) = num := by rw [h3.1 _ (scrS s hs).2 (by omega) (by omega) (by omega) (by omega), hnum]
        rw [h2.1, ldR_0, ho.2.1, if_neg (fun z => by have := (q_le (by omega) (by omega)).mp z; omega), zsheet_n hs, zbind_s, hasM5 (l := l) (by rw [ev]; exact p3) hl (by omega), zbind_s, ev1]
        simp only [if_0]
        by_cases cg : okI (num (3 * k)) ∧ okI (num (3 * k + 1)) ∧ okI (num (3 * k + 2)) ∧ 3 * k + 3 ≤ l
        · rw [if_neg (fun z => z cg)]
          obtain ⟨w, ew, ow, tw⟩ := setM5 hs (k := k) (by omega) (by omega) h2 (num := num) (fun j _ => by rw [ev1])
          rw [ew, zbind_s, show nI k + 1 = nI (k + 1) from q_add k 1]
          refine Or.inl ⟨_, rfl, rfl, fun i hi => ?_, tw, h3.tr ⟨fun q _ _ _ hq _ => ow q (by omega), congrFun (ow 20 (by decide)) 4, congrFun (ow 39 (by decide)) 2, congrFun (ow 39 (by decide)) 12⟩, (ow 40 (by decide)).trans h4⟩
          by_cases ci : i = k
          · subst ci; exact ⟨cg.2.2.2, cg.1, cg.2.1, cg.2.2.1⟩
          · exact h1 i (by omega)
        · rw [if_pos cg]
          exact Or.inr ⟨_, rfl, k, by omega, rfl, h1, Or.inr (fun z => cg ⟨z.2.1, z.2.2.1, z.2.2.2, z.1⟩), h2, h3, h4⟩) (by
        rintro ⟨i, v⟩ ⟨rfl, h1, h2, h3, h4⟩
        simp only at h1 h2 h3 h4 ⊢
        unfold m_X5_load_b0
        rw [h2.1, ldR_0, ho.2.1, if_pos (i_le_refl _)]
        exact ⟨_, rfl, n, Nat.le_refl _, rfl, h1, Or.inl rfl, h2, h3, h4⟩)
      simp only at rk tk Tk rowk
      have u53 : u5 53 = u 53 := Tk.1 53 (by decide) (by decide) (by decide) (by decide) (by decide)
      have u52 : u5 52 = u 52 := Tk.1 52 (by decide) (by decide) (by decide) (by decide) (by decide)
      have u51 : u5 51 = u 51 := Tk.1 51 (by decide) (by decide) (by decide) (by decide) (by decide)
      obtain ⟨⟨r6, u6⟩, e6, k', hk', rk', gk', sk', row', of6⟩ := zit_inv2 (body := fun x : Int32 × Int32 × zM => m_X6_load_b0 (nI s) x.1 x.2.1 x.2.2) (fun j x => (∀ q, q ≠ 40 → x.2.2 q = u5 q) ∧ ((x.2.1 = 1 ∧ x.1 = nI j ∧ j ≤ n ∧ (∀ i, i < j → good num l i) ∧ x.2.2 40 = ldR num (u 40) j) ∨ (x.2.1 = 0 ∧ ∃ k : Nat, k ≤ n ∧ x.1 = nI k ∧ (∀ i, i < k → good num l i) ∧ ¬ good num l k ∧ x.2.2 40 = ldR num (u 40) k))) 13 (fun r => ∃ k : Nat, k ≤ n ∧ r.1 = nI k ∧ (∀ i, i < k → good num l i) ∧ (k = n ∨ ¬ good num l k) ∧ r.2 40 = ldR num (u 40) k ∧ ∀ q, q ≠ 40 → r.2 q = u5 q) (0, 1, u5) (by omega) ⟨fun _ _ => rfl, Or.inl ⟨rfl, rfl, by omega, fun i hi => absurd hi (by omega), rowk⟩⟩ (by
        rintro j ⟨x, g, v⟩ hj ⟨hv, h⟩
        simp only at hv h ⊢
        unfold m_X6_load_b0
        rcases h with ⟨rfl, rfl, hjn, hg, hrow⟩ | ⟨rfl, k, hkn, rfl, hg, hb, hrow⟩
        · have e33 : (3 : Int32) * nI j + 3 = nI (3 * j + 3) := by rw [show (3 : Int32) = nI 3 from rfl, q_mul, q_add]
          rw [if_neg (by decide), zld_n hs (by decide), zbind_s, hv 52 (by decide), u52, p3', e33]
          by_cases cl : 3 * j + 3 ≤ l
          · rw [if_neg (fun z => by have := (q_lt (by omega) (by omega)).mp z; omega), hrow, ldR_0, ho.2.1]
            by_cases cn : n ≤ j
            · rw [if_pos ((q_le (by omega) (by omega)).mpr cn)]
              exact Or.inr ⟨_, rfl, j, hjn, rfl, hg, Or.inl (by omega), hrow, hv⟩
            · rw [if_neg (fun z => cn ((q_le (by omega) (by omega)).mp z))]
              have hN : ∀ i, i < 40 → v 53 (40 * s + i) = num i := fun i hi => by rw [hv 53 (by decide), u53]; exact (p4 i hi).symm
              rw [flag6 hs (by omega) hN (good num l j) ⟨fun z => z.2, fun z => ⟨cl, z⟩⟩, zbind_s]
              by_cases cg : good num l j
              · rw [if_pos cg]
                obtain ⟨w, ew, ow, tw⟩ := setM6 hs (k := j) (by omega) (by omega) hN
                rw [ew, zbind_s, if_neg (by decide), show nI j + 1 = nI (j + 1) from q_add j 1]
                refine Or.inl ⟨_, rfl, fun q hq => (ow q hq).trans (hv q hq), Or.inl ⟨rfl, rfl, by omega, fun i hi => ?_, ?_⟩⟩
                · by_cases ci : i = j
                  · subst ci; exact cg
                  · exact hg i (by omega)
                · show w 40 = _
                  rw [tw, hrow]
                  rfl
              · rw [if_neg cg, noM6, zbind_s, if_pos rfl, Int32.add_zero]
                exact Or.inl ⟨_, rfl, hv, Or.inr ⟨rfl, j, hjn, rfl, hg, cg, hrow⟩⟩
          · rw [if_pos ((q_lt (by omega) (by omega)).mpr (by omega))]
            exact Or.inr ⟨_, rfl, j, hjn, rfl, hg, Or.inr (fun z => cl z.1), hrow, hv⟩
        · rw [if_pos rfl]
          exact Or.inr ⟨_, rfl, k, hkn, rfl, hg, Or.inr hb, hrow, hv⟩) (by
        rintro ⟨x, g, v⟩ ⟨hv, h⟩
        simp only at hv h ⊢
        unfold m_X6_load_b0
        rcases h with ⟨rfl, rfl, hjn, hg, hrow⟩ | ⟨rfl, k, hkn, rfl, hg, hb, hrow⟩
        · omega
        · rw [if_pos rfl]
          exact ⟨_, rfl, k, hkn, rfl, hg, Or.inr hb, hrow, hv⟩)
      simp only at rk' row' of6
      have ek : k' = k := by
        rcases Nat.lt_trichotomy k' k with q | q | q
        · rcases sk' with z | z
          · omega
          · exact absurd (gk k' q) z
        · exact q
        · rcases sk with z | z
          · omega
          · exact absurd (gk' k q) z
      subst ek
      refine ⟨_, _, _, by rw [e5, zbind2_s], ?_, hu.town (Tk.tr ⟨fun q _ _ _ _ h => of6 q h, by rw [of6 20 (by decide)], by rw [of6 39 (by decide)], by rw [of6 39 (by decide)]⟩) ?_⟩
      · rw [zld_n hs (by decide), zbind_s, u51, if_neg d1, e6, zbind2_s, rk', rk]
      · unfold vTown
        rw [row']
        exact ⟨⟨n, ldR_ok ho k' hk gk⟩, tIs_congr (fun q hq => of6 _ (by omega)) tk⟩
  · rw [if_pos c]
    simp only [if_pos c]
    exact fin0 hu (g := fun u1 => _) rfl rfl
