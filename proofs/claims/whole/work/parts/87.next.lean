/-! TEXT: the reference's next token -/
def rs (s : Nat) : Nat := if s = 5 then 3 else s
/-- what the first k digits from b tell -/
def dgt (y : Nat → Nat) (b : Nat) : Nat → Nat
  | 0 => 0
  | k + 1 => min 1000 (10 * dgt y b k + (y (b + k) - 48))
theorem dgt_le (y : Nat → Nat) (b k : Nat) : dgt y b k ≤ 1000 := by
  cases k with
  | zero => exact Nat.zero_le _
  | succ k => exact Nat.min_le_left _ _
/-- the value of a token -/
def tokV (y : Nat → Nat) (T : Nat × Nat × Nat) : Nat := if T.2.2 = 2 then dgt y T.1 (T.2.1 - T.1) else 0
/-- only the reader's place has changed -/
def nxP (u v : zM) : Prop := (∀ q, q ≠ 39 → v q = u q) ∧ ∀ j, j < 13 ∨ 17 < j → v 39 j = u 39 j
theorem nxP.tr {u v w : zM} (h : nxP u v) (h' : nxP v w) : nxP u w := ⟨fun q a => (h'.1 q a).trans (h.1 q a), fun j a => (h'.2 j a).trans (h.2 j a)⟩
theorem nxP.rfl' (u : zM) : nxP u u := ⟨fun _ _ => rfl, fun _ _ => rfl⟩
theorem nxP.st {u : zM} {j : Nat} {x : Int32} (h : 13 ≤ j ∧ j ≤ 17) : nxP u (zst u 39 j x) := ⟨fun q a => zst_o _ a, fun i a => zst_j _ (by omega)⟩
/-- the text in the reference -/
def txt6 (u : zM) (y : Nat → Nat) (L : Nat) : Prop := L ≤ 120 ∧ u 39 12 = nI L ∧ ∀ j, j < L → u 47 j = nI (y j) ∧ y j < 256
theorem txt6.cg {u v : zM} {y : Nat → Nat} {L : Nat} (h : txt6 u y L) (e : v 39 12 = u 39 12) (e2 : v 47 = u 47) : txt6 v y L := by
  unfold txt6
  rw [e, e2]; exact h
theorem nxP.txt {u v : zM} {y : Nat → Nat} {L : Nat} (h : nxP u v) (ht : txt6 u y L) : txt6 v y L := ht.cg (h.2 12 (by omega)) (h.1 47 (by decide))
theorem byte6 {u : zM} {y : Nat → Nat} {L k : Nat} (h : txt6 u y L) (hk : k ≤ 1000) : m_X6_byteAt (nI k) u = some (if k < L then nI (y k) else -1) := by
  obtain ⟨h1, h2, h3⟩ := h
  unfold m_X6_byteAt
  rw [h2]
  by_cases c : k < L
  · rw [if_neg (fun z => by have := (q_le (by omega) (by omega)).mp z; omega), zld_n (by omega) (by decide), zbind_s, if_pos c, (h3 k c).1]
  · rw [if_pos ((q_le (by omega) (by omega)).mpr (by omega)), if_neg c]
theorem skip6 {u : zM} {y : Nat → Nat} {L p b : Nat} (h : txt6 u y L) (hp : u 39 13 = nI p) (hpb : p ≤ b) (hb : b ≤ L) (h1 : ∀ k, p ≤ k → k < b → sof (y k) = 4) (h2 : b < L → sof (y b) ≠ 4) : ∃ v, zit zF (fun s : zM => m_X6_next_b0 s) u = some v ∧ nxP u v ∧ v 39 13 = nI b ∧ ∀ j, j ≠ 13 → v 39 j = u 39 j := by
  have hL := h.1
  refine zit_inv (fun k s => nxP u s ∧ s 39 13 = nI (p + k) ∧ ∀ j, j ≠ 13 → s 39 j = u 39 j) (b - p) _ _ (by omega) ⟨nxP.rfl' u, hp, fun _ _ => rfl⟩ ?_ ?_
  · rintro k s hk ⟨s1, s2, s3⟩
    unfold m_X6_next_b0
    have hy := (h.2.2 (p + k) (by omega)).2
    rw [s2, byte6 (s1.txt h) (by omega), if_pos (show p + k < L by omega), zbind_s, (sof_4 _ hy).mp (h1 (p + k) (by omega) (by omega)), if_pos (show nI 32 = 32 from rfl), zlet_s]
    refine ⟨_, rfl, s1.tr (nxP.st (by omega)), ?_, fun j hj => (zst_j _ hj).trans (s3 j hj)⟩
    rw [zst_s]; exact q_add (p + k) 1
  · rintro s ⟨s1, s2, s3⟩
    unfold m_X6_next_b0
    rw [show p + (b - p) = b by omega] at s2
    rw [s2, byte6 (s1.txt h) (by omega), zbind_s]
    have hne : ¬ (if b < L then nI (y b) else -1) = (32 : Int32) := by
      by_cases c : b < L
      · rw [if_pos c]
        have hy := (h.2.2 b c).2
        exact fun z => h2 c ((sof_4 _ hy).mpr (q_inj (b := 32) (by omega) (by decide) z))
      · rw [if_neg c]; decide
    rw [if_neg hne]
    exact ⟨_, rfl, s1, s2, s3⟩
theorem w6_n {x a b : Nat} (hx : x < 1000) (ha : a < 1000) (hb : b < 1000) : m_X6_within (nI x) (nI a) (nI b) = if a ≤ x ∧ x ≤ b then 1 else 0 := by
  rw [w6_eq]
  by_cases c : a ≤ x ∧ x ≤ b
  · rw [if_pos c, if_pos ⟨(q_le (by omega) (by omega)).mpr c.1, (q_le (by omega) (by omega)).mpr c.2⟩]
  · rw [if_neg c, if_neg (fun z => c ⟨(q_le (by omega) (by omega)).mp z.1, (q_le (by omega) (by omega)).mp z.2⟩)]
theorem sof_w : ∀ x : Nat, x < 256 → ((97 ≤ x ∧ x ≤ 122 ↔ sof x = 1) ∧ (48 ≤ x ∧ x ≤ 57 ↔ sof x = 2)) := by decide +kernel
theorem word6 {u : zM} {y : Nat → Nat} {L b e : Nat} (h : txt6 u y L) (hp : u 39 14 = nI b) (hbe : b ≤ e) (he : e ≤ L) (h1 : ∀ k, b ≤ k → k < e → sof (y k) = 1) (h2 : e = L ∨ sof (y e) ≠ 1) : ∃ v, zit zF (fun s : zM => m_X6_next_b2 s) u = some v ∧ nxP u v ∧ v 39 14 = nI e ∧ ∀ j, j ≠ 14 → v 39 j = u 39 j := by
  have hL := h.1
  refine zit_inv (fun k s => nxP u s ∧ s 39 14 = nI (b + k) ∧ ∀ j, j ≠ 14 → s 39 j = u 39 j) (e - b) _ _ (by omega) ⟨nxP.rfl' u, hp, fun _ _ => rfl⟩ ?_ ?_
  · rintro k s hk ⟨s1, s2, s3⟩
    unfold m_X6_next_b2
    have hy := (h.2.2 (b + k) (by omega)).2
    have hw : m_X6_within (nI (y (b + k))) 97 122 = 1 := (w6_n (a := 97) (b := 122) (by omega) (by decide) (by decide)).trans (if_pos ((sof_w _ hy).1.mpr (h1 (b + k) (by omega) (by omega))))
    rw [s2, byte6 (s1.txt h) (by omega), if_pos (show b + k < L by omega), zbind_s, hw, if_neg (show ¬ (1 : Int32) = 0 by decide), zlet_s]
    refine ⟨_, rfl, s1.tr (nxP.st (by omega)), ?_, fun j hj => (zst_j _ hj).trans (s3 j hj)⟩
    rw [zst_s]; exact q_add (b + k) 1
  · rintro s ⟨s1, s2, s3⟩
    unfold m_X6_next_b2
    rw [show b + (e - b) = e by omega] at s2
    rw [s2, byte6 (s1.txt h) (by omega), zbind_s]
    have hne : m_X6_within (if e < L then nI (y e) else -1) 97 122 = 0 := by
      by_cases c : e < L
      · rw [if_pos c]
        have hy := (h.2.2 e c).2
        refine (w6_n (a := 97) (b := 122) (by omega) (by decide) (by decide)).trans (if_neg (fun z => ?_))
        rcases h2 with q | q
        · omega
        · exact q ((sof_w _ hy).1.mp z)
      · rw [if_neg c]; decide
    rw [hne, if_pos rfl]
    exact ⟨_, rfl, s1, s2, s3⟩
theorem dig_n {v x : Nat} (hv : v ≤ 1000) (h1 : 48 ≤ x) (h2 : x ≤ 57) : zmin 1000 (10 * nI v + nI x - 48) = nI (min 1000 (10 * v + (x - 48))) := by
  have a1 : (10 : Int32) * nI v = nI (10 * v) := q_mul 10 v
  have a2 : nI (10 * v + x) - 48 = nI (10 * v + x - 48) := q_sub (b := 48) (by omega)
  rw [a1, q_add, a2]
  unfold zmin
  by_cases c : 10 * v + x - 48 < 1000
  · rw [if_pos (show nI (10 * v + x - 48) < 1000 from (q_lt (b := 1000) (by omega) (by decide)).mpr c)]
    congr 1; omega
  · rw [if_neg (show ¬ nI (10 * v + x - 48) < 1000 from fun z => c ((q_lt (b := 1000) (by omega) (by decide)).mp z))]
    rw [show min 1000 (10 * v + (x - 48)) = 1000 by omega]; rfl
theorem num6 {u : zM} {y : Nat → Nat} {L b e : Nat} (h : txt6 u y L) (hp : u 39 14 = nI b) (hv : u 39 16 = 0) (hbe : b ≤ e) (he : e ≤ L) (h1 : ∀ k, b ≤ k → k < e → sof (y k) = 2) (h2 : e = L ∨ sof (y e) ≠ 2) : ∃ v, zit zF (fun s : zM => m_X6_next_b1 s) u = some v ∧ nxP u v ∧ v 39 14 = nI e ∧ v 39 16 = nI (dgt y b (e - b)) ∧ ∀ j, j ≠ 14 → j ≠ 16 → v 39 j = u 39 j := by
  have hL := h.1
  refine zit_inv (fun k s => nxP u s ∧ s 39 14 = nI (b + k) ∧ s 39 16 = nI (dgt y b k) ∧ ∀ j, j ≠ 14 → j ≠ 16 → s 39 j = u 39 j) (e - b) _ _ (by omega) ⟨nxP.rfl' u, hp, hv, fun _ _ _ => rfl⟩ ?_ ?_
  · rintro k s hk ⟨s1, s2, s4, s3⟩
    unfold m_X6_next_b1
    have hy := (h.2.2 (b + k) (by omega)).2
    have hd := (sof_w _ hy).2.mpr (h1 (b + k) (by omega) (by omega))
    have hw : m_X6_within (nI (y (b + k))) 48 57 = 1 := (w6_n (a := 48) (b := 57) (by omega) (by decide) (by decide)).trans (if_pos hd)
    rw [s2, byte6 (s1.txt h) (by omega), if_pos (show b + k < L by omega), zbind_s, hw, if_neg (show ¬ (1 : Int32) = 0 by decide), zbind_s, s4, dig_n (dgt_le y b k) hd.1 hd.2, zlet_s, zlet_s]
    refine ⟨_, rfl, s1.tr ((nxP.st (by omega)).tr (nxP.st (by omega))), ?_, ?_, fun j hj hj2 => (zst_j _ hj).trans ((zst_j _ hj2).trans (s3 j hj hj2))⟩
    · rw [zst_s, zst_j _ (by decide), s2]; exact q_add (b + k) 1
    · rw [zst_j _ (by decide), zst_s]; rfl
  · rintro s ⟨s1, s2, s4, s3⟩
    unfold m_X6_next_b1
    rw [show b + (e - b) = e by omega] at s2
    rw [s2, byte6 (s1.txt h) (by omega), zbind_s]
    have hne : m_X6_within (if e < L then nI (y e) else -1) 48 57 = 0 := by
      by_cases c : e < L
      · rw [if_pos c]
        have hy := (h.2.2 e c).2
        refine (w6_n (a := 48) (b := 57) (by omega) (by decide) (by decide)).trans (if_neg (fun z => ?_))
        rcases h2 with q | q
        · omega
        · exact q ((sof_w _ hy).2.mp z)
      · rw [if_neg c]; decide
    rw [hne, if_pos rfl]
    exact ⟨_, rfl, s1, s2, s4, s3⟩
/-- the reference stands at the token T -/
def at6 (u : zM) (y : Nat → Nat) (T : Nat × Nat × Nat) : Prop := u 39 13 = nI T.1 ∧ u 39 14 = nI T.2.1 ∧ u 39 15 = nI (rs T.2.2) ∧ u 39 16 = nI (tokV y T)
theorem next6 {u : zM} {y : Nat → Nat} {L p : Nat} {T : Nat × Nat × Nat} (h : txt6 u y L) (hp : u 39 14 = nI p) (hT : Tok y L p T.1 T.2.1 T.2.2 ∨ (T = (L, L, 0) ∧ p ≤ L ∧ ∀ k, p ≤ k → k < L → sof (y k) = 4)) : ∃ v, m_X6_next u = some v ∧ nxP u v ∧ v 39 17 = u 39 17 ∧ at6 v y T := by
  have hL := h.1
  unfold m_X6_next
  have hpb : p ≤ T.1 ∧ T.1 ≤ L ∧ (∀ k, p ≤ k → k < T.1 → sof (y k) = 4) ∧ (T.1 < L → sof (y T.1) ≠ 4) := by
    rcases hT with q | ⟨rfl, q2, q3⟩
    · obtain ⟨a1, a2, a3, a4, a5, a6, -⟩ := q
      exact ⟨a1, by omega, a4, fun _ => by rw [a5 _ (Nat.le_refl _) a2]; exact a6⟩
    · exact ⟨q2, Nat.le_refl _, q3, fun z => absurd z (Nat.lt_irrefl _)⟩
  obtain ⟨b1, b2, b3, b4⟩ := hpb
  have h0 : nxP u (zst u 39 13 (u 39 14)) := nxP.st (by omega)
  obtain ⟨v, e1, v1, v2, v3⟩ := skip6 (u := zst u 39 13 (u 39 14)) (h0.txt h) (by rw [zst_s]; exact hp) b1 b2 b3 b4
  have hv := h0.tr v1
  have v17 : v 39 17 = u 39 17 := (v3 17 (by decide)).trans (zst_j u (by decide))
  rw [zlet_s, e1, zbind_s, v2, byte6 (hv.txt h) (by omega), zbind_s, zlet_s, zlet_s]
  let w := zst (zst v 39 14 (nI T.1)) 39 16 0
  have hw : nxP u w := hv.tr ((nxP.st (by omega)).tr (nxP.st (by omega)))
  have w13 : w 39 13 = nI T.1 := (zst_j _ (by decide)).trans ((zst_j _ (by decide)).trans v2)
  have w14 : w 39 14 = nI T.1 := (zst_j _ (by decide)).trans (zst_s _ _ _ _)
  have w16 : w 39 16 = 0 := zst_s _ _ _ _
  have w17 : w 39 17 = u 39 17 := (zst_j _ (by decide)).trans ((zst_j _ (by decide)).trans v17)
  show ∃ x, (if 0 ≤ (if T.1 < L then nI (y T.1) else -1) then (if (m_X6_within (if T.1 < L then nI (y T.1) else -1) 97 122) = 0 then (if (m_X6_within (if T.1 < L then nI (y T.1) else -1) 48 57) = 0 then zlet (zst w 39 15 3) (fun u20 => zlet (zst u20 39 14 ((u20 39 14) + 1)) (fun u22 => some u22)) else zlet (zst w 39 15 2) (fun u24 => zbind (zit zF (fun s : zM => m_X6_next_b1 s) u24) (fun u27 => some u27))) else zlet (zst w 39 15 1) (fun u38 => zbind (zit zF (fun s : zM => m_X6_next_b2 s) u38) (fun u41 => some u41))) else zlet (zst w 39 15 0) (fun u48 => some u48) : Option zM) = some x ∧ nxP u x ∧ x 39 17 = u 39 17 ∧ at6 x y T
  rcases hT with q | ⟨rfl, q2, q3⟩
  · obtain ⟨a1, a2, a3, a4, a5, a6, a7, a8⟩ := q
    have hlt : T.1 < L := by omega
    have hy := (h.2.2 T.1 hlt).2
    have hs := a5 T.1 (Nat.le_refl _) a2
    have ew : m_X6_within (nI (y T.1)) 97 122 = if 97 ≤ y T.1 ∧ y T.1 ≤ 122 then 1 else 0 := w6_n (a := 97) (b := 122) (by omega) (by decide) (by decide)
    have en : m_X6_within (nI (y T.1)) 48 57 = if 48 ≤ y T.1 ∧ y T.1 ≤ 57 then 1 else 0 := w6_n (a := 48) (b := 57) (by omega) (by decide) (by decide)
    obtain ⟨sw1, sw2⟩ := sof_w _ hy
    rw [hs] at sw1 sw2
    simp only [if_pos hlt]
    rw [if_pos (show (0 : Int32) ≤ nI (y T.1) from nI_pos' (by omega)), ew, en]
    by_cases c1 : T.2.2 = 1
    · rw [if_pos (sw1.mpr c1), if_neg (show ¬ (1 : Int32) = 0 by decide), zlet_s]
      have hx : nxP u (zst w 39 15 1) := hw.tr (nxP.st (by omega))
      obtain ⟨x, e2, x1, x2, x3⟩ := word6 (u := zst w 39 15 1) (b := T.1) (e := T.2.1) (hx.txt h) ((zst_j _ (by decide)).trans w14) (by omega) (by omega) (fun k k1 k2 => (a5 k k1 k2).trans c1) (by
        rcases a8 (Or.inl c1) with z | z
        · exact Or.inl z
        · rw [c1] at z; exact Or.inr z)
      refine ⟨x, by rw [e2, zbind_s], hx.tr x1, ?_, ?_, x2, ?_, ?_⟩
      · rw [x3 17 (by decide), zst_j _ (by decide)]; exact w17
      · rw [x3 13 (by decide), zst_j _ (by decide)]; exact w13
      · rw [x3 15 (by decide), zst_s, c1]; rfl
      · rw [x3 16 (by decide), zst_j _ (by decide), w16]
        unfold tokV
        rw [if_neg (by omega)]; rfl
    · rw [if_neg (fun z => c1 (sw1.mp z)), if_pos rfl]
      by_cases c2 : T.2.2 = 2
      · rw [if_pos (sw2.mpr c2), if_neg (show ¬ (1 : Int32) = 0 by decide), zlet_s]
        have hx : nxP u (zst w 39 15 2) := hw.tr (nxP.st (by omega))
        obtain ⟨x, e2, x1, x2, x4, x3⟩ := num6 (u := zst w 39 15 2) (b := T.1) (e := T.2.1) (hx.txt h) ((zst_j _ (by decide)).trans w14) ((zst_j _ (by decide)).trans w16) (by omega) (by omega) (fun k k1 k2 => (a5 k k1 k2).trans c2) (by
          rcases a8 (Or.inr c2) with z | z
          · exact Or.inl z
          · rw [c2] at z; exact Or.inr z)
        refine ⟨x, by rw [e2, zbind_s], hx.tr x1, ?_, ?_, x2, ?_, ?_⟩
        · rw [x3 17 (by decide) (by decide), zst_j _ (by decide)]; exact w17
        · rw [x3 13 (by decide) (by decide), zst_j _ (by decide)]; exact w13
        · rw [x3 15 (by decide) (by decide), zst_s, c2]; rfl
        · rw [x4]
          unfold tokV
          rw [if_pos c2]
      · rw [if_neg (fun z => c2 (sw2.mp z)), if_pos rfl, zlet_s, zlet_s]
        have ee : T.2.1 = T.1 + 1 := by
          rcases a7 with z | z | z
          · exact absurd z c1
          · exact absurd z c2
          · exact z
        refine ⟨_, rfl, hw.tr ((nxP.st (by omega)).tr (nxP.st (by omega))), ?_, ?_, ?_, ?_, ?_⟩
        · rw [zst_j _ (by decide), zst_j _ (by decide)]; exact w17
        · rw [zst_j _ (by decide), zst_j _ (by decide)]; exact w13
        · rw [zst_s, zst_j _ (by decide), w14, ee]; exact q_add T.1 1
        · rw [zst_j _ (by decide), zst_s]
          have h5 := sof_lt (y T.1)
          have h6 : sof (y T.1) ≠ 0 := by
            unfold sof; split
            · decide
            · split
              · decide
              · split
                · decide
                · split <;> decide
          unfold rs
          by_cases c5 : T.2.2 = 5
          · rw [if_pos c5]; rfl
          · rw [if_neg c5, show T.2.2 = 3 by omega]; rfl
        · rw [zst_j _ (by decide), zst_j _ (by decide), w16]
          unfold tokV
          rw [if_neg c2]; rfl
  · simp only [if_neg (Nat.lt_irrefl L)]
    rw [if_neg (show ¬ (0 : Int32) ≤ -1 by decide), zlet_s]
    refine ⟨_, rfl, hw.tr (nxP.st (by omega)), ?_, ?_, ?_, ?_, ?_⟩
    · rw [zst_j _ (by decide)]; exact w17
    · rw [zst_j _ (by decide)]; exact w13
    · rw [zst_j _ (by decide)]; exact w14
    · rw [zst_s]; rfl
    · rw [zst_j _ (by decide), w16]; rfl
