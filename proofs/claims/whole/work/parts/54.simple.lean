/-! METHOD PAIRS THAT SET ONE THING OR TELL ONE -/
/-- nothing but the town (and what holds nothing) has changed -/
def sameT (u v : zM) : Prop := (∀ k, scr k = false → k ≠ 20 → k ≠ 39 → ¬ (1 ≤ k ∧ k ≤ 7) → k ≠ 40 → v k = u k) ∧ v 20 4 = u 20 4 ∧ v 39 2 = u 39 2 ∧ v 39 12 = u 39 12
theorem sameT.tr {u v w : zM} (h1 : sameT u v) (h2 : sameT v w) : sameT u w := ⟨fun k a b c d e => (h2.1 k a b c d e).trans (h1.1 k a b c d e), h2.2.1.trans h1.2.1, h2.2.2.1.trans h1.2.2.1, h2.2.2.2.trans h1.2.2.2⟩
theorem sameP.T {u v : zM} (h : sameP u v) : sameT u v := ⟨fun k a b c _ _ => h.1 k a b c, h.2⟩
theorem sameT.st {u : zM} {q j : Nat} {v : Int32} (h : (1 ≤ q ∧ q ≤ 7) ∨ q = 40) : sameT u (zst u q j v) := by
  refine ⟨fun k _ _ _ h1 h2 => zst_o u (by omega), ?_, ?_, ?_⟩
  · rw [zst_o u (by omega)]
  · rw [zst_o u (by omega)]
  · rw [zst_o u (by omega)]
theorem sameT.c {u v : zM} (h : sameT u v) (k : Nat) (hk : (!scr k && !(k == 20) && !(k == 39) && !(Nat.ble 1 k && Nat.ble k 7) && !(k == 40)) = true) : v k = u k := by
  simp only [Bool.and_eq_true, Bool.not_eq_true', Bool.and_eq_false_iff, beq_eq_false_iff_ne, ne_eq] at hk
  obtain ⟨⟨⟨⟨k1, k2⟩, k3⟩, k4⟩, k5⟩ := hk
  refine h.1 k k1 k2 k3 (fun z => ?_) k5
  rcases k4 with q | q
  · rw [Nat.ble_eq_true_of_le z.1] at q; cases q
  · rw [Nat.ble_eq_true_of_le z.2] at q; cases q
theorem Inv.town {u v : zM} (hi : Inv u) (h : sameT u v) (ht : vTown v) : Inv v := by
  obtain ⟨h1, h2, h3, h4, h5, h6⟩ := hi
  refine ⟨ht, ?_, ?_, ?_, ?_, ?_⟩
  · unfold vKept
    rw [h.c 0 (by decide), h.c 41 (by decide), h.2.2.1]
    exact ⟨h2.1, h2.2.1, fun q => ⟨(h2.2.2 q).1, tIs_congr (fun k hk => h.c (8 + k) (by revert hk; revert k; decide)) (h2.2.2 q).2⟩⟩
  · unfold vFind
    rw [h.c 42 (by decide), h.c 28 (by decide)]
    exact h3
  · unfold vTape
    rw [h.2.1, h.2.2.2, h.c 21 (by decide), h.c 47 (by decide)]
    exact h4
  · intro s hs
    have es : ∀ s, s < 4 → (!scr (31 + 2 * s) && !(31 + 2 * s == 20) && !(31 + 2 * s == 39) && !(Nat.ble 1 (31 + 2 * s) && Nat.ble (31 + 2 * s) 7) && !(31 + 2 * s == 40)) = true ∧ (!scr (31 + 2 * s + 1) && !(31 + 2 * s + 1 == 20) && !(31 + 2 * s + 1 == 39) && !(Nat.ble 1 (31 + 2 * s + 1) && Nat.ble (31 + 2 * s + 1) 7) && !(31 + 2 * s + 1 == 40)) = true := by decide
    have e1 : v (31 + 2 * s) = u (31 + 2 * s) := h.c _ (es s hs).1
    have e2 : v (31 + 2 * s + 1) = u (31 + 2 * s + 1) := h.c _ (es s hs).2
    rw [e1, e2, h.c 51 (by decide), h.c 52 (by decide), h.c 53 (by decide)]
    exact h5 s hs
  · unfold vSlip
    rw [h.c 44 (by decide)]
    exact h6
/-- a town whose bodies and spots are as they were -/
theorem tOk.lo {t t' : Nat → Int32} {n : Nat} (h : tOk t n) (e0 : t' 0 = t 0) (hb : ∀ j, 6 ≤ j → j < 90 → t' j = t j) (hs : ∀ j, 150 ≤ j → j < 160 → t' j = t j) (c1 : ∃ r : Nat, r ≤ 2 ∧ t' 1 = nI r) (c2 : ∃ e : Nat, e ≤ 999 ∧ t' 2 = nI e) (c3 : ∃ p : Nat, p ≤ 99 ∧ t' 3 = nI p) (c4 : ∃ s : Nat, s ≤ 20 ∧ t' 4 = nI s) : tOk t' n := by
  obtain ⟨h1, h2, h3, h4, h5, -, -, -, -, h10⟩ := h
  refine ⟨h1, by rw [e0, h2], fun b hb2 => ?_, fun b hb2 => ?_, fun b hn hb2 => ?_, c1, c2, c3, c4, fun i hi => ?_⟩
  · obtain ⟨k1, k2, k3, k4⟩ := h3 b hb2
    refine ⟨?_, fun m hm => ?_, ?_, ?_⟩
    · unfold tK; rw [hb _ (by omega) (by omega)]; exact k1
    · unfold tM; rw [hb _ (by omega) (by omega)]; exact k2 m hm
    · unfold tB; rw [hb _ (by omega) (by omega)]; exact k3
    · unfold tP; rw [hb _ (by omega) (by omega)]; exact k4
  · unfold tH; rw [hb _ (by omega) (by omega)]; exact h4 b hb2
  · unfold tH; rw [hb _ (by omega) (by omega)]; exact h5 b hn hb2
  · rw [hs _ (by omega) (by omega)]; exact h10 i hi
theorem tSet_congr {t t' : Nat → Int32} (h : ∀ b, b < 12 → tH t' b = tH t b) : tSet t' = tSet t := sN_congr (fun b hb => by rw [h b hb])
theorem row_st (u : zM) (q j : Nat) (v : Int32) : zst u q j v q = upd (u q) j v := by simp [zst, zup]
theorem upd_s (f : Nat → Int32) (i : Nat) (v : Int32) : upd f i v i = v := by simp [upd]
theorem upd_o (f : Nat → Int32) {i j : Nat} (v : Int32) (h : j ≠ i) : upd f i v j = f j := by simp [upd, h]
theorem vTown.sc {u : zM} {f i : Nat} {a : Int32} (h : vTown u) (hfi : (f = 8 ∧ i = 1 ∧ ∃ r : Nat, r ≤ 2 ∧ a = nI r) ∨ (f = 9 ∧ i = 2 ∧ ∃ r : Nat, r ≤ 999 ∧ a = nI r) ∨ (f = 10 ∧ i = 3 ∧ ∃ r : Nat, r ≤ 99 ∧ a = nI r) ∨ (f = 12 ∧ i = 5)) : vTown (zst (zst u 1 f a) 40 i a) := by
  obtain ⟨⟨n, hn⟩, h0, h1, h2, h3, h4, h5, h6, h7, h8, h9, h10, h11, h12⟩ := h
  have hi : 1 ≤ i ∧ i < 6 := by omega
  have e40 : zst (zst u 1 f a) 40 i a 40 = upd (u 40) i a := by rw [row_st, zst_o u (by decide)]
  have ec : ∀ c, 2 ≤ c → c < 40 → zst (zst u 1 f a) 40 i a c = u c := fun c h1 h2 => by rw [zst_o _ (by omega), zst_o _ (by omega)]
  have e1 : zst (zst u 1 f a) 40 i a 1 = upd (u 1) f a := by rw [zst_o _ (by decide), row_st]
  unfold vTown tIs
  rw [e40, e1, ec 2 (by omega) (by omega), ec 3 (by omega) (by omega), ec 4 (by omega) (by omega), ec 5 (by omega) (by omega), ec 6 (by omega) (by omega), ec 7 (by omega) (by omega)]
  have eb : ∀ j, 6 ≤ j → upd (u 40) i a j = u 40 j := fun j hj => upd_o _ _ (by omega)
  have eH : tSet (upd (u 40) i a) = tSet (u 40) := tSet_congr (fun b _ => eb _ (by omega))
  refine ⟨⟨n, hn.lo (upd_o _ _ (by omega)) (fun j h _ => eb j h) (fun j h _ => eb j (by omega)) ?_ ?_ ?_ ?_⟩, ?_, ?_, ?_, ?_, ?_, ?_, ?_, ?_, ?_, ?_, ?_, ?_, ?_⟩
  · rcases hfi with ⟨-, rfl, hr⟩ | ⟨-, rfl, -⟩ | ⟨-, rfl, -⟩ | ⟨-, rfl⟩
    · rw [upd_s]; exact hr
    all_goals rw [upd_o _ _ (by decide)]; exact hn.2.2.2.2.2.1
  · rcases hfi with ⟨-, rfl, -⟩ | ⟨-, rfl, hr⟩ | ⟨-, rfl, -⟩ | ⟨-, rfl⟩
    · rw [upd_o _ _ (by decide)]; exact hn.2.2.2.2.2.2.1
    · rw [upd_s]; exact hr
    all_goals rw [upd_o _ _ (by decide)]; exact hn.2.2.2.2.2.2.1
  · rcases hfi with ⟨-, rfl, -⟩ | ⟨-, rfl, -⟩ | ⟨-, rfl, hr⟩ | ⟨-, rfl⟩
    · rw [upd_o _ _ (by decide)]; exact hn.2.2.2.2.2.2.2.1
    · rw [upd_o _ _ (by decide)]; exact hn.2.2.2.2.2.2.2.1
    · rw [upd_s]; exact hr
    · rw [upd_o _ _ (by decide)]; exact hn.2.2.2.2.2.2.2.1
  · rcases hfi with ⟨-, rfl, -⟩ | ⟨-, rfl, -⟩ | ⟨-, rfl, -⟩ | ⟨-, rfl⟩
    all_goals rw [upd_o _ _ (by decide)]; exact hn.2.2.2.2.2.2.2.2.1
  · rw [upd_o _ _ (by omega), upd_o _ _ (by omega)]; exact h0
  · rw [upd_o _ _ (by omega), eH]; exact h1
  · rcases hfi with ⟨rfl, rfl, -⟩ | ⟨rfl, rfl, -⟩ | ⟨rfl, rfl, -⟩ | ⟨rfl, rfl⟩
    · rw [upd_s, upd_s]
    all_goals rw [upd_o _ _ (by decide), upd_o _ _ (by decide)]; exact h2
  · rcases hfi with ⟨rfl, rfl, -⟩ | ⟨rfl, rfl, -⟩ | ⟨rfl, rfl, -⟩ | ⟨rfl, rfl⟩
    · rw [upd_o _ _ (by decide), upd_o _ _ (by decide)]; exact h3
    · rw [upd_s, upd_s]
    all_goals rw [upd_o _ _ (by decide), upd_o _ _ (by decide)]; exact h3
  · rcases hfi with ⟨rfl, rfl, -⟩ | ⟨rfl, rfl, -⟩ | ⟨rfl, rfl, -⟩ | ⟨rfl, rfl⟩
    · rw [upd_o _ _ (by decide), upd_o _ _ (by decide)]; exact h4
    · rw [upd_o _ _ (by decide), upd_o _ _ (by decide)]; exact h4
    · rw [upd_s, upd_s]
    · rw [upd_o _ _ (by decide), upd_o _ _ (by decide)]; exact h4
  · rcases hfi with ⟨rfl, rfl, -⟩ | ⟨rfl, rfl, -⟩ | ⟨rfl, rfl, -⟩ | ⟨rfl, rfl⟩
    all_goals rw [upd_o _ _ (by decide), upd_o _ _ (by decide)]; exact h5
  · rcases hfi with ⟨rfl, rfl, -⟩ | ⟨rfl, rfl, -⟩ | ⟨rfl, rfl, -⟩ | ⟨rfl, rfl⟩
    · rw [upd_o _ _ (by decide), upd_o _ _ (by decide)]; exact h6
    · rw [upd_o _ _ (by decide), upd_o _ _ (by decide)]; exact h6
    · rw [upd_o _ _ (by decide), upd_o _ _ (by decide)]; exact h6
    · rw [upd_s, upd_s]
  · intro b hb; unfold tK; rw [eb _ (by omega)]; exact h7 b hb
  · intro b m hb hm; unfold tM; rw [eb _ (by omega)]; exact h8 b m hb hm
  · intro b hb; unfold tB; rw [eb _ (by omega)]; exact h9 b hb
  · intro b hb; unfold tP; rw [eb _ (by omega)]; exact h10 b hb
  · intro j hj; rw [eb _ (by omega)]; exact h11 j hj
  · intro j hj; rw [eb _ (by omega)]; exact h12 j hj
theorem zbind2_s {α0 α1 β : Type} (x : α0) (y : α1) (f : α0 → α1 → Option β) : zbind2 (some (x, y)) f = f x y := rfl
theorem zbind_s {α0 β : Type} (x : α0) (f : α0 → Option β) : zbind (some x) f = f x := rfl
theorem zlet_s {α0 β : Type} (x : α0) (f : α0 → β) : zlet x f = f x := rfl
theorem become_n {u : zM} {i : Nat} {v : Int32} (hi : i < 160) : m_X6_become (nI i) v u = some (u 40 i, zst u 40 i v) := by
  unfold m_X6_become
  rw [zld_n hi (by decide), zbind_s, zsv_n hi (by decide), zbind_s]
/-- a finding, in both: literals -/
theorem B_f0 {u : zM} (h : Inv u) : ∃ (r : Int32) (u1 u2 : zM), zbind2 (m_X5_finding 0 u) (fun x y => some (x, y)) = some (r, u1) ∧ zbind2 (m_X6_finding (-1000001) u1) (fun x y => some (x, y)) = some (r, u2) ∧ Inv u2 := by
  obtain ⟨r, u1, u2, h1, h2, h3⟩ := B_fnd (j := 0) (by decide) h
  exact ⟨r, u1, u2, by rw [show (0 : Int32) = nI 0 from rfl, h1]; rfl, by rw [show (-1000001 : Int32) = -1000001 - nI 0 from rfl, h2]; rfl, h3⟩
theorem p_rule : B_rule Inv := by
  intro a u hu
  unfold m_X5_rule m_X6_rule
  simp only [w5_eq, w6_eq, if_0]
  by_cases c : (0 : Int32) ≤ a ∧ a ≤ 2
  · rw [if_neg (fun z => z c)]
    simp only [if_neg (fun z : ¬ (0 ≤ a ∧ a ≤ 2) => z c)]
    obtain ⟨k, -, hk, rfl⟩ := (btw a 0 2 (by decide) (by decide)).mp c
    refine ⟨_, _, _, rfl, ?_, hu.town ((sameT.st (u := u) (q := 1) (j := 8) (v := nI k) (by omega)).tr (sameT.st (q := 40) (j := 1) (v := nI k) (by omega))) (hu.1.sc (Or.inl ⟨rfl, rfl, k, hk, rfl⟩))⟩
    rw [show (1 : Int32) = nI 1 from rfl, become_n (by decide), zbind2_s, zst_o u (by decide), hu.1.2.2.2.1]
  · rw [if_pos c]
    simp only [if_pos c]
    exact B_f0 hu
theorem p_ease : B_ease Inv := by
  intro a u hu
  unfold m_X5_ease m_X6_ease
  simp only [w5_eq, w6_eq, if_0]
  by_cases c : (0 : Int32) ≤ a ∧ a ≤ 999
  · rw [if_neg (fun z => z c)]
    simp only [if_neg (fun z : ¬ (0 ≤ a ∧ a ≤ 999) => z c)]
    obtain ⟨k, -, hk, rfl⟩ := (btw a 0 999 (by decide) (by decide)).mp c
    refine ⟨_, _, _, rfl, ?_, hu.town ((sameT.st (u := u) (q := 1) (j := 9) (v := nI k) (by omega)).tr (sameT.st (q := 40) (j := 2) (v := nI k) (by omega))) (hu.1.sc (Or.inr (Or.inl ⟨rfl, rfl, k, hk, rfl⟩)))⟩
    rw [show (2 : Int32) = nI 2 from rfl, become_n (by decide), zbind2_s, zst_o u (by decide), hu.1.2.2.2.2.1]
  · rw [if_pos c]
    simp only [if_pos c]
    exact B_f0 hu
theorem p_price : B_price Inv := by
  intro a u hu
  unfold m_X5_price m_X6_price
  simp only [w5_eq, w6_eq, if_0]
  by_cases c : (0 : Int32) ≤ a ∧ a ≤ 99
  · rw [if_neg (fun z => z c)]
    simp only [if_neg (fun z : ¬ (0 ≤ a ∧ a ≤ 99) => z c)]
    obtain ⟨k, -, hk, rfl⟩ := (btw a 0 99 (by decide) (by decide)).mp c
    refine ⟨_, _, _, rfl, ?_, hu.town ((sameT.st (u := u) (q := 1) (j := 10) (v := nI k) (by omega)).tr (sameT.st (q := 40) (j := 3) (v := nI k) (by omega))) (hu.1.sc (Or.inr (Or.inr (Or.inl ⟨rfl, rfl, k, hk, rfl⟩))))⟩
    rw [show (3 : Int32) = nI 3 from rfl, become_n (by decide), zbind2_s, zst_o u (by decide), hu.1.2.2.2.2.2.1]
  · rw [if_pos c]
    simp only [if_pos c]
    exact B_f0 hu
theorem p_seed : B_seed Inv := by
  intro a u hu
  unfold m_X5_seed m_X6_seed
  refine ⟨_, _, _, rfl, ?_, hu.town ((sameT.st (u := u) (q := 1) (j := 12) (v := a) (by omega)).tr (sameT.st (q := 40) (j := 5) (v := a) (by omega))) (hu.1.sc (Or.inr (Or.inr (Or.inr ⟨rfl, rfl⟩))))⟩
  rw [show (5 : Int32) = nI 5 from rfl, become_n (by decide), zbind2_s, zst_o u (by decide), hu.1.2.2.2.2.2.2.2.1]
