/-! SHEETS -/
theorem zsheet_n {s : Nat} (hs : s < 4) : zsheet (nI s) = some (31 + 2 * s) := by
  unfold zsheet
  rw [q_clamp (by omega), if_neg]
  rintro (z | z)
  · exact nI_pos (by omega) z
  · omega
/-- only sheets (and what holds nothing) have changed -/
def sameS (u v : zM) : Prop := (∀ q, scr q = false → q ≠ 20 → q ≠ 39 → ¬ (31 ≤ q ∧ q ≤ 38) → q ≠ 51 → q ≠ 52 → q ≠ 53 → v q = u q) ∧ v 20 4 = u 20 4 ∧ v 39 2 = u 39 2 ∧ v 39 12 = u 39 12
theorem sameS.tr {u v w : zM} (h1 : sameS u v) (h2 : sameS v w) : sameS u w := ⟨fun k a b c d e f g => (h2.1 k a b c d e f g).trans (h1.1 k a b c d e f g), h2.2.1.trans h1.2.1, h2.2.2.1.trans h1.2.2.1, h2.2.2.2.trans h1.2.2.2⟩
theorem sameS.of {u v : zM} (h : ∀ q, ¬ (31 ≤ q ∧ q ≤ 38) → q ≠ 51 → q ≠ 52 → q ≠ 53 → q ≠ 54 → v q = u q) : sameS u v :=
  ⟨fun q h1 _ _ h4 h5 h6 h7 => h q h4 h5 h6 h7 (fun e => by rw [e] at h1; exact absurd h1 (by decide)), by rw [h 20 (by decide) (by decide) (by decide) (by decide) (by decide)], by rw [h 39 (by decide) (by decide) (by decide) (by decide) (by decide)], by rw [h 39 (by decide) (by decide) (by decide) (by decide) (by decide)]⟩
theorem sameS.c {u v : zM} (h : sameS u v) (q : Nat) (hq : scr q = false ∧ q ≠ 20 ∧ q ≠ 39 ∧ ¬ (31 ≤ q ∧ q ≤ 38) ∧ q ≠ 51 ∧ q ≠ 52 ∧ q ≠ 53) : v q = u q := h.1 q hq.1 hq.2.1 hq.2.2.1 hq.2.2.2.1 hq.2.2.2.2.1 hq.2.2.2.2.2.1 hq.2.2.2.2.2.2
theorem Inv.sheets {u v : zM} (hu : Inv u) (h : sameS u v) (hs : vSheet v) : Inv v := by
  obtain ⟨h1, h2, h3, h4, h5, h6⟩ := hu
  refine ⟨?_, ?_, ?_, ?_, hs, ?_⟩
  · unfold vTown
    rw [h.c 40 (by decide)]
    exact ⟨h1.1, tIs_congr (fun k hk => h.c (1 + k) (by revert hk; revert k; decide)) h1.2⟩
  · unfold vKept
    rw [h.c 0 (by decide), h.c 41 (by decide), h.2.2.1]
    exact ⟨h2.1, h2.2.1, fun q => ⟨(h2.2.2 q).1, tIs_congr (fun k hk => h.c (8 + k) (by revert hk; revert k; decide)) (h2.2.2 q).2⟩⟩
  · unfold vFind
    rw [h.c 42 (by decide), h.c 28 (by decide)]
    exact h3
  · unfold vTape
    rw [h.2.1, h.2.2.2, h.c 21 (by decide), h.c 47 (by decide)]
    exact h4
  · unfold vSlip
    rw [h.c 44 (by decide)]
    exact h6
theorem lay5 {s : Nat} (hs : s < 4) (b l : Int32) (u : zM) : ∃ v, m_X1_lay (31 + 2 * s) b l u = some v ∧ (∀ q, q ≠ 31 + 2 * s → q ≠ 31 + 2 * s + 1 → v q = u q) ∧ v (31 + 2 * s) 1 = b ∧ v (31 + 2 * s) 2 = l ∧ ∀ j, j < 40 → v (31 + 2 * s + 1) j = 0 := by
  unfold m_X1_lay
  rw [zlet_s, zlet_s]
  obtain ⟨v, e, h1, h2⟩ := zit_inv (body := fun x : Int32 × zM => m_X1_lay_b0 (31 + 2 * s) x.1 x.2) (fun k x => x.1 = nI k ∧ (∀ q, q ≠ 31 + 2 * s + 1 → x.2 q = zst (zst u (31 + 2 * s) 1 b) (31 + 2 * s) 2 l q) ∧ ∀ j, j < k → x.2 (31 + 2 * s + 1) j = 0) 40 (fun r => (∀ q, q ≠ 31 + 2 * s + 1 → r q = zst (zst u (31 + 2 * s) 1 b) (31 + 2 * s) 2 l q) ∧ ∀ j, j < 40 → r (31 + 2 * s + 1) j = 0) (0, zst (zst u (31 + 2 * s) 1 b) (31 + 2 * s) 2 l) (by decide) ⟨rfl, fun _ _ => rfl, fun j hj => absurd hj (by omega)⟩ (by
    rintro k ⟨i, v⟩ hk ⟨rfl, h1, h2⟩
    simp only at h1 h2 ⊢
    unfold m_X1_lay_b0
    rw [if_neg (show ¬ 40 ≤ nI k from fun z => by have := (q_le (a := 40) (by omega) (by omega)).mp z; omega), zsv_n hk (by decide), zbind_s, show nI k + 1 = nI (k + 1) from q_add k 1]
    refine ⟨_, rfl, rfl, fun q hq => (zst_o _ hq).trans (h1 q hq), fun j hj => ?_⟩
    show zst v (31 + 2 * s + 1) k 0 (31 + 2 * s + 1) j = 0
    rw [zst_g]
    by_cases c : j = k
    · subst c; simp
    · rw [if_neg (by simp [c])]; exact h2 j (by omega)) (by
    rintro ⟨i, v⟩ ⟨rfl, h1, h2⟩
    simp only at h1 h2 ⊢
    unfold m_X1_lay_b0
    rw [if_pos (show (40 : Int32) ≤ nI 40 by decide)]
    exact ⟨_, rfl, h1, h2⟩)
  refine ⟨v, by rw [e, zbind_s], fun q hq hq2 => by rw [h1 q hq2, zst_o _ hq, zst_o _ hq], by rw [h1 _ (by omega), zst_j _ (by decide), zst_s], by rw [h1 _ (by omega), zst_s], h2⟩
theorem idx40 (s j : Nat) : (40 : Int32) * nI s + nI j = nI (40 * s + j) := by
  rw [show (40 : Int32) = nI 40 from rfl, q_mul, q_add]
theorem lay6 {s : Nat} (hs : s < 4) (u : zM) : ∃ v, zit zF (fun x : Int32 × zM => m_X6_sheet_b0 (nI s) x.1 x.2) (0, u) = some v ∧ (∀ q, q ≠ 53 → v q = u q) ∧ ∀ j, v 53 j = if 40 * s ≤ j ∧ j < 40 * s + 40 then 0 else u 53 j := by
  obtain ⟨v, e, h1, h2⟩ := zit_inv (body := fun x : Int32 × zM => m_X6_sheet_b0 (nI s) x.1 x.2) (fun k x => x.1 = nI k ∧ (∀ q, q ≠ 53 → x.2 q = u q) ∧ ∀ j, x.2 53 j = if 40 * s ≤ j ∧ j < 40 * s + k then 0 else u 53 j) 40 (fun r => (∀ q, q ≠ 53 → r q = u q) ∧ ∀ j, r 53 j = if 40 * s ≤ j ∧ j < 40 * s + 40 then 0 else u 53 j) (0, u) (by decide) ⟨rfl, fun _ _ => rfl, fun j => by rw [if_neg (by omega)]⟩ (by
    rintro k ⟨i, v⟩ hk ⟨rfl, h1, h2⟩
    simp only at h1 h2 ⊢
    unfold m_X6_sheet_b0
    rw [if_neg (show ¬ 40 ≤ nI k from fun z => by have := (q_le (a := 40) (by omega) (by omega)).mp z; omega), idx40, zsv_n (by omega) (by decide), zbind_s, show nI k + 1 = nI (k + 1) from q_add k 1]
    refine ⟨_, rfl, rfl, fun q hq => (zst_o _ hq).trans (h1 q hq), fun j => ?_⟩
    show zst v 53 (40 * s + k) 0 53 j = _
    rw [zst_g]
    by_cases c : j = 40 * s + k
    · subst c; rw [if_pos ⟨rfl, rfl⟩, if_pos (by omega)]
    · rw [if_neg (by simp [c]), h2 j]
      by_cases c2 : 40 * s ≤ j ∧ j < 40 * s + k
      · rw [if_pos c2, if_pos (by omega)]
      · rw [if_neg c2, if_neg (by omega)]) (by
    rintro ⟨i, v⟩ ⟨rfl, h1, h2⟩
    simp only at h1 h2 ⊢
    unfold m_X6_sheet_b0
    rw [if_pos (show (40 : Int32) ≤ nI 40 by decide)]
    exact ⟨_, rfl, h1, h2⟩)
  exact ⟨v, e, h1, h2⟩
def shT5 (a1 a2 a3 : Int32) (u : zM) : Option (Int32 × zM) := (if 0 ≤ a3 then (if a3 ≤ 40 then zbind (zsheet a1) (fun k8 => (if a2 = 0 then zbind (m_X1_lay k8 a2 0 u) (fun u15 => zbind (zsheet a1) (fun k17 => some ((u15 k17 2), u15))) else zbind (m_X1_lay k8 a2 a3 u) (fun u11 => zbind (zsheet a1) (fun k13 => some ((u11 k13 2), u11))))) else zbind2 (m_X5_finding 0 u) (fun x19 u20 => some (x19, u20))) else zbind2 (m_X5_finding 6 u) (fun x22 u23 => some (x22, u23)))
def shT6 (a1 a2 a3 : Int32) (u : zM) : Option (Int32 × zM) := (if 0 ≤ a3 then (if a3 ≤ 40 then zbind (zsv u 51 4 a1 a2) (fun u8 => zlet ((if a2 = 0 then 0 else a3) : Int32) (fun x10 => zbind (zsv u8 52 4 a1 x10) (fun u13 => zbind (zit zF (fun s : Int32 × zM => m_X6_sheet_b0 a1 s.1 s.2) (0, u13)) (fun u17 => zbind (zld u17 52 4 a1) (fun x22 => some (x22, u17)))))) else zbind2 (m_X6_finding (-1000001) u) (fun x24 u25 => some (x24, u25))) else zbind2 (m_X6_finding (-1000007) u) (fun x27 u28 => some (x27, u28)))
theorem sh_both {s : Nat} (hs : s < 4) {b a : Int32} (hb : b = 0 ∨ b = 8 ∨ b = 16 ∨ b = 32) {u : zM} (hu : Inv u) : ∃ (r : Int32) (u1 u2 : zM), shT5 (nI s) b a u = some (r, u1) ∧ shT6 (nI s) b a u1 = some (r, u2) ∧ Inv u2 := by
  unfold shT5 shT6
  by_cases c : 0 ≤ a
  · rw [if_pos c]
    simp only [if_pos c]
    by_cases c2 : a ≤ 40
    · rw [if_pos c2]
      simp only [if_pos c2]
      obtain ⟨l, -, hl, rfl⟩ := (btw a 0 40 (by decide) (by decide)).mp ⟨c, c2⟩
      have hl2 : ∃ l2 : Nat, l2 ≤ 40 ∧ (if b = 0 then 0 else nI l) = nI l2 := by
        by_cases c3 : b = 0
        · exact ⟨0, by decide, by rw [if_pos c3]; rfl⟩
        · exact ⟨l, hl, by rw [if_neg c3]⟩
      obtain ⟨l2, hl2, el⟩ := hl2
      obtain ⟨v, e5, o5, b5, n5, z5⟩ := lay5 hs b (nI l2) u
      rw [zsheet_n hs, zbind_s]
      have h5 : (if b = 0 then zbind (m_X1_lay (31 + 2 * s) b 0 u) (fun u15 => zbind (some (31 + 2 * s)) (fun k17 => some ((u15 k17 2), u15))) else zbind (m_X1_lay (31 + 2 * s) b (nI l) u) (fun u11 => zbind (some (31 + 2 * s)) (fun k13 => some ((u11 k13 2), u11)))) = some (nI l2, v) := by
        by_cases c3 : b = 0
        · rw [if_pos c3] at el ⊢
          rw [el, e5, zbind_s, zbind_s, n5]
        · rw [if_neg c3] at el ⊢
          rw [el, e5, zbind_s, zbind_s, n5]
      obtain ⟨w, e6, o6, z6⟩ := lay6 hs (zst (zst v 51 s b) 52 s (nI l2))
      refine ⟨nI l2, v, w, h5, ?_, ?_⟩
      · rw [zsv_n hs (by decide), zbind_s, zlet_s, el, zsv_n hs (by decide), zbind_s, e6, zbind_s, zld_n hs (by decide), zbind_s, o6 52 (by decide), zst_s]
      · have ow : ∀ q, q ≠ 51 → q ≠ 52 → q ≠ 53 → w q = v q := fun q h1 h2 h3 => by rw [o6 q h3, zst_o _ h2, zst_o _ h1]
        refine hu.sheets (sameS.of (fun q h1 h2 h3 h4 _ => by rw [ow q h2 h3 h4, o5 q (by omega) (by omega)])) (fun s' hs' => ?_)
        rw [ow (31 + 2 * s') (by omega) (by omega) (by omega), ow (31 + 2 * s' + 1) (by omega) (by omega) (by omega)]
        have e51 : w 51 s' = if s' = s then b else u 51 s' := by
          rw [o6 51 (by decide), zst_o _ (by decide), zst_g, o5 51 (by omega) (by omega)]
          by_cases c4 : s' = s
          · subst c4; simp
          · simp [c4]
        have e52 : w 52 s' = if s' = s then nI l2 else u 52 s' := by
          rw [o6 52 (by decide), zst_g, zst_o _ (by decide), o5 52 (by omega) (by omega)]
          by_cases c4 : s' = s
          · subst c4; simp
          · simp [c4]
        rw [e51, e52]
        obtain ⟨p1, p2, p3, p4⟩ := hu.2.2.2.2.1 s' hs'
        by_cases c4 : s' = s
        · subst c4
          rw [if_pos rfl, if_pos rfl]
          refine ⟨b5, hb, ⟨l2, hl2, n5, rfl⟩, fun j hj => ?_⟩
          rw [z5 j hj, z6, if_pos (by omega)]
        · rw [if_neg c4, if_neg c4, o5 _ (by omega) (by omega), o5 _ (by omega) (by omega)]
          refine ⟨p1, p2, p3, fun j hj => ?_⟩
          rw [z6, if_neg (by omega), zst_o _ (by decide), zst_o _ (by decide), o5 53 (by omega) (by omega)]
          exact p4 j hj
    · rw [if_neg c2]
      simp only [if_neg c2]
      exact fin0 hu (g := fun u1 => _) rfl rfl
  · rw [if_neg c]
    simp only [if_neg c]
    exact fin (j := 6) (by decide) hu (g := fun u1 => _) rfl rfl
theorem p_sheet : B_sheet Inv := by
  intro a b n u hu
  unfold m_X5_sheet m_X6_sheet m_X5_isSheet m_X6_isSheet
  simp only [w5_eq, w6_eq, zb_if, if_0]
  by_cases c : (0 : Int32) ≤ a ∧ a ≤ 3
  · rw [if_neg (fun z => z c)]
    simp only [if_neg (fun z : ¬ (0 ≤ a ∧ a ≤ 3) => z c)]
    obtain ⟨s, -, hs, rfl⟩ := (btw a 0 3 (by decide) (by decide)).mp c
    by_cases c0 : b = 0
    · rw [if_pos c0]
      simp only [if_pos c0]
      have := sh_both (s := s) (by omega) (a := n) (Or.inl c0) hu
      unfold shT5 shT6 at this
      simp only [if_pos c0] at this
      exact this
    · rw [if_neg c0]
      simp only [if_neg c0]
      by_cases c8 : b = 8
      · rw [if_pos c8]
        simp only [if_pos c8]
        have := sh_both (s := s) (by omega) (a := n) (Or.inr (Or.inl c8)) hu
        unfold shT5 shT6 at this
        simp only [if_neg c0] at this
        exact this
      · rw [if_neg c8]
        simp only [if_neg c8]
        by_cases c16 : b = 16
        · rw [if_pos c16]
          simp only [if_pos c16]
          have := sh_both (s := s) (by omega) (a := n) (Or.inr (Or.inr (Or.inl c16))) hu
          unfold shT5 shT6 at this
          simp only [if_neg c0] at this
          exact this
        · rw [if_neg c16]
          simp only [if_neg c16]
          by_cases c32 : b = 32
          · rw [if_pos c32]
            simp only [if_pos c32]
            have := sh_both (s := s) (by omega) (a := n) (Or.inr (Or.inr (Or.inr c32))) hu
            unfold shT5 shT6 at this
            simp only [if_neg c0] at this
            exact this
          · rw [if_neg c32]
            simp only [if_neg c32]
            exact fin0 hu (g := fun u1 => _) rfl rfl
  · rw [if_pos c]
    simp only [if_pos c]
    exact fin0 hu (g := fun u1 => _) rfl rfl
/-! write: the lowest bits, told with their sign -/
theorem zsh_0 (v : Int32) : zshr (zshl v 0) 0 = v := by
  refine b_ext (fun i hi => ?_)
  unfold zshr zshl
  rw [show (0 : Int32) = nI 0 from rfl, b_sshr 0 (by decide) _ hi, b_shl 0 (by decide) _ (show 0 + i < 32 by omega)]
  simp [hi]
theorem bt_i8 (v : Int32) {i : Nat} (hi : i < 32) : bt (zi2b v) i = if i < 8 then bt v i else bt v 7 := by
  unfold bt zi2b
  rw [Int8.toBitVec_toInt32, Int32.toBitVec_toInt8, BitVec.getLsbD_signExtend, BitVec.msb_eq_getLsbD_last, BitVec.getLsbD_signExtend, BitVec.getLsbD_signExtend]
  by_cases c : i < 8
  · simp only [hi, c, decide_true, Bool.true_and, if_true]
  · simp only [hi, c, decide_true, Bool.true_and, if_false]
    rfl
theorem bt_i16 (v : Int32) {i : Nat} (hi : i < 32) : bt (zi2s v) i = if i < 16 then bt v i else bt v 15 := by
  unfold bt zi2s
  rw [Int16.toBitVec_toInt32, Int32.toBitVec_toInt16, BitVec.getLsbD_signExtend, BitVec.msb_eq_getLsbD_last, BitVec.getLsbD_signExtend, BitVec.getLsbD_signExtend]
  by_cases c : i < 16
  · simp only [hi, c, decide_true, Bool.true_and, if_true]
  · simp only [hi, c, decide_true, Bool.true_and, if_false]
    rfl
theorem cut_eq (v b : Int32) (hb : b = 8 ∨ b = 16 ∨ b = 32) : zshr (zshl v (32 - b)) (32 - b) = m_X6_cutTo v b := by
  unfold m_X6_cutTo
  rcases hb with rfl | rfl | rfl
  · rw [if_pos rfl]
    refine b_ext (fun i hi => ?_)
    rw [bt_i8 v hi]
    unfold zshr zshl
    rw [show (32 : Int32) - 8 = nI 24 by decide, b_sshr 24 (by decide) _ hi]
    by_cases c : i < 8
    · rw [if_pos (by omega), if_pos c, b_shl 24 (by decide) _ (by omega)]
      simp
    · rw [if_neg (by omega), if_neg c, b_shl 24 (by decide) _ (by omega)]
      simp
  · rw [if_neg (by decide), if_pos rfl]
    refine b_ext (fun i hi => ?_)
    rw [bt_i16 v hi]
    unfold zshr zshl
    rw [show (32 : Int32) - 16 = nI 16 by decide, b_sshr 16 (by decide) _ hi]
    by_cases c : i < 16
    · rw [if_pos (by omega), if_pos c, b_shl 16 (by decide) _ (by omega)]
      simp
    · rw [if_neg (by omega), if_neg c, b_shl 16 (by decide) _ (by omega)]
      simp
  · rw [if_neg (by decide), if_neg (by decide)]
    exact zsh_0 v
theorem p_write : B_write Inv := by
  intro a i v u hu
  unfold m_X5_write m_X6_write m_X5_isSheet m_X6_isSheet m_X1_isMissing
  simp only [w5_eq, w6_eq, zb_if, if_0]
  by_cases c : (0 : Int32) ≤ a ∧ a ≤ 3
  · rw [if_neg (fun z => z c)]
    simp only [if_neg (fun z : ¬ (0 ≤ a ∧ a ≤ 3) => z c)]
    obtain ⟨s, -, hs3, rfl⟩ := (btw a 0 3 (by decide) (by decide)).mp c
    have hs : s < 4 := by omega
    obtain ⟨p1, p2, ⟨l, hl, p3, p3'⟩, p4⟩ := hu.2.2.2.2.1 s hs
    simp only [zsheet_n hs, zbind_s, p1, p3]
    have ef : ∀ j q, q ≠ 28 → fnd5 j u q = u q := fun j q h => fnd5_c j u h
    by_cases c2 : u 51 s = 0
    · rw [if_neg (fun z => z c2)]
      refine fin (j := 5) (by decide) hu (g := fun u1 => _) rfl ?_
      rw [zld_n hs (by decide), zbind_s, ef _ _ (by decide), if_pos c2]
      rfl
    · rw [if_pos c2]
      by_cases c3 : (0 : Int32) ≤ i ∧ i ≤ nI l - 1
      · rw [if_neg (fun z => z c3)]
        obtain ⟨k, hk, rfl⟩ := (below i l (by omega)).mp c3
        unfold m_X1_put
        rw [zsv_n (by omega) (by decide), zbind_s, zbind_s, p1, cut_eq v _ (by
          rcases p2 with z | z
          · exact absurd z c2
          · exact z)]
        have hf : ∀ q, q ≠ 31 + 2 * s + 1 → zst u (31 + 2 * s + 1) k (m_X6_cutTo v (u 51 s)) q = u q := fun q hq => zst_o _ hq
        refine ⟨_, _, zst (zst u (31 + 2 * s + 1) k (m_X6_cutTo v (u 51 s))) 53 (40 * s + k) (m_X6_cutTo v (u 51 s)), rfl, ?_, ?_⟩
        · rw [zld_n hs (by decide), zbind_s, hf 51 (by omega), if_neg c2, zld_n hs (by decide), zbind_s, hf 52 (by omega), p3', if_neg (fun z => z c3), zbind_s, idx40, zsv_n (by omega) (by decide), zbind_s]
        · refine hu.sheets (sameS.of (fun q h1 _ _ h4 _ => by rw [zst_o _ h4, zst_o _ (by omega)])) (fun s' hs' => ?_)
          obtain ⟨r1, r2, r3, r4⟩ := hu.2.2.2.2.1 s' hs'
          rw [zst_o (q := 53) (q' := 31 + 2 * s') _ (by omega), zst_o (q := 53) (q' := 31 + 2 * s' + 1) _ (by omega), zst_o (q := 53) (q' := 51) _ (by omega), zst_o (q := 53) (q' := 52) _ (by omega), hf (31 + 2 * s') (by omega), hf 51 (by omega), hf 52 (by omega)]
          refine ⟨r1, r2, r3, fun j hj => ?_⟩
          rw [zst_g, zst_g, hf 53 (by omega)]
          by_cases c4 : s' = s
          · subst c4
            by_cases c5 : j = k
            · subst c5; rw [if_pos ⟨rfl, rfl⟩, if_pos ⟨rfl, rfl⟩]
            · rw [if_neg (by omega), if_neg (by omega)]; exact r4 j hj
          · rw [if_neg (by omega), if_neg (by omega)]; exact r4 j hj
      · rw [if_pos c3]
        refine fin0 hu (g := fun u1 => _) rfl ?_
        rw [zld_n hs (by decide), zbind_s, ef _ _ (by decide), if_neg c2, zld_n hs (by decide), zbind_s, ef _ _ (by decide), p3', if_pos c3]
  · rw [if_pos c]
    simp only [if_pos c]
    exact fin0 hu (g := fun u1 => _) rfl rfl
