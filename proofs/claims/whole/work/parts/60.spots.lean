/-! SPOTS AND IMAGES -/
theorem tOk.cg {t t' : Nat → Int32} {n : Nat} (h : tOk t n) (e : ∀ j, j < 160 → t' j = t j) : tOk t' n := by
  obtain ⟨h1, h2, h3, h4, h5, h6, h7, h8, h9, h10⟩ := h
  refine ⟨h1, by rw [e 0 (by decide)]; exact h2, fun b hb => ?_, fun b hb => by unfold tH; rw [e _ (by omega)]; exact h4 b hb, fun b hn hb => by unfold tH; rw [e _ (by omega)]; exact h5 b hn hb, by rw [e 1 (by decide)]; exact h6, by rw [e 2 (by decide)]; exact h7, by rw [e 3 (by decide)]; exact h8, by rw [e 4 (by decide)]; exact h9, fun i hi => by rw [e _ (by omega)]; exact h10 i hi⟩
  obtain ⟨k1, k2, k3, k4⟩ := h3 b hb
  exact ⟨by unfold tK; rw [e _ (by omega)]; exact k1, fun m hm => by unfold tM; rw [e _ (by omega)]; exact k2 m hm, by unfold tB; rw [e _ (by omega)]; exact k3, by unfold tP; rw [e _ (by omega)]; exact k4⟩
theorem tIs.cg {u : zM} {c : Nat} {t t' : Nat → Int32} (h : tIs u c t) (e : ∀ j, j < 160 → t' j = t j) : tIs u c t' := by
  obtain ⟨i0, i1, i2, i3, i4, i5, i6, i7, i8, i9, i10, i11, i12⟩ := h
  have eH : tSet t' = tSet t := tSet_congr (fun b hb => by unfold tH; rw [e _ (by omega)])
  unfold tIs
  rw [eH, e 0 (by decide), e 1 (by decide), e 2 (by decide), e 3 (by decide), e 4 (by decide), e 5 (by decide)]
  refine ⟨i0, i1, i2, i3, i4, i5, i6, fun b hb => by unfold tK; rw [e _ (by omega)]; exact i7 b hb, fun b m hb hm => by unfold tM; rw [e _ (by omega)]; exact i8 b m hb hm, fun b hb => by unfold tB; rw [e _ (by omega)]; exact i9 b hb, fun b hb => by unfold tP; rw [e _ (by omega)]; exact i10 b hb, fun j hj => by rw [e _ (by omega)]; exact i11 j hj, fun i hi => by rw [e _ (by omega)]; exact i12 i hi⟩
/-- the class's town, copied -/
theorem tIs.copied {u v : zM} {c c' : Nat} {t : Nat → Int32} (h : tIs u c t) (e0 : ∀ f, 6 ≤ f → f ≤ 12 → v c' f = u c f) (e1 : ∀ j, j < 12 → v (c' + 1) j = u (c + 1) j) (e2 : ∀ j, j < 36 → v (c' + 2) j = u (c + 2) j) (e3 : ∀ j, j < 12 → v (c' + 3) j = u (c + 3) j) (e4 : ∀ j, j < 12 → v (c' + 4) j = u (c + 4) j) (e5 : ∀ j, j < 60 → v (c' + 5) j = u (c + 5) j) (e6 : ∀ j, j < 10 → v (c' + 6) j = u (c + 6) j) : tIs v c' t := by
  obtain ⟨i0, i1, i2, i3, i4, i5, i6, i7, i8, i9, i10, i11, i12⟩ := h
  unfold tIs
  rw [e0 6 (by decide) (by decide), e0 7 (by decide) (by decide), e0 8 (by decide) (by decide), e0 9 (by decide) (by decide), e0 10 (by decide) (by decide), e0 11 (by decide) (by decide), e0 12 (by decide) (by decide)]
  exact ⟨i0, i1, i2, i3, i4, i5, i6, fun b hb => (e1 b hb).trans (i7 b hb), fun b m hb hm => (e2 _ (by omega)).trans (i8 b m hb hm), fun b hb => (e3 b hb).trans (i9 b hb), fun b hb => (e4 b hb).trans (i10 b hb), fun j hj => (e5 j hj).trans (i11 j hj), fun i hi => (e6 i hi).trans (i12 i hi)⟩
theorem zup_s (u : zM) (q : Nat) (f : Nat → Int32) : zup u q f q = f := by simp [zup]
theorem zup_o (u : zM) {q k : Nat} (f : Nat → Int32) (h : k ≠ q) : zup u q f k = u k := by simp [zup, h]
theorem zcp_n {u : zM} {q0 n0 sp q1 n1 dp n : Nat} (h0 : sp + n ≤ n0) (h1 : dp + n ≤ n1) (hn : n0 < 100000 ∧ n1 < 100000) : zcp u q0 n0 (nI sp) q1 n1 (nI dp) (nI n) = some (zup u q1 (va_cpy (u q0) (u q1) sp dp n)) := by
  unfold zcp
  rw [q_clamp (by omega), q_clamp (by omega), q_clamp (by omega), if_neg]
  rintro (z | z | z | z | z)
  · exact nI_pos (by omega) z
  · exact nI_pos (by omega) z
  · exact nI_pos (by omega) z
  · omega
  · omega
theorem cpy_all (f g : Nat → Int32) (n j : Nat) (hj : j < n) : va_cpy f g 0 0 n j = f j := by
  unfold va_cpy
  rw [if_pos (by omega)]
  congr 1
  omega
theorem zcp_all (u : zM) (q0 q1 n : Nat) (hn : n < 100000) : zcp u q0 n 0 q1 n 0 (nI n) = some (zup u q1 (va_cpy (u q0) (u q1) 0 0 n)) := zcp_n (sp := 0) (dp := 0) (by omega) (by omega) ⟨hn, hn⟩
theorem image5 (u : zM) : ∃ v, m_X4_become u = some v ∧ (∀ q, ¬ (8 ≤ q ∧ q ≤ 14) → v q = u q) ∧ (∀ f, 6 ≤ f → f ≤ 12 → v 8 f = u 1 f) ∧ (∀ j, j < 12 → v 9 j = u 2 j) ∧ (∀ j, j < 36 → v 10 j = u 3 j) ∧ (∀ j, j < 12 → v 11 j = u 4 j) ∧ (∀ j, j < 12 → v 12 j = u 5 j) ∧ (∀ j, j < 60 → v 13 j = u 6 j) ∧ (∀ j, j < 10 → v 14 j = u 7 j) := by
  unfold m_X4_become
  rw [show (12 : Int32) = nI 12 from rfl, show (36 : Int32) = nI 36 from rfl, show (60 : Int32) = nI 60 from rfl, show (10 : Int32) = nI 10 from rfl]
  rw [zcp_all _ _ _ _ (by decide), zbind_s, zcp_all _ _ _ _ (by decide), zbind_s, zcp_all _ _ _ _ (by decide), zbind_s, zcp_all _ _ _ _ (by decide), zbind_s, zcp_all _ _ _ _ (by decide), zbind_s, zcp_all _ _ _ _ (by decide), zbind_s]
  simp only [zlet_s]
  refine ⟨_, rfl, fun q hq => ?_, fun f h1 h2 => ?_, fun j hj => ?_, fun j hj => ?_, fun j hj => ?_, fun j hj => ?_, fun j hj => ?_, fun j hj => ?_⟩
  · simp only [zst_o _ (show q ≠ 8 by omega), zup_o _ _ (show q ≠ 9 by omega), zup_o _ _ (show q ≠ 10 by omega), zup_o _ _ (show q ≠ 11 by omega), zup_o _ _ (show q ≠ 12 by omega), zup_o _ _ (show q ≠ 13 by omega), zup_o _ _ (show q ≠ 14 by omega)]
  · have hf : f = 6 ∨ f = 7 ∨ f = 8 ∨ f = 9 ∨ f = 10 ∨ f = 11 ∨ f = 12 := by omega
    rcases hf with rfl | rfl | rfl | rfl | rfl | rfl | rfl <;> simp [zst_g, zup]
  · simp [zst_g, zup, cpy_all, hj]
  · simp [zst_g, zup, cpy_all, hj]
  · simp [zst_g, zup, cpy_all, hj]
  · simp [zst_g, zup, cpy_all, hj]
  · simp [zst_g, zup, cpy_all, hj]
  · simp [zst_g, zup, cpy_all, hj]
theorem undo5 (u : zM) : ∃ v, m_X4_become_2 u = some v ∧ (∀ q, ¬ (1 ≤ q ∧ q ≤ 7) → v q = u q) ∧ (∀ f, 6 ≤ f → f ≤ 12 → v 1 f = u 8 f) ∧ (∀ j, j < 12 → v 2 j = u 9 j) ∧ (∀ j, j < 36 → v 3 j = u 10 j) ∧ (∀ j, j < 12 → v 4 j = u 11 j) ∧ (∀ j, j < 12 → v 5 j = u 12 j) ∧ (∀ j, j < 60 → v 6 j = u 13 j) ∧ (∀ j, j < 10 → v 7 j = u 14 j) := by
  unfold m_X4_become_2
  rw [show (12 : Int32) = nI 12 from rfl, show (36 : Int32) = nI 36 from rfl, show (60 : Int32) = nI 60 from rfl, show (10 : Int32) = nI 10 from rfl]
  rw [zcp_all _ _ _ _ (by decide), zbind_s, zcp_all _ _ _ _ (by decide), zbind_s, zcp_all _ _ _ _ (by decide), zbind_s, zcp_all _ _ _ _ (by decide), zbind_s, zcp_all _ _ _ _ (by decide), zbind_s, zcp_all _ _ _ _ (by decide), zbind_s]
  simp only [zlet_s]
  refine ⟨_, rfl, fun q hq => ?_, fun f h1 h2 => ?_, fun j hj => ?_, fun j hj => ?_, fun j hj => ?_, fun j hj => ?_, fun j hj => ?_, fun j hj => ?_⟩
  · simp only [zst_o _ (show q ≠ 1 by omega), zup_o _ _ (show q ≠ 2 by omega), zup_o _ _ (show q ≠ 3 by omega), zup_o _ _ (show q ≠ 4 by omega), zup_o _ _ (show q ≠ 5 by omega), zup_o _ _ (show q ≠ 6 by omega), zup_o _ _ (show q ≠ 7 by omega)]
  · have hf : f = 6 ∨ f = 7 ∨ f = 8 ∨ f = 9 ∨ f = 10 ∨ f = 11 ∨ f = 12 := by omega
    rcases hf with rfl | rfl | rfl | rfl | rfl | rfl | rfl <;> simp [zst_g, zup]
  · simp [zst_g, zup, cpy_all, hj]
  · simp [zst_g, zup, cpy_all, hj]
  · simp [zst_g, zup, cpy_all, hj]
  · simp [zst_g, zup, cpy_all, hj]
  · simp [zst_g, zup, cpy_all, hj]
  · simp [zst_g, zup, cpy_all, hj]
theorem image6 (u : zM) : ∃ v, m_X6_copyRow u = some v ∧ (∀ q, q ≠ 41 → v q = u q) ∧ ∀ j, j < 160 → v 41 j = u 40 j := by
  unfold m_X6_copyRow
  obtain ⟨v, e, h1, h2⟩ := zit_inv (body := fun s : Int32 × zM => m_X6_copyRow_b0 s.1 s.2) (fun k s => s.1 = nI k ∧ (∀ q, q ≠ 41 → s.2 q = u q) ∧ ∀ j, j < k → s.2 41 j = u 40 j) 160 (fun r => (∀ q, q ≠ 41 → r q = u q) ∧ ∀ j, j < 160 → r 41 j = u 40 j) (0, u) (by decide) ⟨rfl, fun _ _ => rfl, fun j hj => absurd hj (by omega)⟩ (by
    rintro k ⟨i, v⟩ hk ⟨rfl, h1, h2⟩
    simp only at h1 h2 ⊢
    unfold m_X6_copyRow_b0
    rw [if_neg (show ¬ 160 ≤ nI k from fun z => by have := (q_le (a := 160) (by omega) (by omega)).mp z; omega), zld_n hk (by decide), zbind_s, zsv_n hk (by decide), zbind_s, show nI k + 1 = nI (k + 1) from q_add k 1]
    refine ⟨_, rfl, rfl, fun q hq => (zst_o _ hq).trans (h1 q hq), fun j hj => ?_⟩
    show zst v 41 k (v 40 k) 41 j = u 40 j
    rw [zst_g, h1 40 (by decide)]
    by_cases c : j = k
    · subst c; simp
    · rw [if_neg (by simp [c])]; exact h2 j (by omega)) (by
    rintro ⟨i, v⟩ ⟨rfl, h1, h2⟩
    simp only at h1 h2 ⊢
    unfold m_X6_copyRow_b0
    rw [if_pos (show (160 : Int32) ≤ nI 160 by decide)]
    exact ⟨_, rfl, h1, h2⟩)
  exact ⟨v, by rw [e, zbind_s], h1, h2⟩
theorem undo6 (u : zM) : ∃ v, m_X6_copyRow_2 u = some v ∧ (∀ q, q ≠ 40 → v q = u q) ∧ ∀ j, j < 160 → v 40 j = u 41 j := by
  unfold m_X6_copyRow_2
  obtain ⟨v, e, h1, h2⟩ := zit_inv (body := fun s : Int32 × zM => m_X6_copyRow_2_b0 s.1 s.2) (fun k s => s.1 = nI k ∧ (∀ q, q ≠ 40 → s.2 q = u q) ∧ ∀ j, j < k → s.2 40 j = u 41 j) 160 (fun r => (∀ q, q ≠ 40 → r q = u q) ∧ ∀ j, j < 160 → r 40 j = u 41 j) (0, u) (by decide) ⟨rfl, fun _ _ => rfl, fun j hj => absurd hj (by omega)⟩ (by
    rintro k ⟨i, v⟩ hk ⟨rfl, h1, h2⟩
    simp only at h1 h2 ⊢
    unfold m_X6_copyRow_2_b0
    rw [if_neg (show ¬ 160 ≤ nI k from fun z => by have := (q_le (a := 160) (by omega) (by omega)).mp z; omega), zld_n hk (by decide), zbind_s, zsv_n hk (by decide), zbind_s, show nI k + 1 = nI (k + 1) from q_add k 1]
    refine ⟨_, rfl, rfl, fun q hq => (zst_o _ hq).trans (h1 q hq), fun j hj => ?_⟩
    show zst v 40 k (v 41 k) 40 j = u 41 j
    rw [zst_g, h1 41 (by decide)]
    by_cases c : j = k
    · subst c; simp
    · rw [if_neg (by simp [c])]; exact h2 j (by omega)) (by
    rintro ⟨i, v⟩ ⟨rfl, h1, h2⟩
    simp only at h1 h2 ⊢
    unfold m_X6_copyRow_2_b0
    rw [if_pos (show (160 : Int32) ≤ nI 160 by decide)]
    exact ⟨_, rfl, h1, h2⟩)
  exact ⟨v, by rw [e, zbind_s], h1, h2⟩
theorem p_image : B_image Inv := by
  intro u hu
  obtain ⟨⟨n, ho⟩, ht⟩ := id hu.1
  obtain ⟨v, e5, ho5, a0, a1, a2, a3, a4, a5, a6⟩ := image5 u
  obtain ⟨w, e6, ho6, b1⟩ := image6 (zst v 0 9 1)
  have hwq : ∀ q, q ≠ 0 → ¬ (8 ≤ q ∧ q ≤ 14) → q ≠ 39 → q ≠ 41 → zst w 39 2 1 q = u q := fun q h1 h2 h3 h4 => by
    rw [zst_o _ h3, ho6 q h4, zst_o _ h1, ho5 q h2]
  refine ⟨1, zst v 0 9 1, zst w 39 2 1, by unfold m_X5_image; rw [e5, zbind_s, zlet_s], by unfold m_X6_image; rw [e6, zbind_s, zlet_s], hu.kept hwq ?_ ?_⟩
  · rw [zst_j _ (by decide), ho6 39 (by decide), zst_o _ (by decide), ho5 39 (by decide)]
  · have e41 : ∀ j, j < 160 → zst w 39 2 1 41 j = u 40 j := fun j hj => by rw [zst_o _ (by decide), b1 j hj, zst_o _ (by decide), ho5 40 (by decide)]
    have ec : ∀ c, 8 ≤ c → c ≤ 14 → zst w 39 2 1 c = v c := fun c h1 h2 => by rw [zst_o _ (by omega), ho6 c (by omega), zst_o _ (by omega)]
    unfold vKept
    rw [zst_s, zst_o (q := 39) (q' := 0) _ (by decide), ho6 0 (by decide), zst_s]
    refine ⟨rfl, Or.inr rfl, fun _ => ⟨⟨n, ho.cg e41⟩, (tIs.copied ht ?_ ?_ ?_ ?_ ?_ ?_ ?_).cg e41⟩⟩
    · intro f h1 h2; rw [ec 8 (by decide) (by decide)]; exact a0 f h1 h2
    · intro j hj; rw [ec (8 + 1) (by decide) (by decide)]; exact a1 j hj
    · intro j hj; rw [ec (8 + 2) (by decide) (by decide)]; exact a2 j hj
    · intro j hj; rw [ec (8 + 3) (by decide) (by decide)]; exact a3 j hj
    · intro j hj; rw [ec (8 + 4) (by decide) (by decide)]; exact a4 j hj
    · intro j hj; rw [ec (8 + 5) (by decide) (by decide)]; exact a5 j hj
    · intro j hj; rw [ec (8 + 6) (by decide) (by decide)]; exact a6 j hj
theorem p_undo : B_undo Inv := by
  intro u hu
  obtain ⟨k1, k2, k3⟩ := hu.2.1
  unfold m_X5_undo m_X6_undo
  rw [k1]
  rcases k2 with q | q
  · rw [if_pos q]
    refine fin (j := 3) (by decide) hu (g := fun u1 => _) rfl ?_
    rw [fnd5_c 3 u (by decide), if_pos q]
    rfl
  · rw [if_neg (by rw [q]; decide)]
    obtain ⟨⟨n, ho⟩, ht⟩ := k3 q
    obtain ⟨v, e5, ho5, a0, a1, a2, a3, a4, a5, a6⟩ := undo5 u
    obtain ⟨w, e6, ho6, b1⟩ := undo6 v
    have e40 : ∀ j, j < 160 → w 40 j = u 41 j := fun j hj => by rw [b1 j hj, ho5 41 (by decide)]
    refine ⟨v 1 6, v, w, by rw [e5, zbind_s], ?_, hu.town ⟨fun k _ _ _ h h' => by rw [ho6 k h', ho5 k h], by rw [ho6 20 (by decide), ho5 20 (by decide)], by rw [ho6 39 (by decide), ho5 39 (by decide)], by rw [ho6 39 (by decide), ho5 39 (by decide)]⟩ ?_⟩
    · rw [ho5 39 (by decide), if_neg (by rw [q]; decide), e6, zbind_s, e40 0 (by decide), a0 6 (by decide) (by decide), ht.1]
    · refine ⟨⟨n, ho.cg e40⟩, (tIs.copied ht ?_ ?_ ?_ ?_ ?_ ?_ ?_).cg e40⟩
      · intro f h1 h2; rw [ho6 1 (by decide)]; exact a0 f h1 h2
      · intro j hj; rw [ho6 (1 + 1) (by decide)]; exact a1 j hj
      · intro j hj; rw [ho6 (1 + 2) (by decide)]; exact a2 j hj
      · intro j hj; rw [ho6 (1 + 3) (by decide)]; exact a3 j hj
      · intro j hj; rw [ho6 (1 + 4) (by decide)]; exact a4 j hj
      · intro j hj; rw [ho6 (1 + 5) (by decide)]; exact a5 j hj
      · intro j hj; rw [ho6 (1 + 6) (by decide)]; exact a6 j hj
theorem vTown.spot {u : zM} {n i : Nat} {v : Int32} (ho : tOk (u 40) n) (h : tIs u 1 (u 40)) (hi : i < 10) (hv : ∃ w : Nat, w ≤ n ∧ v + 1 = nI w) : vTown (zst (zst u 7 i v) 40 (150 + i) (v + 1)) := by
  have e40 : zst (zst u 7 i v) 40 (150 + i) (v + 1) 40 = upd (u 40) (150 + i) (v + 1) := by rw [row_st, zst_o u (by decide)]
  have ec : ∀ c, c < 7 → zst (zst u 7 i v) 40 (150 + i) (v + 1) c = u c := fun c hc => by rw [zst_o _ (by omega), zst_o _ (by omega)]
  obtain ⟨h1, h2, h3, h4, h5, h6, h7, h8, h9, h10⟩ := ho
  obtain ⟨i0, i1, i2, i3, i4, i5, i6, i7, i8, i9, i10, i11, i12⟩ := h
  have eb : ∀ j, j < 150 → upd (u 40) (150 + i) (v + 1) j = u 40 j := fun j hj => upd_o _ _ (by omega)
  have eH : tSet (upd (u 40) (150 + i) (v + 1)) = tSet (u 40) := tSet_congr (fun b hb => eb _ (by omega))
  have eu : v + 1 - 1 = v := by rw [Int32.sub_eq_add_neg, Int32.add_assoc, show (1 : Int32) + -1 = 0 by decide, Int32.add_zero]
  unfold vTown
  rw [e40]
  refine ⟨⟨n, h1, by rw [eb 0 (by decide)]; exact h2, fun b hb => ?_, fun b hb => by unfold tH; rw [eb _ (by omega)]; exact h4 b hb, fun b hn hb => by unfold tH; rw [eb _ (by omega)]; exact h5 b hn hb, by rw [eb 1 (by decide)]; exact h6, by rw [eb 2 (by decide)]; exact h7, by rw [eb 3 (by decide)]; exact h8, by rw [eb 4 (by decide)]; exact h9, fun j hj => ?_⟩, ?_⟩
  · obtain ⟨k1, k2, k3, k4⟩ := h3 b hb
    exact ⟨by unfold tK; rw [eb _ (by omega)]; exact k1, fun m hm => by unfold tM; rw [eb _ (by omega)]; exact k2 m hm, by unfold tB; rw [eb _ (by omega)]; exact k3, by unfold tP; rw [eb _ (by omega)]; exact k4⟩
  · by_cases c : j = i
    · subst c; rw [upd_s]; exact hv
    · rw [upd_o _ _ (by omega)]; exact h10 j hj
  · unfold tIs
    rw [ec 1 (by decide), ec (1 + 1) (by decide), ec (1 + 2) (by decide), ec (1 + 3) (by decide), ec (1 + 4) (by decide), ec (1 + 5) (by decide), eH, eb 0 (by decide), eb 1 (by decide), eb 2 (by decide), eb 3 (by decide), eb 4 (by decide), eb 5 (by decide)]
    refine ⟨i0, i1, i2, i3, i4, i5, i6, fun b hb => by unfold tK; rw [eb _ (by omega)]; exact i7 b hb, fun b m hb hm => by unfold tM; rw [eb _ (by omega)]; exact i8 b m hb hm, fun b hb => by unfold tB; rw [eb _ (by omega)]; exact i9 b hb, fun b hb => by unfold tP; rw [eb _ (by omega)]; exact i10 b hb, fun j hj => by rw [eb _ (by omega)]; exact i11 j hj, fun j hj => ?_⟩
    show zst (zst u 7 i v) 40 (150 + i) (v + 1) 7 j = _
    rw [zst_o _ (by decide), zst_g]
    by_cases c : j = i
    · subst c; rw [if_pos ⟨rfl, rfl⟩, upd_s, eu]
    · rw [if_neg (by simp [c]), upd_o _ _ (by omega)]; exact i12 j hj
theorem p_hold : B_hold Inv := by
  intro a v u hu
  obtain ⟨⟨n, ho⟩, ht⟩ := id hu.1
  unfold m_X5_hold m_X6_hold m_X5_isSpot
  simp only [w5_eq, w6_eq, zb_if, if_0]
  by_cases c : (0 : Int32) ≤ a ∧ a ≤ 9
  · rw [if_neg (fun z => z c)]
    simp only [if_neg (fun z : ¬ (0 ≤ a ∧ a ≤ 9) => z c)]
    obtain ⟨i, -, hi, rfl⟩ := (btw a 0 9 (by decide) (by decide)).mp c
    have eI : (150 : Int32) + nI i = nI (150 + i) := q_add 150 i
    have key : (∃ w : Nat, w ≤ n ∧ v + 1 = nI w) → Inv (zst (zst u 7 i v) 40 (150 + i) (v + 1)) := fun hv =>
      hu.town ((sameT.st (u := u) (q := 7) (j := i) (v := v) (by decide)).tr (sameT.st (q := 40) (j := 150 + i) (v := v + 1) (by decide))) (vTown.spot ho ht (by omega) hv)
    by_cases c2 : v = -1
    · rw [if_pos c2, zsv_n (by omega) (by decide), zbind_s]
      refine ⟨_, _, _, rfl, by rw [if_pos c2, eI, zsv_n (by omega) (by decide), zbind_s], key ⟨0, by omega, by rw [c2]; decide⟩⟩
    · rw [if_neg c2, ib5_eq (ht.1.trans ho.2.1)]
      by_cases c3 : (0 : Int32) ≤ v ∧ v ≤ nI n - 1
      · rw [if_pos c3, if_neg (by decide), zsv_n (by omega) (by decide), zbind_s]
        refine ⟨_, zst u 7 i v, _, rfl, by rw [if_neg c2, ib6_eq (by rw [zst_o u (by decide)]; exact ho.2.1), if_pos c3, if_neg (by decide), eI, zsv_n (by omega) (by decide), zbind_s], key ?_⟩
        obtain ⟨k, hk, rfl⟩ := (below v n (by have := ho.1; omega)).mp c3
        exact ⟨k + 1, by omega, q_add k 1⟩
      · rw [if_neg c3, if_pos rfl]
        refine fin0 hu (g := fun u1 => _) rfl ?_
        rw [if_neg c2, ib6_f ho.2.1, if_neg c3, if_pos rfl]
  · rw [if_pos c]
    simp only [if_pos c]
    exact fin0 hu (g := fun u1 => _) rfl rfl
theorem as6 : ∀ k, k < 7 → ∀ a, a < 7 → zit zF (fun s : Int32 => m_X6_as_b0 (nI a) s) (nI k) = some (if und k a = 0 then -1 else nI a) := by decide +kernel
theorem p_as : B_as Inv := by
  intro a q u hu
  obtain ⟨⟨n, ho⟩, ht⟩ := id hu.1
  unfold m_X5_as m_X6_as m_X5_isSpot m_X5_isKind
  simp only [w5_eq, w6_eq, zb_if, if_0]
  by_cases c : (0 : Int32) ≤ a ∧ a ≤ 9
  · rw [if_neg (fun z => z c)]
    simp only [if_neg (fun z : ¬ (0 ≤ a ∧ a ≤ 9) => z c)]
    by_cases c2 : (0 : Int32) ≤ q ∧ q ≤ 6
    · rw [if_neg (fun z => z c2)]
      simp only [if_neg (fun z : ¬ (0 ≤ q ∧ q ≤ 6) => z c2)]
      obtain ⟨i, -, hi, rfl⟩ := (btw a 0 9 (by decide) (by decide)).mp c
      obtain ⟨k, -, hk, rfl⟩ := (btw q 0 6 (by decide) (by decide)).mp c2
      obtain ⟨w, hw, ew⟩ := ho.2.2.2.2.2.2.2.2.2 i (by omega)
      rw [zld_n (by omega) (by decide), zbind_s, show u 7 = u (1 + 6) from rfl, ht.2.2.2.2.2.2.2.2.2.2.2.2 i (by omega), ew]
      have eI : (150 : Int32) + nI i = nI (150 + i) := q_add 150 i
      simp only [eI]
      have e40 : ∀ j, fnd5 j u 40 = u 40 := fun j => fnd5_c j u (by decide)
      by_cases c3 : w = 0
      · subst c3
        rw [if_pos (by decide)]
        refine fin (j := 5) (by decide) hu (g := fun u1 => _) rfl ?_
        rw [zld_n (by omega) (by decide), zbind_s, e40, ew, if_neg (by decide)]
        rfl
      · have hwn : w < 2147483648 := by have := ho.1; omega
        have ew1 : nI w - 1 = nI (w - 1) := by rw [lit_sub1, if_neg c3]
        rw [ew1, if_neg (fun z => by
          have h1 := congrArg Int32.toInt z
          rw [nI_toInt (by omega)] at h1
          have e1 : (-1 : Int32).toInt = -1 := by decide
          omega)]
        have hb : w - 1 < n := by omega
        have hb12 : w - 1 < 12 := by have := ho.1; omega
        obtain ⟨kk, hkk, ekk⟩ := (ho.2.2.1 (w - 1) hb).1
        rw [show m_X4_tell (nI (w - 1)) 0 u = some (nI kk) from (te5 ht ho hb (w := 0) (by decide)).trans (congrArg some ekk), zbind_s, un5 kk (by omega) k (by omega), zbind_s]
        have bk : ∀ v : zM, v 40 = u 40 → m_X6_bodyIs (nI w - 1) 0 v = some (nI kk) := fun v hv => by
          rw [ew1, show (0 : Int32) = nI 0 from rfl, bi6 v hb12 (by decide), hv]
          exact congrArg some ekk
        have h0 : (0 : Int32) ≤ nI w - 1 := by rw [ew1]; exact (q_le (a := 0) (by decide) (by omega)).mpr (Nat.zero_le _)
        by_cases c4 : und kk k = 0
        · rw [if_pos c4]
          refine fin (j := 2) (by decide) hu (g := fun u1 => _) rfl ?_
          rw [zld_n (by omega) (by decide), zbind_s, e40, ew, if_pos h0, bk _ (e40 2), zbind_s, as6 kk (by omega) k (by omega), zbind_s, if_pos c4, if_neg (by decide)]
          rfl
        · rw [if_neg c4]
          refine ⟨_, u, u, rfl, ?_, hu⟩
          rw [zld_n (by omega) (by decide), zbind_s, ew, if_pos h0, bk _ rfl, zbind_s, as6 kk (by omega) k (by omega), zbind_s, if_neg c4, if_pos (show (0 : Int32) ≤ nI k from (q_le (a := 0) (by decide) (by omega)).mpr (Nat.zero_le _)), ew1]
    · rw [if_pos c2]
      simp only [if_pos c2]
      exact fin0 hu (g := fun u1 => _) rfl rfl
  · rw [if_pos c]
    simp only [if_pos c]
    exact fin0 hu (g := fun u1 => _) rfl rfl
