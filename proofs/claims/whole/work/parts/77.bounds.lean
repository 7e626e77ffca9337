/-! BOUNDS -/
theorem bri_q : ∀ k : Nat, k < 41 → Int32.ofInt ((k : Int) - 20) = nI (k + 20) - nI 40 ∧ 2 * Int32.ofInt ((k : Int) - 20) = nI (2 * k) - nI 40 := by decide +kernel
theorem bri_n {x : Int32} (h : ∃ z : Int, -20 ≤ z ∧ z ≤ 20 ∧ x = Int32.ofInt z) : ∃ k, k ≤ 40 ∧ x = nI (k + 20) - nI 40 ∧ 2 * x = nI (2 * k) - nI 40 := by
  obtain ⟨z, h1, h2, rfl⟩ := h
  have e : ((z + 20).toNat : Int) - 20 = z := by omega
  obtain ⟨a1, a2⟩ := bri_q (z + 20).toNat (by omega)
  rw [e] at a1 a2
  exact ⟨(z + 20).toNat, by omega, a1, a2⟩
/-- what the tape adds to a body's measure -/
def off (t : Nat → Int32) (b m : Nat) : Int32 := if m = 1 then (if tK t b = 2 then tB t b else if tK t b = 5 then -10 else if tK t b = 6 then 2 * tB t b else 0) else if m = 0 ∧ (tK t b = 1 ∨ tK t b = 4) then 2 else 0
theorem meas_off (t : Nat → Int32) (b m : Nat) : meas t b m = tM t b m + off t b m := by
  unfold meas off width
  by_cases c1 : m = 1
  · subst c1
    rw [if_pos rfl, if_pos rfl]
    by_cases c2 : tK t b = 2
    · rw [if_pos c2, if_pos c2]
    · rw [if_neg c2, if_neg c2]
      by_cases c5 : tK t b = 5
      · rw [if_pos c5, if_pos c5]; exact Int32.sub_eq_add_neg _ _
      · rw [if_neg c5, if_neg c5]
        by_cases c6 : tK t b = 6
        · rw [if_pos c6, if_pos c6]
        · rw [if_neg c6, if_neg c6, Int32.add_zero]
  · rw [if_neg c1, if_neg c1]
    by_cases c0 : m = 0 ∧ (tK t b = 1 ∨ tK t b = 4)
    · rw [if_pos c0, if_pos c0]
    · rw [if_neg c0, if_neg c0, Int32.add_zero]
theorem sh_n {v z d : Nat} (h : d ≤ v) : nI v + (nI z - nI d) = nI (v + z - d) := by
  rw [Int32.sub_eq_add_neg, ← Int32.add_assoc, ← Int32.sub_eq_add_neg, q_add, q_sub (by omega)]
theorem off_n {t : Nat → Int32} {b : Nat} (m : Nat) (h : tBd t b) : ∃ z, z ≤ 80 ∧ off t b m = nI z - nI 40 := by
  obtain ⟨k, hk, e1, e2⟩ := bri_n h.2.2.1
  unfold off
  split
  · split
    · exact ⟨k + 20, by omega, e1⟩
    · split
      · exact ⟨30, by decide, by decide⟩
      · split
        · exact ⟨2 * k, by omega, e2⟩
        · exact ⟨40, by decide, by decide⟩
  · split
    · exact ⟨42, by decide, by decide⟩
    · exact ⟨40, by decide, by decide⟩
theorem meas_n {t : Nat → Int32} {b m : Nat} (h : tBd t b) (hm : m < 3) : ∃ v, v ≤ 290 ∧ meas t b m = nI v := by
  obtain ⟨v, h1, h2, e⟩ := h.2.1 m hm
  obtain ⟨z, h3, e2⟩ := off_n m h
  exact ⟨v + z - 40, by omega, by rw [meas_off, e, e2, sh_n (by omega)]⟩
theorem oAt_mem {n : Nat} {w : Nat → Nat} {val : Nat → Int32} {k : Nat} {x : Int32} (h : oAt n w val k x) : ∃ b, b < n ∧ val b = x := by
  refine Classical.byContradiction fun c => ?_
  have h3 : oLe n w val x ≤ oLt n w val x := by
    refine sN_le (fun b hb => ?_)
    by_cases d : val b ≤ x
    · have hlt : val b < x := by
        rcases i_tri (val b) x with q | q | q
        · exact q
        · exact absurd ⟨b, hb, q⟩ c
        · exact absurd d (i_nle.mpr q)
      rw [if_pos hlt, if_pos d]
      exact Nat.le_refl _
    · rw [if_neg d]; exact Nat.zero_le _
  have h1 := h.1
  have h2 := h.2
  omega
theorem cutV_spec {u : zM} {n s m : Nat} {V : Nat → Nat → Int32} {C : Nat → Nat} (h : msd u n V C) (hn : n ≤ 12) (hs : s < 4096) (hm : m < 3) (h0 : 0 < tot n C s) (hC : ∀ b, 1 ≤ C b) (hC3 : ∀ b, C b ≤ 3) (rule : Int32) : isCut rule n (V m) C s (cutV rule n (V m) C s) := by
  have key : ∃ x, isCut rule n (V m) C s x := by
    unfold isCut
    by_cases c : rule = 1
    · obtain ⟨x, -, hx⟩ := middleOf_ok h hn hs hm h0 hC hC3
      exact ⟨x, by rw [if_pos c]; exact hx⟩
    · by_cases c2 : rule = 2
      · obtain ⟨x, -, hx⟩ := greatestOf_ok h hn hs hm h0 hC
        exact ⟨x, by rw [if_neg c, if_pos c2]; exact hx⟩
      · exact ⟨cSum n (V m) C s / nI (tot n C s), by rw [if_neg c, if_neg c2]⟩
  obtain ⟨x, hx⟩ := key
  rw [← hx.v]; exact hx
theorem tIs_ex (t : Nat → Int32) : ∃ u : zM, tIs u 1 t := by
  refine ⟨fun c j => if c = 1 then (if j = 6 then t 0 else if j = 7 then nI (tSet t) else t (j - 7)) else if c = 2 then tK t j else if c = 3 then tM t (j / 3) (j % 3) else if c = 4 then tB t j else if c = 5 then tP t j else if c = 6 then t (90 + j) else t (150 + j) - 1, rfl, rfl, rfl, rfl, rfl, rfl, rfl, fun b _ => rfl, fun b m _ hm => ?_, fun b _ => rfl, fun b _ => rfl, fun j _ => rfl, fun i _ => rfl⟩
  show tM t ((3 * b + m) / 3) ((3 * b + m) % 3) = tM t b m
  rw [show (3 * b + m) / 3 = b by omega, show (3 * b + m) % 3 = m by omega]
theorem coat_spec {t : Nat → Int32} {n s m : Nat} (ho : tOk t n) (hs : sOk n s) (h0 : s ≠ 0) (hm : m < 3) (rule : Int32) : isCut rule n (fun b => meas t b m) (cnt t) s (cutV rule n (fun b => meas t b m) (cnt t) s) := by
  obtain ⟨u, hu⟩ := tIs_ex t
  obtain ⟨v, -, -, h⟩ := measureAll_ok hu ho
  exact cutV_spec (V := fun m b => meas t b m) h ho.1 hs.1 hm (hs.pos h0 (cnt_pos t)) (cnt_pos t) (cnt_le t) rule
theorem cSum_n {s d : Nat} {V : Nat → Int32} {C : Nat → Nat} : ∀ n : Nat, (∀ b, b < n → ∃ v, v ≤ d ∧ V b = nI v) → ∃ A, A ≤ d * tot n C s ∧ cSum n V C s = nI A := by
  intro n
  induction n with
  | zero => exact fun _ => ⟨0, Nat.zero_le _, rfl⟩
  | succ n ih =>
    intro hV
    obtain ⟨A, h1, h2⟩ := ih (fun b hb => hV b (by omega))
    obtain ⟨v, h3, h4⟩ := hV n (by omega)
    have e1 : cSum (n + 1) V C s = cSum n V C s + (if s.testBit n = true then V n * nI (C n) else 0) := rfl
    have e2 : tot (n + 1) C s = tot n C s + wt C s n := rfl
    rw [e1, e2, h2, Nat.mul_add]
    by_cases c : s.testBit n = true
    · have e3 : wt C s n = C n := if_pos c
      refine ⟨A + v * C n, ?_, ?_⟩
      · rw [e3]
        exact Nat.add_le_add h1 (Nat.mul_le_mul_right _ h3)
      · rw [if_pos c, h4, q_mul, q_add]
    · refine ⟨A, Nat.le_trans h1 (Nat.le_add_right _ _), ?_⟩
      rw [if_neg c, Int32.add_zero]
theorem cSum_mono {s d : Nat} {V V' : Nat → Int32} {C : Nat → Nat} (hd : d ≤ 100000) : ∀ n : Nat, (∀ b, b < n → ∃ v, v ≤ d ∧ V b = nI v) → (∀ b, b < n → ∃ v, v ≤ d ∧ V' b = nI v) → (∀ b, b < n → V b ≤ V' b) → ∃ A A', A ≤ A' ∧ A' ≤ d * tot n C s ∧ cSum n V C s = nI A ∧ cSum n V' C s = nI A' := by
  intro n
  induction n with
  | zero => exact fun _ _ _ => ⟨0, 0, Nat.le_refl _, Nat.zero_le _, rfl, rfl⟩
  | succ n ih =>
    intro hV hV' hle
    obtain ⟨A, A', h0, h1, h2, h2'⟩ := ih (fun b hb => hV b (by omega)) (fun b hb => hV' b (by omega)) (fun b hb => hle b (by omega))
    obtain ⟨v, h3, h4⟩ := hV n (by omega)
    obtain ⟨v', h3', h4'⟩ := hV' n (by omega)
    have h5 := hle n (by omega)
    rw [h4, h4', q_le (by omega) (by omega)] at h5
    have e1 : ∀ V : Nat → Int32, cSum (n + 1) V C s = cSum n V C s + (if s.testBit n = true then V n * nI (C n) else 0) := fun _ => rfl
    have e2 : tot (n + 1) C s = tot n C s + wt C s n := rfl
    rw [e1, e1, e2, h2, h2', Nat.mul_add]
    by_cases c : s.testBit n = true
    · have e3 : wt C s n = C n := if_pos c
      refine ⟨A + v * C n, A' + v' * C n, Nat.add_le_add h0 (Nat.mul_le_mul_right _ h5), ?_, ?_, ?_⟩
      · rw [e3]
        exact Nat.add_le_add h1 (Nat.mul_le_mul_right _ h3')
      · rw [if_pos c, h4, q_mul, q_add]
      · rw [if_pos c, h4', q_mul, q_add]
    · refine ⟨A, A', h0, Nat.le_trans h1 (Nat.le_add_right _ _), ?_, ?_⟩
      · rw [if_neg c, Int32.add_zero]
      · rw [if_neg c, Int32.add_zero]
section CUTN
variable {rule x x' : Int32} {n s d : Nat} {V V' : Nat → Int32} {C : Nat → Nat}
theorem isCut_n (hV : ∀ b, b < n → ∃ v, v ≤ d ∧ V b = nI v) (hd : d ≤ 100000) (h36 : tot n C s ≤ 36) (h0 : 0 < tot n C s) (h : isCut rule n V C s x) : ∃ v, v ≤ d ∧ x = nI v := by
  have hm : ∀ k, oAt n (wt C s) V k x → ∃ v, v ≤ d ∧ x = nI v := by
    intro k h
    obtain ⟨b, hb, e⟩ := oAt_mem h
    obtain ⟨v, hv, e2⟩ := hV b hb
    exact ⟨v, hv, by rw [← e, e2]⟩
  unfold isCut at h
  by_cases c : rule = 1
  · rw [if_pos c] at h
    exact hm _ h
  · rw [if_neg c] at h
    by_cases c2 : rule = 2
    · rw [if_pos c2] at h
      exact hm _ h
    · rw [if_neg c2] at h
      obtain ⟨A, hA, e⟩ := cSum_n (C := C) (s := s) n hV
      have hB := Nat.mul_le_mul hd h36
      refine ⟨A / tot n C s, Nat.div_le_of_le_mul (by rw [Nat.mul_comm]; exact hA), ?_⟩
      rw [h, e, q_div (by omega) h0 (by omega)]
theorem isCut_mono (hV : ∀ b, b < n → ∃ v, v ≤ d ∧ V b = nI v) (hV' : ∀ b, b < n → ∃ v, v ≤ d ∧ V' b = nI v) (hle : ∀ b, b < n → V b ≤ V' b) (hd : d ≤ 100000) (h36 : tot n C s ≤ 36) (h0 : 0 < tot n C s) (h : isCut rule n V C s x) (h' : isCut rule n V' C s x') : x ≤ x' := by
  unfold isCut at h h'
  by_cases c : rule = 1
  · rw [if_pos c] at h h'
    exact oAt_mono hle h h'
  · rw [if_neg c] at h h'
    by_cases c2 : rule = 2
    · rw [if_pos c2] at h h'
      exact oAt_mono hle h h'
    · rw [if_neg c2] at h h'
      obtain ⟨A, A', hA, hA', e, e'⟩ := cSum_mono (C := C) (s := s) hd n hV hV' hle
      have hB := Nat.mul_le_mul hd h36
      have h1 : A / tot n C s ≤ A' / tot n C s := Nat.div_le_div_right hA
      have h2 : A' / tot n C s ≤ A' := Nat.div_le_self _ _
      rw [h, h', e, e', q_div (by omega) h0 (by omega), q_div (by omega) h0 (by omega), q_le (by omega) (by omega)]
      exact h1
end CUTN
theorem coat_n {t : Nat → Int32} {n s m : Nat} (ho : tOk t n) (hs : sOk n s) (h0 : s ≠ 0) (hm : m < 3) (rule : Int32) : ∃ v, v ≤ 290 ∧ cutV rule n (fun b => meas t b m) (cnt t) s = nI v :=
  isCut_n (fun b hb => meas_n (ho.2.2.1 b hb) hm) (by decide) (tot_le ho.1 (cnt_le t)) (hs.pos h0 (cnt_pos t)) (coat_spec ho hs h0 hm rule)
theorem neg_q : ∀ d, d < 1001 → 0 < d → ¬ (0 : Int32) ≤ -nI d := by decide +kernel
theorem neg_s {a b : Nat} (h : a ≤ b) : nI a - nI b = -nI (b - a) := by
  rw [← q_sub (a := b) h, Int32.neg_sub]
theorem abs_n {a b : Nat} (ha : a ≤ 1000) (hb : b ≤ 1000) : ∃ d, d ≤ 1000 ∧ zabs (nI a - nI b) = nI d := by
  unfold zabs
  rcases Nat.lt_or_ge a b with h | h
  · refine ⟨b - a, by omega, ?_⟩
    rw [neg_s (by omega), if_neg (neg_q (b - a) (by omega) (by omega)), Int32.zero_sub, Int32.neg_neg]
  · refine ⟨a - b, by omega, ?_⟩
    rw [q_sub h, if_pos (show (0 : Int32) ≤ nI (a - b) from (q_le (a := 0) (by decide) (by omega)).mpr (Nat.zero_le _))]
theorem sI3 (f : Nat → Int32) : sI f 3 = f 0 + f 1 + f 2 := by
  show 0 + f 0 + f 1 + f 2 = _
  rw [Int32.zero_add]
theorem sI3_n {f : Nat → Int32} {d : Nat} (h : ∀ m, m < 3 → ∃ v, v ≤ d ∧ f m = nI v) : ∃ v, v ≤ 3 * d ∧ sI f 3 = nI v := by
  obtain ⟨a, h1, e1⟩ := h 0 (by decide)
  obtain ⟨b, h2, e2⟩ := h 1 (by decide)
  obtain ⟨c, h3, e3⟩ := h 2 (by decide)
  exact ⟨a + b + c, by omega, by rw [sI3, e1, e2, e3, q_add, q_add]⟩
theorem far_n {t : Nat → Int32} {b : Nat} {K : Nat → Int32} (h : tBd t b) (hK : ∀ m, m < 3 → ∃ v, v ≤ 290 ∧ K m = nI v) : ∃ F, F ≤ 3000 ∧ far t b K = nI F := by
  refine sI3_n (d := 1000) (fun m hm => ?_)
  obtain ⟨v, -, h2, e⟩ := h.2.1 m hm
  obtain ⟨w, h3, e2⟩ := hK m hm
  rw [e, e2]
  exact abs_n (by omega) (by omega)
theorem cost_n {t : Nat → Int32} {b : Nat} {K : Nat → Int32} (h : tBd t b) (hK : ∀ m, m < 3 → ∃ v, v ≤ 290 ∧ K m = nI v) : ∃ c, c ≤ 3000 ∧ costS t b K = nI c := by
  obtain ⟨F, hF, e⟩ := far_n h hK
  obtain ⟨p, hp, e2⟩ := h.2.2.2
  unfold costS zmax
  rw [e, e2]
  split
  · rename_i z
    rcases Nat.lt_or_ge F p with q | q
    · rw [neg_s (by omega)] at z
      exact absurd (i_lt_le' z) (neg_q (p - F) (by omega) (by omega))
    · exact ⟨F - p, by omega, q_sub q⟩
  · exact ⟨0, by decide, rfl⟩
theorem pair_n {t : Nat → Int32} {a b : Nat} {K : Nat → Int32} (h : tBd t a) (h' : tBd t b) (hK : ∀ m, m < 3 → ∃ v, v ≤ 290 ∧ K m = nI v) : ∃ F, F ≤ 3000 ∧ farP t a b K = nI F := by
  refine sI3_n (d := 1000) (fun m hm => ?_)
  obtain ⟨v, -, h2, e⟩ := h.2.1 m hm
  obtain ⟨v', -, h2', e'⟩ := h'.2.1 m hm
  obtain ⟨w, h3, e2⟩ := hK m hm
  have e3 : (nI v + nI v') / 2 = nI ((v + v') / 2) := by
    rw [q_add]; exact q_div (d := 2) (by omega) (by decide) (by decide)
  rw [e, e', e2, e3]
  exact abs_n (by omega) (by omega)
theorem coat_nK {t : Nat → Int32} {n s : Nat} (ho : tOk t n) (hs : sOk n s) (h0 : s ≠ 0) : ∀ m, m < 3 → ∃ v, v ≤ 290 ∧ coatV t n s m = nI v := fun m hm => coat_n ho hs h0 hm (t 1)
/-! SWAYS -/
theorem tWith_off (t : Nat → Int32) {b m : Nat} (hm : m < 3) (x : Int32) (b' m' : Nat) : off (tWith t b m x) b' m' = off t b' m' := by
  unfold off tK tB tWith
  simp only [upd_o t x (show 6 + 7 * b' ≠ 6 + 7 * b + (1 + m) by omega), upd_o t x (show 6 + 7 * b' + 4 ≠ 6 + 7 * b + (1 + m) by omega)]
theorem tWith_cnt (t : Nat → Int32) {b m : Nat} (hm : m < 3) (x : Int32) : cnt (tWith t b m x) = cnt t := by
  funext b'
  unfold cnt tK tWith
  simp only [upd_o t x (show 6 + 7 * b' ≠ 6 + 7 * b + (1 + m) by omega)]
theorem tWith_tM (t : Nat → Int32) {b m : Nat} (hm : m < 3) (x : Int32) (b' : Nat) : tM (tWith t b m x) b' m = if b' = b then x else tM t b' m := by
  unfold tM tWith
  by_cases c : b' = b
  · subst c
    rw [if_pos rfl, show 6 + 7 * b' + 1 + m = 6 + 7 * b' + (1 + m) by omega, upd_s]
  · rw [if_neg c, upd_o _ _ (by omega)]
theorem sway_mono {t : Nat → Int32} {n b m v v' : Nat} (ho : tOk t n) (hb : b < n) (hm : m < 3) (h1 : 50 ≤ v) (h2 : v ≤ v') (h3 : v' ≤ 250) (h0 : tSet t ≠ 0) : coatV (tWith t b m (nI v)) n (tSet t) m ≤ coatV (tWith t b m (nI v')) n (tSet t) m := by
  have hs := tSet_sOk ho
  have o1 := ho.wi (m := m) hb hm h1 (by omega)
  have o2 := ho.wi (m := m) (x := v') hb hm (by omega) h3
  have s1 := coat_spec o1 hs h0 hm (t 1)
  have s2 := coat_spec o2 hs h0 hm (t 1)
  unfold coatV
  rw [tWith_1, tWith_1]
  rw [tWith_cnt t hm] at s1 s2 ⊢
  rw [tWith_cnt t hm]
  refine isCut_mono (fun b' hb' => meas_n (o1.2.2.1 b' hb') hm) (fun b' hb' => meas_n (o2.2.2.1 b' hb') hm) (fun b' hb' => ?_) (by decide) (tot_le ho.1 (cnt_le t)) (hs.pos h0 (cnt_pos t)) s1 s2
  obtain ⟨z, hz, ez⟩ := off_n m (ho.2.2.1 b' hb')
  obtain ⟨w, w1, w2, ew⟩ := (ho.2.2.1 b' hb').2.1 m hm
  rw [meas_off, meas_off, tWith_off t hm, tWith_off t hm, tWith_tM t hm, tWith_tM t hm, ez]
  by_cases c : b' = b
  · rw [if_pos c, if_pos c, sh_n (by omega), sh_n (by omega), q_le (by omega) (by omega)]
    omega
  · rw [if_neg c, if_neg c]
    exact i_le_refl _
theorem cis5 {u w : zM} {t : Nat → Int32} {n b m v : Nat} (ht : tIs u 1 t) (ho : tOk t n) (hb : b < n) (hm : m < 3) (h1 : 50 ≤ v) (h2 : v ≤ 250) (h : clsS u (3 * b + m) w) (h0 : tSet t ≠ 0) : ∃ w', m_X5_coatIfSized (nI b) (nI m) (nI v) w = some (coatV (tWith t b m (nI v)) n (tSet t) m, w') ∧ clsS u (3 * b + m) w' := by
  have hn := ho.1
  have ht' : tIs (zst w 3 (3 * b + m) (nI v)) 1 (tWith t b m (nI v)) := (ht.wi (by omega) hm).cls (h.st _)
  have ho' : tOk (tWith t b m (nI v)) n := ho.wi hb hm h1 h2
  obtain ⟨w2, e3, h3, h4⟩ := measureAll_ok ht' ho'
  have ht2 := ht'.cls (measP h3)
  unfold m_X5_coatIfSized
  refine ⟨w2, ?_, (h.nx (measP h3)).1⟩
  rw [si5 (by omega) hm, zbind_s, e3, zbind_s, ht2.2.1, ht2.2.2.1, tWith_set t hm, cutOne_ok h4 hn (tSet_lt t) hm ((tSet_sOk ho).pos h0 (cnt_pos _)) (cnt_pos _) (cnt_le _), zbind_s]
  rfl
theorem p_sways : B_sways Inv := by
  intro a a2 u hu
  obtain ⟨⟨n, ho⟩, ht⟩ := id hu.1
  have hn := ho.1
  unfold m_X5_sways m_X6_sways
  simp only [ib5_eq (ht.1.trans ho.2.1), im_eq, im6_eq, if_0]
  by_cases c : (0 : Int32) ≤ a ∧ a ≤ nI n - 1
  · rw [if_neg (fun z => z c)]
    by_cases d : (0 : Int32) ≤ a2 ∧ a2 ≤ 2
    · rw [if_neg (fun z => z d)]
      obtain ⟨b, hb, rfl⟩ := (below a n (by omega)).mp c
      obtain ⟨m, -, hm, rfl⟩ := (btw a2 0 2 (by decide) (by decide)).mp d
      have hm3 : m < 3 := by omega
      rw [ih5_eq ht (by omega)]
      by_cases f : hereP (u 40) b = true
      · have h0 : tSet (u 40) ≠ 0 := fun z => by
          have h := tSet_bit (u 40) (b := b) (by omega)
          rw [z, Nat.zero_testBit, f] at h; cases h
        rw [if_pos f, if_neg (show ¬ (1 : Int32) = 0 by decide), in5 ht (by omega) hm3, zbind_s]
        let F := fun v => coatV (tWith (u 40) b m (nI v)) n (tSet (u 40)) m
        obtain ⟨w1, e1, g1⟩ := cis5 (v := 250) ht ho hb hm3 (by decide) (by decide) (clsS.z u _) h0
        obtain ⟨v', e2, g2⟩ := cis5 (v := 50) ht ho hb hm3 (by decide) (by decide) g1 h0
        have e1' : m_X5_coatIfSized (nI b) (nI m) 250 u = some (F 250, w1) := e1
        have e2' : m_X5_coatIfSized (nI b) (nI m) 50 w1 = some (F 50, v') := e2
        rw [e1', zbind2_s, e2', zbind2_s, si5 (by omega) hm3, zbind_s]
        let v := zst v' 3 (3 * b + m) (tM (u 40) b m)
        have hv1 : clsP u v := by
          have e := g2.en
          rw [ht.2.2.2.2.2.2.2.2.1 b m (by omega) hm3] at e
          exact e
        have hI : Inv v := hu.congr hv1.same
        have e40 : v 40 = u 40 := hv1.q rfl
        obtain ⟨⟨x, x2, y⟩, e3, hx, hx2, y1⟩ : ∃ r : Int32 × Int32 × zM, zit zF (fun s : Int32 × Int32 × Int32 × zM => m_X6_sways_b0 (nI b) (nI m) (nI (tSet (u 40))) s.1 s.2.1 s.2.2.1 s.2.2.2) (9999, (-9999), 50, v) = some r ∧ r.1 = F 50 ∧ r.2.1 = F 250 ∧ refS v (6 + 7 * b + (1 + m)) r.2.2 := by
          refine zit_inv (fun k s => s.1 = (if k = 0 then 9999 else F 50) ∧ s.2.1 = (if k = 0 then -9999 else F (50 + (k - 1))) ∧ s.2.2.1 = nI (50 + k) ∧ refS v (6 + 7 * b + (1 + m)) s.2.2.2) 201 _ _ (by omega) ⟨rfl, rfl, rfl, refS.z v _⟩ ?_ ?_
          · rintro k ⟨x, y, z, w⟩ hk ⟨ex, ey, rfl, h1⟩
            simp only at ex ey h1 ⊢
            unfold m_X6_sways_b0
            have er : zst w 40 (6 + 7 * b + (1 + m)) (nI (50 + k)) 40 = tWith (u 40) b m (nI (50 + k)) := by rw [h1.row, e40]; rfl
            have ho' : tOk (tWith (u 40) b m (nI (50 + k))) n := ho.wi hb hm3 (by omega) (by omega)
            obtain ⟨w2, e4, h3⟩ := cutFor_ok (u := zst w 40 (6 + 7 * b + (1 + m)) (nI (50 + k))) (s := tSet (u 40)) (n := n) (m := m) (by rw [er]; exact ho') (tSet_lt _) hm3 (by rw [er]; exact (tSet_sOk ho).pos h0 (cnt_pos _))
            rw [er, cutV_cg (fun b' hb' => measW_0 (h1.slip hI.2.2.2.2.2 (nI (50 + k))) hn hm3 b' hb'), er] at e4
            have e4' : m_X6_cutFor (nI (tSet (u 40))) (nI m) (zst w 40 (6 + 7 * b + (1 + m)) (nI (50 + k))) = some (F (50 + k), w2) := e4
            have hc := (h1.nx h3.cut).1
            rw [if_neg (show ¬ (250 : Int32) < nI (50 + k) from fun z => by have := (q_lt (a := 250) (by decide) (by omega)).mp z; omega), idx67, zsv_n (by omega) (by decide), zbind_s, e4', zbind2_s]
            obtain ⟨q, hq, eq⟩ := coat_n ho' (tSet_sOk ho) h0 hm3 (tWith (u 40) b m (nI (50 + k)) 1)
            have eq' : F (50 + k) = nI q := eq
            refine ⟨_, rfl, ?_, ?_, q_add (50 + k) 1, hc⟩
            · show zmin x (F (50 + k)) = if k + 1 = 0 then 9999 else F 50
              rw [if_neg (by omega), ex]
              unfold zmin
              by_cases c0 : k = 0
              · subst c0
                rw [if_pos rfl, if_pos (by rw [eq']; exact (q_lt (b := 9999) (by omega) (by decide)).mpr (by omega))]
              · rw [if_neg c0, if_neg (fun z => i_nlt.mpr (sway_mono ho hb hm3 (by decide) (by omega) (by omega) h0) z)]
            · show zmax y (F (50 + k)) = if k + 1 = 0 then -9999 else F (50 + (k + 1 - 1))
              rw [if_neg (by omega), ey, Nat.add_sub_cancel]
              unfold zmax
              by_cases c0 : k = 0
              · subst c0
                rw [if_pos rfl, if_pos (by rw [eq']; exact i_lt_le (b := 0) (by decide) ((q_le (a := 0) (by decide) (by omega)).mpr (Nat.zero_le _)))]
              · rw [if_neg c0]
                have hle : F (50 + (k - 1)) ≤ F (50 + k) := sway_mono ho hb hm3 (by omega) (by omega) (by omega) h0
                by_cases c1 : F (50 + (k - 1)) < F (50 + k)
                · rw [if_pos c1]
                · rw [if_neg c1]
                  rcases i_tri (F (50 + (k - 1))) (F (50 + k)) with z | z | z
                  · exact absurd z c1
                  · exact z
                  · exact absurd hle (i_nle.mpr z)
          · rintro ⟨x, y, z, w⟩ ⟨ex, ey, ez, h1⟩
            simp only at ex ey ez h1 ⊢
            unfold m_X6_sways_b0
            rw [ez, if_pos (show (250 : Int32) < nI (50 + 201) by decide)]
            exact ⟨_, rfl, ex, ey, h1⟩
        simp only at hx hx2 y1
        refine ⟨F 250 - F 50, v, zst y 40 (6 + 7 * b + (1 + m)) (v 40 (6 + 7 * b + (1 + m))), rfl, ?_, hI.congr y1.en.same⟩
        have e3' := e3
        rw [ib6_eq (by rw [e40]; exact ho.2.1), if_pos c, if_neg (show ¬ (1 : Int32) = 0 by decide), if_neg (fun z => z d), away6 (n := n) (by rw [e40]; exact ho) (by omega), zbind_s, e40, if_pos f, if_pos rfl, idx67, zld_n (by omega) (by decide), zbind_s, hereSet_ok (by rw [e40]; exact ho), zbind_s, e40, e3']
        show zbind (zsv y 40 160 (nI (6 + 7 * b + (1 + m))) (u 40 (6 + 7 * b + (1 + m)))) (fun u27 => some (x2 - x, u27)) = _
        rw [zsv_n (by omega) (by decide), zbind_s, hx, hx2]
      · rw [if_neg f, if_pos rfl]
        refine fin (j := 4) (by decide) hu (g := fun u1 => _) rfl ?_
        rw [ib6_f ho.2.1, if_pos c, if_neg (show ¬ (1 : Int32) = 0 by decide), if_neg (fun z => z d), away6 (n := n) (by rw [fnd5_c 4 u (by decide)]; exact ho) (by omega), zbind_s, fnd5_c 4 u (by decide), if_neg f, if_neg (by decide)]; rfl
    · rw [if_pos d]
      refine fin0 hu (g := fun u1 => _) rfl ?_
      rw [ib6_f ho.2.1, if_pos c, if_neg (show ¬ (1 : Int32) = 0 by decide), if_pos d]
  · rw [if_pos c]
    refine fin0 hu (g := fun u1 => _) rfl ?_
    rw [ib6_f ho.2.1, if_neg c, if_pos rfl]
