/-! BRIBES: what they are, the class's tape, the reference's -/
def tBr (t : Nat → Int32) (b : Nat) (x : Int32) : Nat → Int32 := upd t (6 + 7 * b + 4) x
theorem tBr_o (t : Nat → Int32) {b j : Nat} (x : Int32) (h : j ≠ 6 + 7 * b + 4) : tBr t b x j = t j := upd_o t x h
theorem tBr_self (t : Nat → Int32) (b : Nat) : tBr t b (tB t b) = t := by
  funext j
  unfold tBr upd
  by_cases c : j = 6 + 7 * b + 4
  · rw [if_pos c, c]; rfl
  · rw [if_neg c]
theorem tBr_2 (t : Nat → Int32) (b : Nat) (x y : Int32) : tBr (tBr t b x) b y = tBr t b y := upd_upd t _ x y
theorem tBr_K (t : Nat → Int32) (b : Nat) (x : Int32) (b' : Nat) : tK (tBr t b x) b' = tK t b' := tBr_o t x (by omega)
theorem tBr_M (t : Nat → Int32) (b : Nat) (x : Int32) (b' : Nat) {m : Nat} (hm : m < 3) : tM (tBr t b x) b' m = tM t b' m := tBr_o t x (by omega)
theorem tBr_P (t : Nat → Int32) (b : Nat) (x : Int32) (b' : Nat) : tP (tBr t b x) b' = tP t b' := tBr_o t x (by omega)
theorem tBr_H (t : Nat → Int32) (b : Nat) (x : Int32) (b' : Nat) : tH (tBr t b x) b' = tH t b' := tBr_o t x (by omega)
theorem tBr_B (t : Nat → Int32) (b : Nat) (x : Int32) (b' : Nat) : tB (tBr t b x) b' = if b' = b then x else tB t b' := by
  unfold tB
  by_cases c : b' = b
  · subst c; rw [if_pos rfl]; exact upd_s t _ x
  · rw [if_neg c]; exact tBr_o t x (by omega)
theorem tBr_set (t : Nat → Int32) (b : Nat) (x : Int32) : tSet (tBr t b x) = tSet t := tSet_congr (fun b' _ => tBr_H t b x b')
theorem cnt_tBr (t : Nat → Int32) (b : Nat) (x : Int32) : cnt (tBr t b x) = cnt t := by
  funext b'
  unfold cnt
  rw [tBr_K]
theorem width_tBr (t : Nat → Int32) (b : Nat) (x : Int32) (b' : Nat) (y : Int32) : width (tBr t b x) b' y = width t b' y := by
  unfold width
  rw [tBr_K, tBr_M t b x b' (by decide)]
theorem meas_tBr (t : Nat → Int32) (b : Nat) (x : Int32) (b' : Nat) {m : Nat} (hm : m < 3) : meas (tBr t b x) b' m = if b' = b ∧ m = 1 then width t b x else meas t b' m := by
  unfold meas
  rw [width_tBr, tBr_K, tBr_M t b x b' hm, tBr_B]
  by_cases c1 : m = 1
  · rw [if_pos c1, if_pos c1]
    by_cases c : b' = b
    · subst c; rw [if_pos rfl, if_pos ⟨rfl, c1⟩]
    · rw [if_neg c, if_neg (fun z => c z.1)]
  · rw [if_neg c1, if_neg c1, if_neg (show ¬ (b' = b ∧ m = 1) from fun z => c1 z.2)]
theorem cost_tBr (t : Nat → Int32) (b : Nat) (x : Int32) (b' : Nat) (K : Nat → Int32) : costS (tBr t b x) b' K = costS t b' K := by
  have e : far (tBr t b x) b' K = far t b' K := sI_congr (fun m hm => by rw [tBr_M t b x b' hm])
  unfold costS
  rw [tBr_P, e]
theorem coat_tBr (t : Nat → Int32) (b : Nat) (x y : Int32) (n s : Nat) {m : Nat} (hm : m < 3) (h1 : m ≠ 1) : coatV (tBr t b x) n s m = coatV (tBr t b y) n s m := by
  unfold coatV
  rw [cnt_tBr t b x, cnt_tBr t b y, tBr_o t x (show 1 ≠ 6 + 7 * b + 4 by omega), tBr_o t y (show 1 ≠ 6 + 7 * b + 4 by omega)]
  exact cutV_cg (fun b' _ => by rw [meas_tBr t b x b' hm, meas_tBr t b y b' hm, if_neg (fun z => h1 z.2), if_neg (fun z => h1 z.2)])
/-- the bribes as they are tried -/
def bz (i : Nat) : Int := if i % 2 = 0 then ((i / 2 : Nat) : Int) else -(((i + 1) / 2 : Nat) : Int)
def bq (i : Nat) : Int32 := Int32.ofInt (bz i)
def brOk (x : Int32) : Prop := ∃ z : Int, -20 ≤ z ∧ z ≤ 20 ∧ x = Int32.ofInt z
theorem bq_ok {i : Nat} (h : i < 41) : brOk (bq i) := by
  refine ⟨bz i, ?_, ?_, rfl⟩
  · unfold bz; split <;> omega
  · unfold bz; split <;> omega
theorem bq_all {x : Int32} (h : brOk x) : ∃ i, i < 41 ∧ x = bq i := by
  obtain ⟨z, h1, h2, rfl⟩ := h
  rcases Int.lt_or_le z 0 with c | c
  · refine ⟨(-z).toNat * 2 - 1, by omega, ?_⟩
    unfold bq bz
    rw [if_neg (by omega)]
    congr 1; omega
  · refine ⟨z.toNat * 2, by omega, ?_⟩
    unfold bq bz
    rw [if_pos (by omega)]
    congr 1; omega
theorem bq_5 : ∀ i : Nat, i < 41 → ((if (zrem (nI i) 2) = 0 then some (nI i / 2) else some ((-(nI i + 1)) / 2)) : Option Int32) = some (bq i) := by decide +kernel
theorem bq_6 : ∀ k : Nat, k < 21 → 1 ≤ k → ¬ nI k < bq (2 * k - 1) ∧ ¬ nI k < bq (2 * k) ∧ nI k < bq (2 * k) + 2 * nI k ∧ -(nI k) = bq (2 * k - 1) ∧ bq (2 * k - 1) + 2 * nI k = bq (2 * k) := by decide +kernel
theorem tOk.br {t : Nat → Int32} {n b : Nat} {x : Int32} (h : tOk t n) (hb : b < n) (hx : brOk x) : tOk (tBr t b x) n :=
  h.bd (f := 4) hb (by decide) ⟨fun z => by omega, fun z => by omega, fun _ => hx, fun z => by omega⟩
/-- what the bribe x costs b -/
noncomputable def bC (t : Nat → Int32) (n b : Nat) (x : Int32) : Int32 := costS t b (coatV (tBr t b x) n (tSet t))
theorem bC_n {t : Nat → Int32} {n b : Nat} {x : Int32} (ho : tOk t n) (hb : b < n) (hx : brOk x) (h0 : tSet t ≠ 0) : ∃ c, c ≤ 3000 ∧ bC t n b x = nI c :=
  cost_n (ho.2.2.1 b hb) (coat_nK (ho.br hb hx) (tSet_sOk ho) h0)
/-- the best of the first i -/
noncomputable def bB (f : Int32 → Int32) : Nat → Int32 × Int32
  | 0 => (0, 1000000)
  | i + 1 => if (bB f i).2 ≤ f (bq i) then bB f i else (bq i, f (bq i))
theorem bB_min (f : Int32 → Int32) : ∀ k i, i < k → (bB f k).2 ≤ f (bq i) := by
  intro k
  induction k with
  | zero => intro i h; omega
  | succ k ih =>
    intro i h
    rw [bB]
    by_cases c : (bB f k).2 ≤ f (bq k)
    · rw [if_pos c]
      by_cases ci : i = k
      · rw [ci]; exact c
      · exact ih i (by omega)
    · rw [if_neg c]
      by_cases ci : i = k
      · rw [ci]; exact i_le_refl _
      · exact i_le_trans (i_lt_le' (i_nle.mp c)) (ih i (by omega))
theorem bB_of (f : Int32 → Int32) (h0 : ¬ (1000000 : Int32) ≤ f (bq 0)) : ∀ k, ∃ i, i < k + 1 ∧ bB f (k + 1) = (bq i, f (bq i)) := by
  intro k
  induction k with
  | zero =>
    refine ⟨0, by decide, ?_⟩
    rw [bB]
    exact if_neg h0
  | succ k ih =>
    obtain ⟨i, hi, e⟩ := ih
    rw [bB]
    by_cases c : (bB f (k + 1)).2 ≤ f (bq (k + 1))
    · rw [if_pos c]
      exact ⟨i, by omega, e⟩
    · rw [if_neg c]
      exact ⟨k + 1, by omega, rfl⟩
noncomputable def bestB (t : Nat → Int32) (n b : Nat) : Int32 := (bB (bC t n b) 41).1
theorem c0_ok {t : Nat → Int32} {n b : Nat} (ho : tOk t n) (hb : b < n) (h0 : tSet t ≠ 0) : ¬ (1000000 : Int32) ≤ bC t n b (bq 0) := by
  obtain ⟨c, hc, e⟩ := bC_n ho hb (bq_ok (i := 0) (by decide)) h0
  rw [e]
  exact fun z => by have := (q_le (a := 1000000) (by decide) (by omega)).mp z; omega
theorem bestB_ok {t : Nat → Int32} {n b : Nat} (ho : tOk t n) (hb : b < n) (h0 : tSet t ≠ 0) : brOk (bestB t n b) ∧ (∀ x, brOk x → bC t n b (bestB t n b) ≤ bC t n b x) := by
  obtain ⟨i, hi, e⟩ := bB_of (bC t n b) (c0_ok ho hb h0) 40
  unfold bestB
  rw [e]
  refine ⟨bq_ok hi, fun x hx => ?_⟩
  obtain ⟨j, hj, rfl⟩ := bq_all hx
  have h := bB_min (bC t n b) 41 j hj
  rw [e] at h
  exact h
/-- the tape shows the body b by the bribe x -/
def tw (u : zM) (t : Nat → Int32) (n b : Nat) (x : Int32) : Prop := msd u n (fun m b' => meas (tBr t b x) b' m) (cnt t) ∧ ∀ m, m < 3 → u 19 m = coatV (tBr t b x) n (tSet t) m
/-- the tape shows all as they are -/
def tz (u : zM) (t : Nat → Int32) (n : Nat) : Prop := msd u n (fun m b => meas t b m) (cnt t) ∧ (tSet t ≠ 0 → ∀ m, m < 3 → u 19 m = coatV t n (tSet t) m)
theorem tz.w {u : zM} {t : Nat → Int32} {n : Nat} (h : tz u t n) (h0 : tSet t ≠ 0) (b : Nat) : tw u t n b (tB t b) := by
  unfold tw
  rw [tBr_self]
  exact ⟨h.1, h.2 h0⟩
theorem tw.z {u : zM} {t : Nat → Int32} {n b : Nat} (h : tw u t n b (tB t b)) : tz u t n := by
  unfold tw at h
  rw [tBr_self] at h
  exact ⟨h.1, fun _ => h.2⟩
theorem cab5 {u : zM} {t : Nat → Int32} {n b : Nat} {x0 : Int32} (ht : tIs u 1 t) (ho : tOk t n) (hb : b < n) (h0 : tSet t ≠ 0) (h : tw u t n b x0) (x : Int32) : ∃ v, m_X5_costAtBribe (nI b) x u = some (bC t n b x, v) ∧ clsP u v ∧ tw v t n b x := by
  have hn := ho.1
  unfold m_X5_costAtBribe
  obtain ⟨v, e1, v1, v2⟩ := show_ok (x := width t b x) h.1 hn (m := 1) (by decide) hb
  have v3 : msd v n (fun m b' => meas (tBr t b x) b' m) (cnt t) := v2.ext (fun m b' hm hb' => by
    show meas (tBr t b x) b' m = if m = 1 ∧ b' = b then width t b x else meas (tBr t b x0) b' m
    rw [meas_tBr t b x b' hm, meas_tBr t b x0 b' hm]
    by_cases c : b' = b ∧ m = 1
    · rw [if_pos c, if_pos ⟨c.2, c.1⟩]
    · rw [if_neg c, if_neg c, if_neg (fun z => c ⟨z.2, z.1⟩)])
  have e7 : v 1 7 = nI (tSet t) := by rw [v1 1 (by decide) (by decide)]; exact ht.2.1
  have e8 : v 1 8 = t 1 := by rw [v1 1 (by decide) (by decide)]; exact ht.2.2.1
  have e2 : m_X2_cutOne 1 (nI (tSet t)) (t 1) v = some (cutV (t 1) n (fun b' => meas (tBr t b x) b' 1) (cnt t) (tSet t)) := cutOne_ok (m := 1) v3 hn (tSet_lt t) (by decide) ((tSet_sOk ho).pos h0 (cnt_pos t)) (cnt_pos t) (cnt_le t) (t 1)
  have e3 : cutV (t 1) n (fun b' => meas (tBr t b x) b' 1) (cnt t) (tSet t) = coatV (tBr t b x) n (tSet t) 1 := by
    unfold coatV
    rw [cnt_tBr, tBr_o t x (show 1 ≠ 6 + 7 * b + 4 by omega)]
  rw [e3] at e2
  let w := zst v 19 1 (coatV (tBr t b x) n (tSet t) 1)
  have hw : clsP u w := fun q a1 a2 a3 a4 a5 => (zst_o _ a5).trans (v1 q a2 a3)
  have hK : ∀ m, m < 3 → w 19 m = coatV (tBr t b x) n (tSet t) m := fun m hm => by
    by_cases c : m = 1
    · subst c; exact zst_s _ _ _ _
    · show zst v 19 1 (coatV (tBr t b x) n (tSet t) 1) 19 m = _
      rw [zst_j _ c, v1 19 (by decide) (by decide), h.2 m hm]
      exact coat_tBr t b x0 x n (tSet t) hm c
  have e9 : m_X2_costOf (nI b) (zst v 19 1 (coatV (tBr t b x) n (tSet t) 1)) = some (bC t n b x) := cost5 (ht.cls hw) hK (by omega)
  refine ⟨w, ?_, hw, v3.cg ⟨zst_o _ (by decide), zst_o _ (by decide), zst_o _ (by decide), zst_o _ (by decide)⟩, hK⟩
  rw [wi5 ht (by omega), zbind_s, show m_X2_show 1 (nI b) (width t b x) u = some v from e1, zbind_s, e7, e8, e2, zbind_s, zlet_s, e9, zbind_s]
theorem clsP.rfl' (u : zM) : clsP u u := fun _ _ _ _ _ _ => rfl
theorem best5 {u : zM} {t : Nat → Int32} {n b : Nat} (ht : tIs u 1 t) (ho : tOk t n) (hb : b < n) (h0 : tSet t ≠ 0) (h : tz u t n) : ∃ v, m_X5_bestBribe (nI b) u = some (bestB t n b, v) ∧ clsP u v ∧ ∃ x, tw v t n b x := by
  unfold m_X5_bestBribe
  obtain ⟨⟨x, v⟩, e, ex, h1, h2⟩ : ∃ r : Int32 × zM, zit zF (fun s : Int32 × Int32 × Int32 × zM => m_X5_bestBribe_b0 (nI b) s.1 s.2.1 s.2.2.1 s.2.2.2) (0, 1000000, 0, u) = some r ∧ r.1 = (bB (bC t n b) 41).1 ∧ clsP u r.2 ∧ ∃ x, tw r.2 t n b x := by
    refine zit_inv (fun k s => s.1 = (bB (bC t n b) k).1 ∧ s.2.1 = (bB (bC t n b) k).2 ∧ s.2.2.1 = nI k ∧ clsP u s.2.2.2 ∧ ∃ x, tw s.2.2.2 t n b x) 41 _ _ (by omega) ⟨rfl, rfl, rfl, clsP.rfl' u, _, h.w h0 b⟩ ?_ ?_
    · rintro k ⟨x, y, z, v⟩ hk ⟨ex, ey, ez, h1, x0, h2⟩
      simp only at ex ey ez h1 h2 ⊢
      subst ez
      unfold m_X5_bestBribe_b0
      obtain ⟨w, e, w1, w2⟩ := cab5 (ht.cls h1) ho hb h0 h2 (bq k)
      rw [if_neg (show ¬ (40 : Int32) < nI k from fun z => by have := (q_lt (a := 40) (by decide) (by omega)).mp z; omega), bq_5 k hk, zbind_s, e, zbind2_s, ex, ey, bB]
      by_cases c : (bB (bC t n b) k).2 ≤ bC t n b (bq k)
      · rw [if_pos c, if_pos c]
        exact ⟨_, rfl, rfl, rfl, q_add k 1, h1.tr w1, _, w2⟩
      · rw [if_neg c, if_neg c]
        exact ⟨_, rfl, rfl, rfl, q_add k 1, h1.tr w1, _, w2⟩
    · rintro ⟨x, y, z, v⟩ ⟨ex, ey, ez, h1, h2⟩
      simp only at ex ey ez h1 h2 ⊢
      unfold m_X5_bestBribe_b0
      rw [ez, if_pos (show (40 : Int32) < nI 41 by decide)]
      exact ⟨_, rfl, ex, h1, h2⟩
  simp only at ex h1 h2
  exact ⟨v, by rw [e, zbind2_s, ex]; rfl, h1, h2⟩
theorem cby6 {u : zM} {n b : Nat} {x : Int32} (hS : vSlip u) (ho : tOk (u 40) n) (hb : b < n) (h0 : tSet (u 40) ≠ 0) (hx : brOk x) : ∃ v, m_X6_costBy (nI b) x u = some (bC (u 40) n b x, v) ∧ cutP u v := by
  have hn := ho.1
  unfold m_X6_costBy
  have e1 : (6 : Int32) + 7 * nI b + 4 = nI (6 + 7 * b + 4) := idx7 b 4
  have er : zst u 40 (6 + 7 * b + 4) x 40 = tBr (u 40) b x := row_st u 40 _ x
  have ho' : tOk (zst u 40 (6 + 7 * b + 4) x 40) n := by rw [er]; exact ho.br hb hx
  obtain ⟨v, e2, v1, v2⟩ := cut6_s (u := zst u 40 (6 + 7 * b + 4) x) (n := n) (s := tSet (u 40)) (fun j hj => by rw [zst_o _ (by decide)]; exact hS j hj) ho' (tSet_sOk ho) h0
  have hr := ((refS.z u (6 + 7 * b + 4)).nx v1).1.en
  have e40 : zst v 40 (6 + 7 * b + 4) (u 40 (6 + 7 * b + 4)) 40 = u 40 := hr.q rfl (by decide)
  have hK : ∀ m, m < 3 → zst v 40 (6 + 7 * b + 4) (u 40 (6 + 7 * b + 4)) 43 m = coatV (tBr (u 40) b x) n (tSet (u 40)) m := fun m hm => by
    rw [zst_o _ (by decide), v2 m hm, er]
  refine ⟨zst v 40 (6 + 7 * b + 4) (u 40 (6 + 7 * b + 4)), ?_, hr⟩
  rw [e1, become_n (by omega), zbind2_s, hereSet_ok ho', zbind_s, er, tBr_set, e2, zbind_s, zsv_n (by omega) (by decide), zbind_s, cost6 hK (by omega), zbind_s, e40]
  rfl
theorem cutP.tr {u v w : zM} (h : cutP u v) (h' : cutP v w) : cutP u w := ⟨fun q a b c => (h'.1 q a b c).trans (h.1 q a b c), fun j a => (h'.2 j a).trans (h.2 j a)⟩
theorem best6 {u : zM} {n b : Nat} (hS : vSlip u) (ho : tOk (u 40) n) (hb : b < n) (h0 : tSet (u 40) ≠ 0) : ∃ v, m_X6_bribeOf (nI b) u = some (bestB (u 40) n b, v) ∧ cutP u v := by
  have hcb : ∀ (v : zM) (x : Int32), cutP u v → brOk x → ∃ w, m_X6_costBy (nI b) x v = some (bC (u 40) n b x, w) ∧ cutP u w := by
    intro v x h hx
    have e40 : v 40 = u 40 := h.q rfl (by decide)
    obtain ⟨w, e, w1⟩ := cby6 (u := v) (n := n) (b := b) (x := x) (fun j hj => by rw [h.q rfl (by decide)]; exact hS j hj) (by rw [e40]; exact ho) hb (by rw [e40]; exact h0) hx
    rw [e40] at e
    exact ⟨w, e, h.tr w1⟩
  unfold m_X6_bribeOf
  obtain ⟨v0, e0, h0'⟩ := hcb u (bq 0) ⟨fun _ _ _ _ => rfl, fun _ _ => rfl⟩ (bq_ok (by decide))
  have eb1 : bB (bC (u 40) n b) 1 = (0, bC (u 40) n b (bq 0)) := by
    rw [bB]
    exact if_neg (c0_ok ho hb h0)
  rw [show m_X6_costBy (nI b) 0 u = some (bC (u 40) n b (bq 0), v0) from e0, zbind2_s]
  obtain ⟨⟨x, v⟩, e, ex, h1⟩ : ∃ r : Int32 × zM, zit zF (fun s : Int32 × Int32 × Int32 × zM => m_X6_bribeOf_b0 (nI b) s.1 s.2.1 s.2.2.1 s.2.2.2) (0, bC (u 40) n b (bq 0), 1, v0) = some r ∧ r.1 = (bB (bC (u 40) n b) 41).1 ∧ cutP u r.2 := by
    refine zit_inv (fun k s => s.1 = (bB (bC (u 40) n b) (2 * k + 1)).1 ∧ s.2.1 = (bB (bC (u 40) n b) (2 * k + 1)).2 ∧ s.2.2.1 = nI (k + 1) ∧ cutP u s.2.2.2) 20 _ _ (by omega) ⟨by rw [eb1], by rw [eb1], rfl, h0'⟩ ?_ ?_
    · rintro k ⟨x, y, z, v⟩ hk ⟨ex, ey, ez, h1⟩
      simp only at ex ey ez h1 ⊢
      subst ez
      unfold m_X6_bribeOf_b0
      obtain ⟨b1, b2, b3, b4, b5⟩ := bq_6 (k + 1) (by omega) (by omega)
      rw [show 2 * (k + 1) - 1 = 2 * k + 1 by omega] at b1 b4 b5
      rw [show 2 * (k + 1) = 2 * k + 2 by omega] at b2 b3 b5
      rw [if_neg (show ¬ (20 : Int32) < nI (k + 1) from fun z => by have := (q_lt (a := 20) (by decide) (by omega)).mp z; omega), b4]
      obtain ⟨⟨x', y', w⟩, e, ex', ey', w1⟩ : ∃ r : Int32 × Int32 × zM, zit zF (fun s : Int32 × Int32 × Int32 × zM => m_X6_bribeOf_b1 (nI (k + 1)) (nI b) s.1 s.2.1 s.2.2.1 s.2.2.2) (x, y, bq (2 * k + 1), v) = some r ∧ r.1 = (bB (bC (u 40) n b) (2 * k + 3)).1 ∧ r.2.1 = (bB (bC (u 40) n b) (2 * k + 3)).2 ∧ cutP u r.2.2 := by
        refine zit_inv (fun j s => s.1 = (bB (bC (u 40) n b) (2 * k + 1 + j)).1 ∧ s.2.1 = (bB (bC (u 40) n b) (2 * k + 1 + j)).2 ∧ s.2.2.1 = (if j = 0 then bq (2 * k + 1) else if j = 1 then bq (2 * k + 2) else bq (2 * k + 2) + 2 * nI (k + 1)) ∧ cutP u s.2.2.2) 2 _ _ (by omega) ⟨ex, ey, rfl, h1⟩ ?_ ?_
        · rintro j ⟨x, y, z, v⟩ hj ⟨ex, ey, ez, h1⟩
          simp only at ex ey ez h1 ⊢
          unfold m_X6_bribeOf_b1
          have hz : z = bq (2 * k + 1 + j) ∧ ¬ nI (k + 1) < z ∧ z + 2 * nI (k + 1) = (if j + 1 = 0 then bq (2 * k + 1) else if j + 1 = 1 then bq (2 * k + 2) else bq (2 * k + 2) + 2 * nI (k + 1)) := by
            have hj2 : j = 0 ∨ j = 1 := by omega
            rcases hj2 with rfl | rfl
            · rw [if_pos rfl] at ez
              rw [ez]
              exact ⟨rfl, b1, by rw [if_neg (by decide), if_pos rfl]; exact b5⟩
            · rw [if_neg (by decide), if_pos rfl] at ez
              rw [ez]
              exact ⟨rfl, b2, by rw [if_neg (by decide), if_neg (by decide)]⟩
          obtain ⟨z1, z2, z3⟩ := hz
          obtain ⟨w, e, w1⟩ := hcb v z h1 (by rw [z1]; exact bq_ok (by omega))
          rw [if_neg z2, e, zbind2_s, z3, ← Nat.add_assoc, bB, ex, ey, ← z1]
          by_cases c : (bB (bC (u 40) n b) (2 * k + 1 + j)).2 ≤ bC (u 40) n b z
          · rw [if_pos c, if_pos c]
            exact ⟨_, rfl, rfl, rfl, rfl, w1⟩
          · rw [if_neg c, if_neg c]
            exact ⟨_, rfl, rfl, rfl, rfl, w1⟩
        · rintro ⟨x, y, z, v⟩ ⟨ex, ey, ez, h1⟩
          simp only at ex ey ez h1 ⊢
          unfold m_X6_bribeOf_b1
          rw [if_neg (by decide), if_neg (by decide)] at ez
          rw [ez, if_pos b3]
          exact ⟨_, rfl, ex, ey, h1⟩
      simp only at ex' ey' w1
      rw [e]
      exact ⟨_, rfl, ex', ey', q_add (k + 1) 1, w1⟩
    · rintro ⟨x, y, z, v⟩ ⟨ex, ey, ez, h1⟩
      simp only at ex ey ez h1 ⊢
      unfold m_X6_bribeOf_b0
      rw [ez, if_pos (show (20 : Int32) < nI (20 + 1) by decide)]
      exact ⟨_, rfl, ex, h1⟩
  simp only at ex h1
  exact ⟨v, by rw [e, zbind2_s, ex]; rfl, h1⟩
/-- does a body bribe -/
def dB (t : Nat → Int32) (b : Nat) : Bool := hereP t b && (decide (tK t b = 2) || decide (tK t b = 6))
theorem dB_set {t : Nat → Int32} {b : Nat} (hb : b < 12) (h : dB t b = true) : tSet t ≠ 0 := fun z => by
  have e := tSet_bit t hb
  unfold dB at h
  rw [z, Nat.zero_testBit] at e
  rw [← e] at h
  cases h
theorem und_2 : ∀ k, k < 7 → (und k 2 = 0 ↔ ¬ (nI k = 2 ∨ nI k = 6)) := by decide +kernel
theorem dB5 {u : zM} {t : Nat → Int32} {n b : Nat} (ht : tIs u 1 t) (ho : tOk t n) (hb : b < n) : m_X4_bribesHere (nI b) u = some (if dB t b = true then 1 else 0) := by
  have hn := ho.1
  obtain ⟨k, hk, ek⟩ := (ho.2.2.1 b hb).1
  unfold m_X4_bribesHere dB
  rw [ih5_eq ht (by omega), kd5 ht (by omega), ek]
  cases hh : hereP t b
  · rw [if_pos (show (if false = true then (1 : Int32) else 0) = 0 by decide)]; rfl
  · rw [if_pos rfl, if_neg (show ¬ (1 : Int32) = 0 by decide), zbind_s, show m_X5_isUnder (nI k) 2 = some (und k 2) from un5 k (by omega) 2 (by decide), zbind_s, Bool.true_and]
    by_cases c : und k 2 = 0
    · rw [if_pos c, if_neg]
      rw [Bool.or_eq_true, decide_eq_true_eq, decide_eq_true_eq]
      exact (und_2 k (by omega)).mp c
    · rw [if_neg c, if_pos]
      rw [Bool.or_eq_true, decide_eq_true_eq, decide_eq_true_eq]
      exact Classical.byContradiction fun z => c ((und_2 k (by omega)).mpr z)
theorem dB6 {u : zM} {b : Nat} (hb : b < 12) : m_X6_doesBribe (nI b) u = some (if dB (u 40) b = true then 1 else 0) := by
  unfold m_X6_doesBribe dB hereP
  rw [show m_X6_bodyIs (nI b) 6 u = some (tH (u 40) b) from bi6 u (f := 6) hb (by decide), zbind_s, show m_X6_bodyIs (nI b) 0 u = some (tK (u 40) b) from bi6 u (f := 0) hb (by decide), zbind_s, zbind_s]
  by_cases c1 : tH (u 40) b = 1
  · rw [if_pos c1, decide_eq_true c1, Bool.true_and]
    by_cases c2 : tK (u 40) b = 2
    · rw [if_pos c2, decide_eq_true c2, Bool.true_or, if_pos rfl]
    · rw [if_neg c2, decide_eq_false c2, Bool.false_or]
      by_cases c6 : tK (u 40) b = 6
      · rw [if_pos c6, decide_eq_true c6, if_pos rfl]
      · rw [if_neg c6, decide_eq_false c6]; rfl
  · rw [if_neg c1, decide_eq_false c1, Bool.false_and]; rfl
theorem cfah_z {u : zM} {n : Nat} (hu : Inv u) (ho : tOk (u 40) n) : ∃ r v, m_X5_cutForAllHere u = some (r, v) ∧ clsP u v ∧ tz v (u 40) n := by
  obtain ⟨v, h1, h2, h⟩ := cfah_ok hu ho
  rcases h with ⟨h3, h4⟩ | ⟨h3, h4, h5⟩
  · exact ⟨_, v, h4, h1, h2, fun z => absurd h3 z⟩
  · exact ⟨_, v, h4, h1, h2, fun _ => h5⟩
theorem p_bribe : B_bribe Inv := by
  intro a u hu
  obtain ⟨⟨n, ho⟩, ht⟩ := id hu.1
  have hn := ho.1
  unfold m_X5_bribe m_X6_bribe
  simp only [ib5_eq (ht.1.trans ho.2.1), if_0]
  by_cases c : (0 : Int32) ≤ a ∧ a ≤ nI n - 1
  · rw [if_neg (fun z => z c)]
    obtain ⟨b, hb, rfl⟩ := (below a n (by omega)).mp c
    rw [dB5 ht ho hb, zbind_s]
    by_cases d : dB (u 40) b = true
    · rw [if_pos d, if_neg (show ¬ (1 : Int32) = 0 by decide)]
      have h0 := dB_set (by omega) d
      obtain ⟨r, v, e1, v1, v2⟩ := cfah_z hu ho
      obtain ⟨w, e2, w1, -⟩ := best5 (ht.cls v1) ho hb h0 v2
      have hI := hu.congr (v1.tr w1).same
      have e40 : w 40 = u 40 := (v1.tr w1).q rfl
      obtain ⟨y, e3, y1⟩ := best6 (u := w) (n := n) (b := b) hI.2.2.2.2.2 (by rw [e40]; exact ho) hb (by rw [e40]; exact h0)
      rw [e40] at e3
      refine ⟨bestB (u 40) n b, w, y, ?_, ?_, hI.congr y1.same⟩
      · rw [e1, zbind2_s, e2, zbind2_s]
      · rw [ib6_eq (by rw [e40]; exact ho.2.1), if_pos c, if_neg (show ¬ (1 : Int32) = 0 by decide), dB6 (by omega), zbind_s, e40, if_pos d, if_neg (show ¬ (1 : Int32) = 0 by decide), e3, zbind2_s]
    · rw [if_neg d, if_pos rfl]
      refine fin (j := 4) (by decide) hu (g := fun u1 => _) rfl ?_
      rw [ib6_f ho.2.1, if_pos c, if_neg (show ¬ (1 : Int32) = 0 by decide), dB6 (by omega), zbind_s, fnd5_c 4 u (by decide), if_neg d, if_pos rfl]; rfl
  · rw [if_pos c]
    refine fin0 hu (g := fun u1 => _) rfl ?_
    rw [ib6_f ho.2.1, if_neg c, if_pos rfl]
