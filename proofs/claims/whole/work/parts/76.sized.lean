/-! SIZED -/
/-- w is v but for the place i of the row `now`, and what a coat's cutting changes -/
def refS (v : zM) (i : Nat) (w : zM) : Prop := cutP (zst v 40 i (w 40 i)) w
theorem refS.z (v : zM) (i : Nat) : refS v i v := by
  unfold refS
  rw [zst_self v 40 i _ rfl]
  exact ⟨fun _ _ _ _ => rfl, fun _ _ => rfl⟩
theorem upd_upd (f : Nat → Int32) (i : Nat) (a b : Int32) : upd (upd f i a) i b = upd f i b := by
  funext j; unfold upd; by_cases c : j = i <;> simp [c]
theorem refS.row {v w : zM} {i : Nat} (h : refS v i w) (x : Int32) : zst w 40 i x 40 = upd (v 40) i x := by
  rw [row_st, h.1 40 (by decide) (by decide) (by decide), row_st, upd_upd]
theorem refS.nx {v w w' : zM} {i : Nat} {x : Int32} (h : refS v i w) (h' : cutP (zst w 40 i x) w') : refS v i w' ∧ w' 40 i = x := by
  have e : w' 40 i = x := by rw [h'.1 40 (by decide) (by decide) (by decide), zst_s]
  refine ⟨?_, e⟩
  unfold refS
  rw [e]
  refine ⟨fun q a b c => ?_, fun j hj => ?_⟩
  · rw [h'.1 q a b c]
    by_cases cq : q = 40
    · subst cq; rw [h.row, row_st]
    · rw [zst_o _ cq, h.1 q a b c, zst_o _ cq, zst_o _ cq]
  · rw [h'.2 j hj, zst_o _ (by decide), h.2 j hj, zst_o _ (by decide), zst_o _ (by decide)]
theorem refS.en {v w : zM} {i : Nat} (h : refS v i w) : cutP v (zst w 40 i (v 40 i)) := by
  refine ⟨fun q a b c => ?_, fun j hj => ?_⟩
  · by_cases cq : q = 40
    · subst cq; rw [h.row]; funext j; unfold upd; by_cases c : j = i <;> simp [c]
    · rw [zst_o _ cq, h.1 q a b c, zst_o _ cq]
  · rw [zst_o _ (by decide), h.2 j hj, zst_o _ (by decide)]
theorem refS.slip {v w : zM} {i : Nat} (h : refS v i w) (hv : vSlip v) (x : Int32) : vSlip (zst w 40 i x) := by
  intro j hj
  rw [zst_o _ (by decide), h.1 44 (by decide) (by decide) (by decide), zst_o _ (by decide)]
  exact hv j hj
/-- w is u but for the place i of the inches, and what the tailor changes -/
def clsS (u : zM) (i : Nat) (w : zM) : Prop := clsP (zst u 3 i (w 3 i)) w
theorem clsS.z (v : zM) (i : Nat) : clsS v i v := by
  unfold clsS
  rw [zst_self v 3 i _ rfl]
  exact fun _ _ _ _ _ _ => rfl
theorem clsS.st {v w : zM} {i : Nat} (h : clsS v i w) (x : Int32) : clsP (zst v 3 i x) (zst w 3 i x) := by
  intro q a b c d e
  by_cases cq : q = 3
  · subst cq; rw [row_st, row_st, h.q rfl, row_st, upd_upd]
  · rw [zst_o _ cq, zst_o _ cq, h q a b c d e, zst_o _ cq]
theorem clsP.tr {u v w : zM} (h : clsP u v) (h' : clsP v w) : clsP u w := fun q a b c d e => (h' q a b c d e).trans (h q a b c d e)
theorem clsS.nx {v w w' : zM} {i : Nat} {x : Int32} (h : clsS v i w) (h' : clsP (zst w 3 i x) w') : clsS v i w' ∧ w' 3 i = x := by
  have e : w' 3 i = x := by rw [h'.q rfl, zst_s]
  refine ⟨?_, e⟩
  unfold clsS
  rw [e]
  exact (h.st x).tr h'
theorem clsS.en {v w : zM} {i : Nat} (h : clsS v i w) : clsP v (zst w 3 i (v 3 i)) := by
  have e := h.st (v 3 i)
  rw [zst_self v 3 i _ rfl] at e
  exact e
theorem measP {u v : zM} (h : ∀ q, q ≠ 15 → q ≠ 16 → q ≠ 17 → q ≠ 18 → v q = u q) : clsP u v := fun q a b c d _ => h q a b c d
/-- the town with one measure changed -/
def tWith (t : Nat → Int32) (b m : Nat) (x : Int32) : Nat → Int32 := upd t (6 + 7 * b + (1 + m)) x
theorem tWith_set (t : Nat → Int32) {b m : Nat} (hm : m < 3) (x : Int32) : tSet (tWith t b m x) = tSet t := tSet_congr (fun b' _ => by unfold tH tWith; rw [upd_o _ _ (by omega)])
theorem tWith_1 (t : Nat → Int32) (b m : Nat) (x : Int32) : tWith t b m x 1 = t 1 := by unfold tWith; rw [upd_o _ _ (by omega)]
theorem tOk.wi {t : Nat → Int32} {n b m x : Nat} (h : tOk t n) (hb : b < n) (hm : m < 3) (h1 : 50 ≤ x) (h2 : x ≤ 250) : tOk (tWith t b m (nI x)) n :=
  h.bd hb (by omega) ⟨fun z => by omega, fun _ => ⟨x, h1, h2, rfl⟩, fun z => by omega, fun z => by omega⟩
theorem tIs.wi {u : zM} {t : Nat → Int32} {b m : Nat} {x : Int32} (h : tIs u 1 t) (hb : b < 12) (hm : m < 3) : tIs (zst u 3 (3 * b + m) x) 1 (tWith t b m x) := by
  have e := h.bd (b := b) (f := 1 + m) (a := x) hb (by omega)
  have e1 : fc (1 + m) = 3 := by unfold fc; rw [if_neg (by omega), if_pos (by omega)]
  have e2 : fi (1 + m) b = 3 * b + m := by unfold fi; rw [if_neg (by omega), if_pos (by omega)]; omega
  rw [e1, e2] at e
  exact e
theorem si5 {u : zM} {b m : Nat} (hb : b < 12) (hm : m < 3) (x : Int32) : m_X4_setInches (nI b) (nI m) x u = some (zst u 3 (3 * b + m) x) := by
  unfold m_X4_setInches
  rw [idx3, zsv_n (by omega) (by decide), zbind_s]
theorem idx67 (b m : Nat) : 6 + 7 * nI b + 1 + nI m = nI (6 + 7 * b + (1 + m)) := by
  have a1 : (7 : Int32) * nI b = nI (7 * b) := q_mul 7 b
  have a2 : (6 : Int32) + nI (7 * b) = nI (6 + 7 * b) := q_add 6 (7 * b)
  have a3 : nI (6 + 7 * b) + 1 = nI (6 + 7 * b + 1) := q_add _ 1
  rw [a1, a2, a3, q_add]
  congr 1; omega
theorem away6 {u : zM} {n b : Nat} (ho : tOk (u 40) n) (hb : b < 12) : m_X6_isAway (nI b) u = some (if hereP (u 40) b = true then 0 else 1) := by
  unfold m_X6_isAway
  rw [show m_X6_bodyIs (nI b) 6 u = some (tH (u 40) b) from bi6 u (f := 6) hb (by decide), zbind_s]
  unfold hereP
  rcases ho.2.2.2.1 b hb with z | z
  · rw [z]; rfl
  · rw [z]; rfl
/-- the best from 50 on -/
def bstO (F : Nat → Nat) : Nat → Int32 × Int32
  | 0 => (50, -1)
  | k + 1 => if nI (F (50 + k)) ≤ (bstO F k).2 then bstO F k else (nI (50 + k), nI (F (50 + k)))
theorem p_sized : B_sized Inv := by
  intro a a2 u hu
  obtain ⟨⟨n, ho⟩, ht⟩ := id hu.1
  have hn := ho.1
  unfold m_X5_sized m_X6_sized
  simp only [ib5_eq (ht.1.trans ho.2.1), im_eq, im6_eq, if_0]
  by_cases c : (0 : Int32) ≤ a ∧ a ≤ nI n - 1
  · rw [if_neg (fun z => z c)]
    by_cases d : (0 : Int32) ≤ a2 ∧ a2 ≤ 2
    · rw [if_neg (fun z => z d)]
      obtain ⟨b, hb, rfl⟩ := (below a n (by omega)).mp c
      obtain ⟨m, -, hm, rfl⟩ := (btw a2 0 2 (by decide) (by decide)).mp d
      rw [ih5_eq ht (by omega)]
      by_cases f : hereP (u 40) b = true
      · rw [if_pos f, if_neg (show ¬ (1 : Int32) = 0 by decide), in5 ht (by omega) (by omega), zbind_s]
        let F := fun x => fitN (tWith (u 40) b m (nI x)) n (tSet (u 40)) (u 40 1)
        obtain ⟨⟨x, v'⟩, e2, hx, w1⟩ : ∃ r : Int32 × zM, zit zF (fun s : Int32 × Int32 × Int32 × zM => m_X5_sized_b0 (nI b) (nI m) s.1 s.2.1 s.2.2.1 s.2.2.2) (50, (-1), 50, u) = some r ∧ r.1 = (bstO F 201).1 ∧ clsS u (3 * b + m) r.2 := by
          refine zit_inv (fun k s => s.1 = (bstO F k).1 ∧ s.2.1 = (bstO F k).2 ∧ s.2.2.1 = nI (50 + k) ∧ clsS u (3 * b + m) s.2.2.2) 201 _ _ (by omega) ⟨rfl, rfl, rfl, clsS.z u _⟩ ?_ ?_
          · rintro k ⟨x, y, z, w⟩ hk ⟨rfl, rfl, rfl, h1⟩
            simp only at h1 ⊢
            unfold m_X5_sized_b0
            have ht' : tIs (zst w 3 (3 * b + m) (nI (50 + k))) 1 (tWith (u 40) b m (nI (50 + k))) := (ht.wi (by omega) (by omega)).cls (h1.st _)
            have ho' : tOk (tWith (u 40) b m (nI (50 + k))) n := ho.wi hb (by omega) (by omega) (by omega)
            obtain ⟨w2, e3, h3, h4⟩ := measureAll_ok ht' ho'
            have ht2 := ht'.cls (measP h3)
            obtain ⟨w3, e4, h5, h6⟩ := fitBy5 (u 40 1) ht2 ho' (tSet_sOk ho') h4
            have hc := (h1.nx ((measP h3).tr h5)).1
            rw [if_neg (show ¬ (250 : Int32) < nI (50 + k) from fun z => by have := (q_lt (a := 250) (by decide) (by omega)).mp z; omega), si5 (by omega) (by omega), zbind_s, e3, zbind_s, ht2.2.1, ht2.2.2.1, tWith_1, e4, zbind2_s, tWith_set _ (by omega)]
            have eb : bstO F (k + 1) = if nI (F (50 + k)) ≤ (bstO F k).2 then bstO F k else (nI (50 + k), nI (F (50 + k))) := rfl
            rw [eb]
            by_cases c : nI (F (50 + k)) ≤ (bstO F k).2
            · rw [if_pos (show nI (fitN (tWith (u 40) b m (nI (50 + k))) n (tSet (u 40)) (u 40 1)) ≤ (bstO F k).2 from c), if_pos c]
              exact ⟨_, rfl, rfl, rfl, q_add (50 + k) 1, hc⟩
            · rw [if_neg (show ¬ nI (fitN (tWith (u 40) b m (nI (50 + k))) n (tSet (u 40)) (u 40 1)) ≤ (bstO F k).2 from c), if_neg c]
              exact ⟨_, rfl, rfl, rfl, q_add (50 + k) 1, hc⟩
          · rintro ⟨x, y, z, w⟩ ⟨ex, -, ez, h1⟩
            simp only at ex ez h1 ⊢
            unfold m_X5_sized_b0
            rw [ez, if_pos (show (250 : Int32) < nI (50 + 201) by decide)]
            exact ⟨_, rfl, ex, h1⟩
        simp only at hx w1
        rw [e2, zbind2_s, si5 (by omega) (by omega), zbind_s]
        let v := zst v' 3 (3 * b + m) (tM (u 40) b m)
        have hv1 : clsP u v := by
          have e := w1.en
          rw [ht.2.2.2.2.2.2.2.2.1 b m (by omega) (by omega)] at e
          exact e
        have hI : Inv v := hu.congr hv1.same
        have e40 : v 40 = u 40 := hv1.q rfl
        obtain ⟨⟨x2, y⟩, e3, hx2, y1⟩ : ∃ r : Int32 × zM, zit zF (fun s : Int32 × Int32 × Int32 × zM => m_X6_sized_b0 (nI b) (nI m) (nI (tSet (u 40))) s.1 s.2.1 s.2.2.1 s.2.2.2) (50, (-1), 50, v) = some r ∧ r.1 = (bstO F 201).1 ∧ refS v (6 + 7 * b + (1 + m)) r.2 := by
          refine zit_inv (fun k s => s.1 = (bstO F k).1 ∧ s.2.1 = (bstO F k).2 ∧ s.2.2.1 = nI (50 + k) ∧ refS v (6 + 7 * b + (1 + m)) s.2.2.2) 201 _ _ (by omega) ⟨rfl, rfl, rfl, refS.z v _⟩ ?_ ?_
          · rintro k ⟨x, y, z, w⟩ hk ⟨rfl, rfl, rfl, h1⟩
            simp only at h1 ⊢
            unfold m_X6_sized_b0
            have er : zst w 40 (6 + 7 * b + (1 + m)) (nI (50 + k)) 40 = tWith (u 40) b m (nI (50 + k)) := by rw [h1.row, e40]; rfl
            have ho' : tOk (tWith (u 40) b m (nI (50 + k))) n := ho.wi hb (by omega) (by omega) (by omega)
            obtain ⟨w2, e4, h3⟩ := fitOf_s (s := tSet (u 40)) (n := n) (h1.slip hI.2.2.2.2.2 (nI (50 + k))) (by rw [er]; exact ho') (tSet_sOk ho)
            rw [er] at e4
            have hc := (h1.nx h3).1
            rw [if_neg (show ¬ (250 : Int32) < nI (50 + k) from fun z => by have := (q_lt (a := 250) (by decide) (by omega)).mp z; omega), idx67, zsv_n (by omega) (by decide), zbind_s, e4, zbind2_s, bc6 (pset_lt12 hn), zbind_s]
            have eF : bitsN (pset (fitP (tWith (u 40) b m (nI (50 + k))) (tSet (u 40)) (coatV (tWith (u 40) b m (nI (50 + k))) n (tSet (u 40)))) n) = F (50 + k) := by
              show _ = fitN (tWith (u 40) b m (nI (50 + k))) n (tSet (u 40)) (u 40 1)
              unfold fitN coatV
              rw [tWith_1]
            rw [eF]
            have eb : bstO F (k + 1) = if nI (F (50 + k)) ≤ (bstO F k).2 then bstO F k else (nI (50 + k), nI (F (50 + k))) := rfl
            rw [eb]
            by_cases c : nI (F (50 + k)) ≤ (bstO F k).2
            · rw [if_pos c, if_pos c]
              exact ⟨_, rfl, rfl, rfl, q_add (50 + k) 1, hc⟩
            · rw [if_neg c, if_neg c]
              exact ⟨_, rfl, rfl, rfl, q_add (50 + k) 1, hc⟩
          · rintro ⟨x, y, z, w⟩ ⟨ex, -, ez, h1⟩
            simp only at ex ez h1 ⊢
            unfold m_X6_sized_b0
            rw [ez, if_pos (show (250 : Int32) < nI (50 + 201) by decide)]
            exact ⟨_, rfl, ex, h1⟩
        simp only at hx2 y1
        refine ⟨x, v, zst y 40 (6 + 7 * b + (1 + m)) (v 40 (6 + 7 * b + (1 + m))), rfl, ?_, hI.congr y1.en.same⟩
        rw [ib6_eq (by rw [e40]; exact ho.2.1), if_pos c, if_neg (show ¬ (1 : Int32) = 0 by decide), if_neg (fun z => z d), away6 (n := n) (by rw [e40]; exact ho) (by omega), zbind_s, e40, if_pos f, if_pos rfl, idx67, zld_n (by omega) (by decide), zbind_s, hereSet_ok (by rw [e40]; exact ho), zbind_s, e40, e3, zbind2_s, zsv_n (by omega) (by decide), zbind_s, hx2, ← hx]
      · rw [if_neg f, if_pos rfl]
        refine fin (j := 4) (by decide) hu (g := fun u1 => _) rfl ?_
        rw [ib6_f ho.2.1, if_pos c, if_neg (show ¬ (1 : Int32) = 0 by decide), if_neg (fun z => z d), away6 (n := n) (by rw [fnd5_c 4 u (by decide)]; exact ho) (by omega), zbind_s, fnd5_c 4 u (by decide), if_neg f, if_neg (by decide)]; rfl
    · rw [if_pos d]
      refine fin0 hu (g := fun u1 => _) rfl ?_
      rw [ib6_f ho.2.1, if_pos c, if_neg (show ¬ (1 : Int32) = 0 by decide), if_pos d]
  · rw [if_pos c]
    refine fin0 hu (g := fun u1 => _) rfl ?_
    rw [ib6_f ho.2.1, if_neg c, if_pos rfl]
