/-! SPRING -/
theorem spr6 {w : zM} {K : Nat → Int32} {s : Nat} (hs : s < 20) (hK : ∀ m, m < 3 → w 43 m = K m) (h4 : w 40 4 = nI s) :
    ∃ y, zit zF (fun s' : Int32 × zM => m_X6_spring_b0 s'.1 s'.2) (0, w) = some y ∧ (∀ q, q ≠ 40 → y q = w q) ∧ ∀ j, y 40 j = if 90 + 3 * s ≤ j ∧ j < 90 + 3 * s + 3 then K (j - (90 + 3 * s)) else w 40 j := by
  refine zit_inv (fun k s' => s'.1 = nI k ∧ (∀ q, q ≠ 40 → s'.2 q = w q) ∧ ∀ j, s'.2 40 j = if 90 + 3 * s ≤ j ∧ j < 90 + 3 * s + k then K (j - (90 + 3 * s)) else w 40 j) 3 _ _ (by omega) ⟨rfl, fun _ _ => rfl, fun j => (if_neg (by omega)).symm⟩ ?_ ?_
  · rintro m ⟨x, v⟩ hm ⟨rfl, h1, h2⟩
    simp only at h1 h2 ⊢
    unfold m_X6_spring_b0
    have e4 : v 40 4 = nI s := by rw [h2, if_neg (by omega)]; exact h4
    have e5 : (90 : Int32) + 3 * nI s + nI m = nI (90 + 3 * s + m) := by
      have a1 : (3 : Int32) * nI s = nI (3 * s) := q_mul 3 s
      have a2 : (90 : Int32) + nI (3 * s) = nI (90 + 3 * s) := q_add 90 (3 * s)
      rw [a1, a2, q_add]
    rw [if_neg (show ¬ (3 : Int32) ≤ nI m from fun z => by have := (q_le (a := 3) (by decide) (by omega)).mp z; omega), zld_n hm (by decide), zbind_s, h1 43 (by decide), hK m hm, e4, e5, zsv_n (by omega) (by decide), zbind_s]
    refine ⟨_, rfl, q_add m 1, fun q hq => (zst_o _ hq).trans (h1 q hq), fun j => ?_⟩
    show zst v 40 (90 + 3 * s + m) (K m) 40 j = _
    rw [zst_g]
    by_cases c : j = 90 + 3 * s + m
    · subst c
      rw [if_pos ⟨rfl, rfl⟩, if_pos (by omega)]
      congr 1; omega
    · rw [if_neg (by omega), h2 j]
      by_cases c2 : 90 + 3 * s ≤ j ∧ j < 90 + 3 * s + m
      · rw [if_pos c2, if_pos (by omega)]
      · rw [if_neg c2, if_neg (by omega)]
  · rintro ⟨x, v⟩ ⟨rfl, h1, h2⟩
    simp only at h1 h2 ⊢
    unfold m_X6_spring_b0
    rw [if_pos (show (3 : Int32) ≤ nI 3 by decide)]
    exact ⟨_, rfl, h1, h2⟩
theorem cutP.q {u v : zM} (h : cutP u v) {k : Nat} (h1 : scr k = false) (h3 : k ≠ 39) : v k = u k := by
  refine h.1 k (fun e => ?_) h3 (fun e => ?_)
  · rw [e] at h1; exact absurd h1 (by decide)
  · rw [e] at h1; exact absurd h1 (by decide)
theorem clsP.q {u v : zM} (h : clsP u v) {k : Nat} (hk : scr k = false) : v k = u k := by
  refine h k ?_ ?_ ?_ ?_ ?_ <;> (intro e; rw [e] at hk; exact absurd hk (by decide))
theorem p_spring : B_spring Inv := by
  intro u hu
  obtain ⟨⟨n, ho⟩, ht⟩ := id hu.1
  have hn := ho.1
  obtain ⟨s, hs, es⟩ := ho.2.2.2.2.2.2.2.2.1
  have e11 : u 1 11 = nI s := ht.2.2.2.2.2.1.trans es
  unfold m_X5_spring m_X6_spring
  by_cases c20 : s < 20
  · rw [e11, if_pos (show nI s < 20 from (q_lt (b := 20) (by omega) (by decide)).mpr c20)]
    have n20 : ¬ nI s = 20 := fun z => by have := q_inj (b := 20) (by omega) (by decide) z; omega
    obtain ⟨v, h1, h2, h⟩ := cfah_ok hu ho
    have hv := hu.congr h1.same
    have e40 : v 40 = u 40 := h1.q rfl
    rcases h with ⟨h3, h4⟩ | ⟨h3, h4, h5⟩
    · rw [h4, zbind2_s, if_pos rfl]
      refine fin (j := 3) (by decide) hv (g := fun u1 => _) rfl ?_
      rw [fnd5_c 3 v (by decide), e40, es, if_neg n20, hereSet_ok (by rw [fnd5_c 3 v (by decide), e40]; exact ho), zbind_s, fnd5_c 3 v (by decide), e40, h3, if_pos (show nI 0 = 0 from rfl)]; rfl
    · have i11 : v 1 11 = nI s := (congrFun (h1.q (k := 1) rfl) 11).trans e11
      have i3 : nI s * 3 = nI (s * 3) := q_mul s 3
      have e5 : m_X5_cutForAllHere u = some (1, v) := h4
      rw [h4, zbind2_s, if_neg (by decide)]
      unfold m_X4_addSpring
      have ecp : zcp v 19 3 0 6 60 (nI (s * 3)) 3 = some (zup v 6 (va_cpy (v 19) (v 6) 0 (s * 3) 3)) := zcp_n (sp := 0) (n := 3) (by omega) (by omega) ⟨by decide, by decide⟩
      rw [i11, i3, ecp, zbind_s, zlet_s, zbind2_s, zst_s, zup_o v _ (by decide), i11]
      let u1 := zst (zup v 6 (va_cpy (v 19) (v 6) 0 (s * 3) 3)) 1 11 (nI s + 1)
      have a1 : ∀ q, q ≠ 1 → q ≠ 6 → u1 q = v q := fun q p1 p2 => (zst_o _ p1).trans (zup_o v _ p2)
      have a40 : u1 40 = u 40 := (a1 40 (by decide) (by decide)).trans e40
      obtain ⟨w, e, r, hK⟩ := cut6_s (u := u1) (n := n) (s := tSet (u 40)) (by intro j hj; rw [a1 44 (by decide) (by decide)]; exact hv.2.2.2.2.2 j hj) (by rw [a40]; exact ho) (tSet_sOk ho) h3
      rw [a40] at hK
      have w40 : w 40 = u 40 := (r.q rfl (by decide)).trans a40
      obtain ⟨y, ey, y1, y2⟩ := spr6 c20 hK (by rw [w40]; exact es)
      have y4 : y 40 4 = nI s := by rw [y2, if_neg (by omega), w40]; exact es
      have z40 : ∀ j, zst y 40 4 (nI s + 1) 40 j = if j = 4 then nI (s + 1) else if 90 + 3 * s ≤ j ∧ j < 90 + 3 * s + 3 then coatV (u 40) n (tSet (u 40)) (j - (90 + 3 * s)) else u 40 j := fun j => by
        rw [zst_g, show nI s + 1 = nI (s + 1) from q_add s 1]
        by_cases cj : j = 4
        · rw [if_pos ⟨rfl, cj⟩, if_pos cj]
        · rw [if_neg (by omega), if_neg cj, y2, w40]
      have zk : ∀ k, scr k = false → k ≠ 39 → k ≠ 40 → zst y 40 4 (nI s + 1) k = u1 k := fun k k1 k2 k3 => by
        rw [zst_o _ k3, y1 k k3, r.q k1 k2]
      refine ⟨nI s + 1, u1, zst y 40 4 (nI s + 1), rfl, ?_, hu.town ⟨fun k k1 _ k2 k3 k4 => ?_, ?_, ?_, ?_⟩ ⟨⟨n, ?_⟩, ?_⟩⟩
      · rw [a40, es, if_neg n20, hereSet_ok (by rw [a40]; exact ho), zbind_s, a40, if_neg (nz (tSet_lt _) h3), e, zbind_s, ey, zbind_s, zlet_s, zst_s, y4]
      · rw [zk k k1 k2 k4, a1 k (by omega) (by omega), h1.q k1]
      · rw [zk 20 rfl (by decide) (by decide), a1 20 (by decide) (by decide), h1.q rfl]
      · rw [zst_o _ (by decide), y1 39 (by decide), r.2 2 (by decide), a1 39 (by decide) (by decide), h1.q rfl]
      · rw [zst_o _ (by decide), y1 39 (by decide), r.2 12 (by decide), a1 39 (by decide) (by decide), h1.q rfl]
      · refine ho.lo ?_ (fun j p1 p2 => ?_) (fun j p1 p2 => ?_) ?_ ?_ ?_ ?_
        · rw [z40, if_neg (by omega), if_neg (by omega)]
        · rw [z40, if_neg (by omega), if_neg (by omega)]
        · rw [z40, if_neg (by omega), if_neg (by omega)]
        · rw [z40, if_neg (by omega), if_neg (by omega)]; exact ho.2.2.2.2.2.1
        · rw [z40, if_neg (by omega), if_neg (by omega)]; exact ho.2.2.2.2.2.2.1
        · rw [z40, if_neg (by omega), if_neg (by omega)]; exact ho.2.2.2.2.2.2.2.1
        · rw [z40, if_pos rfl]; exact ⟨s + 1, by omega, rfl⟩
      · obtain ⟨i0, i1, i2, i3, i4, i5, i6, i7, i8, i9, i10, i12, i13⟩ := ht.cls h1
        have q1 : ∀ f, f ≠ 11 → zst y 40 4 (nI s + 1) 1 f = v 1 f := fun f hf => by
          rw [zk 1 rfl (by decide) (by decide)]
          show zst (zup v 6 (va_cpy (v 19) (v 6) 0 (s * 3) 3)) 1 11 (nI s + 1) 1 f = _
          rw [zst_j _ hf, zup_o v _ (by decide)]
        have q6 : ∀ j, zst y 40 4 (nI s + 1) 6 j = va_cpy (v 19) (v 6) 0 (s * 3) 3 j := fun j => by
          rw [zk 6 rfl (by decide) (by decide)]
          show zst (zup v 6 (va_cpy (v 19) (v 6) 0 (s * 3) 3)) 1 11 (nI s + 1) 6 j = _
          rw [zst_o _ (by decide), zup_s]
        have qo : ∀ k, scr k = false → k ≠ 39 → k ≠ 40 → k ≠ 1 → k ≠ 6 → zst y 40 4 (nI s + 1) k = v k := fun k a b c d e => (zk k a b c).trans (a1 k d e)
        have zb : ∀ j, 6 ≤ j → j < 90 → zst y 40 4 (nI s + 1) 40 j = u 40 j := fun j p1 p2 => by rw [z40, if_neg (by omega), if_neg (by omega)]
        have zs : ∀ j, j < 6 → j ≠ 4 → zst y 40 4 (nI s + 1) 40 j = u 40 j := fun j p1 p2 => by rw [z40, if_neg (by omega), if_neg (by omega)]
        refine ⟨?_, ?_, ?_, ?_, ?_, ?_, ?_, fun b hb => ?_, fun b m hb hm => ?_, fun b hb => ?_, fun b hb => ?_, fun j hj => ?_, fun i hi => ?_⟩
        · rw [q1 6 (by decide), zs 0 (by decide) (by decide)]; exact i0
        · rw [q1 7 (by decide), tSet_congr (t := u 40) (fun b hb => by unfold tH; exact zb _ (by omega) (by omega))]; exact i1
        · rw [q1 8 (by decide), zs 1 (by decide) (by decide)]; exact i2
        · rw [q1 9 (by decide), zs 2 (by decide) (by decide)]; exact i3
        · rw [q1 10 (by decide), zs 3 (by decide) (by decide)]; exact i4
        · rw [zk 1 rfl (by decide) (by decide), z40, if_pos rfl]
          show zst (zup v 6 (va_cpy (v 19) (v 6) 0 (s * 3) 3)) 1 11 (nI s + 1) 1 11 = _
          rw [zst_s]; exact q_add s 1
        · rw [q1 12 (by decide), zs 5 (by decide) (by decide)]; exact i6
        · rw [qo (1 + 1) rfl (by decide) (by decide) (by decide) (by decide)]
          unfold tK
          rw [zb _ (by omega) (by omega)]; exact i7 b hb
        · rw [qo (1 + 2) rfl (by decide) (by decide) (by decide) (by decide)]
          unfold tM
          rw [zb _ (by omega) (by omega)]; exact i8 b m hb hm
        · rw [qo (1 + 3) rfl (by decide) (by decide) (by decide) (by decide)]
          unfold tB
          rw [zb _ (by omega) (by omega)]; exact i9 b hb
        · rw [qo (1 + 4) rfl (by decide) (by decide) (by decide) (by decide)]
          unfold tP
          rw [zb _ (by omega) (by omega)]; exact i10 b hb
        · rw [q6 j, z40, if_neg (by omega)]
          unfold va_cpy
          by_cases cj : s * 3 ≤ j ∧ j < s * 3 + 3
          · rw [if_pos (by omega), if_pos (by omega), h5 _ (by omega)]
            congr 1; omega
          · rw [if_neg (by omega), if_neg (by omega)]
            exact i12 j hj
        · rw [qo (1 + 6) rfl (by decide) (by decide) (by decide) (by decide), z40, if_neg (by omega), if_neg (by omega)]
          exact i13 i hi
  · have s20 : s = 20 := by omega
    subst s20
    rw [e11, if_neg (show ¬ nI 20 < 20 by decide)]
    refine fin (j := 1) (by decide) hu (g := fun u1 => _) rfl ?_
    rw [fnd5_c 1 u (by decide), es, if_pos (show nI 20 = 20 from rfl)]; rfl
