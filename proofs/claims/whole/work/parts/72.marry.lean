/-! EASE FOR ALL, MARRY -/
def easS (t : Nat → Int32) (K : Nat → Int32) : Nat → Int32
  | 0 => 0
  | k + 1 => if hereP t k = true then zmax (easS t K k) (costS t k K) else easS t K k
theorem easS_0 {t : Nat → Int32} {K : Nat → Int32} {n : Nat} (h : ∀ b, b < n → hereP t b = false) : easS t K n = 0 := by
  induction n with
  | zero => rfl
  | succ n ih => rw [easS, if_neg (by rw [h n (by omega)]; decide), ih (fun b hb => h b (by omega))]
theorem noneHere {t : Nat → Int32} (h : tSet t = 0) (b : Nat) (hb : b < 12) : hereP t b = false := by
  have := tSet_bit t hb
  rw [h, Nat.zero_testBit] at this
  exact this.symm
theorem p_easeFor : B_easeFor Inv := by
  intro u hu
  obtain ⟨⟨n, ho⟩, ht⟩ := id hu.1
  have hn := ho.1
  unfold m_X5_easeFor m_X6_easeFor
  obtain ⟨v, h1, h2, h⟩ := cfah_ok hu ho
  have hv := hu.congr h1.same
  have e40 : v 40 = u 40 := h1 40 (by decide) (by decide) (by decide) (by decide) (by decide)
  let K := coatV (u 40) n (tSet (u 40))
  let g := easS (u 40) K
  have key : ∃ w, (if nI (tSet (u 40)) = 0 then some v else zbind (m_X6_cut (nI (tSet (u 40))) v) (fun u6 => some u6) : Option zM) = some w ∧ sameP v w ∧ w 40 = u 40 ∧ (tSet (u 40) ≠ 0 → ∀ m, m < 3 → w 43 m = K m) := by
    by_cases c : tSet (u 40) = 0
    · exact ⟨v, if_pos (by rw [c]; rfl), sameP.rfl' v, e40, fun z => absurd c z⟩
    · obtain ⟨w, e, r, hK⟩ := cut6_t hv (by rw [e40]; exact ho) (tSet_sOk ho) c
      rw [e40] at hK
      exact ⟨w, by rw [if_neg (nz (tSet_lt _) c), e, zbind_s], r.same, (r.1 40 (by decide) (by decide) (by decide)).trans e40, fun _ => hK⟩
  obtain ⟨w, e, r, e41, hK⟩ := key
  refine ⟨g n, v, w, ?_, ?_, hv.congr r⟩
  · rcases h with ⟨h3, h4⟩ | ⟨h3, h4, h5⟩
    · rw [h4, zbind2_s, if_pos rfl, show g n = 0 from easS_0 (fun b hb => noneHere h3 b (by omega))]
    · rw [h4, zbind2_s, if_neg (by decide)]
      have e2 : zit zF (fun s' : Int32 × Int32 => m_X5_easeFor_b0 v s'.1 s'.2) (g 0, nI 0) = some (g n) := by
        refine zit_fn (fun k => (g k, nI k)) n _ (by omega) (fun k hk => ?_) ?_
        · show m_X5_easeFor_b0 v (g k) (nI k) = some (.inl (if hereP (u 40) k = true then zmax (g k) (costS (u 40) k K) else g k, nI (k + 1)))
          unfold m_X5_easeFor_b0
          rw [(ht.cls h1).1.trans ho.2.1, if_neg (fun z => by have := (q_le (by omega) (by omega)).mp z; omega), ih5_eq (ht.cls h1) (by omega), ← q_add k 1]
          by_cases c : hereP (u 40) k = true
          · rw [if_pos c, if_neg (by decide), cost5 (ht.cls h1) h5 (by omega), zbind_s, if_pos c]; rfl
          · rw [if_neg c, if_pos rfl, if_neg c]; rfl
        · show m_X5_easeFor_b0 v (g n) (nI n) = _
          unfold m_X5_easeFor_b0
          rw [(ht.cls h1).1.trans ho.2.1, if_pos (i_le_refl _)]
      exact (congrArg (fun x => zbind x (fun x3 => some (x3, v))) e2).trans rfl
  · rw [hereSet_ok (by rw [e40]; exact ho), zbind_s, e40, e, zbind_s]
    have e2 : zit zF (fun s' : Int32 × Int32 => m_X6_easeFor_b0 w (nI (tSet (u 40))) s'.1 s'.2) (g 0, nI 0) = some (g n) := by
      refine zit_fn (fun k => (g k, nI k)) n _ (by omega) (fun k hk => ?_) ?_
      · show m_X6_easeFor_b0 w (nI (tSet (u 40))) (g k) (nI k) = some (.inl (if hereP (u 40) k = true then zmax (g k) (costS (u 40) k K) else g k, nI (k + 1)))
        unfold m_X6_easeFor_b0
        rw [e41, ho.2.1, if_neg (fun z => by have := (q_le (by omega) (by omega)).mp z; omega), h6_eq (by have := tSet_lt (u 40); omega) (by omega), tSet_bit (u 40) (by omega), ← q_add k 1]
        by_cases c : hereP (u 40) k = true
        · have h0 : tSet (u 40) ≠ 0 := fun z => by rw [noneHere z k (by omega)] at c; cases c
          rw [if_pos c, if_neg (by decide), cost6 (hK h0) (by omega), zbind_s, e41, if_pos c]; rfl
        · rw [if_neg c, if_pos rfl, if_neg c]; rfl
      · show m_X6_easeFor_b0 w (nI (tSet (u 40))) (g n) (nI n) = _
        unfold m_X6_easeFor_b0
        rw [e41, ho.2.1, if_pos (i_le_refl _)]
    exact (congrArg (fun x => zbind x (fun x3 => some (x3, w))) e2).trans rfl
/-- two together -/
def farP (t : Nat → Int32) (a b : Nat) (K : Nat → Int32) : Int32 := sI (fun m => zabs ((tM t a m + tM t b m) / 2 - K m)) 3
theorem pair5 {u : zM} {t : Nat → Int32} {K : Nat → Int32} {a b : Nat} (ht : tIs u 1 t) (hK : ∀ m, m < 3 → u 19 m = K m) (ha : a < 12) (hb : b < 12) : m_X2_farOfPair (nI a) (nI b) u = some (farP t a b K) := by
  unfold m_X2_farOfPair
  have e : zit zF (fun s' : Int32 × Int32 => m_X2_farOfPair_b0 (nI a) u (nI b) s'.1 s'.2) (sI (fun m => zabs ((tM t a m + tM t b m) / 2 - K m)) 0, nI 0) = some (farP t a b K) := by
    refine zit_fn (fun k => (sI (fun m => zabs ((tM t a m + tM t b m) / 2 - K m)) k, nI k)) 3 _ (by omega) (fun k hk => ?_) ?_
    · show m_X2_farOfPair_b0 (nI a) u (nI b) (sI (fun m => zabs ((tM t a m + tM t b m) / 2 - K m)) k) (nI k) = some (.inl (sI (fun m => zabs ((tM t a m + tM t b m) / 2 - K m)) (k + 1), nI (k + 1)))
      unfold m_X2_farOfPair_b0
      rw [if_neg (show ¬ (3 : Int32) ≤ nI k from fun z => by have := (q_le (a := 3) (by decide) (by omega)).mp z; omega), in5 ht ha hk, zbind_s, in5 ht hb hk, zbind_s, zld_n hk (by decide), zbind_s, hK k hk, ← q_add k 1]; rfl
    · show m_X2_farOfPair_b0 (nI a) u (nI b) (sI (fun m => zabs ((tM t a m + tM t b m) / 2 - K m)) 3) (nI 3) = _
      unfold m_X2_farOfPair_b0
      rw [if_pos (show (3 : Int32) ≤ nI 3 by decide)]; rfl
  exact (congrArg (fun x => zbind x (fun x3 => some x3)) e).trans rfl
theorem pair6 {u : zM} {K : Nat → Int32} {a b : Nat} (hK : ∀ m, m < 3 → u 43 m = K m) (ha : a < 12) (hb : b < 12) : m_X6_together (nI a) (nI b) u = some (farP (u 40) a b K) := by
  unfold m_X6_together
  have e : zit zF (fun s' : Int32 × Int32 => m_X6_together_b0 (nI a) u (nI b) s'.1 s'.2) (sI (fun m => zabs ((tM (u 40) a m + tM (u 40) b m) / 2 - K m)) 0, nI 0) = some (farP (u 40) a b K) := by
    refine zit_fn (fun k => (sI (fun m => zabs ((tM (u 40) a m + tM (u 40) b m) / 2 - K m)) k, nI k)) 3 _ (by omega) (fun k hk => ?_) ?_
    · show m_X6_together_b0 (nI a) u (nI b) (sI (fun m => zabs ((tM (u 40) a m + tM (u 40) b m) / 2 - K m)) k) (nI k) = some (.inl (sI (fun m => zabs ((tM (u 40) a m + tM (u 40) b m) / 2 - K m)) (k + 1), nI (k + 1)))
      unfold m_X6_together_b0
      rw [if_neg (show ¬ (3 : Int32) ≤ nI k from fun z => by have := (q_le (a := 3) (by decide) (by omega)).mp z; omega), show (1 : Int32) + nI k = nI (1 + k) from q_add 1 k, bi6 u ha (f := 1 + k) (by omega), zbind_s, bi6 u hb (f := 1 + k) (by omega), zbind_s, zld_n hk (by decide), zbind_s, hK k hk, ← q_add k 1, ← Nat.add_assoc, ← Nat.add_assoc]; rfl
    · show m_X6_together_b0 (nI a) u (nI b) (sI (fun m => zabs ((tM (u 40) a m + tM (u 40) b m) / 2 - K m)) 3) (nI 3) = _
      unfold m_X6_together_b0
      rw [if_pos (show (3 : Int32) ≤ nI 3 by decide)]; rfl
  exact (congrArg (fun x => zbind x (fun x3 => some x3)) e).trans rfl
theorem p_marry : B_marry Inv := by
  intro a a2 u hu
  obtain ⟨⟨n, ho⟩, ht⟩ := id hu.1
  have hn := ho.1
  unfold m_X5_marry m_X6_marry
  simp only [ib5_eq (ht.1.trans ho.2.1), if_0]
  by_cases c : (0 : Int32) ≤ a ∧ a ≤ nI n - 1
  · by_cases d : (0 : Int32) ≤ a2 ∧ a2 ≤ nI n - 1
    · rw [if_neg (fun z => z c), if_neg (fun z => z d)]
      by_cases f : a = a2
      · rw [if_pos f]
        refine fin0 hu (g := fun u1 => _) rfl ?_
        rw [ib6_f ho.2.1, ib6_f ho.2.1, if_pos c, if_pos d, if_neg (by decide), if_neg (by decide), if_pos f]
      · obtain ⟨b, hb, eb⟩ := (below a n (by omega)).mp c
        obtain ⟨b2, hb2, eb2⟩ := (below a2 n (by omega)).mp d
        rw [if_neg f]
        obtain ⟨v, h1, h2, h⟩ := cfah_ok hu ho
        have hv := hu.congr h1.same
        have e40 : v 40 = u 40 := h1 40 (by decide) (by decide) (by decide) (by decide) (by decide)
        rcases h with ⟨h3, h4⟩ | ⟨h3, h4, h5⟩
        · rw [h4, zbind2_s, if_pos rfl]
          refine fin (j := 3) (by decide) hv (g := fun u1 => _) rfl ?_
          rw [ib6_f (by rw [e40]; exact ho.2.1), ib6_f (by rw [e40]; exact ho.2.1), if_pos c, if_pos d, if_neg (show ¬ (1 : Int32) = 0 by decide), if_neg (show ¬ (1 : Int32) = 0 by decide), if_neg f, hereSet_ok (by rw [fnd5_c 3 v (by decide), e40]; exact ho), zbind_s, fnd5_c 3 v (by decide), e40, h3, if_pos (show nI 0 = 0 from rfl)]; rfl
        · rw [h4, zbind2_s, if_neg (by decide), eb, eb2, pair5 (ht.cls h1) h5 (by omega) (by omega), zbind_s]
          obtain ⟨w, e, r, hK⟩ := cut6_t hv (by rw [e40]; exact ho) (tSet_sOk ho) h3
          refine ⟨_, v, w, rfl, ?_, hv.congr r.same⟩
          have e41 : w 40 = u 40 := (r.1 40 (by decide) (by decide) (by decide)).trans e40
          rw [e40] at hK
          rw [← eb, ← eb2, ib6_eq (by rw [e40]; exact ho.2.1), ib6_eq (by rw [e40]; exact ho.2.1), if_pos c, if_pos d, if_neg (show ¬ (1 : Int32) = 0 by decide), if_neg (show ¬ (1 : Int32) = 0 by decide), if_neg f, hereSet_ok (by rw [e40]; exact ho), zbind_s, e40, if_neg (nz (tSet_lt _) h3), e, zbind_s, eb, eb2, pair6 hK (by omega) (by omega), zbind_s, e41]
    · rw [if_neg (fun z => z c), if_pos d]
      refine fin0 hu (g := fun u1 => _) rfl ?_
      rw [ib6_f ho.2.1, ib6_f ho.2.1, if_pos c, if_neg d, if_neg (by decide), if_pos rfl]
  · rw [if_pos c]
    refine fin0 hu (g := fun u1 => _) rfl ?_
    rw [ib6_f ho.2.1, if_neg c, if_pos rfl]
