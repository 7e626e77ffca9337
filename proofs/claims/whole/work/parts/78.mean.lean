/-! MEAN, BRIDE -/
theorem rem_n {a d : Nat} (ha : a < 2147483648) (h0 : 0 < d) (hd : d < 2147483648) : zrem (nI a) (nI d) = nI (a % d) := pk_rem ha h0 hd
theorem gcd_st (a b : Nat) : Nat.gcd b (a % b) = Nat.gcd a b := by
  rw [Nat.gcd_comm b, ← Nat.gcd_rec, Nat.gcd_comm]
theorem gcd5 {a b : Nat} (ha : a < 1000000) (hb : b ≤ 36) : m_X5_greatestDivisor (nI a) (nI b) = some (nI (Nat.gcd a b)) := by
  unfold m_X5_greatestDivisor
  obtain ⟨r, e, hr⟩ : ∃ r, zit zF (fun s : Int32 × Int32 × Int32 => m_X5_greatestDivisor_b0 s.1 s.2.1 s.2.2) (nI a, nI b, 0) = some r ∧ r = nI (Nat.gcd a b) := by
    refine zit_inv2 (fun k s => ∃ a' b', a' < 1000000 ∧ b' + k ≤ 36 ∧ Nat.gcd a' b' = Nat.gcd a b ∧ s = (nI a', nI b', nI k)) 37 _ _ (by omega) ⟨a, b, ha, hb, rfl, rfl⟩ ?_ ?_
    · rintro k s hk ⟨a', b', h1, h2, h3, rfl⟩
      show (∃ s', m_X5_greatestDivisor_b0 (nI a') (nI b') (nI k) = some (.inl s') ∧ _) ∨ ∃ r, m_X5_greatestDivisor_b0 (nI a') (nI b') (nI k) = some (.inr r) ∧ _
      unfold m_X5_greatestDivisor_b0
      rw [if_neg (show ¬ (64 : Int32) ≤ nI k from fun z => by have := (q_le (a := 64) (by decide) (by omega)).mp z; omega)]
      by_cases c : b' = 0
      · subst c
        rw [if_pos (show nI 0 ≤ 0 by decide)]
        exact Or.inr ⟨_, rfl, by rw [← h3, Nat.gcd_zero_right]⟩
      · have hm : a' % b' < b' := Nat.mod_lt _ (by omega)
        rw [if_neg (nI_nle (by omega) (by omega)), if_neg (nI_ne0 (by omega) (by omega)), rem_n (by omega) (by omega) (by omega)]
        exact Or.inl ⟨_, rfl, b', a' % b', by omega, by omega, by rw [gcd_st]; exact h3, by rw [show nI k + 1 = nI (k + 1) from q_add k 1]⟩
    · rintro s ⟨a', b', h1, h2, h3, rfl⟩
      omega
  rw [e, zbind_s, hr]
theorem div6 : ∀ f a b, a < 1000000 → b < f → b ≤ 36 → m_X6_divisor f (nI a) (nI b) = some (nI (Nat.gcd a b)) := by
  intro f
  induction f with
  | zero => intro a b _ h; omega
  | succ f ih =>
    intro a b ha hb h36
    rw [m_X6_divisor]
    by_cases c : b = 0
    · subst c
      rw [if_pos (show nI 0 = 0 from rfl), Nat.gcd_zero_right]
    · have hm : a % b < b := Nat.mod_lt _ (by omega)
      rw [if_neg (nI_ne0 (by omega) (by omega)), rem_n (by omega) (by omega) (by omega), ih b (a % b) (by omega) (by omega) (by omega), gcd_st]
theorem p_mean : B_mean Inv := by
  intro a a2 u hu
  obtain ⟨⟨n, ho⟩, ht⟩ := id hu.1
  have hn := ho.1
  unfold m_X5_mean m_X6_mean
  simp only [im_eq, im6_eq, w5_eq, w6_eq, if_0]
  by_cases c : (0 : Int32) ≤ a ∧ a ≤ 2
  · rw [if_neg (fun z => z c)]
    by_cases d : (0 : Int32) ≤ a2 ∧ a2 ≤ 1
    · rw [if_neg (fun z => z d), ht.2.1]
      by_cases h0 : tSet (u 40) = 0
      · rw [h0, if_pos (show nI 0 = 0 from rfl)]
        refine fin (j := 3) (by decide) hu (g := fun u1 => _) rfl ?_
        rw [if_neg (fun z => z c), if_neg (fun z => z d), hereSet_ok (by rw [fnd5_c 3 u (by decide)]; exact ho), zbind_s, fnd5_c 3 u (by decide), h0, if_pos (show nI 0 = 0 from rfl)]; rfl
      · rw [if_neg (nz (tSet_lt _) h0)]
        obtain ⟨m, -, hm, rfl⟩ := (btw a 0 2 (by decide) (by decide)).mp c
        have hm3 : m < 3 := by omega
        obtain ⟨v, e1, v1, v2⟩ := measureAll_ok ht ho
        have hv1 : clsP u v := measP v1
        have hI := hu.congr hv1.same
        have e40 : v 40 = u 40 := hv1.q rfl
        have hpos := (tSet_sOk ho).pos h0 (cnt_pos (u 40))
        have h36 := tot_le (s := tSet (u 40)) hn (cnt_le (u 40))
        obtain ⟨A, hA, eA⟩ := cSum_n (V := fun b => meas (u 40) b m) (C := cnt (u 40)) (s := tSet (u 40)) (d := 290) n (fun b hb => meas_n (m := m) (ho.2.2.1 b hb) hm3)
        have hA2 : A < 1000000 := by have := Nat.mul_le_mul_left 290 h36; omega
        obtain ⟨w, e2, r1, r2⟩ := findRow_ok (u := v) (n := n) (s := tSet (u 40)) (m := m) (by rw [e40]; exact ho) (tSet_lt _) hm3
        have eS : cSum n (measW v m) (cnt (v 40)) (tSet (u 40)) = nI A := by
          rw [← eA, e40]
          exact sI_congr (fun b hb => by rw [measW_0 hI.2.2.2.2.2 hn hm3 b hb, e40])
        rw [eS, e40] at r2
        have e5 : m_X2_sumOf (nI m) (nI (tSet (u 40))) v = some (nI A) := (sumOf_ok v2 hn (tSet_lt _) hm3).trans (congrArg some eA)
        have e17 : v 1 7 = nI (tSet (u 40)) := (congrFun (hv1.q (k := 1) rfl) 7).trans ht.2.1
        have hg : ¬ nI (Nat.gcd A (tot n (cnt (u 40)) (tSet (u 40)))) = 0 := by
          have h1 := Nat.gcd_pos_of_pos_right A hpos
          have h2 := Nat.gcd_le_right A hpos
          exact nI_ne0 h1 (by omega)
        refine ⟨(if a2 = 0 then nI A else nI (tot n (cnt (u 40)) (tSet (u 40)))) / nI (Nat.gcd A (tot n (cnt (u 40)) (tSet (u 40)))), v, w, ?_, ?_, hI.congr r1.cut.same⟩
        · rw [e1, zbind_s, e17, e5, zbind_s, timesOf_ok v2 hn (tSet_lt _), zbind_s, zlet_s, gcd5 hA2 h36, zbind_s, if_neg hg, if_neg hg]
        · rw [if_neg (fun z => z c), if_neg (fun z => z d), hereSet_ok (by rw [e40]; exact ho), zbind_s, e40, if_neg (nz (tSet_lt _) h0), e2, zbind_s, rowSum_ok r2 h36, zbind_s, r2.1, div6 60 A _ hA2 (by omega) h36, zbind_s]
          by_cases c2 : a2 = 0
          · simp only [if_pos c2, zbind_s, if_neg hg]
          · simp only [if_neg c2, if_neg hg]
    · rw [if_pos d]
      refine fin0 hu (g := fun u1 => _) rfl ?_
      rw [if_neg (fun z => z c), if_pos d]
  · rw [if_pos c]
    refine fin0 hu (g := fun u1 => _) rfl ?_
    rw [if_pos c]
/-- the nearest so far, of the first k -/
def brd (h : Nat → Bool) (c : Nat → Int32) : Nat → Option Nat
  | 0 => none
  | k + 1 => if h k = true then (match brd h c k with | none => some k | some b => if c b ≤ c k then some b else some k) else brd h c k
theorem brd_lt (h : Nat → Bool) (c : Nat → Int32) : ∀ k b, brd h c k = some b → b < k := by
  intro k
  induction k with
  | zero => intro b e; cases e
  | succ k ih =>
    intro b e
    rw [brd] at e
    by_cases c1 : h k = true
    · rw [if_pos c1] at e
      cases hw : brd h c k with
      | none => rw [hw] at e; simp at e; omega
      | some b' =>
        rw [hw] at e
        simp only at e
        by_cases c2 : c b' ≤ c k
        · rw [if_pos c2] at e; simp at e; have := ih b' hw; omega
        · rw [if_neg c2] at e; simp at e; omega
    · rw [if_neg c1] at e; have := ih b e; omega
theorem brd_some (h : Nat → Bool) (c : Nat → Int32) {k i : Nat} (hi : i < k) (hh : h i = true) : brd h c k ≠ none := by
  induction k with
  | zero => omega
  | succ k ih =>
    rw [brd]
    by_cases c1 : h k = true
    · rw [if_pos c1]
      cases hw : brd h c k with
      | none => simp
      | some b => simp only; split <;> simp
    · rw [if_neg c1]
      refine ih ?_
      rcases Nat.lt_or_ge i k with z | z
      · exact z
      · rw [show i = k by omega] at hh; exact absurd hh c1
def wD (c : Nat → Int32) : Option Nat → Int32 | none => 1000000 | some b => c b
theorem p_bride : B_bride Inv := by
  intro a u hu
  obtain ⟨⟨n, ho⟩, ht⟩ := id hu.1
  have hn := ho.1
  unfold m_X5_bride m_X6_bride
  simp only [ib5_eq (ht.1.trans ho.2.1), if_0]
  by_cases c : (0 : Int32) ≤ a ∧ a ≤ nI n - 1
  · rw [if_neg (fun z => z c), ht.2.1]
    obtain ⟨b, hb, rfl⟩ := (below a n (by omega)).mp c
    by_cases e : nI (tSet (u 40)) &&& (zshl 1 (nI b) ^^^ (-1)) = 0
    · rw [if_pos e]
      refine fin (j := 3) (by decide) hu (g := fun u1 => _) rfl ?_
      rw [ib6_f ho.2.1, if_pos c, if_neg (show ¬ (1 : Int32) = 0 by decide), hereSet_ok (by rw [fnd5_c 3 u (by decide)]; exact ho), zbind_s, fnd5_c 3 u (by decide), if_pos e]; rfl
    · rw [if_neg e]
      obtain ⟨v, h1, h2, h⟩ := cfah_ok hu ho
      have hv := hu.congr h1.same
      have e40 : v 40 = u 40 := h1.q rfl
      rcases h with ⟨h3, h4⟩ | ⟨h3, h4, h5⟩
      · exact absurd (by rw [h3]; exact Int32.zero_and) e
      · obtain ⟨w, ew, r, hK⟩ := cut6_t hv (by rw [e40]; exact ho) (tSet_sOk ho) h3
        have e41 : w 40 = u 40 := (r.q rfl (by decide)).trans e40
        rw [e40] at hK
        let K := coatV (u 40) n (tSet (u 40))
        let H := fun k => hereP (u 40) k && !decide (k = b)
        let C := fun k => farP (u 40) b k K
        let W := brd H C
        have hH : ∀ k, H k = true ↔ hereP (u 40) k = true ∧ k ≠ b := fun k => by
          show (hereP (u 40) k && !decide (k = b)) = true ↔ _
          simp
        have hW : W n ≠ none := by
          have e' := e
          rw [set_off (t := u 40) (b := b) (by omega)] at e'
          have e2 : tSet (upd (u 40) (6 + 7 * b + 6) 0) ≠ 0 := fun z => e' (by rw [z]; rfl)
          obtain ⟨i, hi⟩ := Nat.exists_testBit_of_ne_zero e2
          have e3 := tSet_upd (t := u 40) (b := b) (by omega) false i
          rw [if_neg (show ¬ false = true by decide), hi] at e3
          by_cases ci : i = b
          · rw [if_pos ci] at e3; cases e3
          · rw [if_neg ci] at e3
            have hin := tSet_below ho i e3.symm
            rw [tSet_bit (u 40) (by omega)] at e3
            exact brd_some _ _ hin ((hH i).mpr ⟨e3.symm, ci⟩)
        have eW : ∀ k, W (k + 1) = if H k = true then (match W k with | none => some k | some b' => if C b' ≤ C k then some b' else some k) else W k := fun _ => rfl
        have hC : ∀ k, k < n → ∃ F, F ≤ 3000 ∧ C k = nI F := fun k hk => pair_n (ho.2.2.1 b hb) (ho.2.2.1 k hk) (coat_nK ho (tSet_sOk ho) h3)
        refine ⟨wA (W n), v, w, ?_, ?_, hv.congr r.same⟩
        · rw [h4, zbind2_s, if_neg (by decide)]
          have e2 : zit zF (fun s' : Int32 × Int32 × Int32 => m_X5_bride_b0 v (nI b) s'.1 s'.2.1 s'.2.2) (wA (W 0), wD C (W 0), nI 0) = some (wA (W n)) := by
            refine zit_fn (fun k => (wA (W k), wD C (W k), nI k)) n _ (by omega) (fun k hk => ?_) ?_
            · show m_X5_bride_b0 v (nI b) (wA (W k)) (wD C (W k)) (nI k) = some (.inl (wA (W (k + 1)), wD C (W (k + 1)), nI (k + 1)))
              unfold m_X5_bride_b0
              rw [(ht.cls h1).1.trans ho.2.1, if_neg (fun z => by have := (q_le (by omega) (by omega)).mp z; omega), ih5_eq (ht.cls h1) (by omega), eW, ← q_add k 1]
              by_cases ck : k = b
              · rw [if_pos (congrArg nI ck), if_neg (fun z => ((hH k).mp z).2 ck)]; rfl
              · rw [if_neg (q_ne (by omega) (by omega) ck)]
                by_cases cc : hereP (u 40) k = true
                · rw [if_pos cc, if_neg (by decide), pair5 (ht.cls h1) h5 (by omega) (by omega), zbind_s, zbind_s, if_pos ((hH k).mpr ⟨cc, ck⟩)]
                  cases hw : W k with
                  | none =>
                    obtain ⟨F, hF, eF⟩ := hC k hk
                    show (if (1000000 : Int32) ≤ C k then _ else _) = _
                    rw [if_neg (show ¬ (1000000 : Int32) ≤ C k by rw [eF]; exact fun z => by have := (q_le (a := 1000000) (by decide) (by omega)).mp z; omega)]; rfl
                  | some b' =>
                    show (if C b' ≤ C k then _ else _) = _
                    by_cases c2 : C b' ≤ C k
                    · simp only [if_pos c2]; rfl
                    · simp only [if_neg c2]; rfl
                · rw [if_neg cc, if_pos rfl, if_neg (fun z => cc ((hH k).mp z).1)]; rfl
            · show m_X5_bride_b0 v (nI b) (wA (W n)) (wD C (W n)) (nI n) = _
              unfold m_X5_bride_b0
              rw [(ht.cls h1).1.trans ho.2.1, if_pos (i_le_refl _)]
          exact (congrArg (fun x => zbind x (fun x3 => some (x3, v))) e2).trans rfl
        · rw [ib6_eq (by rw [e40]; exact ho.2.1), if_pos c, if_neg (show ¬ (1 : Int32) = 0 by decide), hereSet_ok (by rw [e40]; exact ho), zbind_s, e40, if_neg e, ew, zbind_s]
          have e2 : zit zF (fun s' : Int32 × Int32 => m_X6_bride_b0 w (nI (tSet (u 40))) (nI b) s'.1 s'.2) (wC (W 0), nI 0) = some (wC (W n)) := by
            refine zit_fn (fun k => (wC (W k), nI k)) n _ (by omega) (fun k hk => ?_) ?_
            · show m_X6_bride_b0 w (nI (tSet (u 40))) (nI b) (wC (W k)) (nI k) = some (.inl (wC (W (k + 1)), nI (k + 1)))
              unfold m_X6_bride_b0
              rw [e41, ho.2.1, if_neg (fun z => by have := (q_le (by omega) (by omega)).mp z; omega), h6_eq (by have := tSet_lt (u 40); omega) (by omega), tSet_bit (u 40) (by omega), eW, ← q_add k 1]
              by_cases cc : hereP (u 40) k = true
              · rw [if_pos cc, if_neg (show ¬ (1 : Int32) = 0 by decide), zlet_s]
                by_cases ck : k = b
                · rw [if_pos (congrArg nI ck), if_pos rfl, if_neg (fun z => ((hH k).mp z).2 ck)]; rfl
                · rw [if_neg (show ¬ nI k = nI b from q_ne (by omega) (by omega) ck), if_neg (show ¬ (1 : Int32) = 0 by decide), if_pos ((hH k).mpr ⟨cc, ck⟩)]
                  cases hw : W k with
                  | none =>
                    show (if (-1 : Int32) < 0 then _ else _) = _
                    rw [if_pos (by decide)]; rfl
                  | some b' =>
                    have hb' := brd_lt _ _ k b' hw
                    show (if nI b' < 0 then _ else _) = _
                    rw [if_neg (fun z => by have := (q_lt (b := 0) (by omega) (by decide)).mp z; omega), pair6 hK (by omega) (by omega), zbind_s, show m_X6_together (nI b) (wC (some b')) w = some (farP (w 40) b b' K) from pair6 hK (by omega) (by omega), zbind_s, e41]
                    by_cases c2 : C b' ≤ C k
                    · rw [if_pos (show farP (u 40) b b' K ≤ farP (u 40) b k (coatV (u 40) n (tSet (u 40))) from c2)]; simp only [if_pos c2]; rfl
                    · rw [if_neg (show ¬ farP (u 40) b b' K ≤ farP (u 40) b k (coatV (u 40) n (tSet (u 40))) from c2)]; simp only [if_neg c2]; rfl
              · rw [if_neg cc, if_pos rfl, zlet_s, if_pos rfl, if_neg (fun z => cc ((hH k).mp z).1)]; rfl
            · show m_X6_bride_b0 w (nI (tSet (u 40))) (nI b) (wC (W n)) (nI n) = _
              unfold m_X6_bride_b0
              rw [e41, ho.2.1, if_pos (i_le_refl _)]
          have e3 : wC (W n) = wA (W n) := by
            cases hw : W n with
            | none => exact absurd hw hW
            | some b' => rfl
          rw [← e3]
          exact (congrArg (fun x => zbind x (fun x3 => some (x3, w))) e2).trans rfl
  · rw [if_pos c]
    refine fin0 hu (g := fun u1 => _) rfl ?_
    rw [ib6_f ho.2.1, if_neg c, if_pos rfl]
