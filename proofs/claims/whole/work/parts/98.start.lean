/-! THE START: what the Statement says of it. -/
def sT (i : Nat) : Term := Term.string "MeanCoats$Reader" (([97, 85, 87, 89, 91, 93, 95, 129, 131, 133, 62, 71, 76, 121, 122] : List Nat).getD i 0)
set_option maxRecDepth 100000 in
theorem sm_nest : ∀ w ∈ zNest, w ∈ lw_tbl := by decide +kernel
def sPre : Cond := Jvm.Cond.and given_1 narrow_1
theorem s_fl {args : Array Value} {s : State} (h : sPre.before args s = true) : ∀ c ∈ flatC sPre, c.before args s = true := flat_of_before _ h
set_option maxRecDepth 100000 in
theorem sm_ex : ∀ i, i < 15 → Cond.exactly (sT i) "java/lang/String" ∈ flatC sPre := by decide +kernel
set_option maxRecDepth 100000 in
theorem sm_co : ∀ i, i < 15 → Cond.eq (.field (sT i) "java/lang/String" "coder" "B") (.int 0) ∈ flatC sPre := by decide +kernel
set_option maxRecDepth 100000 in
theorem sm_ar : ∀ i, i < 15 → Cond.arrayOf (.field (sT i) "java/lang/String" "value" "[B") .byte ∈ flatC sPre := by decide +kernel
set_option maxRecDepth 100000 in
theorem sm_le : ∀ i, i < 15 → Cond.eq (.length (.field (sT i) "java/lang/String" "value" "[B")) (.int (Int32.ofNat (zLen.getD i 0))) ∈ flatC sPre := by decide +kernel
set_option maxRecDepth 100000 in
theorem sm_el : ∀ i, i < 15 → ∀ j, j < zLen.getD i 0 → Cond.eq (.elem (.field (sT i) "java/lang/String" "value" "[B") (.int (Int32.ofNat j))) (.int ((zByt.getD i []).getD j 0)) ∈ flatC sPre := by decide +kernel
theorem sm_ne : ∀ i, i < 15 → ∀ j, j < 15 → i ≠ j → ¬ (zLen.getD i 0 = zLen.getD j 0 ∧ ∀ k, k < zLen.getD i 0 → (zByt.getD i []).getD k 0 = (zByt.getD j []).getD k 0) := by decide +kernel
set_option maxRecDepth 100000 in
theorem sm_ka : Cond.arrayOf (.static "MeanCoats" "KIND_ABOVE" "[I") .int ∈ flatC sPre := by decide +kernel
set_option maxRecDepth 100000 in
theorem sm_kl : Cond.eq (.length (.static "MeanCoats" "KIND_ABOVE" "[I")) (.int (Int32.ofNat 7)) ∈ flatC sPre := by decide +kernel
set_option maxRecDepth 100000 in
theorem sm_ke : ∀ j, j < 7 → Cond.eq (.elem (.static "MeanCoats" "KIND_ABOVE" "[I") (.int (Int32.ofNat j))) (.int (zKA j)) ∈ flatC sPre := by decide +kernel
set_option maxRecDepth 100000 in
theorem sm_cs : Cond.eq (.static "java/lang/String" "COMPACT_STRINGS" "Z") (.int 1) ∈ flatC sPre := by decide +kernel
set_option maxRecDepth 100000 in
theorem sm_si : Cond.isRef (.static "jdk/internal/util/Preconditions" "SIOOBE_FORMATTER" "Ljava/util/function/BiFunction;") ∈ flatC sPre := by decide +kernel
theorem sm_n : ∀ i, i < 15 → zLen.getD i 0 < 2 ^ 31 := by decide +kernel
theorem s_val {args : Array Value} {s : State} {A : Nat → Prop} (h : sPre.before args s = true) (hA : ∀ a : Nat, a < s.heap.size → ¬ A a) (i : Nat) (hi : i < 15) : ∃ t : Nat, (Term.field (sT i) "java/lang/String" "value" "[B").eval args s none [] s = some (.ref t) ∧ va_T .byte t (zLen.getD i 0) (fun j => .int ((zByt.getD i []).getD j 0)) A s s.heap :=
  va_Tof (sm_n i hi) (s_fl h _ (sm_ar i hi)) (va_eqt (s_fl h _ (sm_le i hi))) (fun j hj => va_eqt (s_fl h _ (sm_el i hi j hj))) hA
theorem s_ne {args : Array Value} {s : State} (h : sPre.before args s = true) (i j : Nat) (hi : i < 15) (hj : j < 15) (hij : i ≠ j) : (Cond.not (Cond.eq (sT i) (sT j))).before args s = true := by
  obtain ⟨a, _, _, _, q1, -⟩ := Cond.exactly_spec (args := args) (first := s) (o := none) (s := s) (idx := []) (t := sT i) (cls := "java/lang/String") (s_fl h _ (sm_ex i hi))
  obtain ⟨b, _, _, _, q2, -⟩ := Cond.exactly_spec (args := args) (first := s) (o := none) (s := s) (idx := []) (t := sT j) (cls := "java/lang/String") (s_fl h _ (sm_ex j hj))
  have hab : a ≠ b := by
    intro e
    rw [← e] at q2
    obtain ⟨t1, e1, c1, g1, _, _, n1, z1, v1, _⟩ := s_val (A := fun _ => False) h (fun _ _ z => z) i hi
    obtain ⟨t2, e2, c2, g2, _, _, n2, z2, v2, _⟩ := s_val (A := fun _ => False) h (fun _ _ z => z) j hj
    rw [va_fe q1] at e1
    rw [va_fe q2] at e2
    have et : t1 = t2 := Value.ref.inj (Option.some.inj (e1.symm.trans e2))
    rw [← et, g1] at g2
    have ec : c1 = c2 := Option.some.inj g2
    rw [← ec] at z2 v2
    have el : zLen.getD i 0 = zLen.getD j 0 := by
      have hl : Int32.ofNat (zLen.getD i 0) = Int32.ofNat (zLen.getD j 0) := z1.symm.trans z2
      have e9 := congrArg Int32.toInt hl
      have l1 : ∀ i, i < 15 → (Int32.ofNat (zLen.getD i 0)).toInt = (zLen.getD i 0 : Int) := by decide +kernel
      rw [l1 i hi, l1 j hj] at e9
      exact Int.ofNat.inj e9
    refine sm_ne i hi j hj hij ⟨el, fun k hk => ?_⟩
    exact Value.int.inj (Option.some.inj ((v1 k hk).symm.trans (v2 k (by omega))))
  simp [Cond.before, Cond.holds, Cond.value, q1, q2, hab]
theorem s_str {args : Array Value} {s : State} {A : Nat → Prop} (h : sPre.before args s = true) (hA : ∀ a : Nat, a < s.heap.size → ¬ A a) : ∃ adK adV : Nat → Nat, vk_S 15 zLen zByt adK adV A s s.heap ∧ ∀ i : Nat, i < 15 → (sT i).eval args s none [] s = some (.ref (adK i)) :=
  vk_Sof (tm := sT) sm_n (fun i hi => s_fl h _ (sm_ex i hi)) (fun i hi => s_fl h _ (sm_co i hi)) (fun i hi => s_fl h _ (sm_ar i hi)) (fun i hi => s_fl h _ (sm_le i hi)) (fun i hi j hj => s_fl h _ (sm_el i hi j hj)) (fun i j hi hj hij => Or.inl (s_ne h i j hi hj hij)) hA
set_option maxRecDepth 100000 in
theorem sm_rf : ∀ q ∈ zStr, q.2.2.2 < 15 ∧ Cond.stringRef q.1 q.2.1 q.2.2.1 ∈ lw_tbl ∧ (Term.string q.1 q.2.1 = sT q.2.2.2 ∨ Cond.eq (sT q.2.2.2) (Term.string q.1 q.2.1) ∈ flatC sPre) := by decide +kernel
theorem s_ref {args : Array Value} {s : State} {adK : Nat → Nat} (h : sPre.before args s = true) (hts : ∀ w ∈ lw_tbl, w.before args s = true) (he : ∀ i : Nat, i < 15 → (sT i).eval args s none [] s = some (.ref (adK i))) : ∀ q ∈ zStr, vk_R q.1 q.2.1 q.2.2.1 (adK q.2.2.2) s := by
  intro q hq
  obtain ⟨h1, h2, h3⟩ := sm_rf q hq
  have e : (Term.string q.1 q.2.1).eval args s none [] s = some (.ref (adK q.2.2.2)) := by
    rcases h3 with h3 | h3
    · rw [h3]
      exact he _ h1
    · exact va_eqR (s_fl h _ h3) (he _ h1)
  exact vk_R.of (hts _ h2) e
theorem s_nest {args : Array Value} {s : State} (hts : ∀ w ∈ lw_tbl, w.before args s = true) : ∀ w ∈ zNest, va_Nw w s := by
  have hm : ∀ w ∈ zNest, w ∈ lw_tbl := sm_nest
  exact fun w hw => va_Nw.of (zNest_on hw) (hts _ (hm w hw))
theorem s_ka {args : Array Value} {s : State} {A : Nat → Prop} (h : sPre.before args s = true) (hA : ∀ a : Nat, a < s.heap.size → ¬ A a) : ∃ t : Nat, (Term.static "MeanCoats" "KIND_ABOVE" "[I").eval args s none [] s = some (.ref t) ∧ va_T .int t 7 (fun j => .int (zKA j)) A s s.heap :=
  va_Tof (N := 7) (by decide) (s_fl h _ sm_ka) (va_eqt (s_fl h _ sm_kl)) (fun j hj => va_eqt (s_fl h _ (sm_ke j hj))) hA
theorem s_ro {args : Array Value} {s : State} {A : Nat → Prop} (h : sPre.before args s = true) (hts : ∀ w ∈ lw_tbl, w.before args s = true) (hA : ∀ a : Nat, a < s.heap.size → ¬ A a) (G : va_G) (cs ad : Nat → Nat) : ∃ (aK aV : Nat → Nat) (kA : Nat), zRo (G, cs, ad, aK, aV, kA) A s := by
  obtain ⟨aK, aV, h1, h2⟩ := s_str h hA
  obtain ⟨kA, h3, h4⟩ := s_ka h hA
  have hz : ∀ w ∈ zT, w.before args s = true := fun w hw => hts w (zT_tbl hw)
  exact ⟨aK, aV, kA, h1, s_ref h hts h2, s_nest hts, va_Zref (hts _ (List.mem_of_getElem? (i := 360) (by decide +kernel))) (hz _ (zT_in 107 (by decide +kernel) rfl)) h3 hA, h4,
    va_Zof (hts _ (List.mem_of_getElem? (i := 742) (by decide +kernel))) (hz _ (zT_in 117 (by decide +kernel) rfl)) (va_eqt (s_fl h _ sm_cs)) hA, va_Zqof (hts _ (List.mem_of_getElem? (i := 758) (by decide +kernel))) (hz _ (zT_in 119 (by decide +kernel) rfl)) (s_fl h _ sm_si) hA⟩
theorem s_kn {args : Array Value} {s : State} (hts : ∀ w ∈ lw_tbl, w.before args s = true) : ∃ (G : va_G) (cs : Nat → ClassId), ∀ (ad aK aV : Nat → Nat) (kA : Nat), va_K G vwCl (zty (G, cs, ad, aK, aV, kA)) s := by
  have hz : ∀ w ∈ zT, w.before args s = true := fun w hw => hts w (zT_tbl hw)
  obtain ⟨c0, i0, k0⟩ := u_known (n := 4) hz zcl_0 (hz _ (zT_in 244 (by decide +kernel) rfl))
  obtain ⟨c1, i1, k1⟩ := u_known (n := 3) hz zcl_1 (hz _ (zT_in 264 (by decide +kernel) rfl))
  obtain ⟨c2, i2, k2⟩ := u_known (n := 5) hz zcl_2 (hz _ (zT_in 192 (by decide +kernel) rfl))
  obtain ⟨c3, i3, k3⟩ := u_known (n := 7) hz zcl_3 (hz _ (zT_in 215 (by decide +kernel) rfl))
  obtain ⟨c4, i4, k4⟩ := u_known (n := 13) hz zcl_4 (hz _ (zT_in 130 (by decide +kernel) rfl))
  obtain ⟨c5, i5, k5⟩ := u_known (n := 10) hz zcl_5 (hz _ (zT_in 122 (by decide +kernel) rfl))
  obtain ⟨c6, i6, k6⟩ := u_known (n := 27) hz zcl_6 (hz _ (zT_in 935 (by decide +kernel) rfl))
  obtain ⟨a0, ka0, co0, f0, f1, f2⟩ := Cond.arrayClass_spec (args := args) (first := s) (o := none) (idx := []) (type := .int) (hz _ (zT_in 190 (by decide +kernel) rfl))
  have hA1 : (Cond.arrayOver (.object "MeanCoats$Sheet")).before args s = true := hts _ (List.mem_of_getElem? (i := 263) (by decide +kernel))
  have hA2 : (Cond.arrayOver (.object "java/lang/String")).before args s = true := hts _ (List.mem_of_getElem? (i := 941) (by decide +kernel))
  obtain ⟨co1, a1, ka1, g0, _, g1, g2, g3⟩ := Cond.arrayOver_spec hA1
  obtain ⟨co2, a2, ka2, h0, _, h1, h2, h3⟩ := Cond.arrayOver_spec hA2
  refine ⟨(fun k => match k with | 0 => c0 | 1 => c1 | 2 => c2 | 3 => c3 | 4 => c4 | 5 => c5 | _ => c6, fun k => match k with | 0 => i0 | 1 => i1 | 2 => i2 | 3 => i3 | 4 => i4 | 5 => i5 | _ => i6), (fun k => match k with | 0 => a0 | 1 => a1 | _ => a2), fun ad aK aV kA => ⟨fun c q hq => ?_, fun k q hq => ?_⟩⟩
  · match c, hq with
    | 0, hq => obtain rfl := Option.some.inj hq; exact k0
    | 1, hq => obtain rfl := Option.some.inj hq; exact k1
    | 2, hq => obtain rfl := Option.some.inj hq; exact k2
    | 3, hq => obtain rfl := Option.some.inj hq; exact k3
    | 4, hq => obtain rfl := Option.some.inj hq; exact k4
    | 5, hq => obtain rfl := Option.some.inj hq; exact k5
    | 6, hq => obtain rfl := Option.some.inj hq; exact k6
    | c + 7, hq => cases hq
  · match k, hq with
    | 0, hq => obtain rfl := Option.some.inj hq; exact ⟨fun n z => ⟨fun q h => (by cases h), ka0, f1, co0, f2⟩, f0⟩
    | 1, hq => obtain rfl := Option.some.inj hq; exact ⟨fun n z => ⟨fun q h => (by cases h), ka1, g1, co1, g2⟩, ka1, co1, g1, g2, g0, g3⟩
    | 2, hq => obtain rfl := Option.some.inj hq; exact ⟨fun n z => ⟨fun q h => (by cases h), ka2, h1, co2, h2⟩, ka2, co2, h1, h2, h0, h3⟩
    | k + 3, hq => cases hq
theorem s_ao {args : Array Value} {s : State} (hts : ∀ w ∈ lw_tbl, w.before args s = true) : kAO s :=
  ⟨va_AO.of (hts _ (List.mem_of_getElem? (i := 263) (by decide +kernel))), va_AO.of (hts _ (List.mem_of_getElem? (i := 941) (by decide +kernel)))⟩
/-- the invariant holds at first -/
theorem inv0 : Inv u0 := by
  refine ⟨⟨⟨0, by decide, rfl, fun b h => absurd h (by omega), ?_, ?_, ⟨0, by decide, by decide⟩, ⟨20, by decide, by decide⟩, ⟨1, by decide, by decide⟩, ⟨0, by decide, by decide⟩, ?_⟩, ?_⟩, ⟨rfl, Or.inl rfl, fun h => absurd h (by decide)⟩, ⟨fun j _ => rfl, by decide⟩, ⟨0, by decide, by decide, by decide, fun j h => absurd h (by omega)⟩, ?_, fun j _ => rfl⟩
  · decide
  · intro b _ h
    have h9 : ∀ b, b < 12 → tH (u0 40) b = 0 := by decide
    exact h9 b h
  · intro i hi
    exact ⟨0, by decide, by revert hi; revert i; decide⟩
  · refine ⟨by decide, by decide, by decide, by decide, by decide, by decide, by decide, by decide, ?_, by decide, by decide, by decide, by decide⟩
    intro b m hb hm
    have h : ∀ b, b < 12 → ∀ m, m < 3 → u0 (1 + 2) (3 * b + m) = tM (u0 40) b m := by decide
    exact h b hb m hm
  · intro s hs
    have h : ∀ s, s < 4 → u0 (31 + 2 * s) 1 = u0 51 s ∧ u0 51 s = 0 ∧ u0 (31 + 2 * s) 2 = nI 0 ∧ u0 52 s = nI 0 ∧ ∀ j, j < 40 → u0 (31 + 2 * s + 1) j = u0 53 (40 * s + j) := by decide
    obtain ⟨a, b, c, d, e⟩ := h s hs
    exact ⟨a, Or.inl b, ⟨0, by decide, c, d⟩, e⟩
