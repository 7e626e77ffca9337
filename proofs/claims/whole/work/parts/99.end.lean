/-! THE END -/
theorem all_B : zSteps Inv := ⟨p_body, p_bodyOf, p_change, p_here, p_rule, p_ease, p_price, p_famine, p_coat, p_mean, p_cost, p_fits, p_costs, p_fines, p_pins, p_worst, p_marry, p_bride, p_send, p_best, p_easeFor, p_sways, p_sized, p_bribe, p_settled, p_rounds, p_settles, p_spring, p_old, p_lived, p_surely, p_odds, p_seed, p_feed, p_wipe, p_text, p_hold, p_as, p_sheet, p_write, p_copy, p_load, p_judge, p_image, p_undo, p_tear, p_count, p_status⟩
/-! THE CLAIM OUT OF ONE WALK OF THE LAW'S BODY. Your part is whole_start (and what it stands on); all else here is the same for every law, but numbers. -/
def R_law : String := "MeanCoatsLaw"
def lw_P (b : Addr) (xs : List Int32) (args : Array Value) (s : State) : Prop := args = #[.ref b] ∧ s.IntsAt b xs ∧ xs.length ≤ 384 ∧ (Jvm.Cond.and given_1 narrow_1).before args s = true
def lw_Q (_ : Array Value) (s : State) (o : Outcome) (t : State) : Prop := o = .returned (some (.int 1)) ∧ Framed s o t [] 600000 7302250
def lw_Z (below : List Frame) (a : Array Value) (s : State) : State → Prop := fun t => ∃ o, t.status = .running ∧ Ended t below o ∧ lw_Q a s o t
/-- the law's own end, with 1 on the stack, nothing written that was there before, its room as the claim has it -/
theorem lw_ret {p : Program} {l : Launch} {e : Env} {s : State} {m : MethodId} {below : List Frame} {meth : Method} {c : Code} {b : Nat} (hx : p.tables.exec = Jvm.exec) (hb : c.code = code) (hr : meth.sig.returnType = ret) (hlocks : meth.locks = false) {pc : Nat} {H : Heap} {ls : Array Slot} (hdg : decode code pc = .ok (.ireturn, 1)) : W p l e room_1 s m #[Value.ref b] below meth c H [] 600000 7302250 (lw_Z below #[Value.ref b] s) (F0 m pc ls [.int 1]) := by
  intro T hT X
  obtain ⟨fs, hret, hrun, hended, hW, hframe⟩ := X.leave (v := some (.int 1)) (hlocks := hlocks) (fun h => by rw [hr] at h; cases h)
  have hmeth' : T.vm.method? m = some meth := X.method'
  refine ⟨T.setFrames fs, ?_, .returned (some (.int 1)), hrun, hended, rfl, ⟨_, rfl⟩, hW, hframe⟩
  jvm_step X.here [X.here.top, hx, hb, hdg, hmeth', hr, ret, narrow_b1]
  (try refine ⟨rfl, ?_⟩); (try refine ⟨rfl, ?_⟩)
  first | (intro acts; rw [hret _ acts rfl rfl rfl]) | rw [hret _ _ rfl rfl rfl]
  exact Steps.refl _
/-- what holds at the law's entry: the machine, the code, the tables' words (any of lw_tbl by 'hts w (by decide +kernel)'), the script of L ints xs at the cell b, what the Statement gives of the start (any of its parts by flat_of_before) -/
def lw_At (p : Program) (s : State) (m : MethodId) (meth : Method) (c : Code) (b L : Nat) (xs : Nat → Int32) : Prop :=
  p.tables.exec = Jvm.exec ∧ c.code = code ∧ meth.sig.returnType = ret ∧ c.maxLocals = 4 ∧ s.vm.findClass R_law = some m.cls ∧ (∀ w ∈ lw_tbl, w.before #[Value.ref b] s = true) ∧ va_X b L xs s s.heap ∧ b < s.heap.size ∧ meth.locks = false ∧ (Jvm.Cond.and given_1 narrow_1).before #[Value.ref b] s = true
/-- where the cells lie -/
def kAd (q1 : Nat) (f1 : Nat → Nat) (q2 : Nat) (f2 : Nat → Nat) : Nat → Nat := fun k => if k < 39 then kF5 q1 f1 k else kF6 q2 f2 k
set_option maxRecDepth 20000 in
theorem whole_start {p : Program} {e : Env} {s : State} {m : MethodId} {below : List Frame} {meth : Method} {c : Code} (l : Launch) (hflags : l.flags = flags0) {b L : Nat} {xs : Nat → Int32} (hL : L ≤ 384) (C0 : lw_At p s m meth c b L xs) : W p l e room_1 s m #[Value.ref b] below meth c s.heap [] 0 0 (lw_Z below #[Value.ref b] s) (entryFrame m ([Value.ref b] : List Value).toArray 4) := by
  obtain ⟨hx, hb, hr, hml, hown, hts, hXs, hbl, hlocks, hgv⟩ := C0
  have hb0 : c.code = cL_law := hb
  have hown : s.vm.findClass RL = some m.cls := hown
  have hz : ∀ w ∈ zT, w.before #[Value.ref b] s = true := fun w hw => hts w (zT_tbl hw)
  have hgv : sPre.before #[Value.ref b] s = true := hgv
  obtain ⟨G, cs, hK0⟩ := s_kn hts
  have hA0 : ∀ a : Nat, a < s.heap.size → ¬ (s.heap.size ≤ a) := fun a h => by omega
  obtain ⟨aK, aV, kA, hRo⟩ := s_ro (A := fun q => s.heap.size ≤ q) hgv hts hA0 G cs (fun _ => 0)
  have hO := s_ao hts
  generalize hE : ((G, cs, fun _ => 0, aK, aV, kA) : zE) = E0 at hRo
  have hK : va_K E0.1 vwCl (zty E0) s := by
    rw [← hE]
    exact hK0 _ _ _ _
  have hA : ∀ q : Nat, s.heap.size ≤ q → (fun q => s.heap.size ≤ q) q := fun q h => h
  generalize hAe : (fun q : Nat => s.heap.size ≤ q) = A at hRo hA
  have hP : va_P E0.1 vwCl [] s.heap := fun k q h => by cases (show none = some q from h)
  have hD : va_D A [] := ⟨fun i j p q h => (by cases (show none = some p from h)), fun k q h => (by cases (show none = some q from h))⟩
  have hS : va_S A s.heap s.heap [] := va_S.rf
  have hl := lv_entry ([.ref b]) (n := 4) (Nat.le_of_ble_eq_true rfl)
  rw [lg_entry_eq]
  generalize (lg_sl ([.ref b]) ++ List.replicate (4 - (lg_sl ([.ref b])).length) Slot.unset).toArray = ls at hl ⊢
  have hl : lv_has ls 4 [(0, .ref b)] := hl
  refine k_new (own := RL) (ci := 5) (fs := [.null, .null, .null, .null, .null, .null, .null, .null, .null, .int 0]) (k9 := 1) (n9 := 10) tyX5 hx hb0 hz hown zcl_5 tyX5_ok (zT_in 121 (by decide +kernel) rfl) (zT_in 122 (by decide +kernel) rfl) (zT_in 107 (by decide +kernel) rfl) hK hP hD hS hA rfl (fun j hj => match j, hj with | 0, _ => rfl | 1, _ => rfl | 2, _ => rfl | 3, _ => rfl | 4, _ => rfl | 5, _ => rfl | 6, _ => rfl | 7, _ => rfl | 8, _ => rfl | 9, _ => rfl | j + 10, h => absurd h (by omega)) ⟨rfl, Nat.le_of_ble_eq_true rfl⟩ ⟨rfl, Nat.le_of_ble_eq_true rfl⟩ dL_law_0 (fun q1 H hP hD hS => ?_)
  refine lv_dup hx hb0 dL_law_3 rfl ?_
  refine k_call (own := RL) (k9 := 39) (n9 := 1107) (wr := []) k_init5 hx hb0 hz hown hml hl.1 hK hRo hO hA hP hD hS (Or.inl (zT_in 123 (by decide +kernel) rfl)) (zT_in 125 (by decide +kernel) rfl) (zT_in 107 (by decide +kernel) rfl) (zT_in 124 (by decide +kernel) rfl) ⟨by decide +kernel, by decide +kernel, by decide +kernel⟩ rfl [0] [] rfl rfl (by decide) (by decide) (by decide) (Nat.le_of_ble_eq_true rfl) ⟨by decide, by decide⟩ ⟨rfl, Nat.le_of_ble_eq_true rfl⟩ ⟨rfl, Nat.le_of_ble_eq_true rfl⟩ dL_law_4 (fun f1 H locs hP hD hS => ?_)
  have hP : va_P E0.1 vwCl (kW5 E0 q1 f1) H := hP
  have hD : va_D A (kW5 E0 q1 f1) := hD
  refine lv_astore_n hx hb0 dL_law_7 rfl hl (by decide) (lv' := [(1, .ref q1), (0, .ref b)]) rfl (fun ls hl => ?_)
  refine k_new (own := RL) (ci := 6) (fs := [.null, .null, .int 0, .null, .null, .null, .null, .int 0, .null, .int 0, .int 0, .null, .int 0, .int 0, .int 0, .int 0, .int 0, .int 0, .null, .null, .null, .int 0, .int 0, .null, .null, .null, .null]) (k9 := 40) (n9 := 1134) tyX6 hx hb0 hz hown zcl_6 tyX6_ok (zT_in 934 (by decide +kernel) rfl) (zT_in 935 (by decide +kernel) rfl) (zT_in 113 (by decide +kernel) rfl) hK hP hD hS hA rfl (fun j hj => match j, hj with | 0, _ => rfl | 1, _ => rfl | 2, _ => rfl | 3, _ => rfl | 4, _ => rfl | 5, _ => rfl | 6, _ => rfl | 7, _ => rfl | 8, _ => rfl | 9, _ => rfl | 10, _ => rfl | 11, _ => rfl | 12, _ => rfl | 13, _ => rfl | 14, _ => rfl | 15, _ => rfl | 16, _ => rfl | 17, _ => rfl | 18, _ => rfl | 19, _ => rfl | 20, _ => rfl | 21, _ => rfl | 22, _ => rfl | 23, _ => rfl | 24, _ => rfl | 25, _ => rfl | 26, _ => rfl | j + 27, h => absurd h (by omega)) ⟨rfl, Nat.le_of_ble_eq_true rfl⟩ ⟨rfl, Nat.le_of_ble_eq_true rfl⟩ dL_law_8 (fun q2 H hP hD hS => ?_)
  refine lv_dup hx hb0 dL_law_11 rfl ?_
  refine k_call (own := RL) (k9 := 55) (n9 := 2607) (wr := kW5 E0 q1 f1) k_init6 hx hb0 hz hown hml hl.1 hK hRo hO hA hP hD hS (Or.inl (zT_in 936 (by decide +kernel) rfl)) (zT_in 938 (by decide +kernel) rfl) (zT_in 113 (by decide +kernel) rfl) (zT_in 937 (by decide +kernel) rfl) ⟨by decide +kernel, by decide +kernel, by decide +kernel⟩ rfl [39] [0, 1, 2, 3, 4, 5, 6, 7, 8, 9, 10, 11, 12, 13, 14, 15, 16, 17, 18, 19, 20, 21, 22, 23, 24, 25, 26, 27, 28, 29, 30, 31, 32, 33, 34, 35, 36, 37, 38] rfl rfl (by decide) (by decide) (by decide) (Nat.le_of_ble_eq_true rfl) ⟨by decide, by decide⟩ ⟨rfl, Nat.le_of_ble_eq_true rfl⟩ ⟨rfl, Nat.le_of_ble_eq_true rfl⟩ dL_law_12 (fun f2 H locs hP hD hS => ?_)
  refine lv_astore_n hx hb0 dL_law_15 rfl hl (by decide) (lv' := [(2, .ref q2), (1, .ref q1), (0, .ref b)]) rfl (fun ls hl => ?_)
  refine lv_iconst (v := 0) hx hb0 dL_law_16 (by decide) ?_
  refine lv_istore_n hx hb0 dL_law_17 rfl hl (by decide) (lv' := [(3, .int 0), (2, .ref q2), (1, .ref q1), (0, .ref b)]) rfl (fun ls hl => ?_)
  have hl : lv_has ls 4 [(3, .int 0), (0, .ref b), (1, .ref q1), (2, .ref q2)] := lv_sub hl [0, 3, 2, 1] rfl
  subst hE
  have hj : ∀ j, j < 4 → (fun j => some (kF5 q1 f1 (31 + 2 * j))) j = (fun j => some (kAd q1 f1 q2 f2 (31 + 2 * j))) j := fun j hj => match j, hj with | 0, _ => rfl | 1, _ => rfl | 2, _ => rfl | 3, _ => rfl | j + 4, h => absurd h (by omega)
  have hP := kP_q (k := 27) (g := fun j => some (kAd q1 f1 q2 f2 (31 + 2 * j))) hP rfl hj
  have hD := kD_q (k := 27) (e2 := .inl (cs 1, 4, .inr (.inr (.inr (.inr (fun j => some (kAd q1 f1 q2 f2 (31 + 2 * j)))))))) hD rfl
  have hP : va_P G vwCl (zw (G, cs, kAd q1 f1 q2 f2, aK, aV, kA) u0) H := hP
  have hD : va_D A (zw (G, cs, kAd q1 f1 q2 f2, aK, aV, kA) u0) := hD
  have hG : zGood ((G, cs, kAd q1 f1 q2 f2, aK, aV, kA), A, p, l, e, room_1, s, m, #[Value.ref b], below, meth, c, 4, 55, 2607, lw_Z below #[Value.ref b] s) RL cL_law 4 70 :=
    ⟨hx, hb0, ⟨hml, rfl⟩, hown, hz, hK0 _ _ _ _, zw_D u0 z0 hD, hRo, by decide, by decide, by decide, by decide⟩
  have hsc : zScr ((G, cs, kAd q1 f1 q2 f2, aK, aV, kA), A, p, l, e, room_1, s, m, #[Value.ref b], below, meth, c, 4, 55, 2607, lw_Z below #[Value.ref b] s) b L xs := ⟨hXs, hbl, by
    rw [← hAe]
    intro h
    exact Nat.lt_irrefl _ (Nat.lt_of_lt_of_le hbl h)⟩
  refine l_loop hG hsc hL all_B (fun u Lc H locs ls _ hS _ => ?_) (L + 1) 0 (Nat.zero_le _) (by omega) u0 inv0 H locs ls hP hS hl
  refine va_forget (fun q hq => ?_) ?_
  · have h := hS.2.2 q hq
    rw [← hAe] at h
    exact h
  · refine W.widen (k := 600000) (n := 7302250) (by decide) (by decide) ?_
    exact lw_ret hx hb hr hlocks dL_law_1437
set_option maxHeartbeats 4000000 in
theorem lw_walk (l : Launch) (hflags : l.flags = flags0) (b : Addr) (xs : List Int32) : MetFree l x (headSpec (Jvm.Cond.code x code maxLocals ret :: tables_1) room_1) (lw_P b xs) (fun _ _ _ _ _ => True) lw_Q := by
  refine MetFree.of_bodyS (code := code) (maxLocals := maxLocals) (ret := ret) (by decide) ?_ ?_
  · intro args s m h hn
    obtain ⟨meth, c, h1, h2, h3, h4, h5, h6, -, -⟩ := Cond.code_spec hn (atoms_spec (ws := Jvm.Cond.code x code maxLocals ret :: tables_1) h _ List.mem_cons_self)
    exact ⟨meth, c, h1, h2, h3, h4, h5, h6⟩
  · intro p e s m args below meth c s₁ B hml0 hP _
    obtain ⟨rfl, hx, hbd, hgv⟩ := hP
    obtain ⟨scr, harrAt, hlist, hof, hsmall⟩ := hx
    obtain ⟨hcb, hkn, -, -⟩ := State.arrayAt?_spec harrAt
    have hown : s.vm.findClass R_law = some m.cls := findClass_of_methodNamed B.named
    have hts0 : ∀ c ∈ (Jvm.Cond.code x code maxLocals ret :: tables_1), c.before #[Value.ref b] s = true := atoms_spec (ws := Jvm.Cond.code x code maxLocals ret :: tables_1) B.pre
    have hts : ∀ w ∈ lw_tbl, w.before #[Value.ref b] s = true := k2_hts_sels lw_privs (fun w hw => hts0 w (List.mem_cons_of_mem _ hw)) lw_privs_ok
    have hml : c.maxLocals = 4 := B.maxLocals_eq (hts0 _ List.mem_cons_self)
    have X₀ : Stand p l e room_1 s m #[Value.ref b] below meth c s₁ [] 0 0 := Stand.of_body B
    have hh0 : s₁.heap = s.heap := by rw [B.state]; rfl
    have hsz : scr.slots.size = xs.length := by rw [← Array.length_toList, hlist, List.length_map]
    have hval : ∀ j : Nat, j < xs.length → scr.slots[j]? = some (.int (xs.getD j 0)) := fun j hj => by
      rw [← Array.getElem?_toList, hlist]
      simp [hj]
    have hbl : b < s.heap.size := (Array.getElem?_eq_some_iff.mp hcb).1
    have hX : va_X b xs.length (fun j => xs.getD j 0) s s.heap := ⟨scr, hcb, hof, hkn, hsz, hval⟩
    have K : W p l e room_1 s m #[Value.ref b] below meth c s₁.heap [] 0 0 (lw_Z below #[Value.ref b] s) (entryFrame m ([Value.ref b] : List Value).toArray 4) := by
      rw [hh0]
      exact whole_start l hflags hbd ⟨B.exec, B.bytes, B.returns, hml, hown, hts, hX, hbl, B.notSynchronized, hgv⟩
    obtain ⟨t, a1, o, b1, b2, b3⟩ := K s₁ rfl X₀
    exact ⟨t, o, a1, b1, b2, b3⟩
theorem lw_pre_spec {args : Array Value} {s : State} (h : (Jvm.Cond.and given_1 narrow_1).before args s = true) (hr : rest_1_c.before args s = true) : ∃ (b : Addr) (xs : List Int32), lw_P b xs args s := by
  have hs := flat_of_before _ h
  have hq := flat_of_before _ hr
  have hc : (Cond.count 1).before args s = true := hs _ (by decide +kernel)
  have harr : (Cond.arrayOf (.arg 0) .int).before args s = true := hs _ (by decide +kernel)
  have hle : (Cond.le (.length (.arg 0)) (.int 384)).before args s = true := hs _ (by decide +kernel)
  have hlen : (Cond.isInt (.length (.arg 0))).before args s = true := hq _ (by decide +kernel)
  have hall : (Cond.all (.arg 0) (.isInt (.elem (.arg 0) (.index 0)))).before args s = true := hq _ (by decide +kernel)
  obtain ⟨b, xs, hb, hx⟩ := State.ints_of_pre rfl harr hlen hall
  have hsm : xs.length < 2 ^ 31 := hx.choose_spec.2.2.2
  have hev : (Term.length (.arg 0)).eval args s none [] s = some (.int xs.length.toInt32) := hx.length_eval hb
  have hv := Cond.le_ints hev (show (Term.int 384).eval args s none [] s = some (.int 384) from rfl)
  have hd : xs.length.toInt32 ≤ 384 := by
    simpa [Cond.before, Cond.holds, hv] using hle
  have hN : xs.length ≤ 384 := (Int32.ofNat_le_ofNat hsm (by decide)).mp (show Int32.ofNat xs.length ≤ Int32.ofNat 384 from hd)
  exact ⟨b, xs, Cond.one_arg hc (show args[0]? = some (.ref b) from hb), hx, hN, h⟩
theorem lw_comes (l : Launch) (hflags : l.flags = flags0) : Comes l x (Jvm.Cond.code x code maxLocals ret :: tables_1) room_1 (fun tb e args s => Calls_1 tb e args s ∧ rest_1 tb e args s ∧ Pre_1 tb e args s)
    (fun _ _ args s o t => lw_Q args s o t) := by
  intro p e ha hc hk s m args below hf hfit hheap happ hpre
  obtain ⟨b, xs, hP⟩ := lw_pre_spec hpre.2.2 hpre.2.1
  obtain ⟨k, o, h1, h2, h3, hQ⟩ := lw_walk l hflags b xs p e ha hc hk s m args below hf ((Spec.applies_iff_loose hf).mp happ).1 hP trivial
  exact ⟨k, o, h1, h2, h3, hQ⟩
theorem lw_frame {s t : State} {o : Outcome} {args : Array Value} (h : Framed s o t [] 600000 7302250) :
    Framed s o t (fieldLocs frame_1_writes args s ++ arrayLocs frame_1_arrays args s ++ staticLocs frame_1_statics s) 600000 7302250 := h
theorem lw_limb (L : Cond) (hL : ∀ (args : Array Value) (s t : State), L.after args s (.returned (some (.int 1))) t = true) :
    ArmFor flags0 classFile x code maxLocals ret World_1 tables_1 room_1 Calls_1 rest_1 Pre_1
      (fun tb e a s o t => postC L tb e a s o t ∧ Framed s o t (fieldLocs frame_1_writes a s ++ arrayLocs frame_1_arrays a s ++ staticLocs frame_1_statics s) 600000 7302250) := by
  intro l hflags _ _ p e ha hc hk s m args below hf hfit hheap happ hpre
  obtain ⟨k, o, h1, h2, h3, rfl, hF⟩ := lw_comes l hflags p e ha hc hk s m args below hf hfit hheap happ hpre
  exact ⟨k, _, h1, h2, h3, hL args s _, lw_frame hF⟩
theorem i_vc : Claimed_1_1 ∧ Claimed_1_2 := ⟨lw_limb limb_1_1 (fun args s t => by simp [limb_1_1, Cond.after, Cond.holds, Cond.value]), lw_limb limb_1_2 (fun args s t => Cond.after_iff.mpr (by
  first | (rw [show limb_1_2 = Cond.eq .result (.int 1) from rfl, Cond.eq_ints (x := 1) (y := 1) rfl rfl]; simp; done) | (simp [limb_1_2, Cond.value, Term.eval]; done)))⟩
