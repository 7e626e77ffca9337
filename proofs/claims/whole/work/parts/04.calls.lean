/-! CALLS AND ENDS -/
section ZC
variable {X : zX} {own : String} {cc : ByteArray} {mL d : Nat} {u : zM} {pc : Nat} {L : List (Nat × Value)} {st : List Value}
/-- what a call needs beside the contract: the words that link it -/
def zLk (own : String) (idx : Nat) (y : MethodName) : Prop := Cond.methodLink own idx y ∈ zT ∨ ∃ host, Cond.methodLinkNest own idx y host ∈ zNest
def zLV (own : String) (idx : Nat) (y : MethodName) (b : ByteArray) (m : Nat) (ret : Option FieldType) (n : Nat) : Prop :=
  zLk own idx y ∧ Cond.code y b m ret ∈ zT ∧ Cond.initialized y.cls ∈ zT ∧ (y.cls ≠ "java/lang/invoke/MethodHandle" ∧ y.cls ≠ "java/lang/invoke/VarHandle" ∧ (parseMethodDescriptor y.desc).map (fun d => d.parameters.length) = some n) ∧ Cond.instanceMethod y ∈ zT ∧ Cond.selects y.cls y y ∈ zT
def zLS (own : String) (idx : Nat) (y : MethodName) (b : ByteArray) (m : Nat) (ret : Option FieldType) (n : Nat) : Prop :=
  zLk own idx y ∧ Cond.code y b m ret ∈ zT ∧ Cond.initialized y.cls ∈ zT ∧ (y.cls ≠ "java/lang/invoke/MethodHandle" ∧ y.cls ≠ "java/lang/invoke/VarHandle" ∧ (parseMethodDescriptor y.desc).map (fun d => d.parameters.length) = some n) ∧ Cond.static y ∈ zT
theorem zws_good {y : MethodName} {b : ByteArray} {m : Nat} {ret : Option FieldType} (h : Cond.code y b m ret ∈ zT) : GoodIn zT (.code y b m ret :: zT) := zT_all (fun w hw => by
  rcases List.mem_cons.mp hw with rfl | hw
  · exact h
  · exact hw)
section ZCW
variable {p : Program} {l : Launch} {e : Env} {R : Room} {s : State} {m : MethodId} {args : Array Value} {below : List Frame} {meth : Method} {c : Code} {H : Heap} {locs : List Loc} {cells slots : Nat} {Q : State → Prop}
theorem z_call {E : zE} {A : Nat → Prop} {r : Option Value} {u' : zM} {a : Array Value} {ls : Array Slot} {st0 rest : List Value} (hr : va_Run p l e R s m args below meth c H locs cells slots 0 0 (F0 m pc ls st0) rest (zQc E r u' a) (zA E)) (hS : va_S A s.heap H locs) (hAA : ∀ q, zA E q → A q)
    (kk : ∀ (H1 : Heap) (locs1 : List Loc), va_P E.1 vwCl (zw E u') H1 → va_S A s.heap H1 locs1 → W p l e R s m args below meth c H1 locs1 cells slots Q (F0 m (pc + 3) ls (r.toList ++ rest))) : W p l e R s m args below meth c H locs cells slots Q (F0 m pc ls st0) := by
  intro T hT X
  obtain ⟨v, st₀, t, T', L, h0, X', hL, e1, e2, ⟨⟨hv, hP1⟩, hz, hk⟩, stp⟩ := hr T hT X
  cases hv
  rw [h0] at hz hk
  obtain ⟨t2, a1, b1⟩ := kk T'.heap (locs ++ L) (by rw [e1]; exact hP1)
    ⟨Nat.le_trans hS.1 (by rw [e1]; exact hz), fun q h1 h2 => by rw [e1, hk q (Nat.lt_of_lt_of_le h1 hS.1) (fun z => h2 (hAA q z))]; exact hS.2.1 q h1 h2, fun q hq => by
      rcases List.mem_append.mp hq with h | h
      · exact hS.2.2 q h
      · exact hAA _ (hL q h)⟩ T' rfl X'
  exact ⟨t2, stp t2 a1, b1⟩
end ZCW
/-- who may be called: an object of the world, or a String -/
def zRecv (E : zE) (C : String) (a : Nat) : Prop := (∃ q ci T N, a = zad E q ∧ zC q = some ci ∧ vwCl[ci]? = some (C, T, N)) ∨ (∃ q, q < 15 ∧ a = zaK E q ∧ C = "java/lang/String")
theorem zRecv.of {E : zE} {C : String} {q ci : Nat} {T : u_T} {N : Nat} (h1 : zC q = some ci) (h2 : vwCl[ci]? = some (C, T, N)) : zRecv E C (zad E q) := Or.inl ⟨q, ci, T, N, rfl, h1, h2⟩
theorem r_callV {idx n d' m' a : Nat} {y : MethodName} {b : ByteArray} {ret : Option FieldType} {av : zE → List Value} {r : zE → Option Value} {u' : zM} {st0 rest st1 : List Value} {As : List Value} (hX : zGood X own cc mL d) (hd : decode cc pc = .ok (.invokevirtual idx, 3)) (hw : zLV own idx y b m' ret n) (hC : zCt d' y b m' ret av u r u')
    (hdd : d' + 1 ≤ d ∧ m' ≤ 29) (hav : av X.1 = .ref a :: As) (hn : As.length = n) (hrv : zRecv X.1 y.cls a) (hst0 : st0 = As.reverse ++ .ref a :: rest) (hst : (rest.map fun v => v.category).sum ≤ 8) (hst1 : (r X.1).toList ++ rest = st1) (k : zG X u' (pc + 3) L st1) : zG X u pc L st0 := by
  obtain ⟨E, A, p, l, e, R, s, m, args, below, meth, c, nL, cells, slots, Q⟩ := X
  obtain ⟨hlk, hcode, hini, hdesc, hinst, hsel⟩ := hw
  have hts := hX.2.2.2.2.1
  have hK : va_K E.1 vwCl (zty E) s := hX.2.2.2.2.2.1
  have hD : va_D A (zw E z0) := hX.2.2.2.2.2.2.1
  have hRo : zRo E A s := hX.2.2.2.2.2.2.2.1
  have hfr : d ≤ R.frames := hX.2.2.2.2.2.2.2.2.1
  have hlo : d * 48 ≤ R.locals := hX.2.2.2.2.2.2.2.2.2.1
  have hce : cells ≤ R.cells := hX.2.2.2.2.2.2.2.2.2.2.1
  have hsl : slots ≤ R.slots := hX.2.2.2.2.2.2.2.2.2.2.2
  subst hst0
  intro H locs ls hP hS hl
  have hM : Met l y (.code y b m' ret :: zT) { frames := d', cells := 0, slots := 0, locals := d' * 48 } (zPc E (.ref a :: As) u) (zQc E (r E) u') 0 0 (zA E) := by
    have := hC l E
    rw [show av E = .ref a :: As from hav] at this
    exact this
  have hrec : ∃ cellB : Cell, H[a]? = some cellB ∧ cellB.vm.isStatics = false ∧ s.vm.findClass y.cls = some cellB.cls := by
    rcases hrv with ⟨q, ci, T, N, rfl, hc, hcl⟩ | ⟨q, hq, rfl, hcl⟩
    · exact va_recv hK hP hcl (zw_obj E u q ci hc)
    · rw [hcl]
      exact vk_recv hRo.1 hq hS
  have hp : PreV s H y.cls a (zPc E (.ref a :: As) u) As := ⟨zPc_blind, hrec, fun U hU hW => ⟨rfl, by rw [hU]; exact hP, va_K.moved hW.alike hK, zA_D hD, hRo.go hW (by rw [hU]; exact hS.2.1) (zA_le hD)⟩⟩
  have hRm : d' + 1 ≤ R.frames ∧ 8 + (m' + 11) + d' * 48 ≤ R.locals := ⟨by omega, by omega⟩
  have kk : ∀ (H1 : Heap) (locs1 : List Loc), va_P E.1 vwCl (zw E u') H1 → va_S A s.heap H1 locs1 → W p l e R s m args below meth c H1 locs1 cells slots Q (F0 m (pc + 3) ls ((r E).toList ++ rest)) := fun H1 locs1 h1 h2 => by
    rw [show (r E).toList ++ rest = st1 from hst1]
    exact k H1 locs1 ls h1 h2 hl
  rcases hlk with hlk | ⟨host, hlk⟩
  · exact z_call (va_runV (As := As) (rest := rest) ⟨hX.1, hX.2.1, hX.2.2.1.1, hX.2.2.2.1, hts⟩ hM ⟨callB_of n hts (zws_good hcode) rfl rfl rfl (hts _ hini) (hts _ hlk) hdesc hRm, hts _ hinst, hts _ hsel⟩ hp rfl hn hl.1 rfl (lv_room hst) hd ⟨hce, hsl⟩) hS (zA_le hD) kk
  · exact z_call (va_runVN (As := As) (rest := rest) ⟨hX.1, hX.2.1, hX.2.2.1.1, hX.2.2.2.1, hts⟩ hM ⟨va_cnB n hts (zws_good hcode) rfl rfl rfl (hRo.2.2.1 _ hlk) (hts _ hini) hdesc hRm, hts _ hinst, hts _ hsel⟩ hp rfl hn hl.1 rfl (lv_room hst) hd ⟨hce, hsl⟩) hS (zA_le hD) kk
theorem r_callS {idx n d' m' : Nat} {y : MethodName} {b : ByteArray} {ret : Option FieldType} {av : zE → List Value} {r : zE → Option Value} {u' : zM} {st0 rest st1 : List Value} {As : List Value} (hX : zGood X own cc mL d) (hd : decode cc pc = .ok (.invokestatic idx, 3)) (hw : zLS own idx y b m' ret n) (hC : zCt d' y b m' ret av u r u')
    (hdd : d' + 1 ≤ d ∧ m' ≤ 29) (hav : av X.1 = As) (hn : As.length = n) (hst0 : st0 = As.reverse ++ rest) (hst : (rest.map fun v => v.category).sum ≤ 8) (hst1 : (r X.1).toList ++ rest = st1) (k : zG X u' (pc + 3) L st1) : zG X u pc L st0 := by
  obtain ⟨E, A, p, l, e, R, s, m, args, below, meth, c, nL, cells, slots, Q⟩ := X
  obtain ⟨hlk, hcode, hini, hdesc, hstat⟩ := hw
  have hts := hX.2.2.2.2.1
  have hK : va_K E.1 vwCl (zty E) s := hX.2.2.2.2.2.1
  have hD : va_D A (zw E z0) := hX.2.2.2.2.2.2.1
  have hRo : zRo E A s := hX.2.2.2.2.2.2.2.1
  have hfr : d ≤ R.frames := hX.2.2.2.2.2.2.2.2.1
  have hlo : d * 48 ≤ R.locals := hX.2.2.2.2.2.2.2.2.2.1
  have hce : cells ≤ R.cells := hX.2.2.2.2.2.2.2.2.2.2.1
  have hsl : slots ≤ R.slots := hX.2.2.2.2.2.2.2.2.2.2.2
  subst hst0
  intro H locs ls hP hS hl
  have hM : Met l y (.code y b m' ret :: zT) { frames := d', cells := 0, slots := 0, locals := d' * 48 } (zPc E As u) (zQc E (r E) u') 0 0 (zA E) := by
    have := hC l E
    rw [show av E = As from hav] at this
    exact this
  have hp : PreS s H (zPc E As u) As := ⟨zPc_blind, fun U hU hW => ⟨rfl, by rw [hU]; exact hP, va_K.moved hW.alike hK, zA_D hD, hRo.go hW (by rw [hU]; exact hS.2.1) (zA_le hD)⟩⟩
  have hRm : d' + 1 ≤ R.frames ∧ 8 + (m' + 11) + d' * 48 ≤ R.locals := ⟨by omega, by omega⟩
  have kk : ∀ (H1 : Heap) (locs1 : List Loc), va_P E.1 vwCl (zw E u') H1 → va_S A s.heap H1 locs1 → W p l e R s m args below meth c H1 locs1 cells slots Q (F0 m (pc + 3) ls ((r E).toList ++ rest)) := fun H1 locs1 h1 h2 => by
    rw [show (r E).toList ++ rest = st1 from hst1]
    exact k H1 locs1 ls h1 h2 hl
  rcases hlk with hlk | ⟨host, hlk⟩
  · exact z_call (va_runS (As := As) (rest := rest) ⟨hX.1, hX.2.1, hX.2.2.1.1, hX.2.2.2.1, hts⟩ hM ⟨callB_of n hts (zws_good hcode) rfl rfl rfl (hts _ hini) (hts _ hlk) hdesc hRm, hts _ hstat⟩ hp rfl hn hl.1 rfl (lv_room hst) hd ⟨hce, hsl⟩) hS (zA_le hD) kk
  · exact z_call (va_runSN (As := As) (rest := rest) ⟨hX.1, hX.2.1, hX.2.2.1.1, hX.2.2.2.1, hts⟩ hM ⟨va_cnB n hts (zws_good hcode) rfl rfl rfl (hRo.2.2.1 _ hlk) (hts _ hini) hdesc hRm, hts _ hstat, trivial⟩ hp rfl hn hl.1 rfl (lv_room hst) hd ⟨hce, hsl⟩) hS (zA_le hD) kk
/-- ends -/
theorem r_iret {v : Int32} (hX : zGood X own cc mL d) (hR : zRet X (some .int) (some (.int v)) u) (hd : decode cc pc = .ok (.ireturn, 1)) : zG X u pc L [.int v] := by
  obtain ⟨E, A, p, l, e, R, s, m, args, below, meth, c, nL, cells, slots, Q⟩ := X
  obtain ⟨rfl, rfl, hr, hlocks⟩ := hR
  intro H locs ls hP hS hl
  exact W.iret hX.1 hX.2.1 hr (fun t ht hW => ⟨⟨rfl, by rw [ht]; exact hP⟩, hS.F ht⟩) hS.2.2 hd hlocks
theorem r_vret (hX : zGood X own cc mL d) (hR : zRet X none none u) (hd : decode cc pc = .ok (.return_, 1)) : zG X u pc L [] := by
  obtain ⟨E, A, p, l, e, R, s, m, args, below, meth, c, nL, cells, slots, Q⟩ := X
  obtain ⟨rfl, rfl, hr, hlocks⟩ := hR
  intro H locs ls hP hS hl
  exact W.vret hX.1 hX.2.1 hr (fun t ht hW => ⟨⟨rfl, by rw [ht]; exact hP⟩, hS.F ht⟩) hS.2.2 hd hlocks
theorem r_aret {a : Nat} {rt : FieldType} (hrt : (∃ n, rt = .object n) ∨ ∃ t, rt = .array t) (hX : zGood X own cc mL d) (hR : zRet X (some rt) (some (.ref a)) u) (hd : decode cc pc = .ok (.areturn, 1)) : zG X u pc L [.ref a] := by
  obtain ⟨E, A, p, l, e, R, s, m, args, below, meth, c, nL, cells, slots, Q⟩ := X
  obtain ⟨rfl, rfl, hr, hlocks⟩ := hR
  intro H locs ls hP hS hl
  exact W.aret hX.1 hX.2.1 hr hrt (Or.inr ⟨a, rfl⟩) (fun t ht hW => ⟨⟨rfl, by rw [ht]; exact hP⟩, hS.F ht⟩) hS.2.2 hd hlocks
/-- what comes back of a boolean, a char, a byte: narrowed -/
def zb (v : Int32) : Int32 := v &&& 1
def zc16 (v : Int32) : Int32 := v.toUInt32.toUInt16.toUInt32.toInt32
theorem r_nret {v v' : Int32} {ty : FieldType} (hn : narrow ty (.int v) = .int v') (hX : zGood X own cc mL d) (hR : zRet X (some ty) (some (.int v')) u) (hd : decode cc pc = .ok (.ireturn, 1)) : zG X u pc L [.int v] := by
  obtain ⟨E, A, p, l, e, R, s, m, args, below, meth, c, nL, cells, slots, Q⟩ := X
  obtain ⟨rfl, rfl, hr, hlocks⟩ := hR
  intro H locs ls hP hS hl
  intro T hT X
  have hx := hX.1
  have hb := hX.2.1
  obtain ⟨fs, hret, hrun, hended, hW, hframe⟩ := X.leave (v := some (.int v')) (fun h => by rw [hr] at h; cases h)
  have hmeth' : T.vm.method? m = some meth := X.method'
  refine ⟨T.setFrames fs, ?_, .returned (some (.int v')), hrun, hended, ⟨⟨rfl, by rw [show (T.setFrames fs).heap = T.heap from rfl, hT]; exact hP⟩, hS.F hT⟩, locs, ⟨⟨_, rfl⟩, hW, hframe⟩, hS.2.2⟩
  jvm_step X.here [X.here.top, hx, hb, hd, hmeth', hr, hn]
  (try refine ⟨rfl, ?_⟩); (try refine ⟨rfl, ?_⟩)
  first | (intro acts; rw [hret _ acts rfl rfl rfl]) | rw [hret _ _ rfl rfl rfl]
  exact Steps.refl _
theorem r_zret {v : Int32} (hX : zGood X own cc mL d) (hR : zRet X (some .boolean) (some (.int (zb v))) u) (hd : decode cc pc = .ok (.ireturn, 1)) : zG X u pc L [.int v] := r_nret (ty := .boolean) rfl hX hR hd
theorem r_zret0 (hX : zGood X own cc mL d) (hR : zRet X (some .boolean) (some (.int 0)) u) (hd : decode cc pc = .ok (.ireturn, 1)) : zG X u pc L [.int 0] := r_nret (ty := .boolean) (v' := 0) rfl hX hR hd
theorem r_zret1 (hX : zGood X own cc mL d) (hR : zRet X (some .boolean) (some (.int 1)) u) (hd : decode cc pc = .ok (.ireturn, 1)) : zG X u pc L [.int 1] := r_nret (ty := .boolean) (v' := 1) rfl hX hR hd
theorem r_cret {v : Int32} (hX : zGood X own cc mL d) (hR : zRet X (some .char) (some (.int (zc16 v))) u) (hd : decode cc pc = .ok (.ireturn, 1)) : zG X u pc L [.int v] := r_nret (ty := .char) rfl hX hR hd
end ZC
