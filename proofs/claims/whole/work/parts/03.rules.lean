/-! THE WALK, MADE SMALL: 'zG X u pc L st' says that the machine, at pc with the locals L and the stack st, the world being u, comes to its end. One rule an instruction. -/
/-- the free addresses of a method: the world's own -/
def zA (E : zE) : Nat → Prop := fun q => ∃ k, k < 55 ∧ q = zad E k
/-- what stays as it is beside the world: Strings, the static row, the nest mates' links -/
def zRo (E : zE) (A : Nat → Prop) (U : State) : Prop :=
  vk_S 15 zLen zByt (zaK E) E.2.2.2.2.1 A U U.heap ∧ (∀ q ∈ zStr, vk_R q.1 q.2.1 q.2.2.1 (zaK E q.2.2.2) U) ∧ (∀ w ∈ zNest, va_Nw w U) ∧
  va_Z "MeanCoats" "KIND_ABOVE" "[I" (.ref E.2.2.2.2.2) A U U.heap ∧ va_T .int E.2.2.2.2.2 7 (fun j => .int (zKA j)) A U U.heap ∧
  va_Z "java/lang/String" "COMPACT_STRINGS" "Z" (.int 1) A U U.heap ∧ va_Zq "jdk/internal/util/Preconditions" "SIOOBE_FORMATTER" "Ljava/util/function/BiFunction;" A U U.heap
theorem zNest_shape : zNest.all (fun w => match w with | .fieldLinkNest .. => true | .methodLinkNest .. => true | _ => false) = true := by decide +kernel
theorem zNest_warm {s U : State} (hW : s.WarmedH U.vm) {w : Cond} (hw : w ∈ zNest) (h : va_Nw w s) : va_Nw w U := by
  have hs := List.all_eq_true.mp zNest_shape w hw
  cases w <;> first | (cases hs; done) | exact va_Nw.warmF hW h | exact va_Nw.warmM hW h
theorem zNest_on {w : Cond} (hw : w ∈ zNest) : w.onTables = true := by
  have hs := List.all_eq_true.mp zNest_shape w hw
  cases w <;> first | (cases hs; done) | rfl
theorem zRo.go {E : zE} {A B : Nat → Prop} {s U : State} (hW : s.WarmedH U.vm) (hq : ∀ a : Nat, a < s.heap.size → ¬ A a → U.heap[a]? = s.heap[a]?) (hAB : ∀ q, B q → A q) (h : zRo E A s) : zRo E B U := by
  obtain ⟨h1, h2, h3, h4, h5, h6, h7⟩ := h
  exact ⟨((h1.moved hW.alike).kept hq).narrow hAB, fun q hq => (h2 q hq).warm hW, fun w hw => zNest_warm hW hw (h3 w hw), ((h4.moved hW.alike).kept hq).narrow hAB, ((h5.moved hW.alike).kept hq).narrow hAB, ((h6.moved hW.alike).kept hq).narrow hAB, ((h7.moved hW.alike).kept hq).narrow hAB⟩
theorem zRo.call {E : zE} {A : Nat → Prop} {U : State} {g : JFrame} {mk : MethodId} {a : Array Value} (h : zRo E A U) : zRo E A (U.calling g mk a) := by
  obtain ⟨h1, h2, h3, h4, h5, h6, h7⟩ := h
  exact ⟨vk_S.moved (u := U) (U := U.calling g mk a) (Vm.Alike.refl U.vm) h1, fun q hq => vk_R.same (u := U) (U := U.calling g mk a) rfl (h2 q hq), fun w hw => va_Nw.same (u := U) (U := U.calling g mk a) (zNest_on hw) rfl (h3 w hw), va_Z.moved (u := U) (U := U.calling g mk a) (Vm.Alike.refl U.vm) h4, va_T.moved (u := U) (U := U.calling g mk a) (Vm.Alike.refl U.vm) h5, va_Z.moved (u := U) (U := U.calling g mk a) (Vm.Alike.refl U.vm) h6, va_Zq.moved (u := U) (U := U.calling g mk a) (Vm.Alike.refl U.vm) h7⟩
abbrev zX : Type := zE × (Nat → Prop) × Program × Launch × Env × Room × State × MethodId × Array Value × List Frame × Method × Code × Nat × Nat × Nat × (State → Prop)
def zG : zX → zM → Nat → List (Nat × Value) → List Value → Prop
  | (E, A, p, l, e, R, s, m, args, below, meth, c, nL, cells, slots, Q), u, pc, L, st => ∀ (H : Heap) (locs : List Loc) (ls : Array Slot), va_P E.1 vwCl (zw E u) H → va_S A s.heap H locs → lv_has ls nL L → W p l e R s m args below meth c H locs cells slots Q (F0 m pc ls st)
def zGood : zX → String → ByteArray → Nat → Nat → Prop
  | (E, A, p, l, e, R, s, m, args, below, meth, c, nL, cells, slots, Q), own, cc, mL, d => p.tables.exec = Jvm.exec ∧ c.code = cc ∧ (c.maxLocals = nL ∧ nL = mL) ∧ s.vm.findClass own = some m.cls ∧ (∀ w ∈ zT, w.before args s = true) ∧
    va_K E.1 vwCl (zty E) s ∧ va_D A (zw E z0) ∧ zRo E A s ∧ d ≤ R.frames ∧ d * 48 ≤ R.locals ∧ cells ≤ R.cells ∧ slots ≤ R.slots
/-- the addresses alone count -/
theorem zw_D {E : zE} {A : Nat → Prop} (u v : zM) (h : va_D A (zw E u)) : va_D A (zw E v) := by
  have e : ∀ k : Nat, ((zw E u)[k]?).map (fun q : Nat × va_E => q.1) = ((zw E v)[k]?).map (fun q : Nat × va_E => q.1) := by
    intro k
    rw [← List.getElem?_map, ← List.getElem?_map]
    rfl
  refine ⟨fun i j p q hp hq hpq => ?_, fun k q hk => ?_⟩
  · have e1 := e i
    have e2 := e j
    rw [hp] at e1
    rw [hq] at e2
    cases h1 : (zw E u)[i]? with
    | none => rw [h1] at e1; cases e1
    | some a =>
      cases h2 : (zw E u)[j]? with
      | none => rw [h2] at e2; cases e2
      | some b =>
        rw [h1] at e1
        rw [h2] at e2
        have q1 : a.1 = p.1 := Option.some.inj e1
        have q2 : b.1 = q.1 := Option.some.inj e2
        exact h.1 i j a b h1 h2 (by rw [q1, q2, hpq])
  · have e1 := e k
    rw [hk] at e1
    cases h1 : (zw E u)[k]? with
    | none => rw [h1] at e1; cases e1
    | some a =>
      rw [h1] at e1
      have q1 : a.1 = q.1 := Option.some.inj e1
      rw [← q1]
      exact h.2 k a h1
theorem zA_le {E : zE} {A : Nat → Prop} (h : va_D A (zw E z0)) : ∀ q, zA E q → A q := by
  rintro q ⟨k, hk, rfl⟩
  have e : ((zw E z0)[k]?).map (fun q : Nat × va_E => q.1) = some (zad E k) := by
    rw [← List.getElem?_map]
    have hh : (zw E z0).map (fun q : Nat × va_E => q.1) = (List.range 55).map (zad E) := rfl
    rw [hh]
    simp [hk]
  cases h1 : (zw E z0)[k]? with
  | none => rw [h1] at e; cases e
  | some a =>
    rw [h1] at e
    have q1 : a.1 = zad E k := Option.some.inj e
    rw [← q1]
    exact h.2 k a h1
theorem zA_D {E : zE} {A : Nat → Prop} (h : va_D A (zw E z0)) : va_D (zA E) (zw E z0) := by
  refine ⟨h.1, fun k q hk => ?_⟩
  have e : ((zw E z0)[k]?).map (fun q : Nat × va_E => q.1) = some q.1 := by rw [hk]; rfl
  rw [← List.getElem?_map] at e
  have hh : (zw E z0).map (fun q : Nat × va_E => q.1) = (List.range 55).map (zad E) := rfl
  rw [hh, List.getElem?_map] at e
  by_cases hk5 : k < 55
  · rw [List.getElem?_range hk5] at e
    exact ⟨k, hk5, (Option.some.inj e).symm⟩
  · rw [List.getElem?_eq_none (by simp; omega)] at e
    cases e
/-- a method's start and end -/
def zPc (E : zE) (av : List Value) (u : zM) : Array Value → State → Prop := fun v U => v = av.toArray ∧ va_P E.1 vwCl (zw E u) U.heap ∧ va_K E.1 vwCl (zty E) U ∧ va_D (zA E) (zw E z0) ∧ zRo E (zA E) U
def zQc (E : zE) (r : Option Value) (u : zM) : Array Value → State → Outcome → State → Prop := fun _ st oc t => (oc = .returned r ∧ va_P E.1 vwCl (zw E u) t.heap) ∧ va_F (zA E) st t
def zRet : zX → Option FieldType → Option Value → zM → Prop
  | (E, A, p, l, e, R, s, m, args, below, meth, c, nL, cells, slots, Q), ret, r, u => Q = MQ below (zQc E r u) args s cells slots A ∧ A = zA E ∧ meth.sig.returnType = ret ∧ meth.locks = false
/-- A METHOD'S CONTRACT: of these arguments, in this world, this is the answer and this the world behind it; d: how deep it calls -/
def zCt (d : Nat) (y : MethodName) (b : ByteArray) (mL : Nat) (ret : Option FieldType) (av : zE → List Value) (u : zM) (r : zE → Option Value) (u' : zM) : Prop :=
  ∀ (l : Launch) (E : zE), Met l y (.code y b mL ret :: zT) { frames := d, cells := 0, slots := 0, locals := d * 48 } (zPc E (av E) u) (zQc E (r E) u') 0 0 (zA E)
theorem zPc_blind {E : zE} {av : List Value} {u : zM} : FrameBlind (zPc E av u) := by
  rintro a U g mk ⟨h1, h2, h3, h4, h5⟩
  exact ⟨h1, h2, va_K.moved (u := U) (U := U.calling g mk a) (Vm.Alike.refl U.vm) h3, h4, h5.call⟩
theorem zCt.of {d : Nat} {y : MethodName} {b : ByteArray} {mL : Nat} {ret : Option FieldType} {av : zE → List Value} {u : zM} {r : zE → Option Value} {u' : zM} (hy : plainName y.cls = true) (hsz : ∀ E, (lg_sl (av E)).length ≤ mL)
    (k : ∀ X : zX, zGood X y.cls b mL d → zRet X ret (r X.1) u' → zG X u 0 (lv_args 0 (av X.1)) []) : zCt d y b mL ret av u r u' := by
  intro l E
  refine Met.ofW (cc := b) (maxL := mL) (ret := ret) hy rfl ?_
  intro p e s m args below meth c s₁ B hml hv
  obtain ⟨rfl, hP, hK, hD, hRo⟩ := hv
  have hts := atoms_spec (ws := .code y b mL ret :: zT) B.pre
  have hl := lv_entry (av E) (n := mL) (hsz E)
  rw [lg_entry_eq]
  generalize (lg_sl (av E) ++ List.replicate (mL - (lg_sl (av E)).length) Slot.unset).toArray = ls at hl ⊢
  exact k (E, zA E, p, l, e, { frames := d, cells := 0, slots := 0, locals := d * 48 }, s, m, (av E).toArray, below, meth, c, mL, 0, 0, MQ below (zQc E (r E) u') (av E).toArray s 0 0 (zA E))
    ⟨B.exec, B.bytes, ⟨hml, rfl⟩, findClass_of_methodNamed B.named, fun w hw => hts w (List.mem_cons_of_mem _ hw), hK, hD, hRo, Nat.le_refl _, Nat.le_refl _, Nat.le_refl _, Nat.le_refl _⟩ ⟨rfl, rfl, B.returns, B.notSynchronized⟩ s.heap [] ls hP va_S.rf hl
section ZR
variable {X : zX} {own : String} {cc : ByteArray} {mL d : Nat} {u : zM} {pc : Nat} {L : List (Nat × Value)} {st : List Value}
theorem r_iconst {n : Int} {v : Int32} (hX : zGood X own cc mL d) (hd : decode cc pc = .ok (.iconst n, 1)) (hv : Int32.ofInt n = v) (k : zG X u (pc + 1) L (.int v :: st)) : zG X u pc L st := by
  obtain ⟨E, A, p, l, e, R, s, m, args, below, meth, c, nL, cells, slots, Q⟩ := X
  exact fun H locs ls hP hS hl => lv_iconst hX.1 hX.2.1 hd hv (k H locs ls hP hS hl)
theorem r_bipush {n : Int} {v : Int32} (hX : zGood X own cc mL d) (hd : decode cc pc = .ok (.bipush n, 2)) (hv : (Int8.ofInt n).toInt32 = v) (k : zG X u (pc + 2) L (.int v :: st)) : zG X u pc L st := by
  obtain ⟨E, A, p, l, e, R, s, m, args, below, meth, c, nL, cells, slots, Q⟩ := X
  exact fun H locs ls hP hS hl => lv_bipush hX.1 hX.2.1 hd hv (k H locs ls hP hS hl)
theorem r_sipush {n : Int} {v : Int32} (hX : zGood X own cc mL d) (hd : decode cc pc = .ok (.sipush n, 3)) (hv : (Int16.ofInt n).toInt32 = v) (k : zG X u (pc + 3) L (.int v :: st)) : zG X u pc L st := by
  obtain ⟨E, A, p, l, e, R, s, m, args, below, meth, c, nL, cells, slots, Q⟩ := X
  exact fun H locs ls hP hS hl => lv_sipush hX.1 hX.2.1 hd hv (k H locs ls hP hS hl)
theorem r_iload_n {j : Fin 4} {i : Nat} {x : Int32} (hX : zGood X own cc mL d) (hd : decode cc pc = .ok (.iload_n j, 1)) (q : Nat) (hi : (j : Nat) = i) (hq : L[q]? = some (i, .int x)) (k : zG X u (pc + 1) L (.int x :: st)) : zG X u pc L st := by
  obtain ⟨E, A, p, l, e, R, s, m, args, below, meth, c, nL, cells, slots, Q⟩ := X
  exact fun H locs ls hP hS hl => lv_iload_n hX.1 hX.2.1 hd hi (lv_at hl q hq) (k H locs ls hP hS hl)
theorem r_iload {i : Nat} {x : Int32} (hX : zGood X own cc mL d) (hd : decode cc pc = .ok (.iload i, 2)) (q : Nat) (hq : L[q]? = some (i, .int x)) (k : zG X u (pc + 2) L (.int x :: st)) : zG X u pc L st := by
  obtain ⟨E, A, p, l, e, R, s, m, args, below, meth, c, nL, cells, slots, Q⟩ := X
  exact fun H locs ls hP hS hl => lv_iload hX.1 hX.2.1 hd (lv_at hl q hq) (k H locs ls hP hS hl)
theorem r_aload_n {j : Fin 4} {i : Nat} {x : Nat} (hX : zGood X own cc mL d) (hd : decode cc pc = .ok (.aload_n j, 1)) (q : Nat) (hi : (j : Nat) = i) (hq : L[q]? = some (i, .ref x)) (k : zG X u (pc + 1) L (.ref x :: st)) : zG X u pc L st := by
  obtain ⟨E, A, p, l, e, R, s, m, args, below, meth, c, nL, cells, slots, Q⟩ := X
  exact fun H locs ls hP hS hl => lv_aload_n hX.1 hX.2.1 hd hi (lv_at hl q hq) (k H locs ls hP hS hl)
theorem r_istore_n {j : Fin 4} {i : Nat} {x y : Int32} {L' : List (Nat × Value)} (hX : zGood X own cc mL d) (hd : decode cc pc = .ok (.istore_n j, 1)) (hi : (j : Nat) = i) (hn : i < mL) (hxy : y = x) (hL : (i, Value.int y) :: L.filter (fun q => !(q.1 == i) && !(q.1 + 1 == i && q.2.category == 2)) = L')
    (k : zG X u (pc + 1) L' st) : zG X u pc L (.int x :: st) := by
  obtain ⟨E, A, p, l, e, R, s, m, args, below, meth, c, nL, cells, slots, Q⟩ := X
  subst hxy
  exact fun H locs ls hP hS hl => lv_istore_n hX.1 hX.2.1 hd hi hl (by rw [hX.2.2.1.2]; exact hn) hL (fun ls' hl' => k H locs ls' hP hS hl')
theorem r_istore {i : Nat} {x y : Int32} {L' : List (Nat × Value)} (hX : zGood X own cc mL d) (hd : decode cc pc = .ok (.istore i, 2)) (hn : i < mL) (hxy : y = x) (hL : (i, Value.int y) :: L.filter (fun q => !(q.1 == i) && !(q.1 + 1 == i && q.2.category == 2)) = L')
    (k : zG X u (pc + 2) L' st) : zG X u pc L (.int x :: st) := by
  obtain ⟨E, A, p, l, e, R, s, m, args, below, meth, c, nL, cells, slots, Q⟩ := X
  subst hxy
  exact fun H locs ls hP hS hl => lv_istore hX.1 hX.2.1 hd hl (by rw [hX.2.2.1.2]; exact hn) hL (fun ls' hl' => k H locs ls' hP hS hl')
theorem r_iinc {i : Nat} {n : Int} {x v : Int32} {L' : List (Nat × Value)} (hX : zGood X own cc mL d) (hd : decode cc pc = .ok (.iinc i n, 3)) (hn : i < mL) (q : Nat) (hq : L[q]? = some (i, .int x)) (hv : x + Int32.ofInt n = v) (hL : (i, Value.int v) :: L.filter (fun q => !(q.1 == i) && !(q.1 + 1 == i && q.2.category == 2)) = L')
    (k : zG X u (pc + 3) L' st) : zG X u pc L st := by
  obtain ⟨E, A, p, l, e, R, s, m, args, below, meth, c, nL, cells, slots, Q⟩ := X
  exact fun H locs ls hP hS hl => lv_iinc hX.1 hX.2.1 hd hl hq hv (by rw [hX.2.2.1.2]; exact hn) hL (fun ls' hl' => k H locs ls' hP hS hl')
theorem r_sub {L' : List (Nat × Value)} (ks : List Nat) (hL : lv_pick L ks = L') (k : zG X u pc L' st) : zG X u pc L st := by
  obtain ⟨E, A, p, l, e, R, s, m, args, below, meth, c, nL, cells, slots, Q⟩ := X
  exact fun H locs ls hP hS hl => k H locs ls hP hS (lv_sub hl ks hL)
theorem r_iadd {x y : Int32} (hX : zGood X own cc mL d) (hd : decode cc pc = .ok (.iadd, 1)) (k : zG X u (pc + 1) L (.int (x + y) :: st)) : zG X u pc L (.int y :: .int x :: st) := by
  obtain ⟨E, A, p, l, e, R, s, m, args, below, meth, c, nL, cells, slots, Q⟩ := X
  exact fun H locs ls hP hS hl => lv_iadd hX.1 hX.2.1 hd (k H locs ls hP hS hl)
theorem r_isub {x y : Int32} (hX : zGood X own cc mL d) (hd : decode cc pc = .ok (.isub, 1)) (k : zG X u (pc + 1) L (.int (x - y) :: st)) : zG X u pc L (.int y :: .int x :: st) := by
  obtain ⟨E, A, p, l, e, R, s, m, args, below, meth, c, nL, cells, slots, Q⟩ := X
  exact fun H locs ls hP hS hl => lv_isub hX.1 hX.2.1 hd (k H locs ls hP hS hl)
theorem r_imul {x y : Int32} (hX : zGood X own cc mL d) (hd : decode cc pc = .ok (.imul, 1)) (k : zG X u (pc + 1) L (.int (x * y) :: st)) : zG X u pc L (.int y :: .int x :: st) := by
  obtain ⟨E, A, p, l, e, R, s, m, args, below, meth, c, nL, cells, slots, Q⟩ := X
  exact fun H locs ls hP hS hl => lv_imul hX.1 hX.2.1 hd (k H locs ls hP hS hl)
theorem r_idiv {x y : Int32} (hX : zGood X own cc mL d) (hd : decode cc pc = .ok (.idiv, 1)) (hne : ¬ y = 0) (k : zG X u (pc + 1) L (.int (x / y) :: st)) : zG X u pc L (.int y :: .int x :: st) := by
  obtain ⟨E, A, p, l, e, R, s, m, args, below, meth, c, nL, cells, slots, Q⟩ := X
  exact fun H locs ls hP hS hl => lv_idiv hX.1 hX.2.1 hd hne (k H locs ls hP hS hl)
/-- the rest, as the machine has it -/
def zrem (x y : Int32) : Int32 := x - x / y * y
theorem r_irem {x y : Int32} (hX : zGood X own cc mL d) (hd : decode cc pc = .ok (.irem, 1)) (hne : ¬ y = 0) (k : zG X u (pc + 1) L (.int (zrem x y) :: st)) : zG X u pc L (.int y :: .int x :: st) := by
  obtain ⟨E, A, p, l, e, R, s, m, args, below, meth, c, nL, cells, slots, Q⟩ := X
  exact fun H locs ls hP hS hl => lv_irem hX.1 hX.2.1 hd hne (k H locs ls hP hS hl)
theorem r_ineg {x : Int32} (hX : zGood X own cc mL d) (hd : decode cc pc = .ok (.ineg, 1)) (k : zG X u (pc + 1) L (.int (-x) :: st)) : zG X u pc L (.int x :: st) := by
  obtain ⟨E, A, p, l, e, R, s, m, args, below, meth, c, nL, cells, slots, Q⟩ := X
  exact fun H locs ls hP hS hl => lv_ineg hX.1 hX.2.1 hd (k H locs ls hP hS hl)
theorem r_iand {x y : Int32} (hX : zGood X own cc mL d) (hd : decode cc pc = .ok (.iand, 1)) (k : zG X u (pc + 1) L (.int (x &&& y) :: st)) : zG X u pc L (.int y :: .int x :: st) := by
  obtain ⟨E, A, p, l, e, R, s, m, args, below, meth, c, nL, cells, slots, Q⟩ := X
  exact fun H locs ls hP hS hl => lv_iand hX.1 hX.2.1 hd (k H locs ls hP hS hl)
theorem r_ior {x y : Int32} (hX : zGood X own cc mL d) (hd : decode cc pc = .ok (.ior, 1)) (k : zG X u (pc + 1) L (.int (x ||| y) :: st)) : zG X u pc L (.int y :: .int x :: st) := by
  obtain ⟨E, A, p, l, e, R, s, m, args, below, meth, c, nL, cells, slots, Q⟩ := X
  exact fun H locs ls hP hS hl => lv_ior hX.1 hX.2.1 hd (k H locs ls hP hS hl)
theorem r_ixor {x y : Int32} (hX : zGood X own cc mL d) (hd : decode cc pc = .ok (.ixor, 1)) (k : zG X u (pc + 1) L (.int (x ^^^ y) :: st)) : zG X u pc L (.int y :: .int x :: st) := by
  obtain ⟨E, A, p, l, e, R, s, m, args, below, meth, c, nL, cells, slots, Q⟩ := X
  exact fun H locs ls hP hS hl => lv_ixor hX.1 hX.2.1 hd (k H locs ls hP hS hl)
def zshl (x y : Int32) : Int32 := x <<< (y &&& 31)
def zshr (x y : Int32) : Int32 := x >>> (y &&& 31)
def zushr (x y : Int32) : Int32 := (x.toUInt32 >>> (y.toUInt32 &&& Int32.toUInt32 31)).toInt32
theorem r_ishl {x y : Int32} (hX : zGood X own cc mL d) (hd : decode cc pc = .ok (.ishl, 1)) (k : zG X u (pc + 1) L (.int (zshl x y) :: st)) : zG X u pc L (.int y :: .int x :: st) := by
  obtain ⟨E, A, p, l, e, R, s, m, args, below, meth, c, nL, cells, slots, Q⟩ := X
  exact fun H locs ls hP hS hl => lv_ishl hX.1 hX.2.1 hd (k H locs ls hP hS hl)
theorem r_ishr {x y : Int32} (hX : zGood X own cc mL d) (hd : decode cc pc = .ok (.ishr, 1)) (k : zG X u (pc + 1) L (.int (zshr x y) :: st)) : zG X u pc L (.int y :: .int x :: st) := by
  obtain ⟨E, A, p, l, e, R, s, m, args, below, meth, c, nL, cells, slots, Q⟩ := X
  exact fun H locs ls hP hS hl => lv_ishr hX.1 hX.2.1 hd (k H locs ls hP hS hl)
theorem r_iushr {x y : Int32} (hX : zGood X own cc mL d) (hd : decode cc pc = .ok (.iushr, 1)) (k : zG X u (pc + 1) L (.int (zushr x y) :: st)) : zG X u pc L (.int y :: .int x :: st) := by
  obtain ⟨E, A, p, l, e, R, s, m, args, below, meth, c, nL, cells, slots, Q⟩ := X
  exact fun H locs ls hP hS hl => lv_iushr hX.1 hX.2.1 hd rfl (k H locs ls hP hS hl)
def zi2b (x : Int32) : Int32 := x.toInt8.toInt32
def zi2s (x : Int32) : Int32 := x.toInt16.toInt32
def zi2c (x : Int32) : Int32 := (x.toUInt32 % 65536).toInt32
theorem r_i2b {x : Int32} (hX : zGood X own cc mL d) (hd : decode cc pc = .ok (.i2b, 1)) (k : zG X u (pc + 1) L (.int (zi2b x) :: st)) : zG X u pc L (.int x :: st) := by
  obtain ⟨E, A, p, l, e, R, s, m, args, below, meth, c, nL, cells, slots, Q⟩ := X
  exact fun H locs ls hP hS hl => lv_i2b hX.1 hX.2.1 hd rfl (k H locs ls hP hS hl)
theorem r_i2s {x : Int32} (hX : zGood X own cc mL d) (hd : decode cc pc = .ok (.i2s, 1)) (k : zG X u (pc + 1) L (.int (zi2s x) :: st)) : zG X u pc L (.int x :: st) := by
  obtain ⟨E, A, p, l, e, R, s, m, args, below, meth, c, nL, cells, slots, Q⟩ := X
  exact fun H locs ls hP hS hl => lv_i2s hX.1 hX.2.1 hd rfl (k H locs ls hP hS hl)
theorem r_i2c {x : Int32} (hX : zGood X own cc mL d) (hd : decode cc pc = .ok (.i2c, 1)) (k : zG X u (pc + 1) L (.int (zi2c x) :: st)) : zG X u pc L (.int x :: st) := by
  obtain ⟨E, A, p, l, e, R, s, m, args, below, meth, c, nL, cells, slots, Q⟩ := X
  exact fun H locs ls hP hS hl => lv_i2c hX.1 hX.2.1 hd rfl (k H locs ls hP hS hl)
theorem r_i2l {x : Int32} (hX : zGood X own cc mL d) (hd : decode cc pc = .ok (.i2l, 1)) (k : zG X u (pc + 1) L (.long x.toInt64 :: st)) : zG X u pc L (.int x :: st) := by
  obtain ⟨E, A, p, l, e, R, s, m, args, below, meth, c, nL, cells, slots, Q⟩ := X
  exact fun H locs ls hP hS hl => lv_i2l hX.1 hX.2.1 hd rfl (k H locs ls hP hS hl)
theorem r_ladd {x y : Int64} (hX : zGood X own cc mL d) (hd : decode cc pc = .ok (.ladd, 1)) (k : zG X u (pc + 1) L (.long (x + y) :: st)) : zG X u pc L (.long y :: .long x :: st) := by
  obtain ⟨E, A, p, l, e, R, s, m, args, below, meth, c, nL, cells, slots, Q⟩ := X
  exact fun H locs ls hP hS hl => lv_ladd hX.1 hX.2.1 hd (k H locs ls hP hS hl)
theorem r_lcmp {x y : Int64} (hX : zGood X own cc mL d) (hd : decode cc pc = .ok (.lcmp, 1)) (k : zG X u (pc + 1) L (.int (lg_cmp x y) :: st)) : zG X u pc L (.long y :: .long x :: st) := by
  obtain ⟨E, A, p, l, e, R, s, m, args, below, meth, c, nL, cells, slots, Q⟩ := X
  exact fun H locs ls hP hS hl => W.lcmp hX.1 hX.2.1 hd (k H locs ls hP hS hl)
theorem r_dup {v : Value} (hX : zGood X own cc mL d) (hd : decode cc pc = .ok (.dup, 1)) (hv : v.category = 1) (k : zG X u (pc + 1) L (v :: v :: st)) : zG X u pc L (v :: st) := by
  obtain ⟨E, A, p, l, e, R, s, m, args, below, meth, c, nL, cells, slots, Q⟩ := X
  exact fun H locs ls hP hS hl => lv_dup hX.1 hX.2.1 hd hv (k H locs ls hP hS hl)
theorem r_dup2 {v w : Value} (hX : zGood X own cc mL d) (hd : decode cc pc = .ok (.dup2, 1)) (hv : v.category = 1) (hw : w.category = 1) (k : zG X u (pc + 1) L (v :: w :: v :: w :: st)) : zG X u pc L (v :: w :: st) := by
  obtain ⟨E, A, p, l, e, R, s, m, args, below, meth, c, nL, cells, slots, Q⟩ := X
  exact fun H locs ls hP hS hl => lv_dup2_11 hX.1 hX.2.1 hd hv hw (k H locs ls hP hS hl)
theorem r_pop {v : Value} (hX : zGood X own cc mL d) (hd : decode cc pc = .ok (.pop, 1)) (hv : v.category = 1) (k : zG X u (pc + 1) L st) : zG X u pc L (v :: st) := by
  obtain ⟨E, A, p, l, e, R, s, m, args, below, meth, c, nL, cells, slots, Q⟩ := X
  exact fun H locs ls hP hS hl => lv_pop hX.1 hX.2.1 hd hv (k H locs ls hP hS hl)
theorem r_goto {off : Int} {tgt : Nat} (hX : zGood X own cc mL d) (hd : decode cc pc = .ok (.goto off, 3)) (ht : (pc : Int) + off = (tgt : Int)) (k : zG X u tgt L st) : zG X u pc L st := by
  obtain ⟨E, A, p, l, e, R, s, m, args, below, meth, c, nL, cells, slots, Q⟩ := X
  exact fun H locs ls hP hS hl => lv_goto hX.1 hX.2.1 hd ht (k H locs ls hP hS hl)
theorem r_if_eq {x : Int32} {off : Int} {tgt : Nat} (hX : zGood X own cc mL d) (hd : decode cc pc = .ok (.ifCond .eq off, 3)) (ht : (pc : Int) + off = (tgt : Int)) (kt : x = 0 → zG X u tgt L st) (kf : ¬ x = 0 → zG X u (pc + 3) L st) : zG X u pc L (.int x :: st) := by
  obtain ⟨E, A, p, l, e, R, s, m, args, below, meth, c, nL, cells, slots, Q⟩ := X
  exact fun H locs ls hP hS hl => lv_if_eq hX.1 hX.2.1 hd ht (fun c => kt c H locs ls hP hS hl) (fun c => kf c H locs ls hP hS hl)
theorem r_icmp_eq {x y : Int32} {off : Int} {tgt : Nat} (hX : zGood X own cc mL d) (hd : decode cc pc = .ok (.if_icmp .eq off, 3)) (ht : (pc : Int) + off = (tgt : Int)) (kt : x = y → zG X u tgt L st) (kf : ¬ x = y → zG X u (pc + 3) L st) : zG X u pc L (.int y :: .int x :: st) := by
  obtain ⟨E, A, p, l, e, R, s, m, args, below, meth, c, nL, cells, slots, Q⟩ := X
  exact fun H locs ls hP hS hl => lv_icmp_eq hX.1 hX.2.1 hd ht (fun c => kt c H locs ls hP hS hl) (fun c => kf c H locs ls hP hS hl)
theorem r_if_ne {x : Int32} {off : Int} {tgt : Nat} (hX : zGood X own cc mL d) (hd : decode cc pc = .ok (.ifCond .ne off, 3)) (ht : (pc : Int) + off = (tgt : Int)) (kt : ¬ x = 0 → zG X u tgt L st) (kf : x = 0 → zG X u (pc + 3) L st) : zG X u pc L (.int x :: st) := by
  obtain ⟨E, A, p, l, e, R, s, m, args, below, meth, c, nL, cells, slots, Q⟩ := X
  exact fun H locs ls hP hS hl => lv_if_ne hX.1 hX.2.1 hd ht (fun c => kt c H locs ls hP hS hl) (fun c => kf c H locs ls hP hS hl)
theorem r_icmp_ne {x y : Int32} {off : Int} {tgt : Nat} (hX : zGood X own cc mL d) (hd : decode cc pc = .ok (.if_icmp .ne off, 3)) (ht : (pc : Int) + off = (tgt : Int)) (kt : ¬ x = y → zG X u tgt L st) (kf : x = y → zG X u (pc + 3) L st) : zG X u pc L (.int y :: .int x :: st) := by
  obtain ⟨E, A, p, l, e, R, s, m, args, below, meth, c, nL, cells, slots, Q⟩ := X
  exact fun H locs ls hP hS hl => lv_icmp_ne hX.1 hX.2.1 hd ht (fun c => kt c H locs ls hP hS hl) (fun c => kf c H locs ls hP hS hl)
theorem r_if_lt {x : Int32} {off : Int} {tgt : Nat} (hX : zGood X own cc mL d) (hd : decode cc pc = .ok (.ifCond .lt off, 3)) (ht : (pc : Int) + off = (tgt : Int)) (kt : x < 0 → zG X u tgt L st) (kf : ¬ x < 0 → zG X u (pc + 3) L st) : zG X u pc L (.int x :: st) := by
  obtain ⟨E, A, p, l, e, R, s, m, args, below, meth, c, nL, cells, slots, Q⟩ := X
  exact fun H locs ls hP hS hl => lv_if_lt hX.1 hX.2.1 hd ht (fun c => kt c H locs ls hP hS hl) (fun c => kf c H locs ls hP hS hl)
theorem r_icmp_lt {x y : Int32} {off : Int} {tgt : Nat} (hX : zGood X own cc mL d) (hd : decode cc pc = .ok (.if_icmp .lt off, 3)) (ht : (pc : Int) + off = (tgt : Int)) (kt : x < y → zG X u tgt L st) (kf : ¬ x < y → zG X u (pc + 3) L st) : zG X u pc L (.int y :: .int x :: st) := by
  obtain ⟨E, A, p, l, e, R, s, m, args, below, meth, c, nL, cells, slots, Q⟩ := X
  exact fun H locs ls hP hS hl => lv_icmp_lt hX.1 hX.2.1 hd ht (fun c => kt c H locs ls hP hS hl) (fun c => kf c H locs ls hP hS hl)
theorem r_if_ge {x : Int32} {off : Int} {tgt : Nat} (hX : zGood X own cc mL d) (hd : decode cc pc = .ok (.ifCond .ge off, 3)) (ht : (pc : Int) + off = (tgt : Int)) (kt : 0 ≤ x → zG X u tgt L st) (kf : ¬ 0 ≤ x → zG X u (pc + 3) L st) : zG X u pc L (.int x :: st) := by
  obtain ⟨E, A, p, l, e, R, s, m, args, below, meth, c, nL, cells, slots, Q⟩ := X
  exact fun H locs ls hP hS hl => lv_if_ge hX.1 hX.2.1 hd ht (fun c => kt c H locs ls hP hS hl) (fun c => kf c H locs ls hP hS hl)
theorem r_icmp_ge {x y : Int32} {off : Int} {tgt : Nat} (hX : zGood X own cc mL d) (hd : decode cc pc = .ok (.if_icmp .ge off, 3)) (ht : (pc : Int) + off = (tgt : Int)) (kt : y ≤ x → zG X u tgt L st) (kf : ¬ y ≤ x → zG X u (pc + 3) L st) : zG X u pc L (.int y :: .int x :: st) := by
  obtain ⟨E, A, p, l, e, R, s, m, args, below, meth, c, nL, cells, slots, Q⟩ := X
  exact fun H locs ls hP hS hl => lv_icmp_ge hX.1 hX.2.1 hd ht (fun c => kt c H locs ls hP hS hl) (fun c => kf c H locs ls hP hS hl)
theorem r_if_gt {x : Int32} {off : Int} {tgt : Nat} (hX : zGood X own cc mL d) (hd : decode cc pc = .ok (.ifCond .gt off, 3)) (ht : (pc : Int) + off = (tgt : Int)) (kt : 0 < x → zG X u tgt L st) (kf : ¬ 0 < x → zG X u (pc + 3) L st) : zG X u pc L (.int x :: st) := by
  obtain ⟨E, A, p, l, e, R, s, m, args, below, meth, c, nL, cells, slots, Q⟩ := X
  exact fun H locs ls hP hS hl => lv_if_gt hX.1 hX.2.1 hd ht (fun c => kt c H locs ls hP hS hl) (fun c => kf c H locs ls hP hS hl)
theorem r_icmp_gt {x y : Int32} {off : Int} {tgt : Nat} (hX : zGood X own cc mL d) (hd : decode cc pc = .ok (.if_icmp .gt off, 3)) (ht : (pc : Int) + off = (tgt : Int)) (kt : y < x → zG X u tgt L st) (kf : ¬ y < x → zG X u (pc + 3) L st) : zG X u pc L (.int y :: .int x :: st) := by
  obtain ⟨E, A, p, l, e, R, s, m, args, below, meth, c, nL, cells, slots, Q⟩ := X
  exact fun H locs ls hP hS hl => lv_icmp_gt hX.1 hX.2.1 hd ht (fun c => kt c H locs ls hP hS hl) (fun c => kf c H locs ls hP hS hl)
theorem r_if_le {x : Int32} {off : Int} {tgt : Nat} (hX : zGood X own cc mL d) (hd : decode cc pc = .ok (.ifCond .le off, 3)) (ht : (pc : Int) + off = (tgt : Int)) (kt : x ≤ 0 → zG X u tgt L st) (kf : ¬ x ≤ 0 → zG X u (pc + 3) L st) : zG X u pc L (.int x :: st) := by
  obtain ⟨E, A, p, l, e, R, s, m, args, below, meth, c, nL, cells, slots, Q⟩ := X
  exact fun H locs ls hP hS hl => lv_if_le hX.1 hX.2.1 hd ht (fun c => kt c H locs ls hP hS hl) (fun c => kf c H locs ls hP hS hl)
theorem r_icmp_le {x y : Int32} {off : Int} {tgt : Nat} (hX : zGood X own cc mL d) (hd : decode cc pc = .ok (.if_icmp .le off, 3)) (ht : (pc : Int) + off = (tgt : Int)) (kt : x ≤ y → zG X u tgt L st) (kf : ¬ x ≤ y → zG X u (pc + 3) L st) : zG X u pc L (.int y :: .int x :: st) := by
  obtain ⟨E, A, p, l, e, R, s, m, args, below, meth, c, nL, cells, slots, Q⟩ := X
  exact fun H locs ls hP hS hl => lv_icmp_le hX.1 hX.2.1 hd ht (fun c => kt c H locs ls hP hS hl) (fun c => kf c H locs ls hP hS hl)
/-- switches -/
theorem r_tsIn {dflt lo hi : Int} {offs : Array Int} {len : Nat} {x v : Int32} {off : Int} {tgt : Nat} (hX : zGood X own cc mL d) (hd : decode cc pc = .ok (.tableswitch dflt lo hi offs, len)) (hx : x = v) (h1 : ¬ v.toInt < lo) (h2 : ¬ hi < v.toInt) (ho : offs[(v.toInt - lo).toNat]? = some off) (ht : (pc : Int) + off = (tgt : Int)) (k : zG X u tgt L st) : zG X u pc L (.int x :: st) := by
  obtain ⟨E, A, p, l, e, R, s, m, args, below, meth, c, nL, cells, slots, Q⟩ := X
  subst hx
  exact fun H locs ls hP hS hl => lv_tableIn hX.1 hX.2.1 hd h1 h2 ho ht (k H locs ls hP hS hl)
theorem r_tsOut {dflt lo hi : Int} {offs : Array Int} {len : Nat} {x : Int32} {tgt : Nat} (hX : zGood X own cc mL d) (hd : decode cc pc = .ok (.tableswitch dflt lo hi offs, len)) (hx : x.toInt < lo ∨ hi < x.toInt) (ht : (pc : Int) + dflt = (tgt : Int)) (k : zG X u tgt L st) : zG X u pc L (.int x :: st) := by
  obtain ⟨E, A, p, l, e, R, s, m, args, below, meth, c, nL, cells, slots, Q⟩ := X
  exact fun H locs ls hP hS hl => lv_tableOut hX.1 hX.2.1 hd hx ht (k H locs ls hP hS hl)
theorem r_ls {dflt : Int} {ps : Array (Int × Int)} {len : Nat} {x : Int32} {off : Int} {tgt : Nat} (hX : zGood X own cc mL d) (hd : decode cc pc = .ok (.lookupswitch dflt ps, len)) (hp : (ps.toList.zip (ps.toList.drop 1)).all (fun (a, next) => a.1 < next.1) = true) (ho : Op.lookupswitch.offset ps.toList dflt x.toInt = off) (ht : (pc : Int) + off = (tgt : Int)) (k : zG X u tgt L st) : zG X u pc L (.int x :: st) := by
  obtain ⟨E, A, p, l, e, R, s, m, args, below, meth, c, nL, cells, slots, Q⟩ := X
  exact fun H locs ls hP hS hl => lv_lookup hX.1 hX.2.1 hd hp ho ht (k H locs ls hP hS hl)
/-- a number that is none of a row's: it lies beside the row -/
theorem zts_out (x : Int32) (lo : Int) (hlo : -2147483648 ≤ lo) : ∀ n : Nat, lo + n ≤ 2147483648 → (∀ k : Nat, k < n → ¬ x = Int32.ofInt (lo + k)) → x.toInt < lo ∨ lo + (n : Int) - 1 < x.toInt := by
  intro n hn h
  by_cases h1 : x.toInt < lo
  · exact Or.inl h1
  · refine Or.inr ?_
    by_cases h2 : lo + (n : Int) - 1 < x.toInt
    · exact h2
    · exfalso
      refine h (x.toInt - lo).toNat (by omega) ?_
      have e : lo + ((x.toInt - lo).toNat : Int) = x.toInt := by omega
      rw [e, Int32.ofInt_toInt]
/-- fields -/
def zLF (own : String) (idx ci j : Nat) : Prop := ∃ (C : String) (T : u_T) (N : Nat), vwCl[ci]? = some (C, T, N) ∧ j < N ∧ (∀ w ∈ u_ws C T N, w ∈ zT) ∧ (Cond.fieldLink own idx (T j).1 (T j).2.1 (T j).2.2.1 ∈ zT ∨ ∃ host, Cond.fieldLinkNest own idx (T j).1 (T j).2.1 (T j).2.2.1 host ∈ zNest)
def zLP (ci j : Nat) (ty : FieldType) : Prop := ∀ (C : String) (T : u_T) (N : Nat), vwCl[ci]? = some (C, T, N) → (T j).2.2.2 = false ∧ parseFieldDescriptor (T j).2.2.1 = some ty ∧ (∀ a, a < N → ∀ b, b < N → a ≠ b → (T a).2.1 ≠ (T b).2.1) ∧ ∃ ty0 : Nat → FieldType, ∀ k, k < N → parseFieldDescriptor (T k).2.2.1 = some (ty0 k)
theorem r_get {idx ci j q : Nat} {v : Value} (hX : zGood X own cc mL d) (hd : decode cc pc = .ok (.getfield idx, 3)) (hf : zLF own idx ci j) (hc : zC q = some ci) (hv : ∀ (E : zE) (r : Nat → Int32), E = X.1 → r = u q → (zfs E q r)[j]? = some v) (k : zG X u (pc + 3) L (v :: st)) : zG X u pc L (.ref (zad X.1 q) :: st) := by
  obtain ⟨E, A, p, l, e, R, s, m, args, below, meth, c, nL, cells, slots, Q⟩ := X
  obtain ⟨C, T, N, hC, hj, hin, hl0⟩ := hf
  intro H locs ls hP hS hl
  rcases hl0 with hl0 | ⟨host, hl0⟩
  · exact va_get hX.1 hX.2.1 hX.2.2.2.2.1 hin hX.2.2.2.1 hX.2.2.2.2.2.1 hP q (zw_obj E u q ci hc) hC j hj (hX.2.2.2.2.1 _ hl0) (fun _ h => h) (hv E (u q) rfl rfl) hd (k H locs ls hP hS hl)
  · exact va_getN hX.1 hX.2.1 hX.2.2.2.2.1 hin hX.2.2.2.1 hX.2.2.2.2.2.1 hP q (zw_obj E u q ci hc) hC j hj (va_Nw.use (zNest_on hl0) (hX.2.2.2.2.2.2.2.1.2.2.1 _ hl0)) (fun _ h => h) (hv E (u q) rfl rfl) hd (k H locs ls hP hS hl)
theorem r_getI {idx ci j q : Nat} (hX : zGood X own cc mL d) (hd : decode cc pc = .ok (.getfield idx, 3)) (hf : zLF own idx ci j) (hi : zIs q j ci) (k : zG X u (pc + 3) L (.int (u q j) :: st)) : zG X u pc L (.ref (zad X.1 q) :: st) :=
  r_get hX hd hf hi.1 (fun E r _ hr => by rw [hi.2.1 E r, hr]) k
theorem r_getR {idx ci j q t : Nat} (hX : zGood X own cc mL d) (hd : decode cc pc = .ok (.getfield idx, 3)) (hf : zLF own idx ci j) (hi : zRs q j ci t) (k : zG X u (pc + 3) L (.ref (zad X.1 t) :: st)) : zG X u pc L (.ref (zad X.1 q) :: st) :=
  r_get hX hd hf hi.1 (fun E r hE _ => by rw [hi.2 E r, hE]) k
theorem r_putV {idx ci j q : Nat} {ty : FieldType} {v : Int32} (hX : zGood X own cc mL d) (hd : decode cc pc = .ok (.putfield idx, 3)) (hf : zLF own idx ci j) (hp : zLP ci j ty) (hi : zIs q j ci) (hn : narrow ty (.int v) = .int v) (hfit : fits ty (.int v) = true) (k : zG X (zst u q j v) (pc + 3) L st) : zG X u pc L (.int v :: .ref (zad X.1 q) :: st) := by
  obtain ⟨E, A, p, l, e, R, s, m, args, below, meth, c, nL, cells, slots, Q⟩ := X
  obtain ⟨C, T, N, hC, hj, hin, hl0⟩ := hf
  obtain ⟨hfin, hty, hnm, ty0, hty0⟩ := hp C T N hC
  intro H locs ls hP hS hl
  have hD : va_D A (zw E u) := zw_D z0 u hX.2.2.2.2.2.2.1
  rcases hl0 with hl0 | ⟨host, hl0⟩
  · refine va_put hX.1 hX.2.1 hX.2.2.2.2.1 hin ty0 hty0 hnm hX.2.2.2.1 hX.2.2.2.2.2.1 hP hD hS q (zw_obj E u q ci hi.1) hC j hj (hX.2.2.2.2.1 _ hl0) (fun _ h => h) hfin hty hn hfit (hi.2.2.1 E (u q)) hd (fun H1 locs1 hP1 _ hS1 => k H1 locs1 ls ?_ hS1 hl)
    rw [hi.2.2.2 E u v] at hP1
    exact hP1
  · refine va_putN hX.1 hX.2.1 hX.2.2.2.2.1 hin ty0 hty0 hnm hX.2.2.2.1 hX.2.2.2.2.2.1 hP hD hS q (zw_obj E u q ci hi.1) hC j hj (va_Nw.use (zNest_on hl0) (hX.2.2.2.2.2.2.2.1.2.2.1 _ hl0)) (fun _ h => h) hfin hty hn hfit (hi.2.2.1 E (u q)) hd (fun H1 locs1 hP1 _ hS1 => k H1 locs1 ls ?_ hS1 hl)
    rw [hi.2.2.2 E u v] at hP1
    exact hP1
theorem r_putI {idx ci j q : Nat} {v : Int32} (hX : zGood X own cc mL d) (hd : decode cc pc = .ok (.putfield idx, 3)) (hf : zLF own idx ci j) (hp : zLP ci j .int) (hi : zIs q j ci) (k : zG X (zst u q j v) (pc + 3) L st) : zG X u pc L (.int v :: .ref (zad X.1 q) :: st) :=
  r_putV hX hd hf hp hi rfl rfl k
theorem r_putZ {idx ci j q : Nat} {v : Int32} (hX : zGood X own cc mL d) (hd : decode cc pc = .ok (.putfield idx, 3)) (hf : zLF own idx ci j) (hp : zLP ci j .boolean) (hi : zIs q j ci) (hv : v = 0 ∨ v = 1) (k : zG X (zst u q j v) (pc + 3) L st) : zG X u pc L (.int v :: .ref (zad X.1 q) :: st) := by
  refine r_putV hX hd hf hp hi ?_ ?_ k
  · rcases hv with rfl | rfl <;> rfl
  · rcases hv with rfl | rfl <;> rfl
/-- arrays of ints -/
def zld (u : zM) (q N : Nat) (i : Int32) : Option Int32 := if i < 0 ∨ N ≤ i.toNatClampNeg then none else some (u q i.toNatClampNeg)
def zsv (u : zM) (q N : Nat) (i v : Int32) : Option zM := if i < 0 ∨ N ≤ i.toNatClampNeg then none else some (zst u q i.toNatClampNeg v)
theorem zld_some {u : zM} {q N : Nat} {i v : Int32} (h : zld u q N i = some v) : vp_in i N ∧ v = u q i.toNatClampNeg := by
  unfold zld at h
  split at h
  · cases h
  · rename_i hn
    exact ⟨hn, (Option.some.inj h).symm⟩
theorem zsv_some {u u' : zM} {q N : Nat} {i v : Int32} (h : zsv u q N i v = some u') : vp_in i N ∧ u' = zst u q i.toNatClampNeg v := by
  unfold zsv at h
  split at h
  · cases h
  · rename_i hn
    exact ⟨hn, (Option.some.inj h).symm⟩
theorem r_iald {q N : Nat} {i v : Int32} (hX : zGood X own cc mL d) (hd : decode cc pc = .ok (.iaload, 1)) (hN : zN q = some N) (hv : zld u q N i = some v) (k : zG X u (pc + 1) L (.int v :: st)) : zG X u pc L (.int i :: .ref (zad X.1 q) :: st) := by
  obtain ⟨E, A, p, l, e, R, s, m, args, below, meth, c, nL, cells, slots, Q⟩ := X
  obtain ⟨hin, rfl⟩ := zld_some hv
  intro H locs ls hP hS hl
  exact va_iald hX.1 hX.2.1 hX.2.2.2.2.2.1 hP q 0 (zw_arr E u q N hN) rfl hin hd (k H locs ls hP hS hl)
theorem r_ialdC {q N j : Nat} {i : Int32} (hX : zGood X own cc mL d) (hd : decode cc pc = .ok (.iaload, 1)) (hN : zN q = some N) (hv : (decide (i < 0) = false ∧ i.toNatClampNeg = j) ∧ Nat.blt j N = true) (k : zG X u (pc + 1) L (.int (u q j) :: st)) : zG X u pc L (.int i :: .ref (zad X.1 q) :: st) := by
  obtain ⟨⟨h1, rfl⟩, h3⟩ := hv
  have h3 : i.toNatClampNeg < N := by simpa [Nat.blt_eq] using h3
  refine r_iald hX hd hN ?_ k
  unfold zld
  rw [if_neg (fun z => ?_)]
  rcases z with z | z
  · exact of_decide_eq_false h1 z
  · omega
theorem r_iast {q N : Nat} {i v : Int32} {u' : zM} (hX : zGood X own cc mL d) (hd : decode cc pc = .ok (.iastore, 1)) (hN : zN q = some N) (hv : zsv u q N i v = some u') (k : zG X u' (pc + 1) L st) : zG X u pc L (.int v :: .int i :: .ref (zad X.1 q) :: st) := by
  obtain ⟨E, A, p, l, e, R, s, m, args, below, meth, c, nL, cells, slots, Q⟩ := X
  obtain ⟨hin, rfl⟩ := zsv_some hv
  intro H locs ls hP hS hl
  have hD : va_D A (zw E u) := zw_D z0 u hX.2.2.2.2.2.2.1
  refine va_iast hX.1 hX.2.1 hX.2.2.2.2.2.1 hP hD hS q 0 (zw_arr E u q N hN) rfl hin hd (fun H1 locs1 hP1 _ hS1 => k H1 locs1 ls ?_ hS1 hl)
  rw [zw_set E u _ q N hN] at hP1
  exact hP1
theorem r_iastC {q N j : Nat} {i v : Int32} (hX : zGood X own cc mL d) (hd : decode cc pc = .ok (.iastore, 1)) (hN : zN q = some N) (hv : (decide (i < 0) = false ∧ i.toNatClampNeg = j) ∧ Nat.blt j N = true) (k : zG X (zst u q j v) (pc + 1) L st) : zG X u pc L (.int v :: .int i :: .ref (zad X.1 q) :: st) := by
  obtain ⟨⟨h1, rfl⟩, h3⟩ := hv
  have h3 : i.toNatClampNeg < N := by simpa [Nat.blt_eq] using h3
  refine r_iast hX hd hN ?_ k
  unfold zsv
  rw [if_neg (fun z => ?_)]
  rcases z with z | z
  · exact of_decide_eq_false h1 z
  · omega
theorem r_alen {q N : Nat} {v : Int32} (hX : zGood X own cc mL d) (hd : decode cc pc = .ok (.arraylength, 1)) (hN : zN q = some N) (hv : Int32.ofNat N = v) (k : zG X u (pc + 1) L (.int v :: st)) : zG X u pc L (.ref (zad X.1 q) :: st) := by
  obtain ⟨E, A, p, l, e, R, s, m, args, below, meth, c, nL, cells, slots, Q⟩ := X
  exact fun H locs ls hP hS hl => va_alen hX.1 hX.2.1 hX.2.2.2.2.2.1 hP q 0 (zw_arr E u q N hN) rfl hv hd (k H locs ls hP hS hl)
/-- the row of sheets -/
def zsheet (i : Int32) : Option Nat := if i < 0 ∨ 4 ≤ i.toNatClampNeg then none else some (31 + 2 * i.toNatClampNeg)
theorem zsheet_ok {i : Int32} {q : Nat} (h : zsheet i = some q) : vp_in i 4 ∧ q = 31 + 2 * i.toNatClampNeg ∧ zSh q := by
  unfold zsheet at h
  split at h
  · cases h
  · rename_i hn
    have e := (Option.some.inj h).symm
    refine ⟨hn, e, ?_⟩
    have hlt : i.toNatClampNeg < 4 := Nat.not_le.mp fun z => hn (Or.inr z)
    unfold zSh
    omega
theorem r_aldS {i : Int32} {q : Nat} (hX : zGood X own cc mL d) (hd : decode cc pc = .ok (.aaload, 1)) (hv : zsheet i = some q) (k : zG X u (pc + 1) L (.ref (zad X.1 q) :: st)) : zG X u pc L (.int i :: .ref (zad X.1 27) :: st) := by
  obtain ⟨E, A, p, l, e, R, s, m, args, below, meth, c, nL, cells, slots, Q⟩ := X
  obtain ⟨hin, rfl, -⟩ := zsheet_ok hv
  intro H locs ls hP hS hl
  exact va_aldq hX.1 hX.2.1 hX.2.2.2.2.2.1 hP 27 1 (show (zw E u)[27]? = some (zad E 27, .inl (E.2.1 1, 4, .inr (.inr (.inr (.inr (fun j => some (zad E (31 + 2 * j)))))))) from rfl) rfl hin hd (k H locs ls hP hS hl)
/-- the rows of Strings -/
def zsa (base n : Nat) (i : Int32) : Option Nat := if i < 0 ∨ n ≤ i.toNatClampNeg then none else some (base + i.toNatClampNeg)
theorem zsa_ok {base n : Nat} {i : Int32} {q : Nat} (h : zsa base n i = some q) : vp_in i n ∧ q = base + i.toNatClampNeg ∧ q < base + n := by
  unfold zsa at h
  split at h
  · cases h
  · rename_i hn
    have e := (Option.some.inj h).symm
    have hlt : i.toNatClampNeg < n := Nat.not_le.mp fun z => hn (Or.inr z)
    exact ⟨hn, e, by omega⟩
theorem r_aldK {i : Int32} {q : Nat} (hX : zGood X own cc mL d) (hd : decode cc pc = .ok (.aaload, 1)) (hv : zsa 0 7 i = some q) (k : zG X u (pc + 1) L (.ref (zaK X.1 q) :: st)) : zG X u pc L (.int i :: .ref (zad X.1 48) :: st) := by
  obtain ⟨E, A, p, l, e, R, s, m, args, below, meth, c, nL, cells, slots, Q⟩ := X
  obtain ⟨hin, rfl, -⟩ := zsa_ok hv
  intro H locs ls hP hS hl
  exact va_aldq hX.1 hX.2.1 hX.2.2.2.2.2.1 hP 48 2 (show (zw E u)[48]? = some (zad E 48, .inl (E.2.1 2, 7, .inr (.inr (.inr (.inr (fun j => some (zaK E (0 + j)))))))) from rfl) rfl hin hd (k H locs ls hP hS hl)
theorem r_aldR {i : Int32} {q : Nat} (hX : zGood X own cc mL d) (hd : decode cc pc = .ok (.aaload, 1)) (hv : zsa 7 3 i = some q) (k : zG X u (pc + 1) L (.ref (zaK X.1 q) :: st)) : zG X u pc L (.int i :: .ref (zad X.1 49) :: st) := by
  obtain ⟨E, A, p, l, e, R, s, m, args, below, meth, c, nL, cells, slots, Q⟩ := X
  obtain ⟨hin, rfl, -⟩ := zsa_ok hv
  intro H locs ls hP hS hl
  exact va_aldq hX.1 hX.2.1 hX.2.2.2.2.2.1 hP 49 2 (show (zw E u)[49]? = some (zad E 49, .inl (E.2.1 2, 3, .inr (.inr (.inr (.inr (fun j => some (zaK E (7 + j)))))))) from rfl) rfl hin hd (k H locs ls hP hS hl)
theorem r_alenK (hX : zGood X own cc mL d) (hd : decode cc pc = .ok (.arraylength, 1)) (k : zG X u (pc + 1) L (.int 7 :: st)) : zG X u pc L (.ref (zad X.1 48) :: st) := by
  obtain ⟨E, A, p, l, e, R, s, m, args, below, meth, c, nL, cells, slots, Q⟩ := X
  exact fun H locs ls hP hS hl => va_alen hX.1 hX.2.1 hX.2.2.2.2.2.1 hP 48 2 (show (zw E u)[48]? = some (zad E 48, .inl (E.2.1 2, 7, .inr (.inr (.inr (.inr (fun j => some (zaK E (0 + j)))))))) from rfl) rfl rfl hd (k H locs ls hP hS hl)
theorem r_alenR (hX : zGood X own cc mL d) (hd : decode cc pc = .ok (.arraylength, 1)) (k : zG X u (pc + 1) L (.int 3 :: st)) : zG X u pc L (.ref (zad X.1 49) :: st) := by
  obtain ⟨E, A, p, l, e, R, s, m, args, below, meth, c, nL, cells, slots, Q⟩ := X
  exact fun H locs ls hP hS hl => va_alen hX.1 hX.2.1 hX.2.2.2.2.2.1 hP 49 2 (show (zw E u)[49]? = some (zad E 49, .inl (E.2.1 2, 3, .inr (.inr (.inr (.inr (fun j => some (zaK E (7 + j)))))))) from rfl) rfl rfl hd (k H locs ls hP hS hl)
/-- constants, the static row, copies -/
theorem r_ldc {idx : Nat} {v : Int32} (hX : zGood X own cc mL d) (hd : decode cc pc = .ok (.ldc idx, 2)) (hw : Cond.constant own idx v ∈ zT) (k : zG X u (pc + 2) L (.int v :: st)) : zG X u pc L st := by
  obtain ⟨E, A, p, l, e, R, s, m, args, below, meth, c, nL, cells, slots, Q⟩ := X
  exact fun H locs ls hP hS hl => lv_ldc hX.1 hX.2.1 hX.2.2.2.1 (hX.2.2.2.2.1 _ hw) hd (k H locs ls hP hS hl)
theorem r_ldcw {idx : Nat} {v : Int32} (hX : zGood X own cc mL d) (hd : decode cc pc = .ok (.ldc_w idx, 3)) (hw : Cond.constant own idx v ∈ zT) (k : zG X u (pc + 3) L (.int v :: st)) : zG X u pc L st := by
  obtain ⟨E, A, p, l, e, R, s, m, args, below, meth, c, nL, cells, slots, Q⟩ := X
  exact fun H locs ls hP hS hl => lv_ldcw hX.1 hX.2.1 hX.2.2.2.1 (hX.2.2.2.2.1 _ hw) hd (k H locs ls hP hS hl)
theorem r_ldcS {idx q : Nat} {tx : String} (hX : zGood X own cc mL d) (hd : decode cc pc = .ok (.ldc idx, 2)) (hw : (own, idx, tx, q) ∈ zStr) (k : zG X u (pc + 2) L (.ref (zaK X.1 q) :: st)) : zG X u pc L st := by
  obtain ⟨E, A, p, l, e, R, s, m, args, below, meth, c, nL, cells, slots, Q⟩ := X
  exact fun H locs ls hP hS hl => va_ldcS hX.1 hX.2.1 hX.2.2.2.1 (hX.2.2.2.2.2.2.2.1.2.1 _ hw) hd (k H locs ls hP hS hl)
theorem r_gsK {idx : Nat} (hX : zGood X own cc mL d) (hd : decode cc pc = .ok (.getstatic idx, 3)) (hw : Cond.fieldLink own idx "MeanCoats" "KIND_ABOVE" "[I" ∈ zT) (k : zG X u (pc + 3) L (.ref X.1.2.2.2.2.2 :: st)) : zG X u pc L st := by
  obtain ⟨E, A, p, l, e, R, s, m, args, below, meth, c, nL, cells, slots, Q⟩ := X
  exact fun H locs ls hP hS hl => va_gets hX.1 hX.2.1 hX.2.2.2.2.2.2.2.1.2.2.2.1 hS hX.2.2.2.1 (hX.2.2.2.2.1 _ hw) (fun _ h => h) hd (k H locs ls hP hS hl)
def zka (i : Int32) : Option Int32 := if i < 0 ∨ 7 ≤ i.toNatClampNeg then none else some (zKA i.toNatClampNeg)
theorem r_aldA {i v : Int32} (hX : zGood X own cc mL d) (hd : decode cc pc = .ok (.iaload, 1)) (hv : zka i = some v) (k : zG X u (pc + 1) L (.int v :: st)) : zG X u pc L (.int i :: .ref X.1.2.2.2.2.2 :: st) := by
  obtain ⟨E, A, p, l, e, R, s, m, args, below, meth, c, nL, cells, slots, Q⟩ := X
  unfold zka at hv
  split at hv
  · cases hv
  · rename_i hn
    cases hv
    exact fun H locs ls hP hS hl => va_ti hX.1 hX.2.1 hX.2.2.2.2.2.2.2.1.2.2.2.2.1 hS hn rfl hd (k H locs ls hP hS hl)
def zcp (u : zM) (q0 n0 : Nat) (sp : Int32) (q1 n1 : Nat) (dp n : Int32) : Option zM :=
  if sp < 0 ∨ dp < 0 ∨ n < 0 ∨ n0 < sp.toNatClampNeg + n.toNatClampNeg ∨ n1 < dp.toNatClampNeg + n.toNatClampNeg then none else some (zup u q1 (va_cpy (u q0) (u q1) sp.toNatClampNeg dp.toNatClampNeg n.toNatClampNeg))
def zLA (own : String) (idx : Nat) : Prop := Cond.methodLink own idx arraycopyName ∈ zT ∧ Cond.native arraycopyName ∈ zT ∧ Cond.static arraycopyName ∈ zT ∧ Cond.initialized "java/lang/System" ∈ zT
theorem r_copy {idx q0 n0 q1 n1 : Nat} {sp dp n : Int32} {u' : zM} (hX : zGood X own cc mL d) (hd : decode cc pc = .ok (.invokestatic idx, 3)) (hw : zLA own idx) (h0 : zN q0 = some n0) (h1 : zN q1 = some n1) (hd1 : 1 ≤ d) (hst : (st.map fun v => v.category).sum ≤ 8) (hv : zcp u q0 n0 sp q1 n1 dp n = some u') (k : zG X u' (pc + 3) L st) :
    zG X u pc L (.int n :: .int dp :: .ref (zad X.1 q1) :: .int sp :: .ref (zad X.1 q0) :: st) := by
  obtain ⟨E, A, p, l, e, R, s, m, args, below, meth, c, nL, cells, slots, Q⟩ := X
  obtain ⟨w1, w2, w3, w4⟩ := hw
  unfold zcp at hv
  split at hv
  · cases hv
  · rename_i hn
    have hu := (Option.some.inj hv).symm
    subst hu
    have hD : va_D A (zw E u) := zw_D z0 u hX.2.2.2.2.2.2.1
    have hfr : d ≤ R.frames := hX.2.2.2.2.2.2.2.2.1
    have hlo : d * 48 ≤ R.locals := hX.2.2.2.2.2.2.2.2.2.1
    have hnw : nativeFrameWords "java/lang/System" "arraycopy" 5 + 11 ≤ 40 := by decide +kernel
    intro H locs ls hP hS hl
    refine va_copyi hX.1 hX.2.1 (by rw [hX.2.2.1.1]; exact hl.1.symm) hX.2.2.2.1 (hX.2.2.2.2.1 _ w1) (hX.2.2.2.2.1 _ w2) (hX.2.2.2.2.1 _ w3) (hX.2.2.2.2.1 _ w4) hX.2.2.2.2.2.1 hP hD hS q0 q1 0 0 (zw_arr E u q0 n0 h0) (zw_arr E u q1 n1 h1) (ty := .int) rfl rfl rfl
      (fun z => hn (Or.inl z)) (fun z => hn (Or.inr (Or.inl z))) (fun z => hn (Or.inr (Or.inr (Or.inl z)))) (Nat.not_lt.mp fun z => hn (Or.inr (Or.inr (Or.inr (Or.inl z))))) (Nat.not_lt.mp fun z => hn (Or.inr (Or.inr (Or.inr (Or.inr z))))) (fun _ _ => rfl) (by omega) (by omega) hd (fun H1 locs1 hP1 _ hS1 => k H1 locs1 ls ?_ hS1 hl)
    rw [zw_set E u _ q1 n1 h1] at hP1
    exact hP1
/-- Math -/
def zmax (x y : Int32) : Int32 := if x < y then y else x
def zmin (x y : Int32) : Int32 := if y < x then y else x
def zabs (x : Int32) : Int32 := if 0 ≤ x then x else 0 - x
def zLM (own : String) (idx : Nat) (y : MethodName) (b : ByteArray) (n : Nat) : Prop := Cond.methodLink own idx y ∈ zT ∧ Cond.static y ∈ zT ∧ Cond.initialized "java/lang/Math" ∈ zT ∧ Cond.code y b n (some .int) ∈ zT
theorem r_max {idx : Nat} {x y : Int32} (hX : zGood X own cc mL d) (hd : decode cc pc = .ok (.invokestatic idx, 3)) (hw : zLM own idx Lib.Math.max.name Lib.Math.max.code 2) (hd1 : 1 ≤ d) (hst : (st.map fun v => v.category).sum ≤ 8) (k : zG X u (pc + 3) L (.int (zmax x y) :: st)) : zG X u pc L (.int y :: .int x :: st) := by
  obtain ⟨E, A, p, l, e, R, s, m, args, below, meth, c, nL, cells, slots, Q⟩ := X
  obtain ⟨w1, w2, w3, w4⟩ := hw
  have hfr : d ≤ R.frames := hX.2.2.2.2.2.2.2.2.1
  have hlo : d * 48 ≤ R.locals := hX.2.2.2.2.2.2.2.2.2.1
  exact fun H locs ls hP hS hl => va_mmax hX.1 hX.2.1 (by rw [hX.2.2.1.1]; exact hl.1.symm) hX.2.2.2.1 (hX.2.2.2.2.1 _ w1) (hX.2.2.2.2.1 _ w2) (hX.2.2.2.2.1 _ w3) (hX.2.2.2.2.1 _ w4) (by omega) (by omega) hX.2.2.2.2.2.2.2.2.2.2.1 hX.2.2.2.2.2.2.2.2.2.2.2 hd (k H locs ls hP hS hl)
theorem r_min {idx : Nat} {x y : Int32} (hX : zGood X own cc mL d) (hd : decode cc pc = .ok (.invokestatic idx, 3)) (hw : zLM own idx Lib.Math.min.name Lib.Math.min.code 2) (hd1 : 1 ≤ d) (hst : (st.map fun v => v.category).sum ≤ 8) (k : zG X u (pc + 3) L (.int (zmin x y) :: st)) : zG X u pc L (.int y :: .int x :: st) := by
  obtain ⟨E, A, p, l, e, R, s, m, args, below, meth, c, nL, cells, slots, Q⟩ := X
  obtain ⟨w1, w2, w3, w4⟩ := hw
  have hfr : d ≤ R.frames := hX.2.2.2.2.2.2.2.2.1
  have hlo : d * 48 ≤ R.locals := hX.2.2.2.2.2.2.2.2.2.1
  exact fun H locs ls hP hS hl => va_mmin hX.1 hX.2.1 (by rw [hX.2.2.1.1]; exact hl.1.symm) hX.2.2.2.1 (hX.2.2.2.2.1 _ w1) (hX.2.2.2.2.1 _ w2) (hX.2.2.2.2.1 _ w3) (hX.2.2.2.2.1 _ w4) (by omega) (by omega) hX.2.2.2.2.2.2.2.2.2.2.1 hX.2.2.2.2.2.2.2.2.2.2.2 hd (k H locs ls hP hS hl)
theorem r_abs {idx : Nat} {x : Int32} (hX : zGood X own cc mL d) (hd : decode cc pc = .ok (.invokestatic idx, 3)) (hw : zLM own idx Lib.Math.abs.name Lib.Math.abs.code 1) (hd1 : 1 ≤ d) (hst : (st.map fun v => v.category).sum ≤ 8) (k : zG X u (pc + 3) L (.int (zabs x) :: st)) : zG X u pc L (.int x :: st) := by
  obtain ⟨E, A, p, l, e, R, s, m, args, below, meth, c, nL, cells, slots, Q⟩ := X
  obtain ⟨w1, w2, w3, w4⟩ := hw
  have hfr : d ≤ R.frames := hX.2.2.2.2.2.2.2.2.1
  have hlo : d * 48 ≤ R.locals := hX.2.2.2.2.2.2.2.2.2.1
  exact fun H locs ls hP hS hl => va_mabs hX.1 hX.2.1 (by rw [hX.2.2.1.1]; exact hl.1.symm) hX.2.2.2.1 (hX.2.2.2.2.1 _ w1) (hX.2.2.2.2.1 _ w2) (hX.2.2.2.2.1 _ w3) (hX.2.2.2.2.1 _ w4) (by omega) (by omega) hX.2.2.2.2.2.2.2.2.2.2.1 hX.2.2.2.2.2.2.2.2.2.2.2 hd (k H locs ls hP hS hl)
end ZR
