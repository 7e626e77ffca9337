/-! THE CONSTRUCTORS: their frame. By program (wip/whole/gen_ctor.py). -/
theorem kw_inst : Cond.instanceMethod Lib.objectInit ∈ zT := zT_in 127 (by decide +kernel) rfl
theorem kw_code : Cond.code Lib.objectInit ⟨#[0xb1]⟩ 1 none ∈ zT := zT_in 128 (by decide +kernel) rfl
theorem kw_arr : Cond.arrayClass (newarray.typeOf .int) ∈ zT := zT_in 190 (by decide +kernel) rfl
/-- the two classes of arrays of references -/
def kAO (U : State) : Prop := va_AO "MeanCoats$Sheet" U ∧ va_AO "java/lang/String" U
theorem kAO.moved {u U : State} (hvm : u.vm.Alike U.vm) (h : kAO u) : kAO U := ⟨h.1.moved hvm, h.2.moved hvm⟩
theorem kI {E : zE} {s : State} {cA : ClassId} (h : va_K E.1 vwCl (zty E ++ [(cA, .int)]) s) : cA = E.2.1 0 := by
  have h1 := (h.2 0 (E.2.1 0, .int) rfl).2
  have h2 := (h.2 3 (cA, .int) rfl).2
  exact Option.some.inj (Eq.trans (Eq.symm (show s.vm.findClass _ = some cA from h2)) h1)
theorem kO1 {E : zE} {s : State} {cA : ClassId} (h : va_K E.1 vwCl (zty E ++ [(cA, .object "MeanCoats$Sheet")]) s) : cA = E.2.1 1 := by
  obtain ⟨_, _, _, _, _, h1⟩ := (h.2 1 (E.2.1 1, .object "MeanCoats$Sheet") rfl).2
  obtain ⟨_, _, _, _, _, h2⟩ := (h.2 3 (cA, .object "MeanCoats$Sheet") rfl).2
  exact Option.some.inj (h2.symm.trans h1)
theorem kO2 {E : zE} {s : State} {cA : ClassId} (h : va_K E.1 vwCl (zty E ++ [(cA, .object "java/lang/String")]) s) : cA = E.2.1 2 := by
  obtain ⟨_, _, _, _, _, h1⟩ := (h.2 2 (E.2.1 2, .object "java/lang/String") rfl).2
  obtain ⟨_, _, _, _, _, h2⟩ := (h.2 3 (cA, .object "java/lang/String") rfl).2
  exact Option.some.inj (h2.symm.trans h1)
def kPc (E : zE) (h0 sz : Nat) (w0 : va_W) : Array Value → State → Prop := va_Pc [.ref h0] (fun U => U.heap.size = sz ∧ va_P E.1 vwCl w0 U.heap ∧ va_K E.1 vwCl (zty E) U ∧ va_D (fun _ => True) w0 ∧ zRo E (va_A w0 sz) U ∧ kAO U)
def kQc (E : zE) (A : Nat → Prop) (Wf : (Nat → Nat) → va_W) : Array Value → State → Outcome → State → Prop := va_Qv (fun _ : Nat → Nat => True) (fun f t => va_P E.1 vwCl (Wf f) t.heap ∧ va_D A (Wf f)) A
/-- a constructor's contract: the new object's world before (w0), and behind it (Wf), with addresses f -/
def kCt (d N M : Nat) (y : MethodName) (b : ByteArray) (mL : Nat) (w0 : Nat → va_W) (Wf : zE → Nat → (Nat → Nat) → va_W) : Prop :=
  ∀ (l : Launch) (E : zE) (h0 sz : Nat), Met l y (.code y b mL none :: zT) { frames := d, cells := N, slots := M, locals := d * 48 } (kPc E h0 sz (w0 h0)) (kQc E (va_A (w0 h0) sz) (Wf E h0)) N M (va_A (w0 h0) sz)
theorem kPc_blind {E : zE} {h0 sz : Nat} {w0 : va_W} : FrameBlind (kPc E h0 sz w0) := by
  rintro a U g mk ⟨h1, h2, h3, h4, h5, h6, h7⟩
  exact ⟨h1, h2, h3, va_K.moved (u := U) (U := U.calling g mk a) (Vm.Alike.refl U.vm) h4, h5, h6.call, kAO.moved (u := U) (U := U.calling g mk a) (Vm.Alike.refl U.vm) h7⟩
theorem kCt.of {d N M : Nat} {y : MethodName} {b : ByteArray} {mL : Nat} {w0 : Nat → va_W} {Wf : zE → Nat → (Nat → Nat) → va_W} (hy : plainName y.cls = true) (hn : y.name = "<init>") (hm : 1 ≤ mL)
    (k : ∀ {p : Program} {l : Launch} {e : Env} {s : State} {m : MethodId} {args : Array Value} {below : List Frame} {meth : Method} {c : Code} (E : zE) (h0 : Nat) (A : Nat → Prop) (ls : Array Slot), p.tables.exec = Jvm.exec → c.code = b → c.maxLocals = mL → meth.sig.returnType = none → meth.locks = false → meth.name = "<init>" → s.vm.findClass y.cls = some m.cls → (∀ w ∈ zT, w.before args s = true) → va_K E.1 vwCl (zty E) s → (∀ q : Nat, s.heap.size ≤ q → A q) → zRo E A s → kAO s →
      va_P E.1 vwCl (w0 h0) s.heap → va_D A (w0 h0) → va_S A s.heap s.heap [] → lv_has ls mL [(0, .ref h0)] → W p l e { frames := d, cells := N, slots := M, locals := d * 48 } s m args below meth c s.heap [] 0 0 (MQ below (kQc E A (Wf E h0)) args s N M A) (F0 m 0 ls [])) : kCt d N M y b mL w0 Wf := by
  intro l E h0 sz
  refine Met.ofW (cc := b) (maxL := mL) (ret := none) hy rfl ?_
  intro p e s m args below meth c s₁ B hml hv
  obtain ⟨rfl, hsz, hP, hK, hD0, hRo, hO⟩ := hv
  subst hsz
  have hts := atoms_spec (ws := .code y b mL none :: zT) B.pre
  have hin : meth.name = y.name := (name_of_methodNamed B.named B.method).1
  have hl := lv_entry ([.ref h0]) (n := mL) hm
  rw [lg_entry_eq]
  generalize (lg_sl ([.ref h0]) ++ List.replicate (mL - (lg_sl ([.ref h0])).length) Slot.unset).toArray = ls at hl ⊢
  have hD := hD0.self (sz := s.heap.size)
  exact k E h0 _ ls B.exec B.bytes hml B.returns B.notSynchronized (hin.trans hn) (findClass_of_methodNamed B.named) (fun w hw => hts w (List.mem_cons_of_mem _ hw)) hK (fun q h => Or.inr h) hRo hO hP hD va_S.rf hl
section KR
variable {p : Program} {l : Launch} {e : Env} {R : Room} {s : State} {m : MethodId} {args : Array Value} {below : List Frame} {meth : Method} {c : Code} {H : Heap} {locs : List Loc} {cells slots : Nat} {Q : State → Prop}
variable {E : zE} {A : Nat → Prop} {cc : ByteArray} {pc nL : Nat} {ls : Array Slot} {rest : List Value} {ws : va_W} {own : String}
theorem k_ret {N M : Nat} {Wf : (Nat → Nat) → va_W} (f : Nat → Nat) (hx : p.tables.exec = Jvm.exec) (hb : c.code = cc) (hr : meth.sig.returnType = none) (hlocks : meth.locks = false) (hP : va_P E.1 vwCl (Wf f) H) (hD : va_D A (Wf f)) (hS : va_S A s.heap H locs) (hd : decode cc pc = .ok (.return_, 1)) : W p l e R s m args below meth c H locs N M (MQ below (kQc E A Wf) args s N M A) (F0 m pc ls []) :=
  W.vret hx hb hr (fun t ht hW => ⟨⟨f, rfl, trivial, by rw [ht]; exact hP, hD⟩, hS.F ht⟩) hS.2.2 hd hlocks
theorem k_objInit {a idx : Nat} (hx : p.tables.exec = Jvm.exec) (hb : c.code = cc) (hts : ∀ w ∈ zT, w.before args s = true) (hown : s.vm.findClass own = some m.cls) (hml : c.maxLocals = nL) (hl : ls.size = nL) (hw : Cond.methodLink own idx Lib.objectInit ∈ zT) (hR : 1 ≤ R.frames ∧ 48 ≤ R.locals) (hrest : (rest.map fun v => v.category).sum ≤ 8) (hd : decode cc pc = .ok (.invokespecial idx, 3)) (kk : W p l e R s m args below meth c H locs cells slots Q (F0 m (pc + 3) ls rest)) : W p l e R s m args below meth c H locs cells slots Q (F0 m pc ls (.ref a :: rest)) :=
  W.objInit hx hb hown (hts _ hw) (hts _ kw_inst) (hts _ kw_code) rfl (hl.trans hml.symm) rfl hd hR.1 (by have := lv_room (m := m) (pc := pc) (ls := ls) (rest := []) hrest; show 2 * 0 + _ + 12 ≤ R.locals; omega) kk
theorem k_newa (hx : p.tables.exec = Jvm.exec) (hb : c.code = cc) (hts : ∀ w ∈ zT, w.before args s = true) (hK : va_K E.1 vwCl (zty E) s) (hP : va_P E.1 vwCl ws H) (hD : va_D A ws) (hS : va_S A s.heap H locs) (hA : ∀ q : Nat, s.heap.size ≤ q → A q) {n : Int32} {N' k9 n9 : Nat} (hn : ¬ n < 0) (hN : n.toNatClampNeg = N') (hby : N' * 4 ≤ 536870912) (hc : cells + 1 = k9 ∧ k9 ≤ R.cells) (hs : slots + N' = n9 ∧ n9 ≤ R.slots) (hd : decode cc pc = .ok (.newarray .int, 2))
    (kk : ∀ (q : Nat) (H1 : Heap), va_P E.1 vwCl (ws ++ [(q, .inl (E.2.1 0, N', .inl (fun _ => 0)))]) H1 → va_D A (ws ++ [(q, .inl (E.2.1 0, N', .inl (fun _ => 0)))]) → va_S A s.heap H1 locs → W p l e R s m args below meth c H1 locs k9 n9 Q (F0 m (pc + 2) ls (.ref q :: rest))) : W p l e R s m args below meth c H locs cells slots Q (F0 m pc ls (.int n :: rest)) := by
  obtain ⟨rfl, hc⟩ := hc
  obtain ⟨rfl, hs⟩ := hs
  refine va_newa (a0 := (N', .inl (fun _ => 0))) (ty := .int) hx hb (hts _ kw_arr) rfl hK hP hD hS hA (fun _ => rfl) hn hN hby hc hs hd (fun q cA H1 hK1 hP1 hD1 hS1 => ?_)
  obtain rfl := kI hK1
  exact kk q H1 hP1 hD1 hS1
theorem k_newq1 {idx : Nat} (hx : p.tables.exec = Jvm.exec) (hb : c.code = cc) (hts : ∀ w ∈ zT, w.before args s = true) (hown : s.vm.findClass own = some m.cls) (hw : Cond.classLink own idx "MeanCoats$Sheet" ∈ zT) (hO : kAO s) (hK : va_K E.1 vwCl (zty E) s) (hP : va_P E.1 vwCl ws H) (hD : va_D A ws) (hS : va_S A s.heap H locs) (hA : ∀ q : Nat, s.heap.size ≤ q → A q) {n : Int32} {N' k9 n9 : Nat} (hn : ¬ n < 0) (hN : n.toNatClampNeg = N') (hby : N' * 4 ≤ 536870912) (hc : cells + 1 = k9 ∧ k9 ≤ R.cells) (hs : slots + N' = n9 ∧ n9 ≤ R.slots) (hd : decode cc pc = .ok (.anewarray idx, 3))
    (kk : ∀ (q : Nat) (H1 : Heap), va_P E.1 vwCl (ws ++ [(q, .inl (E.2.1 1, N', .inr (.inr (.inr (.inr (fun _ => none))))))]) H1 → va_D A (ws ++ [(q, .inl (E.2.1 1, N', .inr (.inr (.inr (.inr (fun _ => none))))))]) → va_S A s.heap H1 locs → W p l e R s m args below meth c H1 locs k9 n9 Q (F0 m (pc + 3) ls (.ref q :: rest))) : W p l e R s m args below meth c H locs cells slots Q (F0 m pc ls (.int n :: rest)) := by
  obtain ⟨rfl, hc⟩ := hc
  obtain ⟨rfl, hs⟩ := hs
  refine va_newq hx hb hown (hts _ hw) hO.1 hK hP hD hS hA hn hN hby hc hs hd (fun q cA H1 hK1 hP1 hD1 hS1 => ?_)
  obtain rfl := kO1 hK1
  exact kk q H1 hP1 hD1 hS1
theorem k_newq2 {idx : Nat} (hx : p.tables.exec = Jvm.exec) (hb : c.code = cc) (hts : ∀ w ∈ zT, w.before args s = true) (hown : s.vm.findClass own = some m.cls) (hw : Cond.classLink own idx "java/lang/String" ∈ zT) (hO : kAO s) (hK : va_K E.1 vwCl (zty E) s) (hP : va_P E.1 vwCl ws H) (hD : va_D A ws) (hS : va_S A s.heap H locs) (hA : ∀ q : Nat, s.heap.size ≤ q → A q) {n : Int32} {N' k9 n9 : Nat} (hn : ¬ n < 0) (hN : n.toNatClampNeg = N') (hby : N' * 4 ≤ 536870912) (hc : cells + 1 = k9 ∧ k9 ≤ R.cells) (hs : slots + N' = n9 ∧ n9 ≤ R.slots) (hd : decode cc pc = .ok (.anewarray idx, 3))
    (kk : ∀ (q : Nat) (H1 : Heap), va_P E.1 vwCl (ws ++ [(q, .inl (E.2.1 2, N', .inr (.inr (.inr (.inr (fun _ => none))))))]) H1 → va_D A (ws ++ [(q, .inl (E.2.1 2, N', .inr (.inr (.inr (.inr (fun _ => none))))))]) → va_S A s.heap H1 locs → W p l e R s m args below meth c H1 locs k9 n9 Q (F0 m (pc + 3) ls (.ref q :: rest))) : W p l e R s m args below meth c H locs cells slots Q (F0 m pc ls (.int n :: rest)) := by
  obtain ⟨rfl, hc⟩ := hc
  obtain ⟨rfl, hs⟩ := hs
  refine va_newq hx hb hown (hts _ hw) hO.2 hK hP hD hS hA hn hN hby hc hs hd (fun q cA H1 hK1 hP1 hD1 hS1 => ?_)
  obtain rfl := kO2 hK1
  exact kk q H1 hP1 hD1 hS1
theorem k_put {idx ci j a : Nat} {ty : FieldType} {v : Value} {fs : List Value} {ws1 : va_W} (hx : p.tables.exec = Jvm.exec) (hb : c.code = cc) (hts : ∀ w ∈ zT, w.before args s = true) (hown : s.vm.findClass own = some m.cls) (hin : meth.name = "<init>") (hK : va_K E.1 vwCl (zty E) s) (hP : va_P E.1 vwCl ws H) (hD : va_D A ws) (hS : va_S A s.heap H locs)
    (hf : ∃ (C : String) (T : u_T) (N : Nat), vwCl[ci]? = some (C, T, N) ∧ j < N ∧ (∀ w ∈ u_ws C T N, w ∈ zT) ∧ Cond.fieldLink own idx (T j).1 (T j).2.1 (T j).2.2.1 ∈ zT ∧ (T j).1 = own ∧ parseFieldDescriptor (T j).2.2.1 = some ty ∧ (∀ a, a < N → ∀ b, b < N → a ≠ b → (T a).2.1 ≠ (T b).2.1) ∧ ∃ ty0 : Nat → FieldType, ∀ k, k < N → parseFieldDescriptor (T k).2.2.1 = some (ty0 k))
    (he : ws[0]? = some (a, .inr (ci, fs))) (hn : narrow ty v = v) (hfit : fits ty v = true) (hl : j < fs.length) (hd : decode cc pc = .ok (.putfield idx, 3)) (hws : ws.set 0 (a, .inr (ci, fs.set j v)) = ws1)
    (kk : ∀ (H1 : Heap) (locs1 : List Loc), va_P E.1 vwCl ws1 H1 → va_D A ws1 → va_S A s.heap H1 locs1 → W p l e R s m args below meth c H1 locs1 cells slots Q (F0 m (pc + 3) ls rest)) : W p l e R s m args below meth c H locs cells slots Q (F0 m pc ls (v :: .ref a :: rest)) := by
  subst hws
  obtain ⟨C, T, N, hC, hj, hin0, hl0, hdecl, hty, hnm, ty0, hty0⟩ := hf
  cases hfin : (T j).2.2.2 with
  | true => exact va_putF hx hb hts hin0 ty0 hty0 hnm hown hK hP hD hS 0 he hC j hj (hts _ hl0) (fun _ h => h) hfin hin hdecl hty hn hfit hl hd kk
  | false => exact va_put hx hb hts hin0 ty0 hty0 hnm hown hK hP hD hS 0 he hC j hj (hts _ hl0) (fun _ h => h) hfin hty hn hfit hl hd kk
theorem k_get {idx ci j a : Nat} {v : Value} {fs : List Value} (hx : p.tables.exec = Jvm.exec) (hb : c.code = cc) (hts : ∀ w ∈ zT, w.before args s = true) (hown : s.vm.findClass own = some m.cls) (hK : va_K E.1 vwCl (zty E) s) (hP : va_P E.1 vwCl ws H)
    (hf : ∃ (C : String) (T : u_T) (N : Nat), vwCl[ci]? = some (C, T, N) ∧ j < N ∧ (∀ w ∈ u_ws C T N, w ∈ zT) ∧ Cond.fieldLink own idx (T j).1 (T j).2.1 (T j).2.2.1 ∈ zT)
    (he : ws[0]? = some (a, .inr (ci, fs))) (hv : fs[j]? = some v) (hd : decode cc pc = .ok (.getfield idx, 3)) (kk : W p l e R s m args below meth c H locs cells slots Q (F0 m (pc + 3) ls (v :: rest))) : W p l e R s m args below meth c H locs cells slots Q (F0 m pc ls (.ref a :: rest)) := by
  obtain ⟨C, T, N, hC, hj, hin0, hl0⟩ := hf
  exact va_get hx hb hts hin0 hown hK hP 0 he hC j hj (hts _ hl0) (fun _ h => h) hv hd kk
theorem k_iast {i x : Int32} {q0 n k9 a : Nat} {f : Nat → Int32} {ws1 : va_W} (hx : p.tables.exec = Jvm.exec) (hb : c.code = cc) (hK : va_K E.1 vwCl (zty E) s) (hP : va_P E.1 vwCl ws H) (hD : va_D A ws) (hS : va_S A s.heap H locs) (ha : ws[q0]? = some (a, .inl (E.2.1 0, n, .inl f))) (hin : vp_in i n) (hk : i.toNatClampNeg = k9) (hd : decode cc pc = .ok (.iastore, 1)) (hws : ws.set q0 (a, .inl (E.2.1 0, n, .inl (upd f k9 x))) = ws1)
    (kk : ∀ (H1 : Heap) (locs1 : List Loc), va_P E.1 vwCl ws1 H1 → va_D A ws1 → va_S A s.heap H1 locs1 → W p l e R s m args below meth c H1 locs1 cells slots Q (F0 m (pc + 1) ls rest)) : W p l e R s m args below meth c H locs cells slots Q (F0 m pc ls (.int x :: .int i :: .ref a :: rest)) := by
  subst hws
  subst hk
  exact va_iast hx hb hK hP hD hS q0 0 ha rfl hin hd kk
theorem k_astq {i : Int32} {q0 qk n k9 a v : Nat} {vs : List Value} {f : Nat → Option Nat} {ws1 : va_W} (hx : p.tables.exec = Jvm.exec) (hb : c.code = cc) (hK : va_K E.1 vwCl (zty E) s) (hP : va_P E.1 vwCl ws H) (hD : va_D A ws) (hS : va_S A s.heap H locs) (ha : ws[q0]? = some (a, .inl (E.2.1 1, n, .inr (.inr (.inr (.inr f)))))) (hv : ws[qk]? = some (v, .inr (1, vs))) (hin : vp_in i n) (hk : i.toNatClampNeg = k9) (hd : decode cc pc = .ok (.aastore, 1)) (hws : ws.set q0 (a, .inl (E.2.1 1, n, .inr (.inr (.inr (.inr (va_up f k9 (some v))))))) = ws1)
    (kk : ∀ (H1 : Heap) (locs1 : List Loc), va_P E.1 vwCl ws1 H1 → va_D A ws1 → va_S A s.heap H1 locs1 → W p l e R s m args below meth c H1 locs1 cells slots Q (F0 m (pc + 1) ls rest)) : W p l e R s m args below meth c H locs cells slots Q (F0 m pc ls (.ref v :: .int i :: .ref a :: rest)) := by
  subst hws
  subst hk
  exact va_astq hx hb hK hP hD hS q0 1 qk 1 (r := (RX1, TX1, 3)) ha rfl hv rfl hin hd kk
theorem k_astS {i : Int32} {q0 q n k9 a : Nat} {f : Nat → Option Nat} {ws1 : va_W} (hx : p.tables.exec = Jvm.exec) (hb : c.code = cc) (hK : va_K E.1 vwCl (zty E) s) (hRo : zRo E A s) (hP : va_P E.1 vwCl ws H) (hD : va_D A ws) (hS : va_S A s.heap H locs) (ha : ws[q0]? = some (a, .inl (E.2.1 2, n, .inr (.inr (.inr (.inr f)))))) (hq : q < 15) (hin : vp_in i n) (hk : i.toNatClampNeg = k9) (hd : decode cc pc = .ok (.aastore, 1)) (hws : ws.set q0 (a, .inl (E.2.1 2, n, .inr (.inr (.inr (.inr (va_up f k9 (some (zaK E q)))))))) = ws1)
    (kk : ∀ (H1 : Heap) (locs1 : List Loc), va_P E.1 vwCl ws1 H1 → va_D A ws1 → va_S A s.heap H1 locs1 → W p l e R s m args below meth c H1 locs1 cells slots Q (F0 m (pc + 1) ls rest)) : W p l e R s m args below meth c H locs cells slots Q (F0 m pc ls (.ref (zaK E q) :: .int i :: .ref a :: rest)) := by
  subst hws
  subst hk
  obtain ⟨cell, h1, h2, h3⟩ := vk_recv hRo.1 hq hS
  obtain ⟨kC, hkC, -⟩ := Vm.findClass_spec h3
  exact va_astqM hx hb hK hP hD hS q0 2 ha rfl ⟨cell, h1, h2, ⟨kC, hkC⟩, fun comp h => vb_asgS comp _ h h3⟩ hin hd kk
theorem k_call {d' N M m' idx q k9 n9 : Nat} {y : MethodName} {b : ByteArray} {w0 : Nat → va_W} {Wf : zE → Nat → (Nat → Nat) → va_W} {wr : va_W} (hC : kCt d' N M y b m' w0 Wf) (hx : p.tables.exec = Jvm.exec) (hb : c.code = cc) (hts : ∀ w ∈ zT, w.before args s = true) (hown : s.vm.findClass own = some m.cls) (hml : c.maxLocals = nL) (hl : ls.size = nL) (hK : va_K E.1 vwCl (zty E) s) (hRo : zRo E A s) (hO : kAO s) (hA : ∀ q : Nat, s.heap.size ≤ q → A q) (hP : va_P E.1 vwCl ws H) (hD : va_D A ws) (hS : va_S A s.heap H locs)
    (hlk : zLk own idx y) (hcode : Cond.code y b m' none ∈ zT) (hini : Cond.initialized y.cls ∈ zT) (hinst : Cond.instanceMethod y ∈ zT) (hdesc : y.cls ≠ "java/lang/invoke/MethodHandle" ∧ y.cls ≠ "java/lang/invoke/VarHandle" ∧ (parseMethodDescriptor y.desc).map (fun d => d.parameters.length) = some 0) (hn : y.name = "<init>")
    (isC isR : List Nat) (hCw : isC.map (fun i => ws[i]?) = (w0 q).map some) (hRw : isR.map (fun i => ws[i]?) = wr.map some) (hnC : va_nd isC = true) (hnR : va_nd isR = true) (hdis : ∀ i ∈ isR, i ∉ isC) (hrest : (rest.map fun v => v.category).sum ≤ 8) (hRm : d' + 1 ≤ R.frames ∧ 8 + (m' + 11) + d' * 48 ≤ R.locals) (hc : cells + N = k9 ∧ k9 ≤ R.cells) (hs : slots + M = n9 ∧ n9 ≤ R.slots) (hd : decode cc pc = .ok (.invokespecial idx, 3))
    (kk : ∀ (f : Nat → Nat) (H1 : Heap) (locs1 : List Loc), va_P E.1 vwCl (wr ++ Wf E q f) H1 → va_D A (wr ++ Wf E q f) → va_S A s.heap H1 locs1 → W p l e R s m args below meth c H1 locs1 k9 n9 Q (F0 m (pc + 3) ls rest)) : W p l e R s m args below meth c H locs cells slots Q (F0 m pc ls (.ref q :: rest)) := by
  obtain ⟨rfl, hc⟩ := hc
  obtain ⟨rfl, hs⟩ := hs
  have hPc : va_P E.1 vwCl (w0 q) H := by
    intro k x hk
    have h1 : (isC.map (fun i => ws[i]?))[k]? = some (some x) := by rw [hCw, List.getElem?_map, hk]; rfl
    rw [List.getElem?_map] at h1
    cases hi : isC[k]? with
    | none => rw [hi] at h1; cases h1
    | some i => rw [hi] at h1; exact hP i x (Option.some.inj h1)
  have hDc := hD.sub isC hnC hCw
  have hFc := va_free hD hS hA isC hCw
  have hp : PreS s H (kPc E q H.size (w0 q)) [.ref q] := ⟨kPc_blind, fun U hU hW => ⟨rfl, by rw [hU], by rw [hU]; exact hPc, va_K.moved hW.alike hK, hDc.weaken (fun _ _ _ _ => trivial), hRo.go hW (by rw [hU]; exact hS.2.1) hFc, hO.moved hW.alike⟩⟩
  have fin : ∀ (f : Nat → Nat) (t : State) (H1 : Heap) (locs1 : List Loc), t.heap = H1 → s.vm.Alike t.vm → True → (va_P E.1 vwCl (Wf E q f) t.heap ∧ va_D (va_A (w0 q) H.size) (Wf E q f)) → H.size ≤ H1.size → (∀ q1 : Nat, q1 < H.size → ¬ va_A (w0 q) H.size q1 → H1[q1]? = H[q1]?) → va_S A s.heap H1 locs1 → W p l e R s m args below meth c H1 locs1 (cells + N) (slots + M) Q (F0 m (pc + 3) ls rest) := by
    intro f t H1 locs1 ht _ _ hB _ hk1 hS1
    obtain ⟨hP1, hD1⟩ := hB
    rw [ht] at hP1
    obtain ⟨hP2, hD2⟩ := va_join hP hD isC isR hCw hRw hnR hdis hk1 hFc hP1 hD1
    exact kk f H1 locs1 hP2 hD2 hS1
  rcases hlk with hlk | ⟨host, hlk⟩
  · exact va_callv (va_runI (As := []) (rest := rest) ⟨hx, hb, hml, hown, hts⟩ (hC l E q H.size) ⟨callB_of 0 hts (zws_good hcode) rfl rfl rfl (hts _ hini) (hts _ hlk) hdesc hRm, hn, hts _ hinst⟩ hp rfl rfl hl rfl (lv_room hrest) hd ⟨hc, hs⟩) hS (fun q _ h => hFc q h) hFc fin
  · exact va_callv (va_runIN (As := []) (rest := rest) ⟨hx, hb, hml, hown, hts⟩ (hC l E q H.size) ⟨va_cnB 0 hts (zws_good hcode) rfl rfl rfl (hRo.2.2.1 _ hlk) (hts _ hini) hdesc hRm, hn, hts _ hinst⟩ hp rfl rfl hl rfl (lv_room hrest) hd ⟨hc, hs⟩) hS (fun q _ h => hFc q h) hFc fin
theorem k_new {idx ci N k9 n9 : Nat} {C : String} {T : u_T} {fs : List Value} (ty : Nat → FieldType) (hx : p.tables.exec = Jvm.exec) (hb : c.code = cc) (hts : ∀ w ∈ zT, w.before args s = true) (hown : s.vm.findClass own = some m.cls) (hin : ∀ w ∈ u_ws C T N, w ∈ zT) (hty : ∀ k, k < N → parseFieldDescriptor (T k).2.2.1 = some (ty k)) (hw1 : Cond.classLink own idx C ∈ zT) (hw2 : Cond.instantiable C N ∈ zT) (hw3 : Cond.initialized C ∈ zT)
    (hK : va_K E.1 vwCl (zty E) s) (hP : va_P E.1 vwCl ws H) (hD : va_D A ws) (hS : va_S A s.heap H locs) (hA : ∀ q : Nat, s.heap.size ≤ q → A q) (hcl : vwCl[ci]? = some (C, T, N)) (hfs : ∀ j, j < N → defaultValue (ty j) = vp_V fs j) (hc : cells + 1 = k9 ∧ k9 ≤ R.cells) (hs : slots + N = n9 ∧ n9 ≤ R.slots) (hd : decode cc pc = .ok (.new idx, 3))
    (kk : ∀ (q : Nat) (H1 : Heap), va_P E.1 vwCl (ws ++ [(q, .inr (ci, fs))]) H1 → va_D A (ws ++ [(q, .inr (ci, fs))]) → va_S A s.heap H1 locs → W p l e R s m args below meth c H1 locs k9 n9 Q (F0 m (pc + 3) ls (.ref q :: rest))) : W p l e R s m args below meth c H locs cells slots Q (F0 m pc ls rest) := by
  obtain ⟨rfl, hc⟩ := hc
  obtain ⟨rfl, hs⟩ := hs
  exact va_new hx hb hts hin ty hty hown (hts _ hw1) (hts _ hw2) (hts _ hw3) hK hP hD hS hA hcl hfs hc hs hd kk
end KR
