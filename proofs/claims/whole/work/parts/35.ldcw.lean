/-! the wide load of a String constant -/
theorem z_ldcSW {p : Program} {l : Launch} {e : Env} {R : Room} {s : State} {m : MethodId} {args : Array Value} {below : List Frame} {meth : Method} {c : Code} {T : State} {locs : List Loc} {cells slots : Nat}
    (X : Stand p l e R s m args below meth c T locs cells slots) (hexec : p.tables.exec = Jvm.exec) {own tx : String} {index a : Nat} (hown : s.vm.findClass own = some m.cls) (hZ : vk_R own index tx a s) {g : JFrame} (hg : g.method = m) (hdg : decode c.code g.pc = .ok (.ldc_w index, 3)) :
    ∀ target, Steps p.tables e below (T.setTop { g with pc := g.pc + 3, stack := .ref a :: g.stack }) target → Steps p.tables e below (T.setTop g) target := by
  obtain ⟨k, cf, i, a', hk, hcf, hcp, -, hr, hev'⟩ := Cond.stringRef_spec hown hZ.1
  cases hZ.2.symm.trans hev'
  obtain ⟨k', hk', he⟩ := X.warmed.alike.2.2 _ _ hk
  have hr' : k'.resolved[index]? = some (some (.string a)) := by
    rcases X.warmed.entry hk hk' index with h | ⟨h, -⟩
    · rw [h]; exact hr
    · rw [hr] at h; cases h
  intro target hrest
  subst hg
  jvm_step X.here [hexec, hdg, ldc_w.wp_string (e := e) (s := T) (f := g) X.here.top hk' (by rw [he]; exact hcf) hcp hr']
  exact hrest
theorem r_ldcwS {X : zX} {own : String} {cc : ByteArray} {mL d : Nat} {u : zM} {pc : Nat} {L : List (Nat × Value)} {st : List Value} {idx q : Nat} {tx : String} (hX : zGood X own cc mL d) (hd : decode cc pc = .ok (.ldc_w idx, 3)) (hw : (own, idx, tx, q) ∈ zStr) (k : zG X u (pc + 3) L (.ref (zaK X.1 q) :: st)) : zG X u pc L st := by
  obtain ⟨E, A, p, l, e, R, s, m, args, below, meth, c, nL, cells, slots, Q⟩ := X
  intro H locs ls hP hS hl T hT Y
  obtain ⟨t, a1, b1⟩ := k H locs ls hP hS hl T hT Y
  exact ⟨t, z_ldcSW Y hX.1 hX.2.2.2.1 (hX.2.2.2.2.2.2.2.1.2.1 _ hw) (g := F0 m pc ls st) rfl (by rw [hX.2.1]; exact hd) t a1, b1⟩
