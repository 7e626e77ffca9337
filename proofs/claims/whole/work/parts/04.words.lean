/-! THE MODEL'S WORDS -/
def zlet {α0 β : Type} (a : α0) (f : α0 → β) : β := f a
theorem zlet_elim {α0 β : Type} {a : α0} {f : α0 → β} {o : β} (h : zlet a f = o) : ∃ x0, a = x0 ∧ f x0 = o := ⟨a, rfl, h⟩
def zbind {α0 β : Type} (a : Option (α0)) (f : α0 → Option β) : Option β := match a with
  | none => none
  | some a => f a
theorem zbind_elim {α0 β : Type} {a : Option (α0)} {f : α0 → Option β} {o : β} (h : zbind a f = some o) : ∃ x0, a = some x0 ∧ f x0 = some o := by
  cases a with
  | none => cases h
  | some a => exact ⟨a, rfl, h⟩
def zlet2 {α0 α1 β : Type} (a : α0 × α1) (f : α0 → α1 → β) : β := f a.1 a.2
theorem zlet2_elim {α0 α1 β : Type} {a : α0 × α1} {f : α0 → α1 → β} {o : β} (h : zlet2 a f = o) : ∃ x0 x1, a = (x0, x1) ∧ f x0 x1 = o := ⟨a.1, a.2, rfl, h⟩
def zbind2 {α0 α1 β : Type} (a : Option (α0 × α1)) (f : α0 → α1 → Option β) : Option β := match a with
  | none => none
  | some a => f a.1 a.2
theorem zbind2_elim {α0 α1 β : Type} {a : Option (α0 × α1)} {f : α0 → α1 → Option β} {o : β} (h : zbind2 a f = some o) : ∃ x0 x1, a = some (x0, x1) ∧ f x0 x1 = some o := by
  cases a with
  | none => cases h
  | some a => exact ⟨a.1, a.2, rfl, h⟩
def zlet3 {α0 α1 α2 β : Type} (a : α0 × α1 × α2) (f : α0 → α1 → α2 → β) : β := f a.1 a.2.1 a.2.2
theorem zlet3_elim {α0 α1 α2 β : Type} {a : α0 × α1 × α2} {f : α0 → α1 → α2 → β} {o : β} (h : zlet3 a f = o) : ∃ x0 x1 x2, a = (x0, x1, x2) ∧ f x0 x1 x2 = o := ⟨a.1, a.2.1, a.2.2, rfl, h⟩
def zbind3 {α0 α1 α2 β : Type} (a : Option (α0 × α1 × α2)) (f : α0 → α1 → α2 → Option β) : Option β := match a with
  | none => none
  | some a => f a.1 a.2.1 a.2.2
theorem zbind3_elim {α0 α1 α2 β : Type} {a : Option (α0 × α1 × α2)} {f : α0 → α1 → α2 → Option β} {o : β} (h : zbind3 a f = some o) : ∃ x0 x1 x2, a = some (x0, x1, x2) ∧ f x0 x1 x2 = some o := by
  cases a with
  | none => cases h
  | some a => exact ⟨a.1, a.2.1, a.2.2, rfl, h⟩
def zlet4 {α0 α1 α2 α3 β : Type} (a : α0 × α1 × α2 × α3) (f : α0 → α1 → α2 → α3 → β) : β := f a.1 a.2.1 a.2.2.1 a.2.2.2
theorem zlet4_elim {α0 α1 α2 α3 β : Type} {a : α0 × α1 × α2 × α3} {f : α0 → α1 → α2 → α3 → β} {o : β} (h : zlet4 a f = o) : ∃ x0 x1 x2 x3, a = (x0, x1, x2, x3) ∧ f x0 x1 x2 x3 = o := ⟨a.1, a.2.1, a.2.2.1, a.2.2.2, rfl, h⟩
def zbind4 {α0 α1 α2 α3 β : Type} (a : Option (α0 × α1 × α2 × α3)) (f : α0 → α1 → α2 → α3 → Option β) : Option β := match a with
  | none => none
  | some a => f a.1 a.2.1 a.2.2.1 a.2.2.2
theorem zbind4_elim {α0 α1 α2 α3 β : Type} {a : Option (α0 × α1 × α2 × α3)} {f : α0 → α1 → α2 → α3 → Option β} {o : β} (h : zbind4 a f = some o) : ∃ x0 x1 x2 x3, a = some (x0, x1, x2, x3) ∧ f x0 x1 x2 x3 = some o := by
  cases a with
  | none => cases h
  | some a => exact ⟨a.1, a.2.1, a.2.2.1, a.2.2.2, rfl, h⟩
def zlet5 {α0 α1 α2 α3 α4 β : Type} (a : α0 × α1 × α2 × α3 × α4) (f : α0 → α1 → α2 → α3 → α4 → β) : β := f a.1 a.2.1 a.2.2.1 a.2.2.2.1 a.2.2.2.2
theorem zlet5_elim {α0 α1 α2 α3 α4 β : Type} {a : α0 × α1 × α2 × α3 × α4} {f : α0 → α1 → α2 → α3 → α4 → β} {o : β} (h : zlet5 a f = o) : ∃ x0 x1 x2 x3 x4, a = (x0, x1, x2, x3, x4) ∧ f x0 x1 x2 x3 x4 = o := ⟨a.1, a.2.1, a.2.2.1, a.2.2.2.1, a.2.2.2.2, rfl, h⟩
def zbind5 {α0 α1 α2 α3 α4 β : Type} (a : Option (α0 × α1 × α2 × α3 × α4)) (f : α0 → α1 → α2 → α3 → α4 → Option β) : Option β := match a with
  | none => none
  | some a => f a.1 a.2.1 a.2.2.1 a.2.2.2.1 a.2.2.2.2
theorem zbind5_elim {α0 α1 α2 α3 α4 β : Type} {a : Option (α0 × α1 × α2 × α3 × α4)} {f : α0 → α1 → α2 → α3 → α4 → Option β} {o : β} (h : zbind5 a f = some o) : ∃ x0 x1 x2 x3 x4, a = some (x0, x1, x2, x3, x4) ∧ f x0 x1 x2 x3 x4 = some o := by
  cases a with
  | none => cases h
  | some a => exact ⟨a.1, a.2.1, a.2.2.1, a.2.2.2.1, a.2.2.2.2, rfl, h⟩
def zlet6 {α0 α1 α2 α3 α4 α5 β : Type} (a : α0 × α1 × α2 × α3 × α4 × α5) (f : α0 → α1 → α2 → α3 → α4 → α5 → β) : β := f a.1 a.2.1 a.2.2.1 a.2.2.2.1 a.2.2.2.2.1 a.2.2.2.2.2
theorem zlet6_elim {α0 α1 α2 α3 α4 α5 β : Type} {a : α0 × α1 × α2 × α3 × α4 × α5} {f : α0 → α1 → α2 → α3 → α4 → α5 → β} {o : β} (h : zlet6 a f = o) : ∃ x0 x1 x2 x3 x4 x5, a = (x0, x1, x2, x3, x4, x5) ∧ f x0 x1 x2 x3 x4 x5 = o := ⟨a.1, a.2.1, a.2.2.1, a.2.2.2.1, a.2.2.2.2.1, a.2.2.2.2.2, rfl, h⟩
def zbind6 {α0 α1 α2 α3 α4 α5 β : Type} (a : Option (α0 × α1 × α2 × α3 × α4 × α5)) (f : α0 → α1 → α2 → α3 → α4 → α5 → Option β) : Option β := match a with
  | none => none
  | some a => f a.1 a.2.1 a.2.2.1 a.2.2.2.1 a.2.2.2.2.1 a.2.2.2.2.2
theorem zbind6_elim {α0 α1 α2 α3 α4 α5 β : Type} {a : Option (α0 × α1 × α2 × α3 × α4 × α5)} {f : α0 → α1 → α2 → α3 → α4 → α5 → Option β} {o : β} (h : zbind6 a f = some o) : ∃ x0 x1 x2 x3 x4 x5, a = some (x0, x1, x2, x3, x4, x5) ∧ f x0 x1 x2 x3 x4 x5 = some o := by
  cases a with
  | none => cases h
  | some a => exact ⟨a.1, a.2.1, a.2.2.1, a.2.2.2.1, a.2.2.2.2.1, a.2.2.2.2.2, rfl, h⟩
def zlet7 {α0 α1 α2 α3 α4 α5 α6 β : Type} (a : α0 × α1 × α2 × α3 × α4 × α5 × α6) (f : α0 → α1 → α2 → α3 → α4 → α5 → α6 → β) : β := f a.1 a.2.1 a.2.2.1 a.2.2.2.1 a.2.2.2.2.1 a.2.2.2.2.2.1 a.2.2.2.2.2.2
theorem zlet7_elim {α0 α1 α2 α3 α4 α5 α6 β : Type} {a : α0 × α1 × α2 × α3 × α4 × α5 × α6} {f : α0 → α1 → α2 → α3 → α4 → α5 → α6 → β} {o : β} (h : zlet7 a f = o) : ∃ x0 x1 x2 x3 x4 x5 x6, a = (x0, x1, x2, x3, x4, x5, x6) ∧ f x0 x1 x2 x3 x4 x5 x6 = o := ⟨a.1, a.2.1, a.2.2.1, a.2.2.2.1, a.2.2.2.2.1, a.2.2.2.2.2.1, a.2.2.2.2.2.2, rfl, h⟩
def zbind7 {α0 α1 α2 α3 α4 α5 α6 β : Type} (a : Option (α0 × α1 × α2 × α3 × α4 × α5 × α6)) (f : α0 → α1 → α2 → α3 → α4 → α5 → α6 → Option β) : Option β := match a with
  | none => none
  | some a => f a.1 a.2.1 a.2.2.1 a.2.2.2.1 a.2.2.2.2.1 a.2.2.2.2.2.1 a.2.2.2.2.2.2
theorem zbind7_elim {α0 α1 α2 α3 α4 α5 α6 β : Type} {a : Option (α0 × α1 × α2 × α3 × α4 × α5 × α6)} {f : α0 → α1 → α2 → α3 → α4 → α5 → α6 → Option β} {o : β} (h : zbind7 a f = some o) : ∃ x0 x1 x2 x3 x4 x5 x6, a = some (x0, x1, x2, x3, x4, x5, x6) ∧ f x0 x1 x2 x3 x4 x5 x6 = some o := by
  cases a with
  | none => cases h
  | some a => exact ⟨a.1, a.2.1, a.2.2.1, a.2.2.2.1, a.2.2.2.2.1, a.2.2.2.2.2.1, a.2.2.2.2.2.2, rfl, h⟩
theorem zinj2 {α0 α1 : Type} {x0 y0 : α0} {x1 y1 : α1} (h : (x0, x1) = (y0, y1)) : x0 = y0 ∧ x1 = y1 := by
  cases h
  exact ⟨rfl, rfl⟩
theorem zinj3 {α0 α1 α2 : Type} {x0 y0 : α0} {x1 y1 : α1} {x2 y2 : α2} (h : (x0, x1, x2) = (y0, y1, y2)) : x0 = y0 ∧ x1 = y1 ∧ x2 = y2 := by
  cases h
  exact ⟨rfl, rfl, rfl⟩
theorem zinj4 {α0 α1 α2 α3 : Type} {x0 y0 : α0} {x1 y1 : α1} {x2 y2 : α2} {x3 y3 : α3} (h : (x0, x1, x2, x3) = (y0, y1, y2, y3)) : x0 = y0 ∧ x1 = y1 ∧ x2 = y2 ∧ x3 = y3 := by
  cases h
  exact ⟨rfl, rfl, rfl, rfl⟩
theorem zinj5 {α0 α1 α2 α3 α4 : Type} {x0 y0 : α0} {x1 y1 : α1} {x2 y2 : α2} {x3 y3 : α3} {x4 y4 : α4} (h : (x0, x1, x2, x3, x4) = (y0, y1, y2, y3, y4)) : x0 = y0 ∧ x1 = y1 ∧ x2 = y2 ∧ x3 = y3 ∧ x4 = y4 := by
  cases h
  exact ⟨rfl, rfl, rfl, rfl, rfl⟩
theorem zinj6 {α0 α1 α2 α3 α4 α5 : Type} {x0 y0 : α0} {x1 y1 : α1} {x2 y2 : α2} {x3 y3 : α3} {x4 y4 : α4} {x5 y5 : α5} (h : (x0, x1, x2, x3, x4, x5) = (y0, y1, y2, y3, y4, y5)) : x0 = y0 ∧ x1 = y1 ∧ x2 = y2 ∧ x3 = y3 ∧ x4 = y4 ∧ x5 = y5 := by
  cases h
  exact ⟨rfl, rfl, rfl, rfl, rfl, rfl⟩
theorem zinj7 {α0 α1 α2 α3 α4 α5 α6 : Type} {x0 y0 : α0} {x1 y1 : α1} {x2 y2 : α2} {x3 y3 : α3} {x4 y4 : α4} {x5 y5 : α5} {x6 y6 : α6} (h : (x0, x1, x2, x3, x4, x5, x6) = (y0, y1, y2, y3, y4, y5, y6)) : x0 = y0 ∧ x1 = y1 ∧ x2 = y2 ∧ x3 = y3 ∧ x4 = y4 ∧ x5 = y5 ∧ x6 = y6 := by
  cases h
  exact ⟨rfl, rfl, rfl, rfl, rfl, rfl, rfl⟩
def zbind0 {β : Type} (a : Option Unit) (f : Unit → Option β) : Option β := match a with
  | none => none
  | some _ => f ()
theorem zbind0_elim {β : Type} {a : Option Unit} {f : Unit → Option β} {o : β} (h : zbind0 a f = some o) : a = some () ∧ f () = some o := by
  cases a with
  | none => cases h
  | some a => exact ⟨rfl, h⟩
def zit {S R : Type} : Nat → (S → Option (S ⊕ R)) → S → Option R
  | 0, _, _ => none
  | n + 1, body, s => match body s with
    | none => none
    | some (.inl s') => zit n body s'
    | some (.inr r) => some r
theorem zit_walk {S R : Type} {body : S → Option (S ⊕ R)} {out : R} {P : S → Prop} (step : ∀ s x, body s = some x → (∀ s', x = .inl s' → P s') → (∀ r, x = .inr r → r = out) → P s) : ∀ n s, zit n body s = some out → P s := by
  intro n
  induction n with
  | zero => intro s h; cases h
  | succ n ih =>
    intro s h
    rw [zit] at h
    cases hb : body s with
    | none => rw [hb] at h; cases h
    | some x =>
      rw [hb] at h
      refine step s x hb (fun s' hx => ?_) (fun r hx => ?_)
      · subst hx
        exact ih s' h
      · subst hx
        exact Option.some.inj h
/-- how long a loop may run -/
def zF : Nat := 1000000
theorem zi_ne {x v : Int32} {n : Int} (h : ¬ x = v) (hv : v = Int32.ofInt n) : ¬ x = Int32.ofInt n := by rw [← hv]; exact h
theorem zls_out (x : Int32) (ps : List (Int × Int)) (dflt : Int) (h : ∀ q ∈ ps, ¬ x = Int32.ofInt q.1) : Op.lookupswitch.offset ps dflt x.toInt = dflt := by
  induction ps with
  | nil => rfl
  | cons q ps ih =>
    have h1 : ¬ q.1 = x.toInt := fun e => h q List.mem_cons_self (by rw [e, Int32.ofInt_toInt])
    have h2 := ih (fun z hz => h z (List.mem_cons_of_mem _ hz))
    show (if q.1 = x.toInt then q.2 else Op.lookupswitch.offset ps dflt x.toInt) = dflt
    rw [if_neg h1]
    exact h2
section ZSTR
variable {X : zX} {own : String} {cc : ByteArray} {mL d : Nat} {u : zM} {pc : Nat} {L : List (Nat × Value)} {st : List Value}
theorem r_strV {idx j : Nat} (hX : zGood X own cc mL d) (hd : decode cc pc = .ok (.getfield idx, 3)) (hw : Cond.fieldLink own idx "java/lang/String" "value" "[B" ∈ zT) (hj : j < 15) (k : zG X u (pc + 3) L (.ref (X.1.2.2.2.2.1 j) :: st)) : zG X u pc L (.ref (zaK X.1 j) :: st) := by
  obtain ⟨E, A, p, l, e, R, s, m, args, below, meth, c, nL, cells, slots, Q⟩ := X
  exact fun H locs ls hP hS hl => vk_getf hX.1 hX.2.1 (hX.2.2.2.2.2.2.2.1.1.1 j hj).2.2.1 hS hX.2.2.2.1 (hX.2.2.2.2.1 _ hw) (fun _ h => h) hd (k H locs ls hP hS hl)
theorem r_strC {idx j : Nat} (hX : zGood X own cc mL d) (hd : decode cc pc = .ok (.getfield idx, 3)) (hw : Cond.fieldLink own idx "java/lang/String" "coder" "B" ∈ zT) (hj : j < 15) (k : zG X u (pc + 3) L (.int 0 :: st)) : zG X u pc L (.ref (zaK X.1 j) :: st) := by
  obtain ⟨E, A, p, l, e, R, s, m, args, below, meth, c, nL, cells, slots, Q⟩ := X
  exact fun H locs ls hP hS hl => vk_getf hX.1 hX.2.1 (hX.2.2.2.2.2.2.2.1.1.1 j hj).2.1 hS hX.2.2.2.1 (hX.2.2.2.2.1 _ hw) (fun _ h => h) hd (k H locs ls hP hS hl)
theorem r_gsC {idx : Nat} (hX : zGood X own cc mL d) (hd : decode cc pc = .ok (.getstatic idx, 3)) (hw : Cond.fieldLink own idx "java/lang/String" "COMPACT_STRINGS" "Z" ∈ zT) (k : zG X u (pc + 3) L (.int 1 :: st)) : zG X u pc L st := by
  obtain ⟨E, A, p, l, e, R, s, m, args, below, meth, c, nL, cells, slots, Q⟩ := X
  exact fun H locs ls hP hS hl => va_gets hX.1 hX.2.1 hX.2.2.2.2.2.2.2.1.2.2.2.2.2.1 hS hX.2.2.2.1 (hX.2.2.2.2.1 _ hw) (fun _ h => h) hd (k H locs ls hP hS hl)
theorem r_gsQ {idx : Nat} (hX : zGood X own cc mL d) (hd : decode cc pc = .ok (.getstatic idx, 3)) (hw : Cond.fieldLink own idx "jdk/internal/util/Preconditions" "SIOOBE_FORMATTER" "Ljava/util/function/BiFunction;" ∈ zT) (k : ∀ v : Value, v.category = 1 → zG X u (pc + 3) L (v :: st)) : zG X u pc L st := by
  obtain ⟨E, A, p, l, e, R, s, m, args, below, meth, c, nL, cells, slots, Q⟩ := X
  intro H locs ls hP hS hl
  rcases hX.2.2.2.2.2.2.2.1.2.2.2.2.2.2 with h7 | ⟨t, h7⟩
  · exact va_gets hX.1 hX.2.1 h7 hS hX.2.2.2.1 (hX.2.2.2.2.1 _ hw) (fun _ h => h) hd (k _ rfl H locs ls hP hS hl)
  · exact va_gets hX.1 hX.2.1 h7 hS hX.2.2.2.1 (hX.2.2.2.2.1 _ hw) (fun _ h => h) hd (k _ rfl H locs ls hP hS hl)
def zbyte (j : Nat) (i : Int32) : Option Int32 := if i < 0 ∨ zLen.getD j 0 ≤ i.toNatClampNeg then none else some ((zByt.getD j []).getD i.toNatClampNeg 0)
theorem r_bald {j : Nat} {i v : Int32} (hX : zGood X own cc mL d) (hd : decode cc pc = .ok (.baload, 1)) (hj : j < 15) (hv : zbyte j i = some v) (k : zG X u (pc + 1) L (.int v :: st)) : zG X u pc L (.int i :: .ref (X.1.2.2.2.2.1 j) :: st) := by
  obtain ⟨E, A, p, l, e, R, s, m, args, below, meth, c, nL, cells, slots, Q⟩ := X
  unfold zbyte at hv
  split at hv
  · cases hv
  · rename_i hn
    cases hv
    exact fun H locs ls hP hS hl => va_tb hX.1 hX.2.1 (hX.2.2.2.2.2.2.2.1.1.1 j hj).2.2.2 hS hn rfl hd (k H locs ls hP hS hl)
theorem r_blen {j : Nat} (hX : zGood X own cc mL d) (hd : decode cc pc = .ok (.arraylength, 1)) (hj : j < 15) (k : zG X u (pc + 1) L (.int (Int32.ofNat (zLen.getD j 0)) :: st)) : zG X u pc L (.ref (X.1.2.2.2.2.1 j) :: st) := by
  obtain ⟨E, A, p, l, e, R, s, m, args, below, meth, c, nL, cells, slots, Q⟩ := X
  exact fun H locs ls hP hS hl => va_tlen hX.1 hX.2.1 (hX.2.2.2.2.2.2.2.1.1.1 j hj).2.2.2 hS rfl hd (k H locs ls hP hS hl)
theorem r_bret {v : Int32} (hX : zGood X own cc mL d) (hR : zRet X (some .byte) (some (.int (zi2b v))) u) (hd : decode cc pc = .ok (.ireturn, 1)) : zG X u pc L [.int v] := r_nret (ty := .byte) rfl hX hR hd
end ZSTR
theorem zq_len (a b : Int32) (q : Value) (h : q.category = 1) : (lg_sl [.int a, .int b, q]).length ≤ 3 := by
  cases q <;> first | exact Nat.le_of_ble_eq_true rfl | exact absurd (show (2 : Nat) = 1 from h) (by decide)
