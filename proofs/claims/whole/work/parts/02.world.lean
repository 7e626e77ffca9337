/-! THE WORLD OF BOTH OBJECTS: 55 cells, their shapes fixed once they are made; what changes is numbers alone. By program (wip/whole/gen_base.py). -/
abbrev zM : Type := Nat → Nat → Int32
def zup (u : zM) (k : Nat) (f : Nat → Int32) : zM := fun j => if j = k then f else u j
def zst (u : zM) (k j : Nat) (v : Int32) : zM := zup u k (upd (u k) j v)
/-- the classes' numbers and slots; the classes of arrays; where the cells lie; where the Strings lie; their bytes; the static row -/
abbrev zE : Type := va_G × (Nat → ClassId) × (Nat → Nat) × (Nat → Nat) × (Nat → Nat) × Nat
abbrev zad (E : zE) : Nat → Nat := E.2.2.1
abbrev zaK (E : zE) : Nat → Nat := E.2.2.2.1
def zty (E : zE) : List (ClassId × FieldType) := [(E.2.1 0, .int), (E.2.1 1, .object "MeanCoats$Sheet"), (E.2.1 2, .object "java/lang/String")]
def zfs (E : zE) (k : Nat) (r : Nat → Int32) : List Value := match k with
  | 0 => [.ref (zad E 1), .ref (zad E 8), .ref (zad E 15), .ref (zad E 20), .ref (zad E 25), .ref (zad E 27), .ref (zad E 28), .ref (zad E 29), .ref (zad E 30), .int (r 9)]
  | 1 => [.ref (zad E 2), .ref (zad E 3), .ref (zad E 4), .ref (zad E 5), .ref (zad E 6), .ref (zad E 7), .int (r 6), .int (r 7), .int (r 8), .int (r 9), .int (r 10), .int (r 11), .int (r 12)]
  | 8 => [.ref (zad E 9), .ref (zad E 10), .ref (zad E 11), .ref (zad E 12), .ref (zad E 13), .ref (zad E 14), .int (r 6), .int (r 7), .int (r 8), .int (r 9), .int (r 10), .int (r 11), .int (r 12)]
  | 15 => [.ref (zad E 16), .ref (zad E 17), .ref (zad E 18), .ref (zad E 19), .int (r 4)]
  | 20 => [.ref (zad E 21), .ref (zad E 22), .ref (zad E 23), .ref (zad E 24), .int (r 4), .int (r 5), .int (r 6)]
  | 25 => [.ref (zad E 26), .int (r 1), .int (r 2), .int (r 3)]
  | 31 => [.ref (zad E 32), .int (r 1), .int (r 2)]
  | 33 => [.ref (zad E 34), .int (r 1), .int (r 2)]
  | 35 => [.ref (zad E 36), .int (r 1), .int (r 2)]
  | 37 => [.ref (zad E 38), .int (r 1), .int (r 2)]
  | 39 => [.ref (zad E 40), .ref (zad E 41), .int (r 2), .ref (zad E 42), .ref (zad E 43), .ref (zad E 44), .ref (zad E 45), .int (r 7), .ref (zad E 46), .int (r 9), .int (r 10), .ref (zad E 47), .int (r 12), .int (r 13), .int (r 14), .int (r 15), .int (r 16), .int (r 17), .ref (zad E 48), .ref (zad E 49), .ref (zad E 50), .int (r 21), .int (r 22), .ref (zad E 51), .ref (zad E 52), .ref (zad E 53), .ref (zad E 54)]
  | _ => []
/-- an object's class, by its place in vwCl -/
def zC (k : Nat) : Option Nat := ([some 5, some 4, none, none, none, none, none, none, some 4, none, none, none, none, none, none, some 2, none, none, none, none, some 3, none, none, none, none, some 0, none, none, none, none, none, some 1, none, some 1, none, some 1, none, some 1, none, some 6, none, none, none, none, none, none, none, none, none, none, none, none, none, none, none] : List (Option Nat)).getD k none
/-- how long an array of ints is -/
def zN (k : Nat) : Option Nat := ([none, none, some 12, some 36, some 12, some 12, some 60, some 10, none, some 12, some 36, some 12, some 12, some 60, some 10, none, some 36, some 36, some 12, some 3, none, some 120, some 121, some 121, some 121, none, some 3, none, some 7, some 12, some 3, none, some 40, none, some 40, none, some 40, none, some 40, none, some 160, some 160, some 8, some 3, some 36, some 36, some 12, some 120, none, none, some 720, some 4, some 4, some 160, some 40] : List (Option Nat)).getD k none
def zw (E : zE) (u : zM) : va_W := [
  (zad E 0, .inr (5, zfs E 0 (u 0))),
  (zad E 1, .inr (4, zfs E 1 (u 1))),
  (zad E 2, .inl (E.2.1 0, 12, .inl (u 2))),
  (zad E 3, .inl (E.2.1 0, 36, .inl (u 3))),
  (zad E 4, .inl (E.2.1 0, 12, .inl (u 4))),
  (zad E 5, .inl (E.2.1 0, 12, .inl (u 5))),
  (zad E 6, .inl (E.2.1 0, 60, .inl (u 6))),
  (zad E 7, .inl (E.2.1 0, 10, .inl (u 7))),
  (zad E 8, .inr (4, zfs E 8 (u 8))),
  (zad E 9, .inl (E.2.1 0, 12, .inl (u 9))),
  (zad E 10, .inl (E.2.1 0, 36, .inl (u 10))),
  (zad E 11, .inl (E.2.1 0, 12, .inl (u 11))),
  (zad E 12, .inl (E.2.1 0, 12, .inl (u 12))),
  (zad E 13, .inl (E.2.1 0, 60, .inl (u 13))),
  (zad E 14, .inl (E.2.1 0, 10, .inl (u 14))),
  (zad E 15, .inr (2, zfs E 15 (u 15))),
  (zad E 16, .inl (E.2.1 0, 36, .inl (u 16))),
  (zad E 17, .inl (E.2.1 0, 36, .inl (u 17))),
  (zad E 18, .inl (E.2.1 0, 12, .inl (u 18))),
  (zad E 19, .inl (E.2.1 0, 3, .inl (u 19))),
  (zad E 20, .inr (3, zfs E 20 (u 20))),
  (zad E 21, .inl (E.2.1 0, 120, .inl (u 21))),
  (zad E 22, .inl (E.2.1 0, 121, .inl (u 22))),
  (zad E 23, .inl (E.2.1 0, 121, .inl (u 23))),
  (zad E 24, .inl (E.2.1 0, 121, .inl (u 24))),
  (zad E 25, .inr (0, zfs E 25 (u 25))),
  (zad E 26, .inl (E.2.1 0, 3, .inl (u 26))),
  (zad E 27, .inl (E.2.1 1, 4, .inr (.inr (.inr (.inr (fun j => some (zad E (31 + 2 * j)))))))),
  (zad E 28, .inl (E.2.1 0, 7, .inl (u 28))),
  (zad E 29, .inl (E.2.1 0, 12, .inl (u 29))),
  (zad E 30, .inl (E.2.1 0, 3, .inl (u 30))),
  (zad E 31, .inr (1, zfs E 31 (u 31))),
  (zad E 32, .inl (E.2.1 0, 40, .inl (u 32))),
  (zad E 33, .inr (1, zfs E 33 (u 33))),
  (zad E 34, .inl (E.2.1 0, 40, .inl (u 34))),
  (zad E 35, .inr (1, zfs E 35 (u 35))),
  (zad E 36, .inl (E.2.1 0, 40, .inl (u 36))),
  (zad E 37, .inr (1, zfs E 37 (u 37))),
  (zad E 38, .inl (E.2.1 0, 40, .inl (u 38))),
  (zad E 39, .inr (6, zfs E 39 (u 39))),
  (zad E 40, .inl (E.2.1 0, 160, .inl (u 40))),
  (zad E 41, .inl (E.2.1 0, 160, .inl (u 41))),
  (zad E 42, .inl (E.2.1 0, 8, .inl (u 42))),
  (zad E 43, .inl (E.2.1 0, 3, .inl (u 43))),
  (zad E 44, .inl (E.2.1 0, 36, .inl (u 44))),
  (zad E 45, .inl (E.2.1 0, 36, .inl (u 45))),
  (zad E 46, .inl (E.2.1 0, 12, .inl (u 46))),
  (zad E 47, .inl (E.2.1 0, 120, .inl (u 47))),
  (zad E 48, .inl (E.2.1 2, 7, .inr (.inr (.inr (.inr (fun j => some (zaK E (0 + j)))))))),
  (zad E 49, .inl (E.2.1 2, 3, .inr (.inr (.inr (.inr (fun j => some (zaK E (7 + j)))))))),
  (zad E 50, .inl (E.2.1 0, 720, .inl (u 50))),
  (zad E 51, .inl (E.2.1 0, 4, .inl (u 51))),
  (zad E 52, .inl (E.2.1 0, 4, .inl (u 52))),
  (zad E 53, .inl (E.2.1 0, 160, .inl (u 53))),
  (zad E 54, .inl (E.2.1 0, 40, .inl (u 54)))]
def z0 : zM := fun _ _ => 0
set_option maxRecDepth 20000 in
theorem zw_arr (E : zE) (u : zM) : ∀ k N, zN k = some N → (zw E u)[k]? = some (zad E k, .inl (E.2.1 0, N, .inl (u k)))
  | 0, _, h => by cases (show none = _ from h)
  | 1, _, h => by cases (show none = _ from h)
  | 2, _, h => by obtain rfl := Option.some.inj (show some 12 = _ from h); rfl
  | 3, _, h => by obtain rfl := Option.some.inj (show some 36 = _ from h); rfl
  | 4, _, h => by obtain rfl := Option.some.inj (show some 12 = _ from h); rfl
  | 5, _, h => by obtain rfl := Option.some.inj (show some 12 = _ from h); rfl
  | 6, _, h => by obtain rfl := Option.some.inj (show some 60 = _ from h); rfl
  | 7, _, h => by obtain rfl := Option.some.inj (show some 10 = _ from h); rfl
  | 8, _, h => by cases (show none = _ from h)
  | 9, _, h => by obtain rfl := Option.some.inj (show some 12 = _ from h); rfl
  | 10, _, h => by obtain rfl := Option.some.inj (show some 36 = _ from h); rfl
  | 11, _, h => by obtain rfl := Option.some.inj (show some 12 = _ from h); rfl
  | 12, _, h => by obtain rfl := Option.some.inj (show some 12 = _ from h); rfl
  | 13, _, h => by obtain rfl := Option.some.inj (show some 60 = _ from h); rfl
  | 14, _, h => by obtain rfl := Option.some.inj (show some 10 = _ from h); rfl
  | 15, _, h => by cases (show none = _ from h)
  | 16, _, h => by obtain rfl := Option.some.inj (show some 36 = _ from h); rfl
  | 17, _, h => by obtain rfl := Option.some.inj (show some 36 = _ from h); rfl
  | 18, _, h => by obtain rfl := Option.some.inj (show some 12 = _ from h); rfl
  | 19, _, h => by obtain rfl := Option.some.inj (show some 3 = _ from h); rfl
  | 20, _, h => by cases (show none = _ from h)
  | 21, _, h => by obtain rfl := Option.some.inj (show some 120 = _ from h); rfl
  | 22, _, h => by obtain rfl := Option.some.inj (show some 121 = _ from h); rfl
  | 23, _, h => by obtain rfl := Option.some.inj (show some 121 = _ from h); rfl
  | 24, _, h => by obtain rfl := Option.some.inj (show some 121 = _ from h); rfl
  | 25, _, h => by cases (show none = _ from h)
  | 26, _, h => by obtain rfl := Option.some.inj (show some 3 = _ from h); rfl
  | 27, _, h => by cases (show none = _ from h)
  | 28, _, h => by obtain rfl := Option.some.inj (show some 7 = _ from h); rfl
  | 29, _, h => by obtain rfl := Option.some.inj (show some 12 = _ from h); rfl
  | 30, _, h => by obtain rfl := Option.some.inj (show some 3 = _ from h); rfl
  | 31, _, h => by cases (show none = _ from h)
  | 32, _, h => by obtain rfl := Option.some.inj (show some 40 = _ from h); rfl
  | 33, _, h => by cases (show none = _ from h)
  | 34, _, h => by obtain rfl := Option.some.inj (show some 40 = _ from h); rfl
  | 35, _, h => by cases (show none = _ from h)
  | 36, _, h => by obtain rfl := Option.some.inj (show some 40 = _ from h); rfl
  | 37, _, h => by cases (show none = _ from h)
  | 38, _, h => by obtain rfl := Option.some.inj (show some 40 = _ from h); rfl
  | 39, _, h => by cases (show none = _ from h)
  | 40, _, h => by obtain rfl := Option.some.inj (show some 160 = _ from h); rfl
  | 41, _, h => by obtain rfl := Option.some.inj (show some 160 = _ from h); rfl
  | 42, _, h => by obtain rfl := Option.some.inj (show some 8 = _ from h); rfl
  | 43, _, h => by obtain rfl := Option.some.inj (show some 3 = _ from h); rfl
  | 44, _, h => by obtain rfl := Option.some.inj (show some 36 = _ from h); rfl
  | 45, _, h => by obtain rfl := Option.some.inj (show some 36 = _ from h); rfl
  | 46, _, h => by obtain rfl := Option.some.inj (show some 12 = _ from h); rfl
  | 47, _, h => by obtain rfl := Option.some.inj (show some 120 = _ from h); rfl
  | 48, _, h => by cases (show none = _ from h)
  | 49, _, h => by cases (show none = _ from h)
  | 50, _, h => by obtain rfl := Option.some.inj (show some 720 = _ from h); rfl
  | 51, _, h => by obtain rfl := Option.some.inj (show some 4 = _ from h); rfl
  | 52, _, h => by obtain rfl := Option.some.inj (show some 4 = _ from h); rfl
  | 53, _, h => by obtain rfl := Option.some.inj (show some 160 = _ from h); rfl
  | 54, _, h => by obtain rfl := Option.some.inj (show some 40 = _ from h); rfl
  | k + 55, _, h => by cases (show none = _ from h)
set_option maxRecDepth 20000 in
theorem zw_set (E : zE) (u : zM) (f : Nat → Int32) : ∀ k N, zN k = some N → (zw E u).set k (zad E k, .inl (E.2.1 0, N, .inl f)) = zw E (zup u k f)
  | 0, _, h => by cases (show none = _ from h)
  | 1, _, h => by cases (show none = _ from h)
  | 2, _, h => by obtain rfl := Option.some.inj (show some 12 = _ from h); rfl
  | 3, _, h => by obtain rfl := Option.some.inj (show some 36 = _ from h); rfl
  | 4, _, h => by obtain rfl := Option.some.inj (show some 12 = _ from h); rfl
  | 5, _, h => by obtain rfl := Option.some.inj (show some 12 = _ from h); rfl
  | 6, _, h => by obtain rfl := Option.some.inj (show some 60 = _ from h); rfl
  | 7, _, h => by obtain rfl := Option.some.inj (show some 10 = _ from h); rfl
  | 8, _, h => by cases (show none = _ from h)
  | 9, _, h => by obtain rfl := Option.some.inj (show some 12 = _ from h); rfl
  | 10, _, h => by obtain rfl := Option.some.inj (show some 36 = _ from h); rfl
  | 11, _, h => by obtain rfl := Option.some.inj (show some 12 = _ from h); rfl
  | 12, _, h => by obtain rfl := Option.some.inj (show some 12 = _ from h); rfl
  | 13, _, h => by obtain rfl := Option.some.inj (show some 60 = _ from h); rfl
  | 14, _, h => by obtain rfl := Option.some.inj (show some 10 = _ from h); rfl
  | 15, _, h => by cases (show none = _ from h)
  | 16, _, h => by obtain rfl := Option.some.inj (show some 36 = _ from h); rfl
  | 17, _, h => by obtain rfl := Option.some.inj (show some 36 = _ from h); rfl
  | 18, _, h => by obtain rfl := Option.some.inj (show some 12 = _ from h); rfl
  | 19, _, h => by obtain rfl := Option.some.inj (show some 3 = _ from h); rfl
  | 20, _, h => by cases (show none = _ from h)
  | 21, _, h => by obtain rfl := Option.some.inj (show some 120 = _ from h); rfl
  | 22, _, h => by obtain rfl := Option.some.inj (show some 121 = _ from h); rfl
  | 23, _, h => by obtain rfl := Option.some.inj (show some 121 = _ from h); rfl
  | 24, _, h => by obtain rfl := Option.some.inj (show some 121 = _ from h); rfl
  | 25, _, h => by cases (show none = _ from h)
  | 26, _, h => by obtain rfl := Option.some.inj (show some 3 = _ from h); rfl
  | 27, _, h => by cases (show none = _ from h)
  | 28, _, h => by obtain rfl := Option.some.inj (show some 7 = _ from h); rfl
  | 29, _, h => by obtain rfl := Option.some.inj (show some 12 = _ from h); rfl
  | 30, _, h => by obtain rfl := Option.some.inj (show some 3 = _ from h); rfl
  | 31, _, h => by cases (show none = _ from h)
  | 32, _, h => by obtain rfl := Option.some.inj (show some 40 = _ from h); rfl
  | 33, _, h => by cases (show none = _ from h)
  | 34, _, h => by obtain rfl := Option.some.inj (show some 40 = _ from h); rfl
  | 35, _, h => by cases (show none = _ from h)
  | 36, _, h => by obtain rfl := Option.some.inj (show some 40 = _ from h); rfl
  | 37, _, h => by cases (show none = _ from h)
  | 38, _, h => by obtain rfl := Option.some.inj (show some 40 = _ from h); rfl
  | 39, _, h => by cases (show none = _ from h)
  | 40, _, h => by obtain rfl := Option.some.inj (show some 160 = _ from h); rfl
  | 41, _, h => by obtain rfl := Option.some.inj (show some 160 = _ from h); rfl
  | 42, _, h => by obtain rfl := Option.some.inj (show some 8 = _ from h); rfl
  | 43, _, h => by obtain rfl := Option.some.inj (show some 3 = _ from h); rfl
  | 44, _, h => by obtain rfl := Option.some.inj (show some 36 = _ from h); rfl
  | 45, _, h => by obtain rfl := Option.some.inj (show some 36 = _ from h); rfl
  | 46, _, h => by obtain rfl := Option.some.inj (show some 12 = _ from h); rfl
  | 47, _, h => by obtain rfl := Option.some.inj (show some 120 = _ from h); rfl
  | 48, _, h => by cases (show none = _ from h)
  | 49, _, h => by cases (show none = _ from h)
  | 50, _, h => by obtain rfl := Option.some.inj (show some 720 = _ from h); rfl
  | 51, _, h => by obtain rfl := Option.some.inj (show some 4 = _ from h); rfl
  | 52, _, h => by obtain rfl := Option.some.inj (show some 4 = _ from h); rfl
  | 53, _, h => by obtain rfl := Option.some.inj (show some 160 = _ from h); rfl
  | 54, _, h => by obtain rfl := Option.some.inj (show some 40 = _ from h); rfl
  | k + 55, _, h => by cases (show none = _ from h)
set_option maxRecDepth 20000 in
theorem zw_obj (E : zE) (u : zM) : ∀ k ci, zC k = some ci → (zw E u)[k]? = some (zad E k, .inr (ci, zfs E k (u k)))
  | 0, _, h => by obtain rfl := Option.some.inj (show some 5 = _ from h); rfl
  | 1, _, h => by obtain rfl := Option.some.inj (show some 4 = _ from h); rfl
  | 2, _, h => by cases (show none = _ from h)
  | 3, _, h => by cases (show none = _ from h)
  | 4, _, h => by cases (show none = _ from h)
  | 5, _, h => by cases (show none = _ from h)
  | 6, _, h => by cases (show none = _ from h)
  | 7, _, h => by cases (show none = _ from h)
  | 8, _, h => by obtain rfl := Option.some.inj (show some 4 = _ from h); rfl
  | 9, _, h => by cases (show none = _ from h)
  | 10, _, h => by cases (show none = _ from h)
  | 11, _, h => by cases (show none = _ from h)
  | 12, _, h => by cases (show none = _ from h)
  | 13, _, h => by cases (show none = _ from h)
  | 14, _, h => by cases (show none = _ from h)
  | 15, _, h => by obtain rfl := Option.some.inj (show some 2 = _ from h); rfl
  | 16, _, h => by cases (show none = _ from h)
  | 17, _, h => by cases (show none = _ from h)
  | 18, _, h => by cases (show none = _ from h)
  | 19, _, h => by cases (show none = _ from h)
  | 20, _, h => by obtain rfl := Option.some.inj (show some 3 = _ from h); rfl
  | 21, _, h => by cases (show none = _ from h)
  | 22, _, h => by cases (show none = _ from h)
  | 23, _, h => by cases (show none = _ from h)
  | 24, _, h => by cases (show none = _ from h)
  | 25, _, h => by obtain rfl := Option.some.inj (show some 0 = _ from h); rfl
  | 26, _, h => by cases (show none = _ from h)
  | 27, _, h => by cases (show none = _ from h)
  | 28, _, h => by cases (show none = _ from h)
  | 29, _, h => by cases (show none = _ from h)
  | 30, _, h => by cases (show none = _ from h)
  | 31, _, h => by obtain rfl := Option.some.inj (show some 1 = _ from h); rfl
  | 32, _, h => by cases (show none = _ from h)
  | 33, _, h => by obtain rfl := Option.some.inj (show some 1 = _ from h); rfl
  | 34, _, h => by cases (show none = _ from h)
  | 35, _, h => by obtain rfl := Option.some.inj (show some 1 = _ from h); rfl
  | 36, _, h => by cases (show none = _ from h)
  | 37, _, h => by obtain rfl := Option.some.inj (show some 1 = _ from h); rfl
  | 38, _, h => by cases (show none = _ from h)
  | 39, _, h => by obtain rfl := Option.some.inj (show some 6 = _ from h); rfl
  | 40, _, h => by cases (show none = _ from h)
  | 41, _, h => by cases (show none = _ from h)
  | 42, _, h => by cases (show none = _ from h)
  | 43, _, h => by cases (show none = _ from h)
  | 44, _, h => by cases (show none = _ from h)
  | 45, _, h => by cases (show none = _ from h)
  | 46, _, h => by cases (show none = _ from h)
  | 47, _, h => by cases (show none = _ from h)
  | 48, _, h => by cases (show none = _ from h)
  | 49, _, h => by cases (show none = _ from h)
  | 50, _, h => by cases (show none = _ from h)
  | 51, _, h => by cases (show none = _ from h)
  | 52, _, h => by cases (show none = _ from h)
  | 53, _, h => by cases (show none = _ from h)
  | 54, _, h => by cases (show none = _ from h)
  | k + 55, _, h => by cases (show none = _ from h)
/-- which fields are ints (the last number: 1 a boolean) -/
def zI (k j : Nat) : Bool := ([(0, 9), (1, 6), (1, 7), (1, 8), (1, 9), (1, 10), (1, 11), (1, 12), (8, 6), (8, 7), (8, 8), (8, 9), (8, 10), (8, 11), (8, 12), (15, 4), (20, 4), (20, 5), (20, 6), (25, 1), (25, 2), (25, 3), (31, 1), (31, 2), (33, 1), (33, 2), (35, 1), (35, 2), (37, 1), (37, 2), (39, 2), (39, 7), (39, 9), (39, 10), (39, 12), (39, 13), (39, 14), (39, 15), (39, 16), (39, 17), (39, 21), (39, 22)] : List (Nat × Nat)).contains (k, j)
def zR (k j : Nat) : Option Nat := ([(((0, 0) : Nat × Nat), 1), (((0, 1) : Nat × Nat), 8), (((0, 2) : Nat × Nat), 15), (((0, 3) : Nat × Nat), 20), (((0, 4) : Nat × Nat), 25), (((0, 5) : Nat × Nat), 27), (((0, 6) : Nat × Nat), 28), (((0, 7) : Nat × Nat), 29), (((0, 8) : Nat × Nat), 30), (((1, 0) : Nat × Nat), 2), (((1, 1) : Nat × Nat), 3), (((1, 2) : Nat × Nat), 4), (((1, 3) : Nat × Nat), 5), (((1, 4) : Nat × Nat), 6), (((1, 5) : Nat × Nat), 7), (((8, 0) : Nat × Nat), 9), (((8, 1) : Nat × Nat), 10), (((8, 2) : Nat × Nat), 11), (((8, 3) : Nat × Nat), 12), (((8, 4) : Nat × Nat), 13), (((8, 5) : Nat × Nat), 14), (((15, 0) : Nat × Nat), 16), (((15, 1) : Nat × Nat), 17), (((15, 2) : Nat × Nat), 18), (((15, 3) : Nat × Nat), 19), (((20, 0) : Nat × Nat), 21), (((20, 1) : Nat × Nat), 22), (((20, 2) : Nat × Nat), 23), (((20, 3) : Nat × Nat), 24), (((25, 0) : Nat × Nat), 26), (((31, 0) : Nat × Nat), 32), (((33, 0) : Nat × Nat), 34), (((35, 0) : Nat × Nat), 36), (((37, 0) : Nat × Nat), 38), (((39, 0) : Nat × Nat), 40), (((39, 1) : Nat × Nat), 41), (((39, 3) : Nat × Nat), 42), (((39, 4) : Nat × Nat), 43), (((39, 5) : Nat × Nat), 44), (((39, 6) : Nat × Nat), 45), (((39, 8) : Nat × Nat), 46), (((39, 11) : Nat × Nat), 47), (((39, 18) : Nat × Nat), 48), (((39, 19) : Nat × Nat), 49), (((39, 20) : Nat × Nat), 50), (((39, 23) : Nat × Nat), 51), (((39, 24) : Nat × Nat), 52), (((39, 25) : Nat × Nat), 53), (((39, 26) : Nat × Nat), 54)] : List ((Nat × Nat) × Nat)).lookup (k, j)
/-- a field of an int: it is read, and written -/
def zIs (k j ci : Nat) : Prop := zC k = some ci ∧ (∀ (E : zE) (r : Nat → Int32), (zfs E k r)[j]? = some (.int (r j))) ∧ (∀ (E : zE) (r : Nat → Int32), j < (zfs E k r).length) ∧ ∀ (E : zE) (u : zM) (v : Int32), (zw E u).set k (zad E k, .inr (ci, (zfs E k (u k)).set j (.int v))) = zw E (zst u k j v)
set_option maxRecDepth 20000 in
theorem zi_0_9 : zIs 0 9 5 := ⟨rfl, fun _ _ => rfl, fun _ _ => Nat.le_of_ble_eq_true rfl, fun _ _ _ => rfl⟩
set_option maxRecDepth 20000 in
theorem zi_1_6 : zIs 1 6 4 := ⟨rfl, fun _ _ => rfl, fun _ _ => Nat.le_of_ble_eq_true rfl, fun _ _ _ => rfl⟩
set_option maxRecDepth 20000 in
theorem zi_1_7 : zIs 1 7 4 := ⟨rfl, fun _ _ => rfl, fun _ _ => Nat.le_of_ble_eq_true rfl, fun _ _ _ => rfl⟩
set_option maxRecDepth 20000 in
theorem zi_1_8 : zIs 1 8 4 := ⟨rfl, fun _ _ => rfl, fun _ _ => Nat.le_of_ble_eq_true rfl, fun _ _ _ => rfl⟩
set_option maxRecDepth 20000 in
theorem zi_1_9 : zIs 1 9 4 := ⟨rfl, fun _ _ => rfl, fun _ _ => Nat.le_of_ble_eq_true rfl, fun _ _ _ => rfl⟩
set_option maxRecDepth 20000 in
theorem zi_1_10 : zIs 1 10 4 := ⟨rfl, fun _ _ => rfl, fun _ _ => Nat.le_of_ble_eq_true rfl, fun _ _ _ => rfl⟩
set_option maxRecDepth 20000 in
theorem zi_1_11 : zIs 1 11 4 := ⟨rfl, fun _ _ => rfl, fun _ _ => Nat.le_of_ble_eq_true rfl, fun _ _ _ => rfl⟩
set_option maxRecDepth 20000 in
theorem zi_1_12 : zIs 1 12 4 := ⟨rfl, fun _ _ => rfl, fun _ _ => Nat.le_of_ble_eq_true rfl, fun _ _ _ => rfl⟩
set_option maxRecDepth 20000 in
theorem zi_8_6 : zIs 8 6 4 := ⟨rfl, fun _ _ => rfl, fun _ _ => Nat.le_of_ble_eq_true rfl, fun _ _ _ => rfl⟩
set_option maxRecDepth 20000 in
theorem zi_8_7 : zIs 8 7 4 := ⟨rfl, fun _ _ => rfl, fun _ _ => Nat.le_of_ble_eq_true rfl, fun _ _ _ => rfl⟩
set_option maxRecDepth 20000 in
theorem zi_8_8 : zIs 8 8 4 := ⟨rfl, fun _ _ => rfl, fun _ _ => Nat.le_of_ble_eq_true rfl, fun _ _ _ => rfl⟩
set_option maxRecDepth 20000 in
theorem zi_8_9 : zIs 8 9 4 := ⟨rfl, fun _ _ => rfl, fun _ _ => Nat.le_of_ble_eq_true rfl, fun _ _ _ => rfl⟩
set_option maxRecDepth 20000 in
theorem zi_8_10 : zIs 8 10 4 := ⟨rfl, fun _ _ => rfl, fun _ _ => Nat.le_of_ble_eq_true rfl, fun _ _ _ => rfl⟩
set_option maxRecDepth 20000 in
theorem zi_8_11 : zIs 8 11 4 := ⟨rfl, fun _ _ => rfl, fun _ _ => Nat.le_of_ble_eq_true rfl, fun _ _ _ => rfl⟩
set_option maxRecDepth 20000 in
theorem zi_8_12 : zIs 8 12 4 := ⟨rfl, fun _ _ => rfl, fun _ _ => Nat.le_of_ble_eq_true rfl, fun _ _ _ => rfl⟩
set_option maxRecDepth 20000 in
theorem zi_15_4 : zIs 15 4 2 := ⟨rfl, fun _ _ => rfl, fun _ _ => Nat.le_of_ble_eq_true rfl, fun _ _ _ => rfl⟩
set_option maxRecDepth 20000 in
theorem zi_20_4 : zIs 20 4 3 := ⟨rfl, fun _ _ => rfl, fun _ _ => Nat.le_of_ble_eq_true rfl, fun _ _ _ => rfl⟩
set_option maxRecDepth 20000 in
theorem zi_20_5 : zIs 20 5 3 := ⟨rfl, fun _ _ => rfl, fun _ _ => Nat.le_of_ble_eq_true rfl, fun _ _ _ => rfl⟩
set_option maxRecDepth 20000 in
theorem zi_20_6 : zIs 20 6 3 := ⟨rfl, fun _ _ => rfl, fun _ _ => Nat.le_of_ble_eq_true rfl, fun _ _ _ => rfl⟩
set_option maxRecDepth 20000 in
theorem zi_25_1 : zIs 25 1 0 := ⟨rfl, fun _ _ => rfl, fun _ _ => Nat.le_of_ble_eq_true rfl, fun _ _ _ => rfl⟩
set_option maxRecDepth 20000 in
theorem zi_25_2 : zIs 25 2 0 := ⟨rfl, fun _ _ => rfl, fun _ _ => Nat.le_of_ble_eq_true rfl, fun _ _ _ => rfl⟩
set_option maxRecDepth 20000 in
theorem zi_25_3 : zIs 25 3 0 := ⟨rfl, fun _ _ => rfl, fun _ _ => Nat.le_of_ble_eq_true rfl, fun _ _ _ => rfl⟩
set_option maxRecDepth 20000 in
theorem zi_31_1 : zIs 31 1 1 := ⟨rfl, fun _ _ => rfl, fun _ _ => Nat.le_of_ble_eq_true rfl, fun _ _ _ => rfl⟩
set_option maxRecDepth 20000 in
theorem zi_31_2 : zIs 31 2 1 := ⟨rfl, fun _ _ => rfl, fun _ _ => Nat.le_of_ble_eq_true rfl, fun _ _ _ => rfl⟩
set_option maxRecDepth 20000 in
theorem zi_33_1 : zIs 33 1 1 := ⟨rfl, fun _ _ => rfl, fun _ _ => Nat.le_of_ble_eq_true rfl, fun _ _ _ => rfl⟩
set_option maxRecDepth 20000 in
theorem zi_33_2 : zIs 33 2 1 := ⟨rfl, fun _ _ => rfl, fun _ _ => Nat.le_of_ble_eq_true rfl, fun _ _ _ => rfl⟩
set_option maxRecDepth 20000 in
theorem zi_35_1 : zIs 35 1 1 := ⟨rfl, fun _ _ => rfl, fun _ _ => Nat.le_of_ble_eq_true rfl, fun _ _ _ => rfl⟩
set_option maxRecDepth 20000 in
theorem zi_35_2 : zIs 35 2 1 := ⟨rfl, fun _ _ => rfl, fun _ _ => Nat.le_of_ble_eq_true rfl, fun _ _ _ => rfl⟩
set_option maxRecDepth 20000 in
theorem zi_37_1 : zIs 37 1 1 := ⟨rfl, fun _ _ => rfl, fun _ _ => Nat.le_of_ble_eq_true rfl, fun _ _ _ => rfl⟩
set_option maxRecDepth 20000 in
theorem zi_37_2 : zIs 37 2 1 := ⟨rfl, fun _ _ => rfl, fun _ _ => Nat.le_of_ble_eq_true rfl, fun _ _ _ => rfl⟩
set_option maxRecDepth 20000 in
theorem zi_39_2 : zIs 39 2 6 := ⟨rfl, fun _ _ => rfl, fun _ _ => Nat.le_of_ble_eq_true rfl, fun _ _ _ => rfl⟩
set_option maxRecDepth 20000 in
theorem zi_39_7 : zIs 39 7 6 := ⟨rfl, fun _ _ => rfl, fun _ _ => Nat.le_of_ble_eq_true rfl, fun _ _ _ => rfl⟩
set_option maxRecDepth 20000 in
theorem zi_39_9 : zIs 39 9 6 := ⟨rfl, fun _ _ => rfl, fun _ _ => Nat.le_of_ble_eq_true rfl, fun _ _ _ => rfl⟩
set_option maxRecDepth 20000 in
theorem zi_39_10 : zIs 39 10 6 := ⟨rfl, fun _ _ => rfl, fun _ _ => Nat.le_of_ble_eq_true rfl, fun _ _ _ => rfl⟩
set_option maxRecDepth 20000 in
theorem zi_39_12 : zIs 39 12 6 := ⟨rfl, fun _ _ => rfl, fun _ _ => Nat.le_of_ble_eq_true rfl, fun _ _ _ => rfl⟩
set_option maxRecDepth 20000 in
theorem zi_39_13 : zIs 39 13 6 := ⟨rfl, fun _ _ => rfl, fun _ _ => Nat.le_of_ble_eq_true rfl, fun _ _ _ => rfl⟩
set_option maxRecDepth 20000 in
theorem zi_39_14 : zIs 39 14 6 := ⟨rfl, fun _ _ => rfl, fun _ _ => Nat.le_of_ble_eq_true rfl, fun _ _ _ => rfl⟩
set_option maxRecDepth 20000 in
theorem zi_39_15 : zIs 39 15 6 := ⟨rfl, fun _ _ => rfl, fun _ _ => Nat.le_of_ble_eq_true rfl, fun _ _ _ => rfl⟩
set_option maxRecDepth 20000 in
theorem zi_39_16 : zIs 39 16 6 := ⟨rfl, fun _ _ => rfl, fun _ _ => Nat.le_of_ble_eq_true rfl, fun _ _ _ => rfl⟩
set_option maxRecDepth 20000 in
theorem zi_39_17 : zIs 39 17 6 := ⟨rfl, fun _ _ => rfl, fun _ _ => Nat.le_of_ble_eq_true rfl, fun _ _ _ => rfl⟩
set_option maxRecDepth 20000 in
theorem zi_39_21 : zIs 39 21 6 := ⟨rfl, fun _ _ => rfl, fun _ _ => Nat.le_of_ble_eq_true rfl, fun _ _ _ => rfl⟩
set_option maxRecDepth 20000 in
theorem zi_39_22 : zIs 39 22 6 := ⟨rfl, fun _ _ => rfl, fun _ _ => Nat.le_of_ble_eq_true rfl, fun _ _ _ => rfl⟩
/-- a field of a reference: it stays -/
def zRs (k j ci t : Nat) : Prop := zC k = some ci ∧ ∀ (E : zE) (r : Nat → Int32), (zfs E k r)[j]? = some (.ref (zad E t))
theorem zr_0_0 : zRs 0 0 5 1 := ⟨rfl, fun _ _ => rfl⟩
theorem zr_0_1 : zRs 0 1 5 8 := ⟨rfl, fun _ _ => rfl⟩
theorem zr_0_2 : zRs 0 2 5 15 := ⟨rfl, fun _ _ => rfl⟩
theorem zr_0_3 : zRs 0 3 5 20 := ⟨rfl, fun _ _ => rfl⟩
theorem zr_0_4 : zRs 0 4 5 25 := ⟨rfl, fun _ _ => rfl⟩
theorem zr_0_5 : zRs 0 5 5 27 := ⟨rfl, fun _ _ => rfl⟩
theorem zr_0_6 : zRs 0 6 5 28 := ⟨rfl, fun _ _ => rfl⟩
theorem zr_0_7 : zRs 0 7 5 29 := ⟨rfl, fun _ _ => rfl⟩
theorem zr_0_8 : zRs 0 8 5 30 := ⟨rfl, fun _ _ => rfl⟩
theorem zr_1_0 : zRs 1 0 4 2 := ⟨rfl, fun _ _ => rfl⟩
theorem zr_1_1 : zRs 1 1 4 3 := ⟨rfl, fun _ _ => rfl⟩
theorem zr_1_2 : zRs 1 2 4 4 := ⟨rfl, fun _ _ => rfl⟩
theorem zr_1_3 : zRs 1 3 4 5 := ⟨rfl, fun _ _ => rfl⟩
theorem zr_1_4 : zRs 1 4 4 6 := ⟨rfl, fun _ _ => rfl⟩
theorem zr_1_5 : zRs 1 5 4 7 := ⟨rfl, fun _ _ => rfl⟩
theorem zr_8_0 : zRs 8 0 4 9 := ⟨rfl, fun _ _ => rfl⟩
theorem zr_8_1 : zRs 8 1 4 10 := ⟨rfl, fun _ _ => rfl⟩
theorem zr_8_2 : zRs 8 2 4 11 := ⟨rfl, fun _ _ => rfl⟩
theorem zr_8_3 : zRs 8 3 4 12 := ⟨rfl, fun _ _ => rfl⟩
theorem zr_8_4 : zRs 8 4 4 13 := ⟨rfl, fun _ _ => rfl⟩
theorem zr_8_5 : zRs 8 5 4 14 := ⟨rfl, fun _ _ => rfl⟩
theorem zr_15_0 : zRs 15 0 2 16 := ⟨rfl, fun _ _ => rfl⟩
theorem zr_15_1 : zRs 15 1 2 17 := ⟨rfl, fun _ _ => rfl⟩
theorem zr_15_2 : zRs 15 2 2 18 := ⟨rfl, fun _ _ => rfl⟩
theorem zr_15_3 : zRs 15 3 2 19 := ⟨rfl, fun _ _ => rfl⟩
theorem zr_20_0 : zRs 20 0 3 21 := ⟨rfl, fun _ _ => rfl⟩
theorem zr_20_1 : zRs 20 1 3 22 := ⟨rfl, fun _ _ => rfl⟩
theorem zr_20_2 : zRs 20 2 3 23 := ⟨rfl, fun _ _ => rfl⟩
theorem zr_20_3 : zRs 20 3 3 24 := ⟨rfl, fun _ _ => rfl⟩
theorem zr_25_0 : zRs 25 0 0 26 := ⟨rfl, fun _ _ => rfl⟩
theorem zr_31_0 : zRs 31 0 1 32 := ⟨rfl, fun _ _ => rfl⟩
theorem zr_33_0 : zRs 33 0 1 34 := ⟨rfl, fun _ _ => rfl⟩
theorem zr_35_0 : zRs 35 0 1 36 := ⟨rfl, fun _ _ => rfl⟩
theorem zr_37_0 : zRs 37 0 1 38 := ⟨rfl, fun _ _ => rfl⟩
theorem zr_39_0 : zRs 39 0 6 40 := ⟨rfl, fun _ _ => rfl⟩
theorem zr_39_1 : zRs 39 1 6 41 := ⟨rfl, fun _ _ => rfl⟩
theorem zr_39_3 : zRs 39 3 6 42 := ⟨rfl, fun _ _ => rfl⟩
theorem zr_39_4 : zRs 39 4 6 43 := ⟨rfl, fun _ _ => rfl⟩
theorem zr_39_5 : zRs 39 5 6 44 := ⟨rfl, fun _ _ => rfl⟩
theorem zr_39_6 : zRs 39 6 6 45 := ⟨rfl, fun _ _ => rfl⟩
theorem zr_39_8 : zRs 39 8 6 46 := ⟨rfl, fun _ _ => rfl⟩
theorem zr_39_11 : zRs 39 11 6 47 := ⟨rfl, fun _ _ => rfl⟩
theorem zr_39_18 : zRs 39 18 6 48 := ⟨rfl, fun _ _ => rfl⟩
theorem zr_39_19 : zRs 39 19 6 49 := ⟨rfl, fun _ _ => rfl⟩
theorem zr_39_20 : zRs 39 20 6 50 := ⟨rfl, fun _ _ => rfl⟩
theorem zr_39_23 : zRs 39 23 6 51 := ⟨rfl, fun _ _ => rfl⟩
theorem zr_39_24 : zRs 39 24 6 52 := ⟨rfl, fun _ _ => rfl⟩
theorem zr_39_25 : zRs 39 25 6 53 := ⟨rfl, fun _ _ => rfl⟩
theorem zr_39_26 : zRs 39 26 6 54 := ⟨rfl, fun _ _ => rfl⟩
/-- the four sheets -/
def zSh (k : Nat) : Prop := k = 31 ∨ k = 33 ∨ k = 35 ∨ k = 37
theorem zSh_1 {k : Nat} (h : zSh k) : zIs k 1 1 := by rcases h with rfl | rfl | rfl | rfl <;> first | exact zi_31_1 | exact zi_33_1 | exact zi_35_1 | exact zi_37_1
theorem zSh_2 {k : Nat} (h : zSh k) : zIs k 2 1 := by rcases h with rfl | rfl | rfl | rfl <;> first | exact zi_31_2 | exact zi_33_2 | exact zi_35_2 | exact zi_37_2
theorem zSh_0 {k : Nat} (h : zSh k) : zRs k 0 1 (k + 1) := by rcases h with rfl | rfl | rfl | rfl <;> first | exact zr_31_0 | exact zr_33_0 | exact zr_35_0 | exact zr_37_0
theorem zSh_n {k : Nat} (h : zSh k) : zN (k + 1) = some 40 := by rcases h with rfl | rfl | rfl | rfl <;> rfl
theorem zSh_c {k : Nat} (h : zSh k) : zC k = some 1 := by rcases h with rfl | rfl | rfl | rfl <;> rfl
/-- the words that every method has: those of the tables that keep -/
def zT : List Cond := lw_tbl.filter goodWord
theorem zT_in {w : Cond} (i : Nat) (h : lw_tbl[i]? = some w) (hg : goodWord w = true) : w ∈ zT := List.mem_filter.mpr ⟨List.mem_of_getElem? h, hg⟩
theorem zT_tbl {w : Cond} (h : w ∈ zT) : w ∈ lw_tbl := (List.mem_filter.mp h).1
theorem zT_good {w : Cond} (h : w ∈ zT) : goodWord w = true := (List.mem_filter.mp h).2
theorem zT_all {ws : List Cond} (h : ∀ w ∈ ws, w ∈ zT) : GoodIn zT ws := fun w hw => ⟨h w hw, good_of_word (zT_good (h w hw))⟩
/-- the links among nest mates: they ride with the world -/
def zNest : List Cond := [Cond.methodLinkNest "MeanCoats" 9 ⟨"MeanCoats$Town", "<init>", "()V"⟩ "MeanCoats",
  Cond.fieldLinkNest "MeanCoats$Tailor" 80 "MeanCoats$Town" "pinned" "[I" "MeanCoats",
  Cond.fieldLinkNest "MeanCoats" 241 "MeanCoats$Town" "spots" "[I" "MeanCoats",
  Cond.fieldLinkNest "MeanCoats$Tailor" 28 "MeanCoats$Town" "bodies" "I" "MeanCoats",
  Cond.fieldLinkNest "MeanCoats$Reader" 25 "MeanCoats$Town" "bodies" "I" "MeanCoats",
  Cond.fieldLinkNest "MeanCoats" 69 "MeanCoats$Town" "bodies" "I" "MeanCoats",
  Cond.fieldLinkNest "MeanCoats" 96 "MeanCoats$Town" "here" "I" "MeanCoats",
  Cond.fieldLinkNest "MeanCoats" 99 "MeanCoats$Town" "rule" "I" "MeanCoats",
  Cond.fieldLinkNest "MeanCoats$Reader" 127 "MeanCoats$Town" "rule" "I" "MeanCoats",
  Cond.fieldLinkNest "MeanCoats" 102 "MeanCoats$Town" "ease" "I" "MeanCoats",
  Cond.fieldLinkNest "MeanCoats$Reader" 135 "MeanCoats$Town" "ease" "I" "MeanCoats",
  Cond.fieldLinkNest "MeanCoats$Tailor" 89 "MeanCoats$Town" "ease" "I" "MeanCoats",
  Cond.fieldLinkNest "MeanCoats" 105 "MeanCoats$Town" "price" "I" "MeanCoats",
  Cond.fieldLinkNest "MeanCoats$Reader" 137 "MeanCoats$Town" "price" "I" "MeanCoats",
  Cond.fieldLinkNest "MeanCoats" 194 "MeanCoats$Town" "springs" "I" "MeanCoats",
  Cond.fieldLinkNest "MeanCoats" 225 "MeanCoats$Town" "z" "I" "MeanCoats",
  Cond.methodLinkNest "MeanCoats" 21 ⟨"MeanCoats$Tailor", "<init>", "()V"⟩ "MeanCoats",
  Cond.fieldLinkNest "MeanCoats" 129 "MeanCoats$Tailor" "coat" "[I" "MeanCoats",
  Cond.methodLinkNest "MeanCoats" 28 ⟨"MeanCoats$Tape", "<init>", "()V"⟩ "MeanCoats",
  Cond.fieldLinkNest "MeanCoats" 228 "MeanCoats$Tape" "length" "I" "MeanCoats",
  Cond.methodLinkNest "MeanCoats" 35 ⟨"MeanCoats$Reader", "<init>", "()V"⟩ "MeanCoats",
  Cond.methodLinkNest "MeanCoats" 60 ⟨"MeanCoats$Sheet", "<init>", "()V"⟩ "MeanCoats",
  Cond.fieldLinkNest "MeanCoats" 266 "MeanCoats$Sheet" "numbers" "[I" "MeanCoats",
  Cond.fieldLinkNest "MeanCoats" 260 "MeanCoats$Sheet" "bits" "I" "MeanCoats",
  Cond.fieldLinkNest "MeanCoats" 254 "MeanCoats$Sheet" "length" "I" "MeanCoats",
  Cond.methodLinkNest "MeanCoats" 73 ⟨"MeanCoats$Town", "add", "(IIII)I"⟩ "MeanCoats",
  Cond.methodLinkNest "MeanCoats" 84 ⟨"MeanCoats$Town", "tell", "(II)I"⟩ "MeanCoats",
  Cond.methodLinkNest "MeanCoats$Town" 88 ⟨"MeanCoats", "isUnder", "(II)Z"⟩ "MeanCoats",
  Cond.methodLinkNest "MeanCoats$Town" 84 ⟨"MeanCoats", "holds", "(II)Z"⟩ "MeanCoats",
  Cond.methodLinkNest "MeanCoats" 88 ⟨"MeanCoats$Town", "mayBecome", "(II)Z"⟩ "MeanCoats",
  Cond.methodLinkNest "MeanCoats$Town" 73 ⟨"MeanCoats", "isKind", "(I)Z"⟩ "MeanCoats",
  Cond.methodLinkNest "MeanCoats$Town" 76 ⟨"MeanCoats", "within", "(III)Z"⟩ "MeanCoats",
  Cond.methodLinkNest "MeanCoats" 92 ⟨"MeanCoats$Town", "put", "(III)V"⟩ "MeanCoats",
  Cond.methodLinkNest "MeanCoats" 108 ⟨"MeanCoats$Town", "isHere", "(I)Z"⟩ "MeanCoats",
  Cond.methodLinkNest "MeanCoats" 111 ⟨"MeanCoats$Town", "inchesOf", "(II)I"⟩ "MeanCoats",
  Cond.methodLinkNest "MeanCoats" 119 ⟨"MeanCoats$Town", "setInches", "(III)V"⟩ "MeanCoats",
  Cond.methodLinkNest "MeanCoats" 132 ⟨"MeanCoats$Tailor", "measureAll", "(LMeanCoats$Town;)V"⟩ "MeanCoats",
  Cond.methodLinkNest "MeanCoats$Tailor" 31 ⟨"MeanCoats$Town", "timesOf", "(I)I"⟩ "MeanCoats",
  Cond.methodLinkNest "MeanCoats$Tailor" 35 ⟨"MeanCoats$Town", "measuredOf", "(II)I"⟩ "MeanCoats",
  Cond.methodLinkNest "MeanCoats" 219 ⟨"MeanCoats$Tailor", "cutAll", "(II)Z"⟩ "MeanCoats",
  Cond.methodLinkNest "MeanCoats$Tailor" 64 ⟨"MeanCoats", "holds", "(II)Z"⟩ "MeanCoats",
  Cond.methodLinkNest "MeanCoats" 136 ⟨"MeanCoats$Tailor", "sumOf", "(II)I"⟩ "MeanCoats",
  Cond.methodLinkNest "MeanCoats" 139 ⟨"MeanCoats$Tailor", "timesOf", "(I)I"⟩ "MeanCoats",
  Cond.methodLinkNest "MeanCoats" 145 ⟨"MeanCoats$Tailor", "costOf", "(LMeanCoats$Town;I)I"⟩ "MeanCoats",
  Cond.methodLinkNest "MeanCoats$Tailor" 68 ⟨"MeanCoats$Town", "inchesOf", "(II)I"⟩ "MeanCoats",
  Cond.methodLinkNest "MeanCoats" 149 ⟨"MeanCoats$Tailor", "fitting", "(LMeanCoats$Town;I)I"⟩ "MeanCoats",
  Cond.methodLinkNest "MeanCoats" 152 ⟨"MeanCoats$Tailor", "farOf", "(LMeanCoats$Town;I)I"⟩ "MeanCoats",
  Cond.methodLinkNest "MeanCoats" 155 ⟨"MeanCoats$Tailor", "farOfPair", "(LMeanCoats$Town;II)I"⟩ "MeanCoats",
  Cond.methodLinkNest "MeanCoats" 283 ⟨"MeanCoats$Tailor", "cutOne", "(III)I"⟩ "MeanCoats",
  Cond.methodLinkNest "MeanCoats" 175 ⟨"MeanCoats$Town", "bribesHere", "(I)Z"⟩ "MeanCoats",
  Cond.methodLinkNest "MeanCoats" 292 ⟨"MeanCoats$Town", "widthAtBribe", "(II)I"⟩ "MeanCoats",
  Cond.methodLinkNest "MeanCoats" 295 ⟨"MeanCoats$Tailor", "show", "(III)V"⟩ "MeanCoats",
  Cond.methodLinkNest "MeanCoats" 184 ⟨"MeanCoats$Town", "readBribes", "([I)V"⟩ "MeanCoats",
  Cond.methodLinkNest "MeanCoats" 191 ⟨"MeanCoats$Town", "writeBribes", "([I)V"⟩ "MeanCoats",
  Cond.methodLinkNest "MeanCoats" 197 ⟨"MeanCoats$Town", "addSpring", "([I)I"⟩ "MeanCoats",
  Cond.methodLinkNest "MeanCoats" 204 ⟨"MeanCoats$Town", "oldCoat", "(II)I"⟩ "MeanCoats",
  Cond.methodLinkNest "MeanCoats" 286 ⟨"MeanCoats$Town", "draw", "()I"⟩ "MeanCoats",
  Cond.methodLinkNest "MeanCoats" 289 ⟨"MeanCoats$Tailor", "slip", "(III)V"⟩ "MeanCoats",
  Cond.methodLinkNest "MeanCoats" 231 ⟨"MeanCoats$Tape", "add", "(I)V"⟩ "MeanCoats",
  Cond.methodLinkNest "MeanCoats" 234 ⟨"MeanCoats$Reader", "readItems", "(LMeanCoats$Tape;LMeanCoats$Town;Z)I"⟩ "MeanCoats",
  Cond.methodLinkNest "MeanCoats$Reader" 30 ⟨"MeanCoats$Tape", "split", "()V"⟩ "MeanCoats",
  Cond.methodLinkNest "MeanCoats$Tape" 42 ⟨"MeanCoats", "within", "(III)Z"⟩ "MeanCoats",
  Cond.methodLinkNest "MeanCoats$Reader" 64 ⟨"MeanCoats$Tape", "isWord", "(Ljava/lang/String;)Z"⟩ "MeanCoats",
  Cond.methodLinkNest "MeanCoats$Reader" 51 ⟨"MeanCoats$Tape", "moveOn", "()V"⟩ "MeanCoats",
  Cond.methodLinkNest "MeanCoats$Reader" 139 ⟨"MeanCoats$Tape", "numberWithin", "(II)I"⟩ "MeanCoats",
  Cond.methodLinkNest "MeanCoats$Reader" 47 ⟨"MeanCoats$Tape", "isSign", "(C)Z"⟩ "MeanCoats",
  Cond.methodLinkNest "MeanCoats$Reader" 109 ⟨"MeanCoats$Town", "add", "(IIII)I"⟩ "MeanCoats",
  Cond.methodLinkNest "MeanCoats$Reader" 113 ⟨"MeanCoats$Town", "put", "(III)V"⟩ "MeanCoats",
  Cond.methodLinkNest "MeanCoats$Reader" 39 ⟨"MeanCoats$Tape", "begin", "()I"⟩ "MeanCoats",
  Cond.methodLinkNest "MeanCoats$Reader" 43 ⟨"MeanCoats$Tape", "isEnd", "()Z"⟩ "MeanCoats",
  Cond.methodLinkNest "MeanCoats" 250 ⟨"MeanCoats$Sheet", "lay", "(II)V"⟩ "MeanCoats",
  Cond.methodLinkNest "MeanCoats" 255 ⟨"MeanCoats$Sheet", "isMissing", "()Z"⟩ "MeanCoats",
  Cond.methodLinkNest "MeanCoats" 258 ⟨"MeanCoats$Sheet", "put", "(II)V"⟩ "MeanCoats",
  Cond.methodLinkNest "MeanCoats" 263 ⟨"MeanCoats$Sheet", "has", "(II)Z"⟩ "MeanCoats",
  Cond.methodLinkNest "MeanCoats" 269 ⟨"MeanCoats$Sheet", "hasMeasures", "(I)Z"⟩ "MeanCoats",
  Cond.methodLinkNest "MeanCoats$Sheet" 26 ⟨"MeanCoats", "within", "(III)Z"⟩ "MeanCoats",
  Cond.methodLinkNest "MeanCoats" 272 ⟨"MeanCoats$Town", "become", "(LMeanCoats$Town;)V"⟩ "MeanCoats",
  Cond.methodLinkNest "MeanCoats" 275 ⟨"MeanCoats$Town", "spotsHeld", "()I"⟩ "MeanCoats"]
/-- the Strings' texts, and where each is named -/
def zStr : List (String × Nat × String × Nat) := [("MeanCoats$Reader", 85, "stretched", 1), ("MeanCoats$Reader", 87, "briber", 2), ("MeanCoats$Reader", 89, "twin", 3), ("MeanCoats$Reader", 91, "giant", 4), ("MeanCoats$Reader", 93, "thin", 5), ("MeanCoats$Reader", 95, "sly", 6), ("MeanCoats$Reader", 97, "body", 0), ("MeanCoats$Reader", 121, "bribe", 13), ("MeanCoats$Reader", 122, "pins", 14), ("MeanCoats$Reader", 62, "rule", 10), ("MeanCoats$Reader", 129, "mean", 7), ("MeanCoats$Reader", 131, "middle", 8), ("MeanCoats$Reader", 133, "most", 9), ("MeanCoats$Reader", 71, "ease", 11), ("MeanCoats$Reader", 76, "price", 12), ("MeanCoatsModel", 36, "body", 0), ("MeanCoatsModel", 38, "stretched", 1), ("MeanCoatsModel", 40, "briber", 2), ("MeanCoatsModel", 42, "twin", 3), ("MeanCoatsModel", 44, "giant", 4), ("MeanCoatsModel", 46, "thin", 5), ("MeanCoatsModel", 48, "sly", 6), ("MeanCoatsModel", 54, "mean", 7), ("MeanCoatsModel", 56, "middle", 8), ("MeanCoatsModel", 58, "most", 9), ("MeanCoatsModel", 275, "bribe", 13), ("MeanCoatsModel", 280, "pins", 14), ("MeanCoatsModel", 263, "rule", 10), ("MeanCoatsModel", 265, "ease", 11), ("MeanCoatsModel", 270, "price", 12)]
def zLen : List Nat := [4, 9, 6, 4, 5, 4, 3, 4, 6, 4, 4, 4, 5, 5, 4]
def zByt : List (List Int32) := [[98, 111, 100, 121], [115, 116, 114, 101, 116, 99, 104, 101, 100], [98, 114, 105, 98, 101, 114], [116, 119, 105, 110], [103, 105, 97, 110, 116], [116, 104, 105, 110], [115, 108, 121], [109, 101, 97, 110], [109, 105, 100, 100, 108, 101], [109, 111, 115, 116], [114, 117, 108, 101], [101, 97, 115, 101], [112, 114, 105, 99, 101], [98, 114, 105, 98, 101], [112, 105, 110, 115]]
def zKA (j : Nat) : Int32 := ([-1, 0, 0, 0, 1, 0, 2] : List Int32).getD j 0
set_option maxRecDepth 20000 in
theorem zcl_0 : ∀ w ∈ u_ws RX0 TX0 4, w ∈ zT := by
  have h : u_ws RX0 TX0 4 = ([253, 255, 257, 259] : List Nat).filterMap (fun i => lw_tbl[i]?) := by decide +kernel
  have hg : (u_ws RX0 TX0 4).all goodWord = true := by decide +kernel
  intro w hw
  refine List.mem_filter.mpr ⟨?_, List.all_eq_true.mp hg w hw⟩
  rw [h] at hw
  obtain ⟨i, -, hi⟩ := List.mem_filterMap.mp hw
  exact List.mem_of_getElem? hi
set_option maxRecDepth 20000 in
theorem zcl_1 : ∀ w ∈ u_ws RX1 TX1 3, w ∈ zT := by
  have h : u_ws RX1 TX1 3 = ([275, 277, 279] : List Nat).filterMap (fun i => lw_tbl[i]?) := by decide +kernel
  have hg : (u_ws RX1 TX1 3).all goodWord = true := by decide +kernel
  intro w hw
  refine List.mem_filter.mpr ⟨?_, List.all_eq_true.mp hg w hw⟩
  rw [h] at hw
  obtain ⟨i, -, hi⟩ := List.mem_filterMap.mp hw
  exact List.mem_of_getElem? hi
set_option maxRecDepth 20000 in
theorem zcl_2 : ∀ w ∈ u_ws RX2 TX2 5, w ∈ zT := by
  have h : u_ws RX2 TX2 5 = ([203, 205, 207, 209, 211] : List Nat).filterMap (fun i => lw_tbl[i]?) := by decide +kernel
  have hg : (u_ws RX2 TX2 5).all goodWord = true := by decide +kernel
  intro w hw
  refine List.mem_filter.mpr ⟨?_, List.all_eq_true.mp hg w hw⟩
  rw [h] at hw
  obtain ⟨i, -, hi⟩ := List.mem_filterMap.mp hw
  exact List.mem_of_getElem? hi
set_option maxRecDepth 20000 in
theorem zcl_3 : ∀ w ∈ u_ws RX3 TX3 7, w ∈ zT := by
  have h : u_ws RX3 TX3 7 = ([228, 230, 232, 234, 236, 238, 240] : List Nat).filterMap (fun i => lw_tbl[i]?) := by decide +kernel
  have hg : (u_ws RX3 TX3 7).all goodWord = true := by decide +kernel
  intro w hw
  refine List.mem_filter.mpr ⟨?_, List.all_eq_true.mp hg w hw⟩
  rw [h] at hw
  obtain ⟨i, -, hi⟩ := List.mem_filterMap.mp hw
  exact List.mem_of_getElem? hi
set_option maxRecDepth 20000 in
theorem zcl_4 : ∀ w ∈ u_ws RX4 TX4 13, w ∈ zT := by
  have h : u_ws RX4 TX4 13 = ([163, 165, 167, 169, 171, 173, 175, 177, 179, 181, 183, 185, 187] : List Nat).filterMap (fun i => lw_tbl[i]?) := by decide +kernel
  have hg : (u_ws RX4 TX4 13).all goodWord = true := by decide +kernel
  intro w hw
  refine List.mem_filter.mpr ⟨?_, List.all_eq_true.mp hg w hw⟩
  rw [h] at hw
  obtain ⟨i, -, hi⟩ := List.mem_filterMap.mp hw
  exact List.mem_of_getElem? hi
set_option maxRecDepth 20000 in
theorem zcl_5 : ∀ w ∈ u_ws RX5 TX5 10, w ∈ zT := by
  have h : u_ws RX5 TX5 10 = ([292, 294, 296, 298, 300, 302, 304, 306, 308, 310] : List Nat).filterMap (fun i => lw_tbl[i]?) := by decide +kernel
  have hg : (u_ws RX5 TX5 10).all goodWord = true := by decide +kernel
  intro w hw
  refine List.mem_filter.mpr ⟨?_, List.all_eq_true.mp hg w hw⟩
  rw [h] at hw
  obtain ⟨i, -, hi⟩ := List.mem_filterMap.mp hw
  exact List.mem_of_getElem? hi
set_option maxRecDepth 20000 in
theorem zcl_6 : ∀ w ∈ u_ws RX6 TX6 27, w ∈ zT := by
  have h : u_ws RX6 TX6 27 = ([979, 981, 983, 985, 987, 989, 991, 993, 995, 997, 999, 1001, 1003, 1005, 1007, 1009, 1011, 1013, 1015, 1017, 1019, 1021, 1023, 1025, 1027, 1029, 1031] : List Nat).filterMap (fun i => lw_tbl[i]?) := by decide +kernel
  have hg : (u_ws RX6 TX6 27).all goodWord = true := by decide +kernel
  intro w hw
  refine List.mem_filter.mpr ⟨?_, List.all_eq_true.mp hg w hw⟩
  rw [h] at hw
  obtain ⟨i, -, hi⟩ := List.mem_filterMap.mp hw
  exact List.mem_of_getElem? hi
