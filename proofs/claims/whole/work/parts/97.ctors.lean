/-! THE CONSTRUCTORS of the five nested classes. By program (wip/whole/gen_ctor.py). -/
theorem kd4_0 : decode cX4_init 0 = .ok (.aload_n 0, 1) := by decide +kernel
theorem kd4_1 : decode cX4_init 1 = .ok (.invokespecial 3, 3) := by decide +kernel
theorem kd4_4 : decode cX4_init 4 = .ok (.aload_n 0, 1) := by decide +kernel
theorem kd4_5 : decode cX4_init 5 = .ok (.bipush 12, 2) := by decide +kernel
theorem kd4_7 : decode cX4_init 7 = .ok (.newarray .int, 2) := by decide +kernel
theorem kd4_9 : decode cX4_init 9 = .ok (.putfield 9, 3) := by decide +kernel
theorem kd4_12 : decode cX4_init 12 = .ok (.aload_n 0, 1) := by decide +kernel
theorem kd4_13 : decode cX4_init 13 = .ok (.bipush 36, 2) := by decide +kernel
theorem kd4_15 : decode cX4_init 15 = .ok (.newarray .int, 2) := by decide +kernel
theorem kd4_17 : decode cX4_init 17 = .ok (.putfield 15, 3) := by decide +kernel
theorem kd4_20 : decode cX4_init 20 = .ok (.aload_n 0, 1) := by decide +kernel
theorem kd4_21 : decode cX4_init 21 = .ok (.bipush 12, 2) := by decide +kernel
theorem kd4_23 : decode cX4_init 23 = .ok (.newarray .int, 2) := by decide +kernel
theorem kd4_25 : decode cX4_init 25 = .ok (.putfield 18, 3) := by decide +kernel
theorem kd4_28 : decode cX4_init 28 = .ok (.aload_n 0, 1) := by decide +kernel
theorem kd4_29 : decode cX4_init 29 = .ok (.bipush 12, 2) := by decide +kernel
theorem kd4_31 : decode cX4_init 31 = .ok (.newarray .int, 2) := by decide +kernel
theorem kd4_33 : decode cX4_init 33 = .ok (.putfield 21, 3) := by decide +kernel
theorem kd4_36 : decode cX4_init 36 = .ok (.aload_n 0, 1) := by decide +kernel
theorem kd4_37 : decode cX4_init 37 = .ok (.bipush 60, 2) := by decide +kernel
theorem kd4_39 : decode cX4_init 39 = .ok (.newarray .int, 2) := by decide +kernel
theorem kd4_41 : decode cX4_init 41 = .ok (.putfield 24, 3) := by decide +kernel
theorem kd4_44 : decode cX4_init 44 = .ok (.aload_n 0, 1) := by decide +kernel
theorem kd4_45 : decode cX4_init 45 = .ok (.bipush 10, 2) := by decide +kernel
theorem kd4_47 : decode cX4_init 47 = .ok (.newarray .int, 2) := by decide +kernel
theorem kd4_49 : decode cX4_init 49 = .ok (.putfield 27, 3) := by decide +kernel
theorem kd4_52 : decode cX4_init 52 = .ok (.aload_n 0, 1) := by decide +kernel
theorem kd4_53 : decode cX4_init 53 = .ok (.iconst 0, 1) := by decide +kernel
theorem kd4_54 : decode cX4_init 54 = .ok (.putfield 30, 3) := by decide +kernel
theorem kd4_57 : decode cX4_init 57 = .ok (.aload_n 0, 1) := by decide +kernel
theorem kd4_58 : decode cX4_init 58 = .ok (.iconst 0, 1) := by decide +kernel
theorem kd4_59 : decode cX4_init 59 = .ok (.putfield 34, 3) := by decide +kernel
theorem kd4_62 : decode cX4_init 62 = .ok (.aload_n 0, 1) := by decide +kernel
theorem kd4_63 : decode cX4_init 63 = .ok (.iconst 0, 1) := by decide +kernel
theorem kd4_64 : decode cX4_init 64 = .ok (.putfield 37, 3) := by decide +kernel
theorem kd4_67 : decode cX4_init 67 = .ok (.aload_n 0, 1) := by decide +kernel
theorem kd4_68 : decode cX4_init 68 = .ok (.bipush 20, 2) := by decide +kernel
theorem kd4_70 : decode cX4_init 70 = .ok (.putfield 40, 3) := by decide +kernel
theorem kd4_73 : decode cX4_init 73 = .ok (.aload_n 0, 1) := by decide +kernel
theorem kd4_74 : decode cX4_init 74 = .ok (.iconst 1, 1) := by decide +kernel
theorem kd4_75 : decode cX4_init 75 = .ok (.putfield 43, 3) := by decide +kernel
theorem kd4_78 : decode cX4_init 78 = .ok (.aload_n 0, 1) := by decide +kernel
theorem kd4_79 : decode cX4_init 79 = .ok (.iconst 0, 1) := by decide +kernel
theorem kd4_80 : decode cX4_init 80 = .ok (.putfield 46, 3) := by decide +kernel
theorem kd4_83 : decode cX4_init 83 = .ok (.aload_n 0, 1) := by decide +kernel
theorem kd4_84 : decode cX4_init 84 = .ok (.iconst 1, 1) := by decide +kernel
theorem kd4_85 : decode cX4_init 85 = .ok (.putfield 49, 3) := by decide +kernel
theorem kd4_88 : decode cX4_init 88 = .ok (.iconst 0, 1) := by decide +kernel
theorem kd4_89 : decode cX4_init 89 = .ok (.istore_n 1, 1) := by decide +kernel
theorem kd4_90 : decode cX4_init 90 = .ok (.iload_n 1, 1) := by decide +kernel
theorem kd4_91 : decode cX4_init 91 = .ok (.bipush 10, 2) := by decide +kernel
theorem kd4_93 : decode cX4_init 93 = .ok (.if_icmp .ge 16, 3) := by decide +kernel
theorem kd4_96 : decode cX4_init 96 = .ok (.aload_n 0, 1) := by decide +kernel
theorem kd4_97 : decode cX4_init 97 = .ok (.getfield 27, 3) := by decide +kernel
theorem kd4_100 : decode cX4_init 100 = .ok (.iload_n 1, 1) := by decide +kernel
theorem kd4_101 : decode cX4_init 101 = .ok (.iconst (-1), 1) := by decide +kernel
theorem kd4_102 : decode cX4_init 102 = .ok (.iastore, 1) := by decide +kernel
theorem kd4_103 : decode cX4_init 103 = .ok (.iinc 1 1, 3) := by decide +kernel
theorem kd4_106 : decode cX4_init 106 = .ok (.goto (-16), 3) := by decide +kernel
theorem kd4_109 : decode cX4_init 109 = .ok (.return_, 1) := by decide +kernel
theorem kl4_9 : ∃ (C : String) (T : u_T) (N : Nat), vwCl[4]? = some (C, T, N) ∧ 0 < N ∧ (∀ w ∈ u_ws C T N, w ∈ zT) ∧ Cond.fieldLink RX4 9 (T 0).1 (T 0).2.1 (T 0).2.2.1 ∈ zT ∧ (T 0).1 = RX4 ∧ parseFieldDescriptor (T 0).2.2.1 = some (tyX4 0) ∧ (∀ a, a < N → ∀ b, b < N → a ≠ b → (T a).2.1 ≠ (T b).2.1) ∧ ∃ ty0 : Nat → FieldType, ∀ k, k < N → parseFieldDescriptor (T k).2.2.1 = some (ty0 k) := ⟨RX4, TX4, 13, rfl, by decide, zcl_4, zT_in 135 (by decide +kernel) rfl, rfl, tyX4_ok 0 (by decide), nmX4, tyX4, tyX4_ok⟩
theorem kg4_9 : ∃ (C : String) (T : u_T) (N : Nat), vwCl[4]? = some (C, T, N) ∧ 0 < N ∧ (∀ w ∈ u_ws C T N, w ∈ zT) ∧ Cond.fieldLink RX4 9 (T 0).1 (T 0).2.1 (T 0).2.2.1 ∈ zT := ⟨RX4, TX4, 13, rfl, by decide, zcl_4, zT_in 135 (by decide +kernel) rfl⟩
theorem kl4_15 : ∃ (C : String) (T : u_T) (N : Nat), vwCl[4]? = some (C, T, N) ∧ 1 < N ∧ (∀ w ∈ u_ws C T N, w ∈ zT) ∧ Cond.fieldLink RX4 15 (T 1).1 (T 1).2.1 (T 1).2.2.1 ∈ zT ∧ (T 1).1 = RX4 ∧ parseFieldDescriptor (T 1).2.2.1 = some (tyX4 1) ∧ (∀ a, a < N → ∀ b, b < N → a ≠ b → (T a).2.1 ≠ (T b).2.1) ∧ ∃ ty0 : Nat → FieldType, ∀ k, k < N → parseFieldDescriptor (T k).2.2.1 = some (ty0 k) := ⟨RX4, TX4, 13, rfl, by decide, zcl_4, zT_in 136 (by decide +kernel) rfl, rfl, tyX4_ok 1 (by decide), nmX4, tyX4, tyX4_ok⟩
theorem kg4_15 : ∃ (C : String) (T : u_T) (N : Nat), vwCl[4]? = some (C, T, N) ∧ 1 < N ∧ (∀ w ∈ u_ws C T N, w ∈ zT) ∧ Cond.fieldLink RX4 15 (T 1).1 (T 1).2.1 (T 1).2.2.1 ∈ zT := ⟨RX4, TX4, 13, rfl, by decide, zcl_4, zT_in 136 (by decide +kernel) rfl⟩
theorem kl4_18 : ∃ (C : String) (T : u_T) (N : Nat), vwCl[4]? = some (C, T, N) ∧ 2 < N ∧ (∀ w ∈ u_ws C T N, w ∈ zT) ∧ Cond.fieldLink RX4 18 (T 2).1 (T 2).2.1 (T 2).2.2.1 ∈ zT ∧ (T 2).1 = RX4 ∧ parseFieldDescriptor (T 2).2.2.1 = some (tyX4 2) ∧ (∀ a, a < N → ∀ b, b < N → a ≠ b → (T a).2.1 ≠ (T b).2.1) ∧ ∃ ty0 : Nat → FieldType, ∀ k, k < N → parseFieldDescriptor (T k).2.2.1 = some (ty0 k) := ⟨RX4, TX4, 13, rfl, by decide, zcl_4, zT_in 137 (by decide +kernel) rfl, rfl, tyX4_ok 2 (by decide), nmX4, tyX4, tyX4_ok⟩
theorem kg4_18 : ∃ (C : String) (T : u_T) (N : Nat), vwCl[4]? = some (C, T, N) ∧ 2 < N ∧ (∀ w ∈ u_ws C T N, w ∈ zT) ∧ Cond.fieldLink RX4 18 (T 2).1 (T 2).2.1 (T 2).2.2.1 ∈ zT := ⟨RX4, TX4, 13, rfl, by decide, zcl_4, zT_in 137 (by decide +kernel) rfl⟩
theorem kl4_21 : ∃ (C : String) (T : u_T) (N : Nat), vwCl[4]? = some (C, T, N) ∧ 3 < N ∧ (∀ w ∈ u_ws C T N, w ∈ zT) ∧ Cond.fieldLink RX4 21 (T 3).1 (T 3).2.1 (T 3).2.2.1 ∈ zT ∧ (T 3).1 = RX4 ∧ parseFieldDescriptor (T 3).2.2.1 = some (tyX4 3) ∧ (∀ a, a < N → ∀ b, b < N → a ≠ b → (T a).2.1 ≠ (T b).2.1) ∧ ∃ ty0 : Nat → FieldType, ∀ k, k < N → parseFieldDescriptor (T k).2.2.1 = some (ty0 k) := ⟨RX4, TX4, 13, rfl, by decide, zcl_4, zT_in 138 (by decide +kernel) rfl, rfl, tyX4_ok 3 (by decide), nmX4, tyX4, tyX4_ok⟩
theorem kg4_21 : ∃ (C : String) (T : u_T) (N : Nat), vwCl[4]? = some (C, T, N) ∧ 3 < N ∧ (∀ w ∈ u_ws C T N, w ∈ zT) ∧ Cond.fieldLink RX4 21 (T 3).1 (T 3).2.1 (T 3).2.2.1 ∈ zT := ⟨RX4, TX4, 13, rfl, by decide, zcl_4, zT_in 138 (by decide +kernel) rfl⟩
theorem kl4_24 : ∃ (C : String) (T : u_T) (N : Nat), vwCl[4]? = some (C, T, N) ∧ 4 < N ∧ (∀ w ∈ u_ws C T N, w ∈ zT) ∧ Cond.fieldLink RX4 24 (T 4).1 (T 4).2.1 (T 4).2.2.1 ∈ zT ∧ (T 4).1 = RX4 ∧ parseFieldDescriptor (T 4).2.2.1 = some (tyX4 4) ∧ (∀ a, a < N → ∀ b, b < N → a ≠ b → (T a).2.1 ≠ (T b).2.1) ∧ ∃ ty0 : Nat → FieldType, ∀ k, k < N → parseFieldDescriptor (T k).2.2.1 = some (ty0 k) := ⟨RX4, TX4, 13, rfl, by decide, zcl_4, zT_in 140 (by decide +kernel) rfl, rfl, tyX4_ok 4 (by decide), nmX4, tyX4, tyX4_ok⟩
theorem kg4_24 : ∃ (C : String) (T : u_T) (N : Nat), vwCl[4]? = some (C, T, N) ∧ 4 < N ∧ (∀ w ∈ u_ws C T N, w ∈ zT) ∧ Cond.fieldLink RX4 24 (T 4).1 (T 4).2.1 (T 4).2.2.1 ∈ zT := ⟨RX4, TX4, 13, rfl, by decide, zcl_4, zT_in 140 (by decide +kernel) rfl⟩
theorem kl4_27 : ∃ (C : String) (T : u_T) (N : Nat), vwCl[4]? = some (C, T, N) ∧ 5 < N ∧ (∀ w ∈ u_ws C T N, w ∈ zT) ∧ Cond.fieldLink RX4 27 (T 5).1 (T 5).2.1 (T 5).2.2.1 ∈ zT ∧ (T 5).1 = RX4 ∧ parseFieldDescriptor (T 5).2.2.1 = some (tyX4 5) ∧ (∀ a, a < N → ∀ b, b < N → a ≠ b → (T a).2.1 ≠ (T b).2.1) ∧ ∃ ty0 : Nat → FieldType, ∀ k, k < N → parseFieldDescriptor (T k).2.2.1 = some (ty0 k) := ⟨RX4, TX4, 13, rfl, by decide, zcl_4, zT_in 141 (by decide +kernel) rfl, rfl, tyX4_ok 5 (by decide), nmX4, tyX4, tyX4_ok⟩
theorem kg4_27 : ∃ (C : String) (T : u_T) (N : Nat), vwCl[4]? = some (C, T, N) ∧ 5 < N ∧ (∀ w ∈ u_ws C T N, w ∈ zT) ∧ Cond.fieldLink RX4 27 (T 5).1 (T 5).2.1 (T 5).2.2.1 ∈ zT := ⟨RX4, TX4, 13, rfl, by decide, zcl_4, zT_in 141 (by decide +kernel) rfl⟩
theorem kl4_30 : ∃ (C : String) (T : u_T) (N : Nat), vwCl[4]? = some (C, T, N) ∧ 6 < N ∧ (∀ w ∈ u_ws C T N, w ∈ zT) ∧ Cond.fieldLink RX4 30 (T 6).1 (T 6).2.1 (T 6).2.2.1 ∈ zT ∧ (T 6).1 = RX4 ∧ parseFieldDescriptor (T 6).2.2.1 = some (tyX4 6) ∧ (∀ a, a < N → ∀ b, b < N → a ≠ b → (T a).2.1 ≠ (T b).2.1) ∧ ∃ ty0 : Nat → FieldType, ∀ k, k < N → parseFieldDescriptor (T k).2.2.1 = some (ty0 k) := ⟨RX4, TX4, 13, rfl, by decide, zcl_4, zT_in 143 (by decide +kernel) rfl, rfl, tyX4_ok 6 (by decide), nmX4, tyX4, tyX4_ok⟩
theorem kg4_30 : ∃ (C : String) (T : u_T) (N : Nat), vwCl[4]? = some (C, T, N) ∧ 6 < N ∧ (∀ w ∈ u_ws C T N, w ∈ zT) ∧ Cond.fieldLink RX4 30 (T 6).1 (T 6).2.1 (T 6).2.2.1 ∈ zT := ⟨RX4, TX4, 13, rfl, by decide, zcl_4, zT_in 143 (by decide +kernel) rfl⟩
theorem kl4_34 : ∃ (C : String) (T : u_T) (N : Nat), vwCl[4]? = some (C, T, N) ∧ 7 < N ∧ (∀ w ∈ u_ws C T N, w ∈ zT) ∧ Cond.fieldLink RX4 34 (T 7).1 (T 7).2.1 (T 7).2.2.1 ∈ zT ∧ (T 7).1 = RX4 ∧ parseFieldDescriptor (T 7).2.2.1 = some (tyX4 7) ∧ (∀ a, a < N → ∀ b, b < N → a ≠ b → (T a).2.1 ≠ (T b).2.1) ∧ ∃ ty0 : Nat → FieldType, ∀ k, k < N → parseFieldDescriptor (T k).2.2.1 = some (ty0 k) := ⟨RX4, TX4, 13, rfl, by decide, zcl_4, zT_in 147 (by decide +kernel) rfl, rfl, tyX4_ok 7 (by decide), nmX4, tyX4, tyX4_ok⟩
theorem kg4_34 : ∃ (C : String) (T : u_T) (N : Nat), vwCl[4]? = some (C, T, N) ∧ 7 < N ∧ (∀ w ∈ u_ws C T N, w ∈ zT) ∧ Cond.fieldLink RX4 34 (T 7).1 (T 7).2.1 (T 7).2.2.1 ∈ zT := ⟨RX4, TX4, 13, rfl, by decide, zcl_4, zT_in 147 (by decide +kernel) rfl⟩
theorem kl4_37 : ∃ (C : String) (T : u_T) (N : Nat), vwCl[4]? = some (C, T, N) ∧ 8 < N ∧ (∀ w ∈ u_ws C T N, w ∈ zT) ∧ Cond.fieldLink RX4 37 (T 8).1 (T 8).2.1 (T 8).2.2.1 ∈ zT ∧ (T 8).1 = RX4 ∧ parseFieldDescriptor (T 8).2.2.1 = some (tyX4 8) ∧ (∀ a, a < N → ∀ b, b < N → a ≠ b → (T a).2.1 ≠ (T b).2.1) ∧ ∃ ty0 : Nat → FieldType, ∀ k, k < N → parseFieldDescriptor (T k).2.2.1 = some (ty0 k) := ⟨RX4, TX4, 13, rfl, by decide, zcl_4, zT_in 149 (by decide +kernel) rfl, rfl, tyX4_ok 8 (by decide), nmX4, tyX4, tyX4_ok⟩
theorem kg4_37 : ∃ (C : String) (T : u_T) (N : Nat), vwCl[4]? = some (C, T, N) ∧ 8 < N ∧ (∀ w ∈ u_ws C T N, w ∈ zT) ∧ Cond.fieldLink RX4 37 (T 8).1 (T 8).2.1 (T 8).2.2.1 ∈ zT := ⟨RX4, TX4, 13, rfl, by decide, zcl_4, zT_in 149 (by decide +kernel) rfl⟩
theorem kl4_40 : ∃ (C : String) (T : u_T) (N : Nat), vwCl[4]? = some (C, T, N) ∧ 9 < N ∧ (∀ w ∈ u_ws C T N, w ∈ zT) ∧ Cond.fieldLink RX4 40 (T 9).1 (T 9).2.1 (T 9).2.2.1 ∈ zT ∧ (T 9).1 = RX4 ∧ parseFieldDescriptor (T 9).2.2.1 = some (tyX4 9) ∧ (∀ a, a < N → ∀ b, b < N → a ≠ b → (T a).2.1 ≠ (T b).2.1) ∧ ∃ ty0 : Nat → FieldType, ∀ k, k < N → parseFieldDescriptor (T k).2.2.1 = some (ty0 k) := ⟨RX4, TX4, 13, rfl, by decide, zcl_4, zT_in 152 (by decide +kernel) rfl, rfl, tyX4_ok 9 (by decide), nmX4, tyX4, tyX4_ok⟩
theorem kg4_40 : ∃ (C : String) (T : u_T) (N : Nat), vwCl[4]? = some (C, T, N) ∧ 9 < N ∧ (∀ w ∈ u_ws C T N, w ∈ zT) ∧ Cond.fieldLink RX4 40 (T 9).1 (T 9).2.1 (T 9).2.2.1 ∈ zT := ⟨RX4, TX4, 13, rfl, by decide, zcl_4, zT_in 152 (by decide +kernel) rfl⟩
theorem kl4_43 : ∃ (C : String) (T : u_T) (N : Nat), vwCl[4]? = some (C, T, N) ∧ 10 < N ∧ (∀ w ∈ u_ws C T N, w ∈ zT) ∧ Cond.fieldLink RX4 43 (T 10).1 (T 10).2.1 (T 10).2.2.1 ∈ zT ∧ (T 10).1 = RX4 ∧ parseFieldDescriptor (T 10).2.2.1 = some (tyX4 10) ∧ (∀ a, a < N → ∀ b, b < N → a ≠ b → (T a).2.1 ≠ (T b).2.1) ∧ ∃ ty0 : Nat → FieldType, ∀ k, k < N → parseFieldDescriptor (T k).2.2.1 = some (ty0 k) := ⟨RX4, TX4, 13, rfl, by decide, zcl_4, zT_in 156 (by decide +kernel) rfl, rfl, tyX4_ok 10 (by decide), nmX4, tyX4, tyX4_ok⟩
theorem kg4_43 : ∃ (C : String) (T : u_T) (N : Nat), vwCl[4]? = some (C, T, N) ∧ 10 < N ∧ (∀ w ∈ u_ws C T N, w ∈ zT) ∧ Cond.fieldLink RX4 43 (T 10).1 (T 10).2.1 (T 10).2.2.1 ∈ zT := ⟨RX4, TX4, 13, rfl, by decide, zcl_4, zT_in 156 (by decide +kernel) rfl⟩
theorem kl4_46 : ∃ (C : String) (T : u_T) (N : Nat), vwCl[4]? = some (C, T, N) ∧ 11 < N ∧ (∀ w ∈ u_ws C T N, w ∈ zT) ∧ Cond.fieldLink RX4 46 (T 11).1 (T 11).2.1 (T 11).2.2.1 ∈ zT ∧ (T 11).1 = RX4 ∧ parseFieldDescriptor (T 11).2.2.1 = some (tyX4 11) ∧ (∀ a, a < N → ∀ b, b < N → a ≠ b → (T a).2.1 ≠ (T b).2.1) ∧ ∃ ty0 : Nat → FieldType, ∀ k, k < N → parseFieldDescriptor (T k).2.2.1 = some (ty0 k) := ⟨RX4, TX4, 13, rfl, by decide, zcl_4, zT_in 159 (by decide +kernel) rfl, rfl, tyX4_ok 11 (by decide), nmX4, tyX4, tyX4_ok⟩
theorem kg4_46 : ∃ (C : String) (T : u_T) (N : Nat), vwCl[4]? = some (C, T, N) ∧ 11 < N ∧ (∀ w ∈ u_ws C T N, w ∈ zT) ∧ Cond.fieldLink RX4 46 (T 11).1 (T 11).2.1 (T 11).2.2.1 ∈ zT := ⟨RX4, TX4, 13, rfl, by decide, zcl_4, zT_in 159 (by decide +kernel) rfl⟩
theorem kl4_49 : ∃ (C : String) (T : u_T) (N : Nat), vwCl[4]? = some (C, T, N) ∧ 12 < N ∧ (∀ w ∈ u_ws C T N, w ∈ zT) ∧ Cond.fieldLink RX4 49 (T 12).1 (T 12).2.1 (T 12).2.2.1 ∈ zT ∧ (T 12).1 = RX4 ∧ parseFieldDescriptor (T 12).2.2.1 = some (tyX4 12) ∧ (∀ a, a < N → ∀ b, b < N → a ≠ b → (T a).2.1 ≠ (T b).2.1) ∧ ∃ ty0 : Nat → FieldType, ∀ k, k < N → parseFieldDescriptor (T k).2.2.1 = some (ty0 k) := ⟨RX4, TX4, 13, rfl, by decide, zcl_4, zT_in 161 (by decide +kernel) rfl, rfl, tyX4_ok 12 (by decide), nmX4, tyX4, tyX4_ok⟩
theorem kg4_49 : ∃ (C : String) (T : u_T) (N : Nat), vwCl[4]? = some (C, T, N) ∧ 12 < N ∧ (∀ w ∈ u_ws C T N, w ∈ zT) ∧ Cond.fieldLink RX4 49 (T 12).1 (T 12).2.1 (T 12).2.2.1 ∈ zT := ⟨RX4, TX4, 13, rfl, by decide, zcl_4, zT_in 161 (by decide +kernel) rfl⟩
def kw4 (h : Nat) : va_W := [(h, .inr (4, [.null, .null, .null, .null, .null, .null, .int 0, .int 0, .int 0, .int 0, .int 0, .int 0, .int 0]))]
def kW4 (E : zE) (h : Nat) (f : Nat → Nat) : va_W := [(h, .inr (4, [.ref (f 0), .ref (f 1), .ref (f 2), .ref (f 3), .ref (f 4), .ref (f 5), .int 0, .int 0, .int 0, .int 20, .int 1, .int 0, .int 1])), ((f 0), .inl (E.2.1 0, 12, .inl (fun _ => 0))), ((f 1), .inl (E.2.1 0, 36, .inl (fun _ => 0))), ((f 2), .inl (E.2.1 0, 12, .inl (fun _ => 0))), ((f 3), .inl (E.2.1 0, 12, .inl (fun _ => 0))), ((f 4), .inl (E.2.1 0, 60, .inl (fun _ => 0))), ((f 5), .inl (E.2.1 0, 10, .inl (upd (upd (upd (upd (upd (upd (upd (upd (upd (upd (fun _ => 0) 0 (-1)) 1 (-1)) 2 (-1)) 3 (-1)) 4 (-1)) 5 (-1)) 6 (-1)) 7 (-1)) 8 (-1)) 9 (-1))))]
set_option maxRecDepth 20000 in
theorem k_init4 : kCt 1 6 142 yX4_init cX4_init 2 kw4 kW4 := by
  refine kCt.of (by decide) rfl (by decide) ?_
  intro p l e s m args below meth c E h0 A ls hx hb hml hr hlocks hin hown hts hK hA hRo hO hP hD hS hl
  have hown : s.vm.findClass RX4 = some m.cls := hown
  have hP : va_P E.1 vwCl [(h0, .inr (4, [.null, .null, .null, .null, .null, .null, .int 0, .int 0, .int 0, .int 0, .int 0, .int 0, .int 0]))] s.heap := hP
  have hD : va_D A [(h0, .inr (4, [.null, .null, .null, .null, .null, .null, .int 0, .int 0, .int 0, .int 0, .int 0, .int 0, .int 0]))] := hD
  refine lv_aload_n hx hb kd4_0 rfl (lv_at hl 0 rfl) ?_
  refine k_objInit hx hb hts hown hml hl.1 (zT_in 134 (by decide +kernel) rfl) ⟨by decide, by decide⟩ (Nat.le_of_ble_eq_true rfl) kd4_1 ?_
  refine lv_aload_n hx hb kd4_4 rfl (lv_at hl 0 rfl) ?_
  refine lv_bipush (v := 12) hx hb kd4_5 (by decide) ?_
  refine k_newa (N' := 12) (k9 := 1) (n9 := 12) hx hb hts hK hP hD hS hA (by decide) (by decide) (by decide) ⟨rfl, Nat.le_of_ble_eq_true rfl⟩ ⟨rfl, Nat.le_of_ble_eq_true rfl⟩ kd4_7 (fun q1 H hP hD hS => ?_)
  have hP : va_P E.1 vwCl [(h0, .inr (4, [.null, .null, .null, .null, .null, .null, .int 0, .int 0, .int 0, .int 0, .int 0, .int 0, .int 0])), (q1, .inl (E.2.1 0, 12, .inl (fun _ => 0)))] H := hP
  have hD : va_D A [(h0, .inr (4, [.null, .null, .null, .null, .null, .null, .int 0, .int 0, .int 0, .int 0, .int 0, .int 0, .int 0])), (q1, .inl (E.2.1 0, 12, .inl (fun _ => 0)))] := hD
  refine k_put (ws1 := [(h0, .inr (4, [.ref q1, .null, .null, .null, .null, .null, .int 0, .int 0, .int 0, .int 0, .int 0, .int 0, .int 0])), (q1, .inl (E.2.1 0, 12, .inl (fun _ => 0)))]) hx hb hts hown hin hK hP hD hS (kl4_9) rfl rfl rfl (Nat.le_of_ble_eq_true rfl) kd4_9 rfl (fun H locs hP hD hS => ?_)
  refine lv_aload_n hx hb kd4_12 rfl (lv_at hl 0 rfl) ?_
  refine lv_bipush (v := 36) hx hb kd4_13 (by decide) ?_
  refine k_newa (N' := 36) (k9 := 2) (n9 := 48) hx hb hts hK hP hD hS hA (by decide) (by decide) (by decide) ⟨rfl, Nat.le_of_ble_eq_true rfl⟩ ⟨rfl, Nat.le_of_ble_eq_true rfl⟩ kd4_15 (fun q2 H hP hD hS => ?_)
  have hP : va_P E.1 vwCl [(h0, .inr (4, [.ref q1, .null, .null, .null, .null, .null, .int 0, .int 0, .int 0, .int 0, .int 0, .int 0, .int 0])), (q1, .inl (E.2.1 0, 12, .inl (fun _ => 0))), (q2, .inl (E.2.1 0, 36, .inl (fun _ => 0)))] H := hP
  have hD : va_D A [(h0, .inr (4, [.ref q1, .null, .null, .null, .null, .null, .int 0, .int 0, .int 0, .int 0, .int 0, .int 0, .int 0])), (q1, .inl (E.2.1 0, 12, .inl (fun _ => 0))), (q2, .inl (E.2.1 0, 36, .inl (fun _ => 0)))] := hD
  refine k_put (ws1 := [(h0, .inr (4, [.ref q1, .ref q2, .null, .null, .null, .null, .int 0, .int 0, .int 0, .int 0, .int 0, .int 0, .int 0])), (q1, .inl (E.2.1 0, 12, .inl (fun _ => 0))), (q2, .inl (E.2.1 0, 36, .inl (fun _ => 0)))]) hx hb hts hown hin hK hP hD hS (kl4_15) rfl rfl rfl (Nat.le_of_ble_eq_true rfl) kd4_17 rfl (fun H locs hP hD hS => ?_)
  refine lv_aload_n hx hb kd4_20 rfl (lv_at hl 0 rfl) ?_
  refine lv_bipush (v := 12) hx hb kd4_21 (by decide) ?_
  refine k_newa (N' := 12) (k9 := 3) (n9 := 60) hx hb hts hK hP hD hS hA (by decide) (by decide) (by decide) ⟨rfl, Nat.le_of_ble_eq_true rfl⟩ ⟨rfl, Nat.le_of_ble_eq_true rfl⟩ kd4_23 (fun q3 H hP hD hS => ?_)
  have hP : va_P E.1 vwCl [(h0, .inr (4, [.ref q1, .ref q2, .null, .null, .null, .null, .int 0, .int 0, .int 0, .int 0, .int 0, .int 0, .int 0])), (q1, .inl (E.2.1 0, 12, .inl (fun _ => 0))), (q2, .inl (E.2.1 0, 36, .inl (fun _ => 0))), (q3, .inl (E.2.1 0, 12, .inl (fun _ => 0)))] H := hP
  have hD : va_D A [(h0, .inr (4, [.ref q1, .ref q2, .null, .null, .null, .null, .int 0, .int 0, .int 0, .int 0, .int 0, .int 0, .int 0])), (q1, .inl (E.2.1 0, 12, .inl (fun _ => 0))), (q2, .inl (E.2.1 0, 36, .inl (fun _ => 0))), (q3, .inl (E.2.1 0, 12, .inl (fun _ => 0)))] := hD
  refine k_put (ws1 := [(h0, .inr (4, [.ref q1, .ref q2, .ref q3, .null, .null, .null, .int 0, .int 0, .int 0, .int 0, .int 0, .int 0, .int 0])), (q1, .inl (E.2.1 0, 12, .inl (fun _ => 0))), (q2, .inl (E.2.1 0, 36, .inl (fun _ => 0))), (q3, .inl (E.2.1 0, 12, .inl (fun _ => 0)))]) hx hb hts hown hin hK hP hD hS (kl4_18) rfl rfl rfl (Nat.le_of_ble_eq_true rfl) kd4_25 rfl (fun H locs hP hD hS => ?_)
  refine lv_aload_n hx hb kd4_28 rfl (lv_at hl 0 rfl) ?_
  refine lv_bipush (v := 12) hx hb kd4_29 (by decide) ?_
  refine k_newa (N' := 12) (k9 := 4) (n9 := 72) hx hb hts hK hP hD hS hA (by decide) (by decide) (by decide) ⟨rfl, Nat.le_of_ble_eq_true rfl⟩ ⟨rfl, Nat.le_of_ble_eq_true rfl⟩ kd4_31 (fun q4 H hP hD hS => ?_)
  have hP : va_P E.1 vwCl [(h0, .inr (4, [.ref q1, .ref q2, .ref q3, .null, .null, .null, .int 0, .int 0, .int 0, .int 0, .int 0, .int 0, .int 0])), (q1, .inl (E.2.1 0, 12, .inl (fun _ => 0))), (q2, .inl (E.2.1 0, 36, .inl (fun _ => 0))), (q3, .inl (E.2.1 0, 12, .inl (fun _ => 0))), (q4, .inl (E.2.1 0, 12, .inl (fun _ => 0)))] H := hP
  have hD : va_D A [(h0, .inr (4, [.ref q1, .ref q2, .ref q3, .null, .null, .null, .int 0, .int 0, .int 0, .int 0, .int 0, .int 0, .int 0])), (q1, .inl (E.2.1 0, 12, .inl (fun _ => 0))), (q2, .inl (E.2.1 0, 36, .inl (fun _ => 0))), (q3, .inl (E.2.1 0, 12, .inl (fun _ => 0))), (q4, .inl (E.2.1 0, 12, .inl (fun _ => 0)))] := hD
  refine k_put (ws1 := [(h0, .inr (4, [.ref q1, .ref q2, .ref q3, .ref q4, .null, .null, .int 0, .int 0, .int 0, .int 0, .int 0, .int 0, .int 0])), (q1, .inl (E.2.1 0, 12, .inl (fun _ => 0))), (q2, .inl (E.2.1 0, 36, .inl (fun _ => 0))), (q3, .inl (E.2.1 0, 12, .inl (fun _ => 0))), (q4, .inl (E.2.1 0, 12, .inl (fun _ => 0)))]) hx hb hts hown hin hK hP hD hS (kl4_21) rfl rfl rfl (Nat.le_of_ble_eq_true rfl) kd4_33 rfl (fun H locs hP hD hS => ?_)
  refine lv_aload_n hx hb kd4_36 rfl (lv_at hl 0 rfl) ?_
  refine lv_bipush (v := 60) hx hb kd4_37 (by decide) ?_
  refine k_newa (N' := 60) (k9 := 5) (n9 := 132) hx hb hts hK hP hD hS hA (by decide) (by decide) (by decide) ⟨rfl, Nat.le_of_ble_eq_true rfl⟩ ⟨rfl, Nat.le_of_ble_eq_true rfl⟩ kd4_39 (fun q5 H hP hD hS => ?_)
  have hP : va_P E.1 vwCl [(h0, .inr (4, [.ref q1, .ref q2, .ref q3, .ref q4, .null, .null, .int 0, .int 0, .int 0, .int 0, .int 0, .int 0, .int 0])), (q1, .inl (E.2.1 0, 12, .inl (fun _ => 0))), (q2, .inl (E.2.1 0, 36, .inl (fun _ => 0))), (q3, .inl (E.2.1 0, 12, .inl (fun _ => 0))), (q4, .inl (E.2.1 0, 12, .inl (fun _ => 0))), (q5, .inl (E.2.1 0, 60, .inl (fun _ => 0)))] H := hP
  have hD : va_D A [(h0, .inr (4, [.ref q1, .ref q2, .ref q3, .ref q4, .null, .null, .int 0, .int 0, .int 0, .int 0, .int 0, .int 0, .int 0])), (q1, .inl (E.2.1 0, 12, .inl (fun _ => 0))), (q2, .inl (E.2.1 0, 36, .inl (fun _ => 0))), (q3, .inl (E.2.1 0, 12, .inl (fun _ => 0))), (q4, .inl (E.2.1 0, 12, .inl (fun _ => 0))), (q5, .inl (E.2.1 0, 60, .inl (fun _ => 0)))] := hD
  refine k_put (ws1 := [(h0, .inr (4, [.ref q1, .ref q2, .ref q3, .ref q4, .ref q5, .null, .int 0, .int 0, .int 0, .int 0, .int 0, .int 0, .int 0])), (q1, .inl (E.2.1 0, 12, .inl (fun _ => 0))), (q2, .inl (E.2.1 0, 36, .inl (fun _ => 0))), (q3, .inl (E.2.1 0, 12, .inl (fun _ => 0))), (q4, .inl (E.2.1 0, 12, .inl (fun _ => 0))), (q5, .inl (E.2.1 0, 60, .inl (fun _ => 0)))]) hx hb hts hown hin hK hP hD hS (kl4_24) rfl rfl rfl (Nat.le_of_ble_eq_true rfl) kd4_41 rfl (fun H locs hP hD hS => ?_)
  refine lv_aload_n hx hb kd4_44 rfl (lv_at hl 0 rfl) ?_
  refine lv_bipush (v := 10) hx hb kd4_45 (by decide) ?_
  refine k_newa (N' := 10) (k9 := 6) (n9 := 142) hx hb hts hK hP hD hS hA (by decide) (by decide) (by decide) ⟨rfl, Nat.le_of_ble_eq_true rfl⟩ ⟨rfl, Nat.le_of_ble_eq_true rfl⟩ kd4_47 (fun q6 H hP hD hS => ?_)
  have hP : va_P E.1 vwCl [(h0, .inr (4, [.ref q1, .ref q2, .ref q3, .ref q4, .ref q5, .null, .int 0, .int 0, .int 0, .int 0, .int 0, .int 0, .int 0])), (q1, .inl (E.2.1 0, 12, .inl (fun _ => 0))), (q2, .inl (E.2.1 0, 36, .inl (fun _ => 0))), (q3, .inl (E.2.1 0, 12, .inl (fun _ => 0))), (q4, .inl (E.2.1 0, 12, .inl (fun _ => 0))), (q5, .inl (E.2.1 0, 60, .inl (fun _ => 0))), (q6, .inl (E.2.1 0, 10, .inl (fun _ => 0)))] H := hP
  have hD : va_D A [(h0, .inr (4, [.ref q1, .ref q2, .ref q3, .ref q4, .ref q5, .null, .int 0, .int 0, .int 0, .int 0, .int 0, .int 0, .int 0])), (q1, .inl (E.2.1 0, 12, .inl (fun _ => 0))), (q2, .inl (E.2.1 0, 36, .inl (fun _ => 0))), (q3, .inl (E.2.1 0, 12, .inl (fun _ => 0))), (q4, .inl (E.2.1 0, 12, .inl (fun _ => 0))), (q5, .inl (E.2.1 0, 60, .inl (fun _ => 0))), (q6, .inl (E.2.1 0, 10, .inl (fun _ => 0)))] := hD
  refine k_put (ws1 := [(h0, .inr (4, [.ref q1, .ref q2, .ref q3, .ref q4, .ref q5, .ref q6, .int 0, .int 0, .int 0, .int 0, .int 0, .int 0, .int 0])), (q1, .inl (E.2.1 0, 12, .inl (fun _ => 0))), (q2, .inl (E.2.1 0, 36, .inl (fun _ => 0))), (q3, .inl (E.2.1 0, 12, .inl (fun _ => 0))), (q4, .inl (E.2.1 0, 12, .inl (fun _ => 0))), (q5, .inl (E.2.1 0, 60, .inl (fun _ => 0))), (q6, .inl (E.2.1 0, 10, .inl (fun _ => 0)))]) hx hb hts hown hin hK hP hD hS (kl4_27) rfl rfl rfl (Nat.le_of_ble_eq_true rfl) kd4_49 rfl (fun H locs hP hD hS => ?_)
  refine lv_aload_n hx hb kd4_52 rfl (lv_at hl 0 rfl) ?_
  refine lv_iconst (v := 0) hx hb kd4_53 (by decide) ?_
  refine k_put (ws1 := [(h0, .inr (4, [.ref q1, .ref q2, .ref q3, .ref q4, .ref q5, .ref q6, .int 0, .int 0, .int 0, .int 0, .int 0, .int 0, .int 0])), (q1, .inl (E.2.1 0, 12, .inl (fun _ => 0))), (q2, .inl (E.2.1 0, 36, .inl (fun _ => 0))), (q3, .inl (E.2.1 0, 12, .inl (fun _ => 0))), (q4, .inl (E.2.1 0, 12, .inl (fun _ => 0))), (q5, .inl (E.2.1 0, 60, .inl (fun _ => 0))), (q6, .inl (E.2.1 0, 10, .inl (fun _ => 0)))]) hx hb hts hown hin hK hP hD hS (kl4_30) rfl rfl rfl (Nat.le_of_ble_eq_true rfl) kd4_54 rfl (fun H locs hP hD hS => ?_)
  refine lv_aload_n hx hb kd4_57 rfl (lv_at hl 0 rfl) ?_
  refine lv_iconst (v := 0) hx hb kd4_58 (by decide) ?_
  refine k_put (ws1 := [(h0, .inr (4, [.ref q1, .ref q2, .ref q3, .ref q4, .ref q5, .ref q6, .int 0, .int 0, .int 0, .int 0, .int 0, .int 0, .int 0])), (q1, .inl (E.2.1 0, 12, .inl (fun _ => 0))), (q2, .inl (E.2.1 0, 36, .inl (fun _ => 0))), (q3, .inl (E.2.1 0, 12, .inl (fun _ => 0))), (q4, .inl (E.2.1 0, 12, .inl (fun _ => 0))), (q5, .inl (E.2.1 0, 60, .inl (fun _ => 0))), (q6, .inl (E.2.1 0, 10, .inl (fun _ => 0)))]) hx hb hts hown hin hK hP hD hS (kl4_34) rfl rfl rfl (Nat.le_of_ble_eq_true rfl) kd4_59 rfl (fun H locs hP hD hS => ?_)
  refine lv_aload_n hx hb kd4_62 rfl (lv_at hl 0 rfl) ?_
  refine lv_iconst (v := 0) hx hb kd4_63 (by decide) ?_
  refine k_put (ws1 := [(h0, .inr (4, [.ref q1, .ref q2, .ref q3, .ref q4, .ref q5, .ref q6, .int 0, .int 0, .int 0, .int 0, .int 0, .int 0, .int 0])), (q1, .inl (E.2.1 0, 12, .inl (fun _ => 0))), (q2, .inl (E.2.1 0, 36, .inl (fun _ => 0))), (q3, .inl (E.2.1 0, 12, .inl (fun _ => 0))), (q4, .inl (E.2.1 0, 12, .inl (fun _ => 0))), (q5, .inl (E.2.1 0, 60, .inl (fun _ => 0))), (q6, .inl (E.2.1 0, 10, .inl (fun _ => 0)))]) hx hb hts hown hin hK hP hD hS (kl4_37) rfl rfl rfl (Nat.le_of_ble_eq_true rfl) kd4_64 rfl (fun H locs hP hD hS => ?_)
  refine lv_aload_n hx hb kd4_67 rfl (lv_at hl 0 rfl) ?_
  refine lv_bipush (v := 20) hx hb kd4_68 (by decide) ?_
  refine k_put (ws1 := [(h0, .inr (4, [.ref q1, .ref q2, .ref q3, .ref q4, .ref q5, .ref q6, .int 0, .int 0, .int 0, .int 20, .int 0, .int 0, .int 0])), (q1, .inl (E.2.1 0, 12, .inl (fun _ => 0))), (q2, .inl (E.2.1 0, 36, .inl (fun _ => 0))), (q3, .inl (E.2.1 0, 12, .inl (fun _ => 0))), (q4, .inl (E.2.1 0, 12, .inl (fun _ => 0))), (q5, .inl (E.2.1 0, 60, .inl (fun _ => 0))), (q6, .inl (E.2.1 0, 10, .inl (fun _ => 0)))]) hx hb hts hown hin hK hP hD hS (kl4_40) rfl rfl rfl (Nat.le_of_ble_eq_true rfl) kd4_70 rfl (fun H locs hP hD hS => ?_)
  refine lv_aload_n hx hb kd4_73 rfl (lv_at hl 0 rfl) ?_
  refine lv_iconst (v := 1) hx hb kd4_74 (by decide) ?_
  refine k_put (ws1 := [(h0, .inr (4, [.ref q1, .ref q2, .ref q3, .ref q4, .ref q5, .ref q6, .int 0, .int 0, .int 0, .int 20, .int 1, .int 0, .int 0])), (q1, .inl (E.2.1 0, 12, .inl (fun _ => 0))), (q2, .inl (E.2.1 0, 36, .inl (fun _ => 0))), (q3, .inl (E.2.1 0, 12, .inl (fun _ => 0))), (q4, .inl (E.2.1 0, 12, .inl (fun _ => 0))), (q5, .inl (E.2.1 0, 60, .inl (fun _ => 0))), (q6, .inl (E.2.1 0, 10, .inl (fun _ => 0)))]) hx hb hts hown hin hK hP hD hS (kl4_43) rfl rfl rfl (Nat.le_of_ble_eq_true rfl) kd4_75 rfl (fun H locs hP hD hS => ?_)
  refine lv_aload_n hx hb kd4_78 rfl (lv_at hl 0 rfl) ?_
  refine lv_iconst (v := 0) hx hb kd4_79 (by decide) ?_
  refine k_put (ws1 := [(h0, .inr (4, [.ref q1, .ref q2, .ref q3, .ref q4, .ref q5, .ref q6, .int 0, .int 0, .int 0, .int 20, .int 1, .int 0, .int 0])), (q1, .inl (E.2.1 0, 12, .inl (fun _ => 0))), (q2, .inl (E.2.1 0, 36, .inl (fun _ => 0))), (q3, .inl (E.2.1 0, 12, .inl (fun _ => 0))), (q4, .inl (E.2.1 0, 12, .inl (fun _ => 0))), (q5, .inl (E.2.1 0, 60, .inl (fun _ => 0))), (q6, .inl (E.2.1 0, 10, .inl (fun _ => 0)))]) hx hb hts hown hin hK hP hD hS (kl4_46) rfl rfl rfl (Nat.le_of_ble_eq_true rfl) kd4_80 rfl (fun H locs hP hD hS => ?_)
  refine lv_aload_n hx hb kd4_83 rfl (lv_at hl 0 rfl) ?_
  refine lv_iconst (v := 1) hx hb kd4_84 (by decide) ?_
  refine k_put (ws1 := [(h0, .inr (4, [.ref q1, .ref q2, .ref q3, .ref q4, .ref q5, .ref q6, .int 0, .int 0, .int 0, .int 20, .int 1, .int 0, .int 1])), (q1, .inl (E.2.1 0, 12, .inl (fun _ => 0))), (q2, .inl (E.2.1 0, 36, .inl (fun _ => 0))), (q3, .inl (E.2.1 0, 12, .inl (fun _ => 0))), (q4, .inl (E.2.1 0, 12, .inl (fun _ => 0))), (q5, .inl (E.2.1 0, 60, .inl (fun _ => 0))), (q6, .inl (E.2.1 0, 10, .inl (fun _ => 0)))]) hx hb hts hown hin hK hP hD hS (kl4_49) rfl rfl rfl (Nat.le_of_ble_eq_true rfl) kd4_85 rfl (fun H locs hP hD hS => ?_)
  refine lv_iconst (v := 0) hx hb kd4_88 (by decide) ?_
  refine lv_istore_n hx hb kd4_89 rfl hl (by decide) (lv' := [(1, .int 0), (0, .ref h0)]) rfl (fun ls hl => ?_)
  refine lv_iload_n hx hb kd4_90 rfl (lv_at hl 0 rfl) ?_
  refine lv_bipush (v := 10) hx hb kd4_91 (by decide) ?_
  refine lv_icmp_ge hx hb (tgt := 109) kd4_93 (by decide) (fun c => absurd c (by decide)) (fun _ => ?_)
  refine lv_aload_n hx hb kd4_96 rfl (lv_at hl 1 rfl) ?_
  refine k_get hx hb hts hown hK hP (kg4_27) rfl (v := .ref q6) rfl kd4_97 ?_
  refine lv_iload_n hx hb kd4_100 rfl (lv_at hl 0 rfl) ?_
  refine lv_iconst (v := (-1)) hx hb kd4_101 (by decide) ?_
  refine k_iast (q0 := 6) (k9 := 0) (ws1 := [(h0, .inr (4, [.ref q1, .ref q2, .ref q3, .ref q4, .ref q5, .ref q6, .int 0, .int 0, .int 0, .int 20, .int 1, .int 0, .int 1])), (q1, .inl (E.2.1 0, 12, .inl (fun _ => 0))), (q2, .inl (E.2.1 0, 36, .inl (fun _ => 0))), (q3, .inl (E.2.1 0, 12, .inl (fun _ => 0))), (q4, .inl (E.2.1 0, 12, .inl (fun _ => 0))), (q5, .inl (E.2.1 0, 60, .inl (fun _ => 0))), (q6, .inl (E.2.1 0, 10, .inl (upd (fun _ => 0) 0 (-1))))]) hx hb hK hP hD hS rfl (show vp_in (0 : Int32) 10 from by unfold vp_in; decide) (by decide) kd4_102 rfl (fun H locs hP hD hS => ?_)
  refine lv_iinc (v := 1) hx hb kd4_103 hl (k := 0) rfl (by decide) (by decide) (lv' := [(1, .int 1), (0, .ref h0)]) rfl (fun ls hl => ?_)
  refine lv_goto hx hb (tgt := 90) kd4_106 (by decide) ?_
  refine lv_iload_n hx hb kd4_90 rfl (lv_at hl 0 rfl) ?_
  refine lv_bipush (v := 10) hx hb kd4_91 (by decide) ?_
  refine lv_icmp_ge hx hb (tgt := 109) kd4_93 (by decide) (fun c => absurd c (by decide)) (fun _ => ?_)
  refine lv_aload_n hx hb kd4_96 rfl (lv_at hl 1 rfl) ?_
  refine k_get hx hb hts hown hK hP (kg4_27) rfl (v := .ref q6) rfl kd4_97 ?_
  refine lv_iload_n hx hb kd4_100 rfl (lv_at hl 0 rfl) ?_
  refine lv_iconst (v := (-1)) hx hb kd4_101 (by decide) ?_
  refine k_iast (q0 := 6) (k9 := 1) (ws1 := [(h0, .inr (4, [.ref q1, .ref q2, .ref q3, .ref q4, .ref q5, .ref q6, .int 0, .int 0, .int 0, .int 20, .int 1, .int 0, .int 1])), (q1, .inl (E.2.1 0, 12, .inl (fun _ => 0))), (q2, .inl (E.2.1 0, 36, .inl (fun _ => 0))), (q3, .inl (E.2.1 0, 12, .inl (fun _ => 0))), (q4, .inl (E.2.1 0, 12, .inl (fun _ => 0))), (q5, .inl (E.2.1 0, 60, .inl (fun _ => 0))), (q6, .inl (E.2.1 0, 10, .inl (upd (upd (fun _ => 0) 0 (-1)) 1 (-1))))]) hx hb hK hP hD hS rfl (show vp_in (1 : Int32) 10 from by unfold vp_in; decide) (by decide) kd4_102 rfl (fun H locs hP hD hS => ?_)
  refine lv_iinc (v := 2) hx hb kd4_103 hl (k := 0) rfl (by decide) (by decide) (lv' := [(1, .int 2), (0, .ref h0)]) rfl (fun ls hl => ?_)
  refine lv_goto hx hb (tgt := 90) kd4_106 (by decide) ?_
  refine lv_iload_n hx hb kd4_90 rfl (lv_at hl 0 rfl) ?_
  refine lv_bipush (v := 10) hx hb kd4_91 (by decide) ?_
  refine lv_icmp_ge hx hb (tgt := 109) kd4_93 (by decide) (fun c => absurd c (by decide)) (fun _ => ?_)
  refine lv_aload_n hx hb kd4_96 rfl (lv_at hl 1 rfl) ?_
  refine k_get hx hb hts hown hK hP (kg4_27) rfl (v := .ref q6) rfl kd4_97 ?_
  refine lv_iload_n hx hb kd4_100 rfl (lv_at hl 0 rfl) ?_
  refine lv_iconst (v := (-1)) hx hb kd4_101 (by decide) ?_
  refine k_iast (q0 := 6) (k9 := 2) (ws1 := [(h0, .inr (4, [.ref q1, .ref q2, .ref q3, .ref q4, .ref q5, .ref q6, .int 0, .int 0, .int 0, .int 20, .int 1, .int 0, .int 1])), (q1, .inl (E.2.1 0, 12, .inl (fun _ => 0))), (q2, .inl (E.2.1 0, 36, .inl (fun _ => 0))), (q3, .inl (E.2.1 0, 12, .inl (fun _ => 0))), (q4, .inl (E.2.1 0, 12, .inl (fun _ => 0))), (q5, .inl (E.2.1 0, 60, .inl (fun _ => 0))), (q6, .inl (E.2.1 0, 10, .inl (upd (upd (upd (fun _ => 0) 0 (-1)) 1 (-1)) 2 (-1))))]) hx hb hK hP hD hS rfl (show vp_in (2 : Int32) 10 from by unfold vp_in; decide) (by decide) kd4_102 rfl (fun H locs hP hD hS => ?_)
  refine lv_iinc (v := 3) hx hb kd4_103 hl (k := 0) rfl (by decide) (by decide) (lv' := [(1, .int 3), (0, .ref h0)]) rfl (fun ls hl => ?_)
  refine lv_goto hx hb (tgt := 90) kd4_106 (by decide) ?_
  refine lv_iload_n hx hb kd4_90 rfl (lv_at hl 0 rfl) ?_
  refine lv_bipush (v := 10) hx hb kd4_91 (by decide) ?_
  refine lv_icmp_ge hx hb (tgt := 109) kd4_93 (by decide) (fun c => absurd c (by decide)) (fun _ => ?_)
  refine lv_aload_n hx hb kd4_96 rfl (lv_at hl 1 rfl) ?_
  refine k_get hx hb hts hown hK hP (kg4_27) rfl (v := .ref q6) rfl kd4_97 ?_
  refine lv_iload_n hx hb kd4_100 rfl (lv_at hl 0 rfl) ?_
  refine lv_iconst (v := (-1)) hx hb kd4_101 (by decide) ?_
  refine k_iast (q0 := 6) (k9 := 3) (ws1 := [(h0, .inr (4, [.ref q1, .ref q2, .ref q3, .ref q4, .ref q5, .ref q6, .int 0, .int 0, .int 0, .int 20, .int 1, .int 0, .int 1])), (q1, .inl (E.2.1 0, 12, .inl (fun _ => 0))), (q2, .inl (E.2.1 0, 36, .inl (fun _ => 0))), (q3, .inl (E.2.1 0, 12, .inl (fun _ => 0))), (q4, .inl (E.2.1 0, 12, .inl (fun _ => 0))), (q5, .inl (E.2.1 0, 60, .inl (fun _ => 0))), (q6, .inl (E.2.1 0, 10, .inl (upd (upd (upd (upd (fun _ => 0) 0 (-1)) 1 (-1)) 2 (-1)) 3 (-1))))]) hx hb hK hP hD hS rfl (show vp_in (3 : Int32) 10 from by unfold vp_in; decide) (by decide) kd4_102 rfl (fun H locs hP hD hS => ?_)
  refine lv_iinc (v := 4) hx hb kd4_103 hl (k := 0) rfl (by decide) (by decide) (lv' := [(1, .int 4), (0, .ref h0)]) rfl (fun ls hl => ?_)
  refine lv_goto hx hb (tgt := 90) kd4_106 (by decide) ?_
  refine lv_iload_n hx hb kd4_90 rfl (lv_at hl 0 rfl) ?_
  refine lv_bipush (v := 10) hx hb kd4_91 (by decide) ?_
  refine lv_icmp_ge hx hb (tgt := 109) kd4_93 (by decide) (fun c => absurd c (by decide)) (fun _ => ?_)
  refine lv_aload_n hx hb kd4_96 rfl (lv_at hl 1 rfl) ?_
  refine k_get hx hb hts hown hK hP (kg4_27) rfl (v := .ref q6) rfl kd4_97 ?_
  refine lv_iload_n hx hb kd4_100 rfl (lv_at hl 0 rfl) ?_
  refine lv_iconst (v := (-1)) hx hb kd4_101 (by decide) ?_
  refine k_iast (q0 := 6) (k9 := 4) (ws1 := [(h0, .inr (4, [.ref q1, .ref q2, .ref q3, .ref q4, .ref q5, .ref q6, .int 0, .int 0, .int 0, .int 20, .int 1, .int 0, .int 1])), (q1, .inl (E.2.1 0, 12, .inl (fun _ => 0))), (q2, .inl (E.2.1 0, 36, .inl (fun _ => 0))), (q3, .inl (E.2.1 0, 12, .inl (fun _ => 0))), (q4, .inl (E.2.1 0, 12, .inl (fun _ => 0))), (q5, .inl (E.2.1 0, 60, .inl (fun _ => 0))), (q6, .inl (E.2.1 0, 10, .inl (upd (upd (upd (upd (upd (fun _ => 0) 0 (-1)) 1 (-1)) 2 (-1)) 3 (-1)) 4 (-1))))]) hx hb hK hP hD hS rfl (show vp_in (4 : Int32) 10 from by unfold vp_in; decide) (by decide) kd4_102 rfl (fun H locs hP hD hS => ?_)
  refine lv_iinc (v := 5) hx hb kd4_103 hl (k := 0) rfl (by decide) (by decide) (lv' := [(1, .int 5), (0, .ref h0)]) rfl (fun ls hl => ?_)
  refine lv_goto hx hb (tgt := 90) kd4_106 (by decide) ?_
  refine lv_iload_n hx hb kd4_90 rfl (lv_at hl 0 rfl) ?_
  refine lv_bipush (v := 10) hx hb kd4_91 (by decide) ?_
  refine lv_icmp_ge hx hb (tgt := 109) kd4_93 (by decide) (fun c => absurd c (by decide)) (fun _ => ?_)
  refine lv_aload_n hx hb kd4_96 rfl (lv_at hl 1 rfl) ?_
  refine k_get hx hb hts hown hK hP (kg4_27) rfl (v := .ref q6) rfl kd4_97 ?_
  refine lv_iload_n hx hb kd4_100 rfl (lv_at hl 0 rfl) ?_
  refine lv_iconst (v := (-1)) hx hb kd4_101 (by decide) ?_
  refine k_iast (q0 := 6) (k9 := 5) (ws1 := [(h0, .inr (4, [.ref q1, .ref q2, .ref q3, .ref q4, .ref q5, .ref q6, .int 0, .int 0, .int 0, .int 20, .int 1, .int 0, .int 1])), (q1, .inl (E.2.1 0, 12, .inl (fun _ => 0))), (q2, .inl (E.2.1 0, 36, .inl (fun _ => 0))), (q3, .inl (E.2.1 0, 12, .inl (fun _ => 0))), (q4, .inl (E.2.1 0, 12, .inl (fun _ => 0))), (q5, .inl (E.2.1 0, 60, .inl (fun _ => 0))), (q6, .inl (E.2.1 0, 10, .inl (upd (upd (upd (upd (upd (upd (fun _ => 0) 0 (-1)) 1 (-1)) 2 (-1)) 3 (-1)) 4 (-1)) 5 (-1))))]) hx hb hK hP hD hS rfl (show vp_in (5 : Int32) 10 from by unfold vp_in; decide) (by decide) kd4_102 rfl (fun H locs hP hD hS => ?_)
  refine lv_iinc (v := 6) hx hb kd4_103 hl (k := 0) rfl (by decide) (by decide) (lv' := [(1, .int 6), (0, .ref h0)]) rfl (fun ls hl => ?_)
  refine lv_goto hx hb (tgt := 90) kd4_106 (by decide) ?_
  refine lv_iload_n hx hb kd4_90 rfl (lv_at hl 0 rfl) ?_
  refine lv_bipush (v := 10) hx hb kd4_91 (by decide) ?_
  refine lv_icmp_ge hx hb (tgt := 109) kd4_93 (by decide) (fun c => absurd c (by decide)) (fun _ => ?_)
  refine lv_aload_n hx hb kd4_96 rfl (lv_at hl 1 rfl) ?_
  refine k_get hx hb hts hown hK hP (kg4_27) rfl (v := .ref q6) rfl kd4_97 ?_
  refine lv_iload_n hx hb kd4_100 rfl (lv_at hl 0 rfl) ?_
  refine lv_iconst (v := (-1)) hx hb kd4_101 (by decide) ?_
  refine k_iast (q0 := 6) (k9 := 6) (ws1 := [(h0, .inr (4, [.ref q1, .ref q2, .ref q3, .ref q4, .ref q5, .ref q6, .int 0, .int 0, .int 0, .int 20, .int 1, .int 0, .int 1])), (q1, .inl (E.2.1 0, 12, .inl (fun _ => 0))), (q2, .inl (E.2.1 0, 36, .inl (fun _ => 0))), (q3, .inl (E.2.1 0, 12, .inl (fun _ => 0))), (q4, .inl (E.2.1 0, 12, .inl (fun _ => 0))), (q5, .inl (E.2.1 0, 60, .inl (fun _ => 0))), (q6, .inl (E.2.1 0, 10, .inl (upd (upd (upd (upd (upd (upd (upd (fun _ => 0) 0 (-1)) 1 (-1)) 2 (-1)) 3 (-1)) 4 (-1)) 5 (-1)) 6 (-1))))]) hx hb hK hP hD hS rfl (show vp_in (6 : Int32) 10 from by unfold vp_in; decide) (by decide) kd4_102 rfl (fun H locs hP hD hS => ?_)
  refine lv_iinc (v := 7) hx hb kd4_103 hl (k := 0) rfl (by decide) (by decide) (lv' := [(1, .int 7), (0, .ref h0)]) rfl (fun ls hl => ?_)
  refine lv_goto hx hb (tgt := 90) kd4_106 (by decide) ?_
  refine lv_iload_n hx hb kd4_90 rfl (lv_at hl 0 rfl) ?_
  refine lv_bipush (v := 10) hx hb kd4_91 (by decide) ?_
  refine lv_icmp_ge hx hb (tgt := 109) kd4_93 (by decide) (fun c => absurd c (by decide)) (fun _ => ?_)
  refine lv_aload_n hx hb kd4_96 rfl (lv_at hl 1 rfl) ?_
  refine k_get hx hb hts hown hK hP (kg4_27) rfl (v := .ref q6) rfl kd4_97 ?_
  refine lv_iload_n hx hb kd4_100 rfl (lv_at hl 0 rfl) ?_
  refine lv_iconst (v := (-1)) hx hb kd4_101 (by decide) ?_
  refine k_iast (q0 := 6) (k9 := 7) (ws1 := [(h0, .inr (4, [.ref q1, .ref q2, .ref q3, .ref q4, .ref q5, .ref q6, .int 0, .int 0, .int 0, .int 20, .int 1, .int 0, .int 1])), (q1, .inl (E.2.1 0, 12, .inl (fun _ => 0))), (q2, .inl (E.2.1 0, 36, .inl (fun _ => 0))), (q3, .inl (E.2.1 0, 12, .inl (fun _ => 0))), (q4, .inl (E.2.1 0, 12, .inl (fun _ => 0))), (q5, .inl (E.2.1 0, 60, .inl (fun _ => 0))), (q6, .inl (E.2.1 0, 10, .inl (upd (upd (upd (upd (upd (upd (upd (upd (fun _ => 0) 0 (-1)) 1 (-1)) 2 (-1)) 3 (-1)) 4 (-1)) 5 (-1)) 6 (-1)) 7 (-1))))]) hx hb hK hP hD hS rfl (show vp_in (7 : Int32) 10 from by unfold vp_in; decide) (by decide) kd4_102 rfl (fun H locs hP hD hS => ?_)
  refine lv_iinc (v := 8) hx hb kd4_103 hl (k := 0) rfl (by decide) (by decide) (lv' := [(1, .int 8), (0, .ref h0)]) rfl (fun ls hl => ?_)
  refine lv_goto hx hb (tgt := 90) kd4_106 (by decide) ?_
  refine lv_iload_n hx hb kd4_90 rfl (lv_at hl 0 rfl) ?_
  refine lv_bipush (v := 10) hx hb kd4_91 (by decide) ?_
  refine lv_icmp_ge hx hb (tgt := 109) kd4_93 (by decide) (fun c => absurd c (by decide)) (fun _ => ?_)
  refine lv_aload_n hx hb kd4_96 rfl (lv_at hl 1 rfl) ?_
  refine k_get hx hb hts hown hK hP (kg4_27) rfl (v := .ref q6) rfl kd4_97 ?_
  refine lv_iload_n hx hb kd4_100 rfl (lv_at hl 0 rfl) ?_
  refine lv_iconst (v := (-1)) hx hb kd4_101 (by decide) ?_
  refine k_iast (q0 := 6) (k9 := 8) (ws1 := [(h0, .inr (4, [.ref q1, .ref q2, .ref q3, .ref q4, .ref q5, .ref q6, .int 0, .int 0, .int 0, .int 20, .int 1, .int 0, .int 1])), (q1, .inl (E.2.1 0, 12, .inl (fun _ => 0))), (q2, .inl (E.2.1 0, 36, .inl (fun _ => 0))), (q3, .inl (E.2.1 0, 12, .inl (fun _ => 0))), (q4, .inl (E.2.1 0, 12, .inl (fun _ => 0))), (q5, .inl (E.2.1 0, 60, .inl (fun _ => 0))), (q6, .inl (E.2.1 0, 10, .inl (upd (upd (upd (upd (upd (upd (upd (upd (upd (fun _ => 0) 0 (-1)) 1 (-1)) 2 (-1)) 3 (-1)) 4 (-1)) 5 (-1)) 6 (-1)) 7 (-1)) 8 (-1))))]) hx hb hK hP hD hS rfl (show vp_in (8 : Int32) 10 from by unfold vp_in; decide) (by decide) kd4_102 rfl (fun H locs hP hD hS => ?_)
  refine lv_iinc (v := 9) hx hb kd4_103 hl (k := 0) rfl (by decide) (by decide) (lv' := [(1, .int 9), (0, .ref h0)]) rfl (fun ls hl => ?_)
  refine lv_goto hx hb (tgt := 90) kd4_106 (by decide) ?_
  refine lv_iload_n hx hb kd4_90 rfl (lv_at hl 0 rfl) ?_
  refine lv_bipush (v := 10) hx hb kd4_91 (by decide) ?_
  refine lv_icmp_ge hx hb (tgt := 109) kd4_93 (by decide) (fun c => absurd c (by decide)) (fun _ => ?_)
  refine lv_aload_n hx hb kd4_96 rfl (lv_at hl 1 rfl) ?_
  refine k_get hx hb hts hown hK hP (kg4_27) rfl (v := .ref q6) rfl kd4_97 ?_
  refine lv_iload_n hx hb kd4_100 rfl (lv_at hl 0 rfl) ?_
  refine lv_iconst (v := (-1)) hx hb kd4_101 (by decide) ?_
  refine k_iast (q0 := 6) (k9 := 9) (ws1 := [(h0, .inr (4, [.ref q1, .ref q2, .ref q3, .ref q4, .ref q5, .ref q6, .int 0, .int 0, .int 0, .int 20, .int 1, .int 0, .int 1])), (q1, .inl (E.2.1 0, 12, .inl (fun _ => 0))), (q2, .inl (E.2.1 0, 36, .inl (fun _ => 0))), (q3, .inl (E.2.1 0, 12, .inl (fun _ => 0))), (q4, .inl (E.2.1 0, 12, .inl (fun _ => 0))), (q5, .inl (E.2.1 0, 60, .inl (fun _ => 0))), (q6, .inl (E.2.1 0, 10, .inl (upd (upd (upd (upd (upd (upd (upd (upd (upd (upd (fun _ => 0) 0 (-1)) 1 (-1)) 2 (-1)) 3 (-1)) 4 (-1)) 5 (-1)) 6 (-1)) 7 (-1)) 8 (-1)) 9 (-1))))]) hx hb hK hP hD hS rfl (show vp_in (9 : Int32) 10 from by unfold vp_in; decide) (by decide) kd4_102 rfl (fun H locs hP hD hS => ?_)
  refine lv_iinc (v := 10) hx hb kd4_103 hl (k := 0) rfl (by decide) (by decide) (lv' := [(1, .int 10), (0, .ref h0)]) rfl (fun ls hl => ?_)
  refine lv_goto hx hb (tgt := 90) kd4_106 (by decide) ?_
  refine lv_iload_n hx hb kd4_90 rfl (lv_at hl 0 rfl) ?_
  refine lv_bipush (v := 10) hx hb kd4_91 (by decide) ?_
  refine lv_icmp_ge hx hb (tgt := 109) kd4_93 (by decide) (fun _ => ?_) (fun c => absurd (by decide) c)
  exact k_ret (Wf := kW4 E h0) (fun i => ([q1, q2, q3, q4, q5, q6] : List Nat).getD i 0) hx hb hr hlocks hP hD hS kd4_109
theorem kd2_0 : decode cX2_init 0 = .ok (.aload_n 0, 1) := by decide +kernel
theorem kd2_1 : decode cX2_init 1 = .ok (.invokespecial 3, 3) := by decide +kernel
theorem kd2_4 : decode cX2_init 4 = .ok (.aload_n 0, 1) := by decide +kernel
theorem kd2_5 : decode cX2_init 5 = .ok (.bipush 36, 2) := by decide +kernel
theorem kd2_7 : decode cX2_init 7 = .ok (.newarray .int, 2) := by decide +kernel
theorem kd2_9 : decode cX2_init 9 = .ok (.putfield 9, 3) := by decide +kernel
theorem kd2_12 : decode cX2_init 12 = .ok (.aload_n 0, 1) := by decide +kernel
theorem kd2_13 : decode cX2_init 13 = .ok (.bipush 36, 2) := by decide +kernel
theorem kd2_15 : decode cX2_init 15 = .ok (.newarray .int, 2) := by decide +kernel
theorem kd2_17 : decode cX2_init 17 = .ok (.putfield 15, 3) := by decide +kernel
theorem kd2_20 : decode cX2_init 20 = .ok (.aload_n 0, 1) := by decide +kernel
theorem kd2_21 : decode cX2_init 21 = .ok (.bipush 12, 2) := by decide +kernel
theorem kd2_23 : decode cX2_init 23 = .ok (.newarray .int, 2) := by decide +kernel
theorem kd2_25 : decode cX2_init 25 = .ok (.putfield 18, 3) := by decide +kernel
theorem kd2_28 : decode cX2_init 28 = .ok (.aload_n 0, 1) := by decide +kernel
theorem kd2_29 : decode cX2_init 29 = .ok (.iconst 3, 1) := by decide +kernel
theorem kd2_30 : decode cX2_init 30 = .ok (.newarray .int, 2) := by decide +kernel
theorem kd2_32 : decode cX2_init 32 = .ok (.putfield 21, 3) := by decide +kernel
theorem kd2_35 : decode cX2_init 35 = .ok (.aload_n 0, 1) := by decide +kernel
theorem kd2_36 : decode cX2_init 36 = .ok (.iconst 0, 1) := by decide +kernel
theorem kd2_37 : decode cX2_init 37 = .ok (.putfield 24, 3) := by decide +kernel
theorem kd2_40 : decode cX2_init 40 = .ok (.return_, 1) := by decide +kernel
theorem kl2_9 : ∃ (C : String) (T : u_T) (N : Nat), vwCl[2]? = some (C, T, N) ∧ 0 < N ∧ (∀ w ∈ u_ws C T N, w ∈ zT) ∧ Cond.fieldLink RX2 9 (T 0).1 (T 0).2.1 (T 0).2.2.1 ∈ zT ∧ (T 0).1 = RX2 ∧ parseFieldDescriptor (T 0).2.2.1 = some (tyX2 0) ∧ (∀ a, a < N → ∀ b, b < N → a ≠ b → (T a).2.1 ≠ (T b).2.1) ∧ ∃ ty0 : Nat → FieldType, ∀ k, k < N → parseFieldDescriptor (T k).2.2.1 = some (ty0 k) := ⟨RX2, TX2, 5, rfl, by decide, zcl_2, zT_in 197 (by decide +kernel) rfl, rfl, tyX2_ok 0 (by decide), nmX2, tyX2, tyX2_ok⟩
theorem kg2_9 : ∃ (C : String) (T : u_T) (N : Nat), vwCl[2]? = some (C, T, N) ∧ 0 < N ∧ (∀ w ∈ u_ws C T N, w ∈ zT) ∧ Cond.fieldLink RX2 9 (T 0).1 (T 0).2.1 (T 0).2.2.1 ∈ zT := ⟨RX2, TX2, 5, rfl, by decide, zcl_2, zT_in 197 (by decide +kernel) rfl⟩
theorem kl2_15 : ∃ (C : String) (T : u_T) (N : Nat), vwCl[2]? = some (C, T, N) ∧ 1 < N ∧ (∀ w ∈ u_ws C T N, w ∈ zT) ∧ Cond.fieldLink RX2 15 (T 1).1 (T 1).2.1 (T 1).2.2.1 ∈ zT ∧ (T 1).1 = RX2 ∧ parseFieldDescriptor (T 1).2.2.1 = some (tyX2 1) ∧ (∀ a, a < N → ∀ b, b < N → a ≠ b → (T a).2.1 ≠ (T b).2.1) ∧ ∃ ty0 : Nat → FieldType, ∀ k, k < N → parseFieldDescriptor (T k).2.2.1 = some (ty0 k) := ⟨RX2, TX2, 5, rfl, by decide, zcl_2, zT_in 198 (by decide +kernel) rfl, rfl, tyX2_ok 1 (by decide), nmX2, tyX2, tyX2_ok⟩
theorem kg2_15 : ∃ (C : String) (T : u_T) (N : Nat), vwCl[2]? = some (C, T, N) ∧ 1 < N ∧ (∀ w ∈ u_ws C T N, w ∈ zT) ∧ Cond.fieldLink RX2 15 (T 1).1 (T 1).2.1 (T 1).2.2.1 ∈ zT := ⟨RX2, TX2, 5, rfl, by decide, zcl_2, zT_in 198 (by decide +kernel) rfl⟩
theorem kl2_18 : ∃ (C : String) (T : u_T) (N : Nat), vwCl[2]? = some (C, T, N) ∧ 2 < N ∧ (∀ w ∈ u_ws C T N, w ∈ zT) ∧ Cond.fieldLink RX2 18 (T 2).1 (T 2).2.1 (T 2).2.2.1 ∈ zT ∧ (T 2).1 = RX2 ∧ parseFieldDescriptor (T 2).2.2.1 = some (tyX2 2) ∧ (∀ a, a < N → ∀ b, b < N → a ≠ b → (T a).2.1 ≠ (T b).2.1) ∧ ∃ ty0 : Nat → FieldType, ∀ k, k < N → parseFieldDescriptor (T k).2.2.1 = some (ty0 k) := ⟨RX2, TX2, 5, rfl, by decide, zcl_2, zT_in 199 (by decide +kernel) rfl, rfl, tyX2_ok 2 (by decide), nmX2, tyX2, tyX2_ok⟩
theorem kg2_18 : ∃ (C : String) (T : u_T) (N : Nat), vwCl[2]? = some (C, T, N) ∧ 2 < N ∧ (∀ w ∈ u_ws C T N, w ∈ zT) ∧ Cond.fieldLink RX2 18 (T 2).1 (T 2).2.1 (T 2).2.2.1 ∈ zT := ⟨RX2, TX2, 5, rfl, by decide, zcl_2, zT_in 199 (by decide +kernel) rfl⟩
theorem kl2_21 : ∃ (C : String) (T : u_T) (N : Nat), vwCl[2]? = some (C, T, N) ∧ 3 < N ∧ (∀ w ∈ u_ws C T N, w ∈ zT) ∧ Cond.fieldLink RX2 21 (T 3).1 (T 3).2.1 (T 3).2.2.1 ∈ zT ∧ (T 3).1 = RX2 ∧ parseFieldDescriptor (T 3).2.2.1 = some (tyX2 3) ∧ (∀ a, a < N → ∀ b, b < N → a ≠ b → (T a).2.1 ≠ (T b).2.1) ∧ ∃ ty0 : Nat → FieldType, ∀ k, k < N → parseFieldDescriptor (T k).2.2.1 = some (ty0 k) := ⟨RX2, TX2, 5, rfl, by decide, zcl_2, zT_in 200 (by decide +kernel) rfl, rfl, tyX2_ok 3 (by decide), nmX2, tyX2, tyX2_ok⟩
theorem kg2_21 : ∃ (C : String) (T : u_T) (N : Nat), vwCl[2]? = some (C, T, N) ∧ 3 < N ∧ (∀ w ∈ u_ws C T N, w ∈ zT) ∧ Cond.fieldLink RX2 21 (T 3).1 (T 3).2.1 (T 3).2.2.1 ∈ zT := ⟨RX2, TX2, 5, rfl, by decide, zcl_2, zT_in 200 (by decide +kernel) rfl⟩
theorem kl2_24 : ∃ (C : String) (T : u_T) (N : Nat), vwCl[2]? = some (C, T, N) ∧ 4 < N ∧ (∀ w ∈ u_ws C T N, w ∈ zT) ∧ Cond.fieldLink RX2 24 (T 4).1 (T 4).2.1 (T 4).2.2.1 ∈ zT ∧ (T 4).1 = RX2 ∧ parseFieldDescriptor (T 4).2.2.1 = some (tyX2 4) ∧ (∀ a, a < N → ∀ b, b < N → a ≠ b → (T a).2.1 ≠ (T b).2.1) ∧ ∃ ty0 : Nat → FieldType, ∀ k, k < N → parseFieldDescriptor (T k).2.2.1 = some (ty0 k) := ⟨RX2, TX2, 5, rfl, by decide, zcl_2, zT_in 202 (by decide +kernel) rfl, rfl, tyX2_ok 4 (by decide), nmX2, tyX2, tyX2_ok⟩
theorem kg2_24 : ∃ (C : String) (T : u_T) (N : Nat), vwCl[2]? = some (C, T, N) ∧ 4 < N ∧ (∀ w ∈ u_ws C T N, w ∈ zT) ∧ Cond.fieldLink RX2 24 (T 4).1 (T 4).2.1 (T 4).2.2.1 ∈ zT := ⟨RX2, TX2, 5, rfl, by decide, zcl_2, zT_in 202 (by decide +kernel) rfl⟩
def kw2 (h : Nat) : va_W := [(h, .inr (2, [.null, .null, .null, .null, .int 0]))]
def kW2 (E : zE) (h : Nat) (f : Nat → Nat) : va_W := [(h, .inr (2, [.ref (f 0), .ref (f 1), .ref (f 2), .ref (f 3), .int 0])), ((f 0), .inl (E.2.1 0, 36, .inl (fun _ => 0))), ((f 1), .inl (E.2.1 0, 36, .inl (fun _ => 0))), ((f 2), .inl (E.2.1 0, 12, .inl (fun _ => 0))), ((f 3), .inl (E.2.1 0, 3, .inl (fun _ => 0)))]
set_option maxRecDepth 20000 in
theorem k_init2 : kCt 1 4 87 yX2_init cX2_init 1 kw2 kW2 := by
  refine kCt.of (by decide) rfl (by decide) ?_
  intro p l e s m args below meth c E h0 A ls hx hb hml hr hlocks hin hown hts hK hA hRo hO hP hD hS hl
  have hown : s.vm.findClass RX2 = some m.cls := hown
  have hP : va_P E.1 vwCl [(h0, .inr (2, [.null, .null, .null, .null, .int 0]))] s.heap := hP
  have hD : va_D A [(h0, .inr (2, [.null, .null, .null, .null, .int 0]))] := hD
  refine lv_aload_n hx hb kd2_0 rfl (lv_at hl 0 rfl) ?_
  refine k_objInit hx hb hts hown hml hl.1 (zT_in 196 (by decide +kernel) rfl) ⟨by decide, by decide⟩ (Nat.le_of_ble_eq_true rfl) kd2_1 ?_
  refine lv_aload_n hx hb kd2_4 rfl (lv_at hl 0 rfl) ?_
  refine lv_bipush (v := 36) hx hb kd2_5 (by decide) ?_
  refine k_newa (N' := 36) (k9 := 1) (n9 := 36) hx hb hts hK hP hD hS hA (by decide) (by decide) (by decide) ⟨rfl, Nat.le_of_ble_eq_true rfl⟩ ⟨rfl, Nat.le_of_ble_eq_true rfl⟩ kd2_7 (fun q1 H hP hD hS => ?_)
  have hP : va_P E.1 vwCl [(h0, .inr (2, [.null, .null, .null, .null, .int 0])), (q1, .inl (E.2.1 0, 36, .inl (fun _ => 0)))] H := hP
  have hD : va_D A [(h0, .inr (2, [.null, .null, .null, .null, .int 0])), (q1, .inl (E.2.1 0, 36, .inl (fun _ => 0)))] := hD
  refine k_put (ws1 := [(h0, .inr (2, [.ref q1, .null, .null, .null, .int 0])), (q1, .inl (E.2.1 0, 36, .inl (fun _ => 0)))]) hx hb hts hown hin hK hP hD hS (kl2_9) rfl rfl rfl (Nat.le_of_ble_eq_true rfl) kd2_9 rfl (fun H locs hP hD hS => ?_)
  refine lv_aload_n hx hb kd2_12 rfl (lv_at hl 0 rfl) ?_
  refine lv_bipush (v := 36) hx hb kd2_13 (by decide) ?_
  refine k_newa (N' := 36) (k9 := 2) (n9 := 72) hx hb hts hK hP hD hS hA (by decide) (by decide) (by decide) ⟨rfl, Nat.le_of_ble_eq_true rfl⟩ ⟨rfl, Nat.le_of_ble_eq_true rfl⟩ kd2_15 (fun q2 H hP hD hS => ?_)
  have hP : va_P E.1 vwCl [(h0, .inr (2, [.ref q1, .null, .null, .null, .int 0])), (q1, .inl (E.2.1 0, 36, .inl (fun _ => 0))), (q2, .inl (E.2.1 0, 36, .inl (fun _ => 0)))] H := hP
  have hD : va_D A [(h0, .inr (2, [.ref q1, .null, .null, .null, .int 0])), (q1, .inl (E.2.1 0, 36, .inl (fun _ => 0))), (q2, .inl (E.2.1 0, 36, .inl (fun _ => 0)))] := hD
  refine k_put (ws1 := [(h0, .inr (2, [.ref q1, .ref q2, .null, .null, .int 0])), (q1, .inl (E.2.1 0, 36, .inl (fun _ => 0))), (q2, .inl (E.2.1 0, 36, .inl (fun _ => 0)))]) hx hb hts hown hin hK hP hD hS (kl2_15) rfl rfl rfl (Nat.le_of_ble_eq_true rfl) kd2_17 rfl (fun H locs hP hD hS => ?_)
  refine lv_aload_n hx hb kd2_20 rfl (lv_at hl 0 rfl) ?_
  refine lv_bipush (v := 12) hx hb kd2_21 (by decide) ?_
  refine k_newa (N' := 12) (k9 := 3) (n9 := 84) hx hb hts hK hP hD hS hA (by decide) (by decide) (by decide) ⟨rfl, Nat.le_of_ble_eq_true rfl⟩ ⟨rfl, Nat.le_of_ble_eq_true rfl⟩ kd2_23 (fun q3 H hP hD hS => ?_)
  have hP : va_P E.1 vwCl [(h0, .inr (2, [.ref q1, .ref q2, .null, .null, .int 0])), (q1, .inl (E.2.1 0, 36, .inl (fun _ => 0))), (q2, .inl (E.2.1 0, 36, .inl (fun _ => 0))), (q3, .inl (E.2.1 0, 12, .inl (fun _ => 0)))] H := hP
  have hD : va_D A [(h0, .inr (2, [.ref q1, .ref q2, .null, .null, .int 0])), (q1, .inl (E.2.1 0, 36, .inl (fun _ => 0))), (q2, .inl (E.2.1 0, 36, .inl (fun _ => 0))), (q3, .inl (E.2.1 0, 12, .inl (fun _ => 0)))] := hD
  refine k_put (ws1 := [(h0, .inr (2, [.ref q1, .ref q2, .ref q3, .null, .int 0])), (q1, .inl (E.2.1 0, 36, .inl (fun _ => 0))), (q2, .inl (E.2.1 0, 36, .inl (fun _ => 0))), (q3, .inl (E.2.1 0, 12, .inl (fun _ => 0)))]) hx hb hts hown hin hK hP hD hS (kl2_18) rfl rfl rfl (Nat.le_of_ble_eq_true rfl) kd2_25 rfl (fun H locs hP hD hS => ?_)
  refine lv_aload_n hx hb kd2_28 rfl (lv_at hl 0 rfl) ?_
  refine lv_iconst (v := 3) hx hb kd2_29 (by decide) ?_
  refine k_newa (N' := 3) (k9 := 4) (n9 := 87) hx hb hts hK hP hD hS hA (by decide) (by decide) (by decide) ⟨rfl, Nat.le_of_ble_eq_true rfl⟩ ⟨rfl, Nat.le_of_ble_eq_true rfl⟩ kd2_30 (fun q4 H hP hD hS => ?_)
  have hP : va_P E.1 vwCl [(h0, .inr (2, [.ref q1, .ref q2, .ref q3, .null, .int 0])), (q1, .inl (E.2.1 0, 36, .inl (fun _ => 0))), (q2, .inl (E.2.1 0, 36, .inl (fun _ => 0))), (q3, .inl (E.2.1 0, 12, .inl (fun _ => 0))), (q4, .inl (E.2.1 0, 3, .inl (fun _ => 0)))] H := hP
  have hD : va_D A [(h0, .inr (2, [.ref q1, .ref q2, .ref q3, .null, .int 0])), (q1, .inl (E.2.1 0, 36, .inl (fun _ => 0))), (q2, .inl (E.2.1 0, 36, .inl (fun _ => 0))), (q3, .inl (E.2.1 0, 12, .inl (fun _ => 0))), (q4, .inl (E.2.1 0, 3, .inl (fun _ => 0)))] := hD
  refine k_put (ws1 := [(h0, .inr (2, [.ref q1, .ref q2, .ref q3, .ref q4, .int 0])), (q1, .inl (E.2.1 0, 36, .inl (fun _ => 0))), (q2, .inl (E.2.1 0, 36, .inl (fun _ => 0))), (q3, .inl (E.2.1 0, 12, .inl (fun _ => 0))), (q4, .inl (E.2.1 0, 3, .inl (fun _ => 0)))]) hx hb hts hown hin hK hP hD hS (kl2_21) rfl rfl rfl (Nat.le_of_ble_eq_true rfl) kd2_32 rfl (fun H locs hP hD hS => ?_)
  refine lv_aload_n hx hb kd2_35 rfl (lv_at hl 0 rfl) ?_
  refine lv_iconst (v := 0) hx hb kd2_36 (by decide) ?_
  refine k_put (ws1 := [(h0, .inr (2, [.ref q1, .ref q2, .ref q3, .ref q4, .int 0])), (q1, .inl (E.2.1 0, 36, .inl (fun _ => 0))), (q2, .inl (E.2.1 0, 36, .inl (fun _ => 0))), (q3, .inl (E.2.1 0, 12, .inl (fun _ => 0))), (q4, .inl (E.2.1 0, 3, .inl (fun _ => 0)))]) hx hb hts hown hin hK hP hD hS (kl2_24) rfl rfl rfl (Nat.le_of_ble_eq_true rfl) kd2_37 rfl (fun H locs hP hD hS => ?_)
  exact k_ret (Wf := kW2 E h0) (fun i => ([q1, q2, q3, q4] : List Nat).getD i 0) hx hb hr hlocks hP hD hS kd2_40
theorem kd3_0 : decode cX3_init 0 = .ok (.aload_n 0, 1) := by decide +kernel
theorem kd3_1 : decode cX3_init 1 = .ok (.invokespecial 3, 3) := by decide +kernel
theorem kd3_4 : decode cX3_init 4 = .ok (.aload_n 0, 1) := by decide +kernel
theorem kd3_5 : decode cX3_init 5 = .ok (.bipush 120, 2) := by decide +kernel
theorem kd3_7 : decode cX3_init 7 = .ok (.newarray .int, 2) := by decide +kernel
theorem kd3_9 : decode cX3_init 9 = .ok (.putfield 9, 3) := by decide +kernel
theorem kd3_12 : decode cX3_init 12 = .ok (.aload_n 0, 1) := by decide +kernel
theorem kd3_13 : decode cX3_init 13 = .ok (.bipush 121, 2) := by decide +kernel
theorem kd3_15 : decode cX3_init 15 = .ok (.newarray .int, 2) := by decide +kernel
theorem kd3_17 : decode cX3_init 17 = .ok (.putfield 15, 3) := by decide +kernel
theorem kd3_20 : decode cX3_init 20 = .ok (.aload_n 0, 1) := by decide +kernel
theorem kd3_21 : decode cX3_init 21 = .ok (.bipush 121, 2) := by decide +kernel
theorem kd3_23 : decode cX3_init 23 = .ok (.newarray .int, 2) := by decide +kernel
theorem kd3_25 : decode cX3_init 25 = .ok (.putfield 18, 3) := by decide +kernel
theorem kd3_28 : decode cX3_init 28 = .ok (.aload_n 0, 1) := by decide +kernel
theorem kd3_29 : decode cX3_init 29 = .ok (.bipush 121, 2) := by decide +kernel
theorem kd3_31 : decode cX3_init 31 = .ok (.newarray .int, 2) := by decide +kernel
theorem kd3_33 : decode cX3_init 33 = .ok (.putfield 21, 3) := by decide +kernel
theorem kd3_36 : decode cX3_init 36 = .ok (.aload_n 0, 1) := by decide +kernel
theorem kd3_37 : decode cX3_init 37 = .ok (.iconst 0, 1) := by decide +kernel
theorem kd3_38 : decode cX3_init 38 = .ok (.putfield 24, 3) := by decide +kernel
theorem kd3_41 : decode cX3_init 41 = .ok (.aload_n 0, 1) := by decide +kernel
theorem kd3_42 : decode cX3_init 42 = .ok (.iconst 0, 1) := by decide +kernel
theorem kd3_43 : decode cX3_init 43 = .ok (.putfield 28, 3) := by decide +kernel
theorem kd3_46 : decode cX3_init 46 = .ok (.aload_n 0, 1) := by decide +kernel
theorem kd3_47 : decode cX3_init 47 = .ok (.iconst 0, 1) := by decide +kernel
theorem kd3_48 : decode cX3_init 48 = .ok (.putfield 31, 3) := by decide +kernel
theorem kd3_51 : decode cX3_init 51 = .ok (.return_, 1) := by decide +kernel
theorem kl3_9 : ∃ (C : String) (T : u_T) (N : Nat), vwCl[3]? = some (C, T, N) ∧ 0 < N ∧ (∀ w ∈ u_ws C T N, w ∈ zT) ∧ Cond.fieldLink RX3 9 (T 0).1 (T 0).2.1 (T 0).2.2.1 ∈ zT ∧ (T 0).1 = RX3 ∧ parseFieldDescriptor (T 0).2.2.1 = some (tyX3 0) ∧ (∀ a, a < N → ∀ b, b < N → a ≠ b → (T a).2.1 ≠ (T b).2.1) ∧ ∃ ty0 : Nat → FieldType, ∀ k, k < N → parseFieldDescriptor (T k).2.2.1 = some (ty0 k) := ⟨RX3, TX3, 7, rfl, by decide, zcl_3, zT_in 220 (by decide +kernel) rfl, rfl, tyX3_ok 0 (by decide), nmX3, tyX3, tyX3_ok⟩
theorem kg3_9 : ∃ (C : String) (T : u_T) (N : Nat), vwCl[3]? = some (C, T, N) ∧ 0 < N ∧ (∀ w ∈ u_ws C T N, w ∈ zT) ∧ Cond.fieldLink RX3 9 (T 0).1 (T 0).2.1 (T 0).2.2.1 ∈ zT := ⟨RX3, TX3, 7, rfl, by decide, zcl_3, zT_in 220 (by decide +kernel) rfl⟩
theorem kl3_15 : ∃ (C : String) (T : u_T) (N : Nat), vwCl[3]? = some (C, T, N) ∧ 1 < N ∧ (∀ w ∈ u_ws C T N, w ∈ zT) ∧ Cond.fieldLink RX3 15 (T 1).1 (T 1).2.1 (T 1).2.2.1 ∈ zT ∧ (T 1).1 = RX3 ∧ parseFieldDescriptor (T 1).2.2.1 = some (tyX3 1) ∧ (∀ a, a < N → ∀ b, b < N → a ≠ b → (T a).2.1 ≠ (T b).2.1) ∧ ∃ ty0 : Nat → FieldType, ∀ k, k < N → parseFieldDescriptor (T k).2.2.1 = some (ty0 k) := ⟨RX3, TX3, 7, rfl, by decide, zcl_3, zT_in 221 (by decide +kernel) rfl, rfl, tyX3_ok 1 (by decide), nmX3, tyX3, tyX3_ok⟩
theorem kg3_15 : ∃ (C : String) (T : u_T) (N : Nat), vwCl[3]? = some (C, T, N) ∧ 1 < N ∧ (∀ w ∈ u_ws C T N, w ∈ zT) ∧ Cond.fieldLink RX3 15 (T 1).1 (T 1).2.1 (T 1).2.2.1 ∈ zT := ⟨RX3, TX3, 7, rfl, by decide, zcl_3, zT_in 221 (by decide +kernel) rfl⟩
theorem kl3_18 : ∃ (C : String) (T : u_T) (N : Nat), vwCl[3]? = some (C, T, N) ∧ 2 < N ∧ (∀ w ∈ u_ws C T N, w ∈ zT) ∧ Cond.fieldLink RX3 18 (T 2).1 (T 2).2.1 (T 2).2.2.1 ∈ zT ∧ (T 2).1 = RX3 ∧ parseFieldDescriptor (T 2).2.2.1 = some (tyX3 2) ∧ (∀ a, a < N → ∀ b, b < N → a ≠ b → (T a).2.1 ≠ (T b).2.1) ∧ ∃ ty0 : Nat → FieldType, ∀ k, k < N → parseFieldDescriptor (T k).2.2.1 = some (ty0 k) := ⟨RX3, TX3, 7, rfl, by decide, zcl_3, zT_in 222 (by decide +kernel) rfl, rfl, tyX3_ok 2 (by decide), nmX3, tyX3, tyX3_ok⟩
theorem kg3_18 : ∃ (C : String) (T : u_T) (N : Nat), vwCl[3]? = some (C, T, N) ∧ 2 < N ∧ (∀ w ∈ u_ws C T N, w ∈ zT) ∧ Cond.fieldLink RX3 18 (T 2).1 (T 2).2.1 (T 2).2.2.1 ∈ zT := ⟨RX3, TX3, 7, rfl, by decide, zcl_3, zT_in 222 (by decide +kernel) rfl⟩
theorem kl3_21 : ∃ (C : String) (T : u_T) (N : Nat), vwCl[3]? = some (C, T, N) ∧ 3 < N ∧ (∀ w ∈ u_ws C T N, w ∈ zT) ∧ Cond.fieldLink RX3 21 (T 3).1 (T 3).2.1 (T 3).2.2.1 ∈ zT ∧ (T 3).1 = RX3 ∧ parseFieldDescriptor (T 3).2.2.1 = some (tyX3 3) ∧ (∀ a, a < N → ∀ b, b < N → a ≠ b → (T a).2.1 ≠ (T b).2.1) ∧ ∃ ty0 : Nat → FieldType, ∀ k, k < N → parseFieldDescriptor (T k).2.2.1 = some (ty0 k) := ⟨RX3, TX3, 7, rfl, by decide, zcl_3, zT_in 223 (by decide +kernel) rfl, rfl, tyX3_ok 3 (by decide), nmX3, tyX3, tyX3_ok⟩
theorem kg3_21 : ∃ (C : String) (T : u_T) (N : Nat), vwCl[3]? = some (C, T, N) ∧ 3 < N ∧ (∀ w ∈ u_ws C T N, w ∈ zT) ∧ Cond.fieldLink RX3 21 (T 3).1 (T 3).2.1 (T 3).2.2.1 ∈ zT := ⟨RX3, TX3, 7, rfl, by decide, zcl_3, zT_in 223 (by decide +kernel) rfl⟩
theorem kl3_24 : ∃ (C : String) (T : u_T) (N : Nat), vwCl[3]? = some (C, T, N) ∧ 4 < N ∧ (∀ w ∈ u_ws C T N, w ∈ zT) ∧ Cond.fieldLink RX3 24 (T 4).1 (T 4).2.1 (T 4).2.2.1 ∈ zT ∧ (T 4).1 = RX3 ∧ parseFieldDescriptor (T 4).2.2.1 = some (tyX3 4) ∧ (∀ a, a < N → ∀ b, b < N → a ≠ b → (T a).2.1 ≠ (T b).2.1) ∧ ∃ ty0 : Nat → FieldType, ∀ k, k < N → parseFieldDescriptor (T k).2.2.1 = some (ty0 k) := ⟨RX3, TX3, 7, rfl, by decide, zcl_3, zT_in 224 (by decide +kernel) rfl, rfl, tyX3_ok 4 (by decide), nmX3, tyX3, tyX3_ok⟩
theorem kg3_24 : ∃ (C : String) (T : u_T) (N : Nat), vwCl[3]? = some (C, T, N) ∧ 4 < N ∧ (∀ w ∈ u_ws C T N, w ∈ zT) ∧ Cond.fieldLink RX3 24 (T 4).1 (T 4).2.1 (T 4).2.2.1 ∈ zT := ⟨RX3, TX3, 7, rfl, by decide, zcl_3, zT_in 224 (by decide +kernel) rfl⟩
theorem kl3_28 : ∃ (C : String) (T : u_T) (N : Nat), vwCl[3]? = some (C, T, N) ∧ 5 < N ∧ (∀ w ∈ u_ws C T N, w ∈ zT) ∧ Cond.fieldLink RX3 28 (T 5).1 (T 5).2.1 (T 5).2.2.1 ∈ zT ∧ (T 5).1 = RX3 ∧ parseFieldDescriptor (T 5).2.2.1 = some (tyX3 5) ∧ (∀ a, a < N → ∀ b, b < N → a ≠ b → (T a).2.1 ≠ (T b).2.1) ∧ ∃ ty0 : Nat → FieldType, ∀ k, k < N → parseFieldDescriptor (T k).2.2.1 = some (ty0 k) := ⟨RX3, TX3, 7, rfl, by decide, zcl_3, zT_in 226 (by decide +kernel) rfl, rfl, tyX3_ok 5 (by decide), nmX3, tyX3, tyX3_ok⟩
theorem kg3_28 : ∃ (C : String) (T : u_T) (N : Nat), vwCl[3]? = some (C, T, N) ∧ 5 < N ∧ (∀ w ∈ u_ws C T N, w ∈ zT) ∧ Cond.fieldLink RX3 28 (T 5).1 (T 5).2.1 (T 5).2.2.1 ∈ zT := ⟨RX3, TX3, 7, rfl, by decide, zcl_3, zT_in 226 (by decide +kernel) rfl⟩
theorem kl3_31 : ∃ (C : String) (T : u_T) (N : Nat), vwCl[3]? = some (C, T, N) ∧ 6 < N ∧ (∀ w ∈ u_ws C T N, w ∈ zT) ∧ Cond.fieldLink RX3 31 (T 6).1 (T 6).2.1 (T 6).2.2.1 ∈ zT ∧ (T 6).1 = RX3 ∧ parseFieldDescriptor (T 6).2.2.1 = some (tyX3 6) ∧ (∀ a, a < N → ∀ b, b < N → a ≠ b → (T a).2.1 ≠ (T b).2.1) ∧ ∃ ty0 : Nat → FieldType, ∀ k, k < N → parseFieldDescriptor (T k).2.2.1 = some (ty0 k) := ⟨RX3, TX3, 7, rfl, by decide, zcl_3, zT_in 227 (by decide +kernel) rfl, rfl, tyX3_ok 6 (by decide), nmX3, tyX3, tyX3_ok⟩
theorem kg3_31 : ∃ (C : String) (T : u_T) (N : Nat), vwCl[3]? = some (C, T, N) ∧ 6 < N ∧ (∀ w ∈ u_ws C T N, w ∈ zT) ∧ Cond.fieldLink RX3 31 (T 6).1 (T 6).2.1 (T 6).2.2.1 ∈ zT := ⟨RX3, TX3, 7, rfl, by decide, zcl_3, zT_in 227 (by decide +kernel) rfl⟩
def kw3 (h : Nat) : va_W := [(h, .inr (3, [.null, .null, .null, .null, .int 0, .int 0, .int 0]))]
def kW3 (E : zE) (h : Nat) (f : Nat → Nat) : va_W := [(h, .inr (3, [.ref (f 0), .ref (f 1), .ref (f 2), .ref (f 3), .int 0, .int 0, .int 0])), ((f 0), .inl (E.2.1 0, 120, .inl (fun _ => 0))), ((f 1), .inl (E.2.1 0, 121, .inl (fun _ => 0))), ((f 2), .inl (E.2.1 0, 121, .inl (fun _ => 0))), ((f 3), .inl (E.2.1 0, 121, .inl (fun _ => 0)))]
set_option maxRecDepth 20000 in
theorem k_init3 : kCt 1 4 483 yX3_init cX3_init 1 kw3 kW3 := by
  refine kCt.of (by decide) rfl (by decide) ?_
  intro p l e s m args below meth c E h0 A ls hx hb hml hr hlocks hin hown hts hK hA hRo hO hP hD hS hl
  have hown : s.vm.findClass RX3 = some m.cls := hown
  have hP : va_P E.1 vwCl [(h0, .inr (3, [.null, .null, .null, .null, .int 0, .int 0, .int 0]))] s.heap := hP
  have hD : va_D A [(h0, .inr (3, [.null, .null, .null, .null, .int 0, .int 0, .int 0]))] := hD
  refine lv_aload_n hx hb kd3_0 rfl (lv_at hl 0 rfl) ?_
  refine k_objInit hx hb hts hown hml hl.1 (zT_in 219 (by decide +kernel) rfl) ⟨by decide, by decide⟩ (Nat.le_of_ble_eq_true rfl) kd3_1 ?_
  refine lv_aload_n hx hb kd3_4 rfl (lv_at hl 0 rfl) ?_
  refine lv_bipush (v := 120) hx hb kd3_5 (by decide) ?_
  refine k_newa (N' := 120) (k9 := 1) (n9 := 120) hx hb hts hK hP hD hS hA (by decide) (by decide) (by decide) ⟨rfl, Nat.le_of_ble_eq_true rfl⟩ ⟨rfl, Nat.le_of_ble_eq_true rfl⟩ kd3_7 (fun q1 H hP hD hS => ?_)
  have hP : va_P E.1 vwCl [(h0, .inr (3, [.null, .null, .null, .null, .int 0, .int 0, .int 0])), (q1, .inl (E.2.1 0, 120, .inl (fun _ => 0)))] H := hP
  have hD : va_D A [(h0, .inr (3, [.null, .null, .null, .null, .int 0, .int 0, .int 0])), (q1, .inl (E.2.1 0, 120, .inl (fun _ => 0)))] := hD
  refine k_put (ws1 := [(h0, .inr (3, [.ref q1, .null, .null, .null, .int 0, .int 0, .int 0])), (q1, .inl (E.2.1 0, 120, .inl (fun _ => 0)))]) hx hb hts hown hin hK hP hD hS (kl3_9) rfl rfl rfl (Nat.le_of_ble_eq_true rfl) kd3_9 rfl (fun H locs hP hD hS => ?_)
  refine lv_aload_n hx hb kd3_12 rfl (lv_at hl 0 rfl) ?_
  refine lv_bipush (v := 121) hx hb kd3_13 (by decide) ?_
  refine k_newa (N' := 121) (k9 := 2) (n9 := 241) hx hb hts hK hP hD hS hA (by decide) (by decide) (by decide) ⟨rfl, Nat.le_of_ble_eq_true rfl⟩ ⟨rfl, Nat.le_of_ble_eq_true rfl⟩ kd3_15 (fun q2 H hP hD hS => ?_)
  have hP : va_P E.1 vwCl [(h0, .inr (3, [.ref q1, .null, .null, .null, .int 0, .int 0, .int 0])), (q1, .inl (E.2.1 0, 120, .inl (fun _ => 0))), (q2, .inl (E.2.1 0, 121, .inl (fun _ => 0)))] H := hP
  have hD : va_D A [(h0, .inr (3, [.ref q1, .null, .null, .null, .int 0, .int 0, .int 0])), (q1, .inl (E.2.1 0, 120, .inl (fun _ => 0))), (q2, .inl (E.2.1 0, 121, .inl (fun _ => 0)))] := hD
  refine k_put (ws1 := [(h0, .inr (3, [.ref q1, .ref q2, .null, .null, .int 0, .int 0, .int 0])), (q1, .inl (E.2.1 0, 120, .inl (fun _ => 0))), (q2, .inl (E.2.1 0, 121, .inl (fun _ => 0)))]) hx hb hts hown hin hK hP hD hS (kl3_15) rfl rfl rfl (Nat.le_of_ble_eq_true rfl) kd3_17 rfl (fun H locs hP hD hS => ?_)
  refine lv_aload_n hx hb kd3_20 rfl (lv_at hl 0 rfl) ?_
  refine lv_bipush (v := 121) hx hb kd3_21 (by decide) ?_
  refine k_newa (N' := 121) (k9 := 3) (n9 := 362) hx hb hts hK hP hD hS hA (by decide) (by decide) (by decide) ⟨rfl, Nat.le_of_ble_eq_true rfl⟩ ⟨rfl, Nat.le_of_ble_eq_true rfl⟩ kd3_23 (fun q3 H hP hD hS => ?_)
  have hP : va_P E.1 vwCl [(h0, .inr (3, [.ref q1, .ref q2, .null, .null, .int 0, .int 0, .int 0])), (q1, .inl (E.2.1 0, 120, .inl (fun _ => 0))), (q2, .inl (E.2.1 0, 121, .inl (fun _ => 0))), (q3, .inl (E.2.1 0, 121, .inl (fun _ => 0)))] H := hP
  have hD : va_D A [(h0, .inr (3, [.ref q1, .ref q2, .null, .null, .int 0, .int 0, .int 0])), (q1, .inl (E.2.1 0, 120, .inl (fun _ => 0))), (q2, .inl (E.2.1 0, 121, .inl (fun _ => 0))), (q3, .inl (E.2.1 0, 121, .inl (fun _ => 0)))] := hD
  refine k_put (ws1 := [(h0, .inr (3, [.ref q1, .ref q2, .ref q3, .null, .int 0, .int 0, .int 0])), (q1, .inl (E.2.1 0, 120, .inl (fun _ => 0))), (q2, .inl (E.2.1 0, 121, .inl (fun _ => 0))), (q3, .inl (E.2.1 0, 121, .inl (fun _ => 0)))]) hx hb hts hown hin hK hP hD hS (kl3_18) rfl rfl rfl (Nat.le_of_ble_eq_true rfl) kd3_25 rfl (fun H locs hP hD hS => ?_)
  refine lv_aload_n hx hb kd3_28 rfl (lv_at hl 0 rfl) ?_
  refine lv_bipush (v := 121) hx hb kd3_29 (by decide) ?_
  refine k_newa (N' := 121) (k9 := 4) (n9 := 483) hx hb hts hK hP hD hS hA (by decide) (by decide) (by decide) ⟨rfl, Nat.le_of_ble_eq_true rfl⟩ ⟨rfl, Nat.le_of_ble_eq_true rfl⟩ kd3_31 (fun q4 H hP hD hS => ?_)
  have hP : va_P E.1 vwCl [(h0, .inr (3, [.ref q1, .ref q2, .ref q3, .null, .int 0, .int 0, .int 0])), (q1, .inl (E.2.1 0, 120, .inl (fun _ => 0))), (q2, .inl (E.2.1 0, 121, .inl (fun _ => 0))), (q3, .inl (E.2.1 0, 121, .inl (fun _ => 0))), (q4, .inl (E.2.1 0, 121, .inl (fun _ => 0)))] H := hP
  have hD : va_D A [(h0, .inr (3, [.ref q1, .ref q2, .ref q3, .null, .int 0, .int 0, .int 0])), (q1, .inl (E.2.1 0, 120, .inl (fun _ => 0))), (q2, .inl (E.2.1 0, 121, .inl (fun _ => 0))), (q3, .inl (E.2.1 0, 121, .inl (fun _ => 0))), (q4, .inl (E.2.1 0, 121, .inl (fun _ => 0)))] := hD
  refine k_put (ws1 := [(h0, .inr (3, [.ref q1, .ref q2, .ref q3, .ref q4, .int 0, .int 0, .int 0])), (q1, .inl (E.2.1 0, 120, .inl (fun _ => 0))), (q2, .inl (E.2.1 0, 121, .inl (fun _ => 0))), (q3, .inl (E.2.1 0, 121, .inl (fun _ => 0))), (q4, .inl (E.2.1 0, 121, .inl (fun _ => 0)))]) hx hb hts hown hin hK hP hD hS (kl3_21) rfl rfl rfl (Nat.le_of_ble_eq_true rfl) kd3_33 rfl (fun H locs hP hD hS => ?_)
  refine lv_aload_n hx hb kd3_36 rfl (lv_at hl 0 rfl) ?_
  refine lv_iconst (v := 0) hx hb kd3_37 (by decide) ?_
  refine k_put (ws1 := [(h0, .inr (3, [.ref q1, .ref q2, .ref q3, .ref q4, .int 0, .int 0, .int 0])), (q1, .inl (E.2.1 0, 120, .inl (fun _ => 0))), (q2, .inl (E.2.1 0, 121, .inl (fun _ => 0))), (q3, .inl (E.2.1 0, 121, .inl (fun _ => 0))), (q4, .inl (E.2.1 0, 121, .inl (fun _ => 0)))]) hx hb hts hown hin hK hP hD hS (kl3_24) rfl rfl rfl (Nat.le_of_ble_eq_true rfl) kd3_38 rfl (fun H locs hP hD hS => ?_)
  refine lv_aload_n hx hb kd3_41 rfl (lv_at hl 0 rfl) ?_
  refine lv_iconst (v := 0) hx hb kd3_42 (by decide) ?_
  refine k_put (ws1 := [(h0, .inr (3, [.ref q1, .ref q2, .ref q3, .ref q4, .int 0, .int 0, .int 0])), (q1, .inl (E.2.1 0, 120, .inl (fun _ => 0))), (q2, .inl (E.2.1 0, 121, .inl (fun _ => 0))), (q3, .inl (E.2.1 0, 121, .inl (fun _ => 0))), (q4, .inl (E.2.1 0, 121, .inl (fun _ => 0)))]) hx hb hts hown hin hK hP hD hS (kl3_28) rfl rfl rfl (Nat.le_of_ble_eq_true rfl) kd3_43 rfl (fun H locs hP hD hS => ?_)
  refine lv_aload_n hx hb kd3_46 rfl (lv_at hl 0 rfl) ?_
  refine lv_iconst (v := 0) hx hb kd3_47 (by decide) ?_
  refine k_put (ws1 := [(h0, .inr (3, [.ref q1, .ref q2, .ref q3, .ref q4, .int 0, .int 0, .int 0])), (q1, .inl (E.2.1 0, 120, .inl (fun _ => 0))), (q2, .inl (E.2.1 0, 121, .inl (fun _ => 0))), (q3, .inl (E.2.1 0, 121, .inl (fun _ => 0))), (q4, .inl (E.2.1 0, 121, .inl (fun _ => 0)))]) hx hb hts hown hin hK hP hD hS (kl3_31) rfl rfl rfl (Nat.le_of_ble_eq_true rfl) kd3_48 rfl (fun H locs hP hD hS => ?_)
  exact k_ret (Wf := kW3 E h0) (fun i => ([q1, q2, q3, q4] : List Nat).getD i 0) hx hb hr hlocks hP hD hS kd3_51
theorem kd0_0 : decode cX0_init 0 = .ok (.aload_n 0, 1) := by decide +kernel
theorem kd0_1 : decode cX0_init 1 = .ok (.invokespecial 3, 3) := by decide +kernel
theorem kd0_4 : decode cX0_init 4 = .ok (.aload_n 0, 1) := by decide +kernel
theorem kd0_5 : decode cX0_init 5 = .ok (.iconst 3, 1) := by decide +kernel
theorem kd0_6 : decode cX0_init 6 = .ok (.newarray .int, 2) := by decide +kernel
theorem kd0_8 : decode cX0_init 8 = .ok (.putfield 9, 3) := by decide +kernel
theorem kd0_11 : decode cX0_init 11 = .ok (.aload_n 0, 1) := by decide +kernel
theorem kd0_12 : decode cX0_init 12 = .ok (.iconst 0, 1) := by decide +kernel
theorem kd0_13 : decode cX0_init 13 = .ok (.putfield 15, 3) := by decide +kernel
theorem kd0_16 : decode cX0_init 16 = .ok (.aload_n 0, 1) := by decide +kernel
theorem kd0_17 : decode cX0_init 17 = .ok (.iconst 0, 1) := by decide +kernel
theorem kd0_18 : decode cX0_init 18 = .ok (.putfield 19, 3) := by decide +kernel
theorem kd0_21 : decode cX0_init 21 = .ok (.aload_n 0, 1) := by decide +kernel
theorem kd0_22 : decode cX0_init 22 = .ok (.iconst 0, 1) := by decide +kernel
theorem kd0_23 : decode cX0_init 23 = .ok (.putfield 22, 3) := by decide +kernel
theorem kd0_26 : decode cX0_init 26 = .ok (.return_, 1) := by decide +kernel
theorem kl0_9 : ∃ (C : String) (T : u_T) (N : Nat), vwCl[0]? = some (C, T, N) ∧ 0 < N ∧ (∀ w ∈ u_ws C T N, w ∈ zT) ∧ Cond.fieldLink RX0 9 (T 0).1 (T 0).2.1 (T 0).2.2.1 ∈ zT ∧ (T 0).1 = RX0 ∧ parseFieldDescriptor (T 0).2.2.1 = some (tyX0 0) ∧ (∀ a, a < N → ∀ b, b < N → a ≠ b → (T a).2.1 ≠ (T b).2.1) ∧ ∃ ty0 : Nat → FieldType, ∀ k, k < N → parseFieldDescriptor (T k).2.2.1 = some (ty0 k) := ⟨RX0, TX0, 4, rfl, by decide, zcl_0, zT_in 249 (by decide +kernel) rfl, rfl, tyX0_ok 0 (by decide), nmX0, tyX0, tyX0_ok⟩
theorem kg0_9 : ∃ (C : String) (T : u_T) (N : Nat), vwCl[0]? = some (C, T, N) ∧ 0 < N ∧ (∀ w ∈ u_ws C T N, w ∈ zT) ∧ Cond.fieldLink RX0 9 (T 0).1 (T 0).2.1 (T 0).2.2.1 ∈ zT := ⟨RX0, TX0, 4, rfl, by decide, zcl_0, zT_in 249 (by decide +kernel) rfl⟩
theorem kl0_15 : ∃ (C : String) (T : u_T) (N : Nat), vwCl[0]? = some (C, T, N) ∧ 1 < N ∧ (∀ w ∈ u_ws C T N, w ∈ zT) ∧ Cond.fieldLink RX0 15 (T 1).1 (T 1).2.1 (T 1).2.2.1 ∈ zT ∧ (T 1).1 = RX0 ∧ parseFieldDescriptor (T 1).2.2.1 = some (tyX0 1) ∧ (∀ a, a < N → ∀ b, b < N → a ≠ b → (T a).2.1 ≠ (T b).2.1) ∧ ∃ ty0 : Nat → FieldType, ∀ k, k < N → parseFieldDescriptor (T k).2.2.1 = some (ty0 k) := ⟨RX0, TX0, 4, rfl, by decide, zcl_0, zT_in 250 (by decide +kernel) rfl, rfl, tyX0_ok 1 (by decide), nmX0, tyX0, tyX0_ok⟩
theorem kg0_15 : ∃ (C : String) (T : u_T) (N : Nat), vwCl[0]? = some (C, T, N) ∧ 1 < N ∧ (∀ w ∈ u_ws C T N, w ∈ zT) ∧ Cond.fieldLink RX0 15 (T 1).1 (T 1).2.1 (T 1).2.2.1 ∈ zT := ⟨RX0, TX0, 4, rfl, by decide, zcl_0, zT_in 250 (by decide +kernel) rfl⟩
theorem kl0_19 : ∃ (C : String) (T : u_T) (N : Nat), vwCl[0]? = some (C, T, N) ∧ 2 < N ∧ (∀ w ∈ u_ws C T N, w ∈ zT) ∧ Cond.fieldLink RX0 19 (T 2).1 (T 2).2.1 (T 2).2.2.1 ∈ zT ∧ (T 2).1 = RX0 ∧ parseFieldDescriptor (T 2).2.2.1 = some (tyX0 2) ∧ (∀ a, a < N → ∀ b, b < N → a ≠ b → (T a).2.1 ≠ (T b).2.1) ∧ ∃ ty0 : Nat → FieldType, ∀ k, k < N → parseFieldDescriptor (T k).2.2.1 = some (ty0 k) := ⟨RX0, TX0, 4, rfl, by decide, zcl_0, zT_in 251 (by decide +kernel) rfl, rfl, tyX0_ok 2 (by decide), nmX0, tyX0, tyX0_ok⟩
theorem kg0_19 : ∃ (C : String) (T : u_T) (N : Nat), vwCl[0]? = some (C, T, N) ∧ 2 < N ∧ (∀ w ∈ u_ws C T N, w ∈ zT) ∧ Cond.fieldLink RX0 19 (T 2).1 (T 2).2.1 (T 2).2.2.1 ∈ zT := ⟨RX0, TX0, 4, rfl, by decide, zcl_0, zT_in 251 (by decide +kernel) rfl⟩
theorem kl0_22 : ∃ (C : String) (T : u_T) (N : Nat), vwCl[0]? = some (C, T, N) ∧ 3 < N ∧ (∀ w ∈ u_ws C T N, w ∈ zT) ∧ Cond.fieldLink RX0 22 (T 3).1 (T 3).2.1 (T 3).2.2.1 ∈ zT ∧ (T 3).1 = RX0 ∧ parseFieldDescriptor (T 3).2.2.1 = some (tyX0 3) ∧ (∀ a, a < N → ∀ b, b < N → a ≠ b → (T a).2.1 ≠ (T b).2.1) ∧ ∃ ty0 : Nat → FieldType, ∀ k, k < N → parseFieldDescriptor (T k).2.2.1 = some (ty0 k) := ⟨RX0, TX0, 4, rfl, by decide, zcl_0, zT_in 252 (by decide +kernel) rfl, rfl, tyX0_ok 3 (by decide), nmX0, tyX0, tyX0_ok⟩
theorem kg0_22 : ∃ (C : String) (T : u_T) (N : Nat), vwCl[0]? = some (C, T, N) ∧ 3 < N ∧ (∀ w ∈ u_ws C T N, w ∈ zT) ∧ Cond.fieldLink RX0 22 (T 3).1 (T 3).2.1 (T 3).2.2.1 ∈ zT := ⟨RX0, TX0, 4, rfl, by decide, zcl_0, zT_in 252 (by decide +kernel) rfl⟩
def kw0 (h : Nat) : va_W := [(h, .inr (0, [.null, .int 0, .int 0, .int 0]))]
def kW0 (E : zE) (h : Nat) (f : Nat → Nat) : va_W := [(h, .inr (0, [.ref (f 0), .int 0, .int 0, .int 0])), ((f 0), .inl (E.2.1 0, 3, .inl (fun _ => 0)))]
set_option maxRecDepth 20000 in
theorem k_init0 : kCt 1 1 3 yX0_init cX0_init 1 kw0 kW0 := by
  refine kCt.of (by decide) rfl (by decide) ?_
  intro p l e s m args below meth c E h0 A ls hx hb hml hr hlocks hin hown hts hK hA hRo hO hP hD hS hl
  have hown : s.vm.findClass RX0 = some m.cls := hown
  have hP : va_P E.1 vwCl [(h0, .inr (0, [.null, .int 0, .int 0, .int 0]))] s.heap := hP
  have hD : va_D A [(h0, .inr (0, [.null, .int 0, .int 0, .int 0]))] := hD
  refine lv_aload_n hx hb kd0_0 rfl (lv_at hl 0 rfl) ?_
  refine k_objInit hx hb hts hown hml hl.1 (zT_in 248 (by decide +kernel) rfl) ⟨by decide, by decide⟩ (Nat.le_of_ble_eq_true rfl) kd0_1 ?_
  refine lv_aload_n hx hb kd0_4 rfl (lv_at hl 0 rfl) ?_
  refine lv_iconst (v := 3) hx hb kd0_5 (by decide) ?_
  refine k_newa (N' := 3) (k9 := 1) (n9 := 3) hx hb hts hK hP hD hS hA (by decide) (by decide) (by decide) ⟨rfl, Nat.le_of_ble_eq_true rfl⟩ ⟨rfl, Nat.le_of_ble_eq_true rfl⟩ kd0_6 (fun q1 H hP hD hS => ?_)
  have hP : va_P E.1 vwCl [(h0, .inr (0, [.null, .int 0, .int 0, .int 0])), (q1, .inl (E.2.1 0, 3, .inl (fun _ => 0)))] H := hP
  have hD : va_D A [(h0, .inr (0, [.null, .int 0, .int 0, .int 0])), (q1, .inl (E.2.1 0, 3, .inl (fun _ => 0)))] := hD
  refine k_put (ws1 := [(h0, .inr (0, [.ref q1, .int 0, .int 0, .int 0])), (q1, .inl (E.2.1 0, 3, .inl (fun _ => 0)))]) hx hb hts hown hin hK hP hD hS (kl0_9) rfl rfl rfl (Nat.le_of_ble_eq_true rfl) kd0_8 rfl (fun H locs hP hD hS => ?_)
  refine lv_aload_n hx hb kd0_11 rfl (lv_at hl 0 rfl) ?_
  refine lv_iconst (v := 0) hx hb kd0_12 (by decide) ?_
  refine k_put (ws1 := [(h0, .inr (0, [.ref q1, .int 0, .int 0, .int 0])), (q1, .inl (E.2.1 0, 3, .inl (fun _ => 0)))]) hx hb hts hown hin hK hP hD hS (kl0_15) rfl rfl rfl (Nat.le_of_ble_eq_true rfl) kd0_13 rfl (fun H locs hP hD hS => ?_)
  refine lv_aload_n hx hb kd0_16 rfl (lv_at hl 0 rfl) ?_
  refine lv_iconst (v := 0) hx hb kd0_17 (by decide) ?_
  refine k_put (ws1 := [(h0, .inr (0, [.ref q1, .int 0, .int 0, .int 0])), (q1, .inl (E.2.1 0, 3, .inl (fun _ => 0)))]) hx hb hts hown hin hK hP hD hS (kl0_19) rfl rfl rfl (Nat.le_of_ble_eq_true rfl) kd0_18 rfl (fun H locs hP hD hS => ?_)
  refine lv_aload_n hx hb kd0_21 rfl (lv_at hl 0 rfl) ?_
  refine lv_iconst (v := 0) hx hb kd0_22 (by decide) ?_
  refine k_put (ws1 := [(h0, .inr (0, [.ref q1, .int 0, .int 0, .int 0])), (q1, .inl (E.2.1 0, 3, .inl (fun _ => 0)))]) hx hb hts hown hin hK hP hD hS (kl0_22) rfl rfl rfl (Nat.le_of_ble_eq_true rfl) kd0_23 rfl (fun H locs hP hD hS => ?_)
  exact k_ret (Wf := kW0 E h0) (fun i => ([q1] : List Nat).getD i 0) hx hb hr hlocks hP hD hS kd0_26
theorem kd1_0 : decode cX1_init 0 = .ok (.aload_n 0, 1) := by decide +kernel
theorem kd1_1 : decode cX1_init 1 = .ok (.invokespecial 3, 3) := by decide +kernel
theorem kd1_4 : decode cX1_init 4 = .ok (.aload_n 0, 1) := by decide +kernel
theorem kd1_5 : decode cX1_init 5 = .ok (.bipush 40, 2) := by decide +kernel
theorem kd1_7 : decode cX1_init 7 = .ok (.newarray .int, 2) := by decide +kernel
theorem kd1_9 : decode cX1_init 9 = .ok (.putfield 9, 3) := by decide +kernel
theorem kd1_12 : decode cX1_init 12 = .ok (.aload_n 0, 1) := by decide +kernel
theorem kd1_13 : decode cX1_init 13 = .ok (.iconst 0, 1) := by decide +kernel
theorem kd1_14 : decode cX1_init 14 = .ok (.putfield 15, 3) := by decide +kernel
theorem kd1_17 : decode cX1_init 17 = .ok (.aload_n 0, 1) := by decide +kernel
theorem kd1_18 : decode cX1_init 18 = .ok (.iconst 0, 1) := by decide +kernel
theorem kd1_19 : decode cX1_init 19 = .ok (.putfield 19, 3) := by decide +kernel
theorem kd1_22 : decode cX1_init 22 = .ok (.return_, 1) := by decide +kernel
theorem kl1_9 : ∃ (C : String) (T : u_T) (N : Nat), vwCl[1]? = some (C, T, N) ∧ 0 < N ∧ (∀ w ∈ u_ws C T N, w ∈ zT) ∧ Cond.fieldLink RX1 9 (T 0).1 (T 0).2.1 (T 0).2.2.1 ∈ zT ∧ (T 0).1 = RX1 ∧ parseFieldDescriptor (T 0).2.2.1 = some (tyX1 0) ∧ (∀ a, a < N → ∀ b, b < N → a ≠ b → (T a).2.1 ≠ (T b).2.1) ∧ ∃ ty0 : Nat → FieldType, ∀ k, k < N → parseFieldDescriptor (T k).2.2.1 = some (ty0 k) := ⟨RX1, TX1, 3, rfl, by decide, zcl_1, zT_in 269 (by decide +kernel) rfl, rfl, tyX1_ok 0 (by decide), nmX1, tyX1, tyX1_ok⟩
theorem kg1_9 : ∃ (C : String) (T : u_T) (N : Nat), vwCl[1]? = some (C, T, N) ∧ 0 < N ∧ (∀ w ∈ u_ws C T N, w ∈ zT) ∧ Cond.fieldLink RX1 9 (T 0).1 (T 0).2.1 (T 0).2.2.1 ∈ zT := ⟨RX1, TX1, 3, rfl, by decide, zcl_1, zT_in 269 (by decide +kernel) rfl⟩
theorem kl1_15 : ∃ (C : String) (T : u_T) (N : Nat), vwCl[1]? = some (C, T, N) ∧ 1 < N ∧ (∀ w ∈ u_ws C T N, w ∈ zT) ∧ Cond.fieldLink RX1 15 (T 1).1 (T 1).2.1 (T 1).2.2.1 ∈ zT ∧ (T 1).1 = RX1 ∧ parseFieldDescriptor (T 1).2.2.1 = some (tyX1 1) ∧ (∀ a, a < N → ∀ b, b < N → a ≠ b → (T a).2.1 ≠ (T b).2.1) ∧ ∃ ty0 : Nat → FieldType, ∀ k, k < N → parseFieldDescriptor (T k).2.2.1 = some (ty0 k) := ⟨RX1, TX1, 3, rfl, by decide, zcl_1, zT_in 271 (by decide +kernel) rfl, rfl, tyX1_ok 1 (by decide), nmX1, tyX1, tyX1_ok⟩
theorem kg1_15 : ∃ (C : String) (T : u_T) (N : Nat), vwCl[1]? = some (C, T, N) ∧ 1 < N ∧ (∀ w ∈ u_ws C T N, w ∈ zT) ∧ Cond.fieldLink RX1 15 (T 1).1 (T 1).2.1 (T 1).2.2.1 ∈ zT := ⟨RX1, TX1, 3, rfl, by decide, zcl_1, zT_in 271 (by decide +kernel) rfl⟩
theorem kl1_19 : ∃ (C : String) (T : u_T) (N : Nat), vwCl[1]? = some (C, T, N) ∧ 2 < N ∧ (∀ w ∈ u_ws C T N, w ∈ zT) ∧ Cond.fieldLink RX1 19 (T 2).1 (T 2).2.1 (T 2).2.2.1 ∈ zT ∧ (T 2).1 = RX1 ∧ parseFieldDescriptor (T 2).2.2.1 = some (tyX1 2) ∧ (∀ a, a < N → ∀ b, b < N → a ≠ b → (T a).2.1 ≠ (T b).2.1) ∧ ∃ ty0 : Nat → FieldType, ∀ k, k < N → parseFieldDescriptor (T k).2.2.1 = some (ty0 k) := ⟨RX1, TX1, 3, rfl, by decide, zcl_1, zT_in 273 (by decide +kernel) rfl, rfl, tyX1_ok 2 (by decide), nmX1, tyX1, tyX1_ok⟩
theorem kg1_19 : ∃ (C : String) (T : u_T) (N : Nat), vwCl[1]? = some (C, T, N) ∧ 2 < N ∧ (∀ w ∈ u_ws C T N, w ∈ zT) ∧ Cond.fieldLink RX1 19 (T 2).1 (T 2).2.1 (T 2).2.2.1 ∈ zT := ⟨RX1, TX1, 3, rfl, by decide, zcl_1, zT_in 273 (by decide +kernel) rfl⟩
def kw1 (h : Nat) : va_W := [(h, .inr (1, [.null, .int 0, .int 0]))]
def kW1 (E : zE) (h : Nat) (f : Nat → Nat) : va_W := [(h, .inr (1, [.ref (f 0), .int 0, .int 0])), ((f 0), .inl (E.2.1 0, 40, .inl (fun _ => 0)))]
set_option maxRecDepth 20000 in
theorem k_init1 : kCt 1 1 40 yX1_init cX1_init 1 kw1 kW1 := by
  refine kCt.of (by decide) rfl (by decide) ?_
  intro p l e s m args below meth c E h0 A ls hx hb hml hr hlocks hin hown hts hK hA hRo hO hP hD hS hl
  have hown : s.vm.findClass RX1 = some m.cls := hown
  have hP : va_P E.1 vwCl [(h0, .inr (1, [.null, .int 0, .int 0]))] s.heap := hP
  have hD : va_D A [(h0, .inr (1, [.null, .int 0, .int 0]))] := hD
  refine lv_aload_n hx hb kd1_0 rfl (lv_at hl 0 rfl) ?_
  refine k_objInit hx hb hts hown hml hl.1 (zT_in 268 (by decide +kernel) rfl) ⟨by decide, by decide⟩ (Nat.le_of_ble_eq_true rfl) kd1_1 ?_
  refine lv_aload_n hx hb kd1_4 rfl (lv_at hl 0 rfl) ?_
  refine lv_bipush (v := 40) hx hb kd1_5 (by decide) ?_
  refine k_newa (N' := 40) (k9 := 1) (n9 := 40) hx hb hts hK hP hD hS hA (by decide) (by decide) (by decide) ⟨rfl, Nat.le_of_ble_eq_true rfl⟩ ⟨rfl, Nat.le_of_ble_eq_true rfl⟩ kd1_7 (fun q1 H hP hD hS => ?_)
  have hP : va_P E.1 vwCl [(h0, .inr (1, [.null, .int 0, .int 0])), (q1, .inl (E.2.1 0, 40, .inl (fun _ => 0)))] H := hP
  have hD : va_D A [(h0, .inr (1, [.null, .int 0, .int 0])), (q1, .inl (E.2.1 0, 40, .inl (fun _ => 0)))] := hD
  refine k_put (ws1 := [(h0, .inr (1, [.ref q1, .int 0, .int 0])), (q1, .inl (E.2.1 0, 40, .inl (fun _ => 0)))]) hx hb hts hown hin hK hP hD hS (kl1_9) rfl rfl rfl (Nat.le_of_ble_eq_true rfl) kd1_9 rfl (fun H locs hP hD hS => ?_)
  refine lv_aload_n hx hb kd1_12 rfl (lv_at hl 0 rfl) ?_
  refine lv_iconst (v := 0) hx hb kd1_13 (by decide) ?_
  refine k_put (ws1 := [(h0, .inr (1, [.ref q1, .int 0, .int 0])), (q1, .inl (E.2.1 0, 40, .inl (fun _ => 0)))]) hx hb hts hown hin hK hP hD hS (kl1_15) rfl rfl rfl (Nat.le_of_ble_eq_true rfl) kd1_14 rfl (fun H locs hP hD hS => ?_)
  refine lv_aload_n hx hb kd1_17 rfl (lv_at hl 0 rfl) ?_
  refine lv_iconst (v := 0) hx hb kd1_18 (by decide) ?_
  refine k_put (ws1 := [(h0, .inr (1, [.ref q1, .int 0, .int 0])), (q1, .inl (E.2.1 0, 40, .inl (fun _ => 0)))]) hx hb hts hown hin hK hP hD hS (kl1_19) rfl rfl rfl (Nat.le_of_ble_eq_true rfl) kd1_19 rfl (fun H locs hP hD hS => ?_)
  exact k_ret (Wf := kW1 E h0) (fun i => ([q1] : List Nat).getD i 0) hx hb hr hlocks hP hD hS kd1_22
