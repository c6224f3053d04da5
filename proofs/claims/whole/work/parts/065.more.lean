/-! 065: more steady rows; the JDK's length and charAt of the two texts -/
theorem w_max : Cond.static Lib.Math.max.name ∈ lw_gd ∧ Cond.initialized "java/lang/Math" ∈ lw_gd ∧ Cond.code Lib.Math.max.name Lib.Math.max.code 2 (some .int) ∈ lw_gd := ⟨gd_of (by decide +kernel) rfl, gd_of (by decide +kernel) rfl, gd_of (by decide +kernel) rfl⟩
theorem w_min : Cond.static Lib.Math.min.name ∈ lw_gd ∧ Cond.initialized "java/lang/Math" ∈ lw_gd ∧ Cond.code Lib.Math.min.name Lib.Math.min.code 2 (some .int) ∈ lw_gd := ⟨gd_of (by decide +kernel) rfl, gd_of (by decide +kernel) rfl, gd_of (by decide +kernel) rfl⟩
theorem w_abs : Cond.static Lib.Math.abs.name ∈ lw_gd ∧ Cond.initialized "java/lang/Math" ∈ lw_gd ∧ Cond.code Lib.Math.abs.name Lib.Math.abs.code 1 (some .int) ∈ lw_gd := ⟨gd_of (by decide +kernel) rfl, gd_of (by decide +kernel) rfl, gd_of (by decide +kernel) rfl⟩
theorem w_copy : Cond.native arraycopyName ∈ lw_gd ∧ Cond.static arraycopyName ∈ lw_gd ∧ Cond.initialized "java/lang/System" ∈ lw_gd := ⟨gd_of (by decide +kernel) rfl, gd_of (by decide +kernel) rfl, gd_of (by decide +kernel) rfl⟩
section R65
variable {n k : Nat} {M : Mem}
theorem hN45 (h : hOK k) : k ≠ 45 := by unfold hOK at h; omega
theorem aN45 (h : aOK k) : k ≠ 45 := by unfold aOK at h; omega
theorem sN45 (h : sOK k) : k ≠ 45 := by unfold sOK at h; omega
theorem gN45 (h : gOK k) : k ≠ 45 := by unfold gOK at h; omega
theorem hPA_5 {i : Int32} (hi : ib i 4) : PD M 5 (ix i) = some (6 + 2 * ix i) := hPA (k := 1) (Or.inl rfl) hi
theorem hA_5 {i : Int32} (hi : ib i 4) : aOK (6 + 2 * ix i) := hA (k := 1) (Or.inl rfl) hi
theorem hPA_18 {i : Int32} (hi : ib i 4) : PD M 18 (ix i) = some (19 + 2 * ix i) := hPA (k := 14) (Or.inr (Or.inl rfl)) hi
theorem hA_18 {i : Int32} (hi : ib i 4) : aOK (19 + 2 * ix i) := hA (k := 14) (Or.inr (Or.inl rfl)) hi
theorem hPA_31 {i : Int32} (hi : ib i 4) : PD M 31 (ix i) = some (32 + 2 * ix i) := hPA (k := 27) (Or.inr (Or.inr rfl)) hi
theorem hA_31 {i : Int32} (hi : ib i 4) : aOK (32 + 2 * ix i) := hA (k := 27) (Or.inr (Or.inr rfl)) hi
end R65
section R66
variable {K : Cx} {own : String} {cc : ByteArray} {n : Nat} {M : Mem} {P : Pm} {pc : Nat} {loc : List (Option Value)} {st : List Value} {lv0 nL0 : Nat} {ret0 : Option FieldType} {T0 : Tg}
variable {β : Type} {A B : Option β} {r : β}
theorem sw_idiv (C : Ctx K own cc) {x y : Int32} (d : decode cc pc = .ok (.idiv, 1)) (h : (if y = 0 then none else A) = some r) (kk : A = some r → AW K n M P (pc + 1) loc (.int (x / y) :: st)) : AW K n M P pc loc (.int y :: .int x :: st) := by
  by_cases hy : y = 0
  · rw [if_pos hy] at h; cases h
  · exact aw_idiv C hy d (kk ((if_neg hy).symm.trans h))
theorem sw_irem (C : Ctx K own cc) {x y : Int32} (d : decode cc pc = .ok (.irem, 1)) (h : (if y = 0 then none else A) = some r) (kk : A = some r → AW K n M P (pc + 1) loc (.int (x - x / y * y) :: st)) : AW K n M P pc loc (.int y :: .int x :: st) := by
  by_cases hy : y = 0
  · rw [if_pos hy] at h; cases h
  · exact aw_irem C hy d (kk ((if_neg hy).symm.trans h))
theorem sw_ldiv (C : Ctx K own cc) {x y : Int64} (d : decode cc pc = .ok (.ldiv, 1)) (h : (if y = 0 then none else A) = some r) (kk : A = some r → AW K n M P (pc + 1) loc (.long (x / y) :: st)) : AW K n M P pc loc (.long y :: .long x :: st) := by
  by_cases hy : y = 0
  · rw [if_pos hy] at h; cases h
  · exact aw_ldiv C hy d (kk ((if_neg hy).symm.trans h))
theorem sw_lrem (C : Ctx K own cc) {x y : Int64} (d : decode cc pc = .ok (.lrem, 1)) (h : (if y = 0 then none else A) = some r) (kk : A = some r → AW K n M P (pc + 1) loc (.long (x - x / y * y) :: st)) : AW K n M P pc loc (.long y :: .long x :: st) := by
  by_cases hy : y = 0
  · rw [if_pos hy] at h; cases h
  · exact aw_lrem C hy d (kk ((if_neg hy).symm.trans h))
theorem sw_zret (C : Ctx K own cc) {x : Int32} {q : Int32 × Mem} (S : SS K n lv0 nL0 (some .boolean) (Ti n q)) (d : decode cc pc = .ok (.ireturn, 1)) (h : (if x = 0 ∨ x = 1 then some (x, M) else none) = some q) : AS K n M pc loc [.int x] := by
  by_cases hx : x = 0 ∨ x = 1
  · rw [if_pos hx] at h
    exact sw_iret C S (by rcases hx with rfl | rfl <;> rfl) d h
  · rw [if_neg hx] at h; cases h
theorem ls_out {x : Int32} (c1 : ¬ x = 10) (c2 : ¬ x = 42) (c3 : ¬ x = 43) (c4 : ¬ x = 45) (c5 : ¬ x = 60) (c6 : ¬ x = 61) {d a b c e f g : Int} : Op.lookupswitch.offset (#[(10, a), (42, b), (43, c), (45, e), (60, f), (61, g)] : Array (Int × Int)).toList d x.toInt = d := by
  have k : ∀ v : Int32, ¬ x = v → ¬ v.toInt = x.toInt := fun v h e => h (Int32.toInt_inj.mp e.symm)
  have k1 := k 10 c1
  have k2 := k 42 c2
  have k3 := k 43 c3
  have k4 := k 45 c4
  have k5 := k 60 c5
  have k6 := k 61 c6
  rw [show (10 : Int32).toInt = 10 by decide] at k1
  rw [show (42 : Int32).toInt = 42 by decide] at k2
  rw [show (43 : Int32).toInt = 43 by decide] at k3
  rw [show (45 : Int32).toInt = 45 by decide] at k4
  rw [show (60 : Int32).toInt = 60 by decide] at k5
  rw [show (61 : Int32).toInt = 61 by decide] at k6
  simp [Op.lookupswitch.offset, k1, k2, k3, k4, k5, k6]
end R66
