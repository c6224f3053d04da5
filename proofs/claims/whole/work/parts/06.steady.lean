/-! 06: the steady world: every cell is made; only one reference moves (the house of the day) -/
def p0t : List (List (Option Nat)) := [[some 1, some 14, some 27, none, some 40, some 44, none, some 45, some 57, some 58], [none, none, none, none, some 2, some 3, some 4, some 5], [], [], [], [some 6, some 8, some 10, some 12], [none, none, none, none, some 7], [], [none, none, none, none, some 9], [], [none, none, none, none, some 11], [], [none, none, none, none, some 13], [], [none, none, none, none, some 15, some 16, some 17, some 18], [], [], [], [some 19, some 21, some 23, some 25], [none, none, none, none, some 20], [], [none, none, none, none, some 22], [], [none, none, none, none, some 24], [], [none, none, none, none, some 26], [], [none, none, none, none, some 28, some 29, some 30, some 31], [], [], [], [some 32, some 34, some 36, some 38], [none, none, none, none, some 33], [], [none, none, none, none, some 35], [], [none, none, none, none, some 37], [], [none, none, none, none, some 39], [], [some 41, none, none, none, none, none, none, some 42, some 43], [], [], [], [some 59, some 62, some 65, some 68, some 71, some 74], [none, some 44, some 46, some 48, some 49, some 50, some 51, some 52, some 53, some 54, some 55, some 56], [some 47], [], [], [], [], [], [], [], [], [], [], [some 77, some 79, some 81, some 83], [], [some 60, some 61], [], [], [some 63, some 64], [], [], [some 66, some 67], [], [], [some 69, some 70], [], [], [some 72, some 73], [], [], [some 75, some 76], [], [], [none, none, some 78], [], [none, none, some 80], [], [none, none, some 82], [], [none, none, some 84], [], [none, some 86, some 87, none, none, some 88, none, none, some 89, some 90, some 91, none, some 92, some 93, some 94, some 95, some 96, none, none, some 97, none, none, none, none, none, none, none, none, none, none, none, none, none, none, none, none, some 98, some 99, some 100, some 101, some 102, some 103, some 104, none, none, some 105, none, none, some 106, some 107, some 108, none, none, none, none, some 109, some 110, some 111, some 112], [], [], [], [], [], [], [], [], [], [], [], [], [], [], [], [], [], [], [], [], [], [], [], [], [], [], []]
def P0 (k j : Nat) : Option Nat := (p0t.getD k []).getD j none
/-- the references, the day's house read off the memory -/
def PD (M : Mem) : Pm := fun k j => if k = 45 ∧ j = 0 then some (ix (M 45 0)) else P0 k j
theorem PD_wr {M : Mem} {k j : Nat} {x : Int32} (h : k ≠ 45 ∨ j ≠ 0) : PD (wr M k j x) = PD M := by
  funext a b
  unfold PD
  have e : wr M k j x 45 0 = M 45 0 := by
    unfold wr
    rw [if_neg]
    rintro ⟨h1, h2⟩
    rcases h with h | h
    · exact h h1.symm
    · exact h h2.symm
  rw [e]
theorem PD_wrR {M : Mem} {k : Nat} {f : Nat → Int32} (h : k ≠ 45) : PD (wrR M k f) = PD M := by
  funext a b
  unfold PD wrR
  rw [if_neg (show ¬ 45 = k from fun z => h z.symm)]
abbrev AS (K : Cx) (n : Nat) (M : Mem) (pc : Nat) (loc : List (Option Value)) (st : List Value) : Prop := AW K n M (PD M) pc loc st
theorem ob_0 {n : Nat} (h : 85 ≤ n) : OB n 0 7 10 := ⟨Nat.lt_of_lt_of_le (by decide) h, by decide, rfl⟩
theorem ob_1 {n : Nat} (h : 85 ≤ n) : OB n 1 1 8 := ⟨Nat.lt_of_lt_of_le (by decide) h, by decide, rfl⟩
theorem ob_2 {n : Nat} (h : 85 ≤ n) : OB n 2 20 8 := ⟨Nat.lt_of_lt_of_le (by decide) h, by decide, rfl⟩
theorem ob_3 {n : Nat} (h : 85 ≤ n) : OB n 3 20 8 := ⟨Nat.lt_of_lt_of_le (by decide) h, by decide, rfl⟩
theorem ob_4 {n : Nat} (h : 85 ≤ n) : OB n 4 20 8 := ⟨Nat.lt_of_lt_of_le (by decide) h, by decide, rfl⟩
theorem ob_5 {n : Nat} (h : 85 ≤ n) : OB n 5 22 4 := ⟨Nat.lt_of_lt_of_le (by decide) h, by decide, rfl⟩
theorem ob_6 {n : Nat} (h : 85 ≤ n) : OB n 6 2 5 := ⟨Nat.lt_of_lt_of_le (by decide) h, by decide, rfl⟩
theorem ob_7 {n : Nat} (h : 85 ≤ n) : OB n 7 20 5 := ⟨Nat.lt_of_lt_of_le (by decide) h, by decide, rfl⟩
theorem ob_8 {n : Nat} (h : 85 ≤ n) : OB n 8 2 5 := ⟨Nat.lt_of_lt_of_le (by decide) h, by decide, rfl⟩
theorem ob_9 {n : Nat} (h : 85 ≤ n) : OB n 9 20 5 := ⟨Nat.lt_of_lt_of_le (by decide) h, by decide, rfl⟩
theorem ob_10 {n : Nat} (h : 85 ≤ n) : OB n 10 2 5 := ⟨Nat.lt_of_lt_of_le (by decide) h, by decide, rfl⟩
theorem ob_11 {n : Nat} (h : 85 ≤ n) : OB n 11 20 5 := ⟨Nat.lt_of_lt_of_le (by decide) h, by decide, rfl⟩
theorem ob_12 {n : Nat} (h : 85 ≤ n) : OB n 12 2 5 := ⟨Nat.lt_of_lt_of_le (by decide) h, by decide, rfl⟩
theorem ob_13 {n : Nat} (h : 85 ≤ n) : OB n 13 20 5 := ⟨Nat.lt_of_lt_of_le (by decide) h, by decide, rfl⟩
theorem ob_14 {n : Nat} (h : 85 ≤ n) : OB n 14 1 8 := ⟨Nat.lt_of_lt_of_le (by decide) h, by decide, rfl⟩
theorem ob_15 {n : Nat} (h : 85 ≤ n) : OB n 15 20 8 := ⟨Nat.lt_of_lt_of_le (by decide) h, by decide, rfl⟩
theorem ob_16 {n : Nat} (h : 85 ≤ n) : OB n 16 20 8 := ⟨Nat.lt_of_lt_of_le (by decide) h, by decide, rfl⟩
theorem ob_17 {n : Nat} (h : 85 ≤ n) : OB n 17 20 8 := ⟨Nat.lt_of_lt_of_le (by decide) h, by decide, rfl⟩
theorem ob_18 {n : Nat} (h : 85 ≤ n) : OB n 18 22 4 := ⟨Nat.lt_of_lt_of_le (by decide) h, by decide, rfl⟩
theorem ob_19 {n : Nat} (h : 85 ≤ n) : OB n 19 2 5 := ⟨Nat.lt_of_lt_of_le (by decide) h, by decide, rfl⟩
theorem ob_20 {n : Nat} (h : 85 ≤ n) : OB n 20 20 5 := ⟨Nat.lt_of_lt_of_le (by decide) h, by decide, rfl⟩
theorem ob_21 {n : Nat} (h : 85 ≤ n) : OB n 21 2 5 := ⟨Nat.lt_of_lt_of_le (by decide) h, by decide, rfl⟩
theorem ob_22 {n : Nat} (h : 85 ≤ n) : OB n 22 20 5 := ⟨Nat.lt_of_lt_of_le (by decide) h, by decide, rfl⟩
theorem ob_23 {n : Nat} (h : 85 ≤ n) : OB n 23 2 5 := ⟨Nat.lt_of_lt_of_le (by decide) h, by decide, rfl⟩
theorem ob_24 {n : Nat} (h : 85 ≤ n) : OB n 24 20 5 := ⟨Nat.lt_of_lt_of_le (by decide) h, by decide, rfl⟩
theorem ob_25 {n : Nat} (h : 85 ≤ n) : OB n 25 2 5 := ⟨Nat.lt_of_lt_of_le (by decide) h, by decide, rfl⟩
theorem ob_26 {n : Nat} (h : 85 ≤ n) : OB n 26 20 5 := ⟨Nat.lt_of_lt_of_le (by decide) h, by decide, rfl⟩
theorem ob_27 {n : Nat} (h : 85 ≤ n) : OB n 27 1 8 := ⟨Nat.lt_of_lt_of_le (by decide) h, by decide, rfl⟩
theorem ob_28 {n : Nat} (h : 85 ≤ n) : OB n 28 20 8 := ⟨Nat.lt_of_lt_of_le (by decide) h, by decide, rfl⟩
theorem ob_29 {n : Nat} (h : 85 ≤ n) : OB n 29 20 8 := ⟨Nat.lt_of_lt_of_le (by decide) h, by decide, rfl⟩
theorem ob_30 {n : Nat} (h : 85 ≤ n) : OB n 30 20 8 := ⟨Nat.lt_of_lt_of_le (by decide) h, by decide, rfl⟩
theorem ob_31 {n : Nat} (h : 85 ≤ n) : OB n 31 22 4 := ⟨Nat.lt_of_lt_of_le (by decide) h, by decide, rfl⟩
theorem ob_32 {n : Nat} (h : 85 ≤ n) : OB n 32 2 5 := ⟨Nat.lt_of_lt_of_le (by decide) h, by decide, rfl⟩
theorem ob_33 {n : Nat} (h : 85 ≤ n) : OB n 33 20 5 := ⟨Nat.lt_of_lt_of_le (by decide) h, by decide, rfl⟩
theorem ob_34 {n : Nat} (h : 85 ≤ n) : OB n 34 2 5 := ⟨Nat.lt_of_lt_of_le (by decide) h, by decide, rfl⟩
theorem ob_35 {n : Nat} (h : 85 ≤ n) : OB n 35 20 5 := ⟨Nat.lt_of_lt_of_le (by decide) h, by decide, rfl⟩
theorem ob_36 {n : Nat} (h : 85 ≤ n) : OB n 36 2 5 := ⟨Nat.lt_of_lt_of_le (by decide) h, by decide, rfl⟩
theorem ob_37 {n : Nat} (h : 85 ≤ n) : OB n 37 20 5 := ⟨Nat.lt_of_lt_of_le (by decide) h, by decide, rfl⟩
theorem ob_38 {n : Nat} (h : 85 ≤ n) : OB n 38 2 5 := ⟨Nat.lt_of_lt_of_le (by decide) h, by decide, rfl⟩
theorem ob_39 {n : Nat} (h : 85 ≤ n) : OB n 39 20 5 := ⟨Nat.lt_of_lt_of_le (by decide) h, by decide, rfl⟩
theorem ob_40 {n : Nat} (h : 85 ≤ n) : OB n 40 3 10 := ⟨Nat.lt_of_lt_of_le (by decide) h, by decide, rfl⟩
theorem ob_41 {n : Nat} (h : 85 ≤ n) : OB n 41 20 160 := ⟨Nat.lt_of_lt_of_le (by decide) h, by decide, rfl⟩
theorem ob_42 {n : Nat} (h : 85 ≤ n) : OB n 42 20 160 := ⟨Nat.lt_of_lt_of_le (by decide) h, by decide, rfl⟩
theorem ob_43 {n : Nat} (h : 85 ≤ n) : OB n 43 20 3 := ⟨Nat.lt_of_lt_of_le (by decide) h, by decide, rfl⟩
theorem ob_44 {n : Nat} (h : 85 ≤ n) : OB n 44 24 6 := ⟨Nat.lt_of_lt_of_le (by decide) h, by decide, rfl⟩
theorem ob_45 {n : Nat} (h : 85 ≤ n) : OB n 45 0 15 := ⟨Nat.lt_of_lt_of_le (by decide) h, by decide, rfl⟩
theorem ob_46 {n : Nat} (h : 85 ≤ n) : OB n 46 5 2 := ⟨Nat.lt_of_lt_of_le (by decide) h, by decide, rfl⟩
theorem ob_47 {n : Nat} (h : 85 ≤ n) : OB n 47 20 64 := ⟨Nat.lt_of_lt_of_le (by decide) h, by decide, rfl⟩
theorem ob_48 {n : Nat} (h : 85 ≤ n) : OB n 48 20 6 := ⟨Nat.lt_of_lt_of_le (by decide) h, by decide, rfl⟩
theorem ob_49 {n : Nat} (h : 85 ≤ n) : OB n 49 20 160 := ⟨Nat.lt_of_lt_of_le (by decide) h, by decide, rfl⟩
theorem ob_50 {n : Nat} (h : 85 ≤ n) : OB n 50 20 4 := ⟨Nat.lt_of_lt_of_le (by decide) h, by decide, rfl⟩
theorem ob_51 {n : Nat} (h : 85 ≤ n) : OB n 51 20 4 := ⟨Nat.lt_of_lt_of_le (by decide) h, by decide, rfl⟩
theorem ob_52 {n : Nat} (h : 85 ≤ n) : OB n 52 20 4 := ⟨Nat.lt_of_lt_of_le (by decide) h, by decide, rfl⟩
theorem ob_53 {n : Nat} (h : 85 ≤ n) : OB n 53 20 4 := ⟨Nat.lt_of_lt_of_le (by decide) h, by decide, rfl⟩
theorem ob_54 {n : Nat} (h : 85 ≤ n) : OB n 54 20 4 := ⟨Nat.lt_of_lt_of_le (by decide) h, by decide, rfl⟩
theorem ob_55 {n : Nat} (h : 85 ≤ n) : OB n 55 20 4 := ⟨Nat.lt_of_lt_of_le (by decide) h, by decide, rfl⟩
theorem ob_56 {n : Nat} (h : 85 ≤ n) : OB n 56 20 8 := ⟨Nat.lt_of_lt_of_le (by decide) h, by decide, rfl⟩
theorem ob_57 {n : Nat} (h : 85 ≤ n) : OB n 57 23 4 := ⟨Nat.lt_of_lt_of_le (by decide) h, by decide, rfl⟩
theorem ob_58 {n : Nat} (h : 85 ≤ n) : OB n 58 20 5 := ⟨Nat.lt_of_lt_of_le (by decide) h, by decide, rfl⟩
theorem ob_59 {n : Nat} (h : 85 ≤ n) : OB n 59 6 2 := ⟨Nat.lt_of_lt_of_le (by decide) h, by decide, rfl⟩
theorem ob_60 {n : Nat} (h : 85 ≤ n) : OB n 60 20 160 := ⟨Nat.lt_of_lt_of_le (by decide) h, by decide, rfl⟩
theorem ob_61 {n : Nat} (h : 85 ≤ n) : OB n 61 20 3 := ⟨Nat.lt_of_lt_of_le (by decide) h, by decide, rfl⟩
theorem ob_62 {n : Nat} (h : 85 ≤ n) : OB n 62 6 2 := ⟨Nat.lt_of_lt_of_le (by decide) h, by decide, rfl⟩
theorem ob_63 {n : Nat} (h : 85 ≤ n) : OB n 63 20 160 := ⟨Nat.lt_of_lt_of_le (by decide) h, by decide, rfl⟩
theorem ob_64 {n : Nat} (h : 85 ≤ n) : OB n 64 20 3 := ⟨Nat.lt_of_lt_of_le (by decide) h, by decide, rfl⟩
theorem ob_65 {n : Nat} (h : 85 ≤ n) : OB n 65 6 2 := ⟨Nat.lt_of_lt_of_le (by decide) h, by decide, rfl⟩
theorem ob_66 {n : Nat} (h : 85 ≤ n) : OB n 66 20 160 := ⟨Nat.lt_of_lt_of_le (by decide) h, by decide, rfl⟩
theorem ob_67 {n : Nat} (h : 85 ≤ n) : OB n 67 20 3 := ⟨Nat.lt_of_lt_of_le (by decide) h, by decide, rfl⟩
theorem ob_68 {n : Nat} (h : 85 ≤ n) : OB n 68 6 2 := ⟨Nat.lt_of_lt_of_le (by decide) h, by decide, rfl⟩
theorem ob_69 {n : Nat} (h : 85 ≤ n) : OB n 69 20 160 := ⟨Nat.lt_of_lt_of_le (by decide) h, by decide, rfl⟩
theorem ob_70 {n : Nat} (h : 85 ≤ n) : OB n 70 20 3 := ⟨Nat.lt_of_lt_of_le (by decide) h, by decide, rfl⟩
theorem ob_71 {n : Nat} (h : 85 ≤ n) : OB n 71 6 2 := ⟨Nat.lt_of_lt_of_le (by decide) h, by decide, rfl⟩
theorem ob_72 {n : Nat} (h : 85 ≤ n) : OB n 72 20 160 := ⟨Nat.lt_of_lt_of_le (by decide) h, by decide, rfl⟩
theorem ob_73 {n : Nat} (h : 85 ≤ n) : OB n 73 20 3 := ⟨Nat.lt_of_lt_of_le (by decide) h, by decide, rfl⟩
theorem ob_74 {n : Nat} (h : 85 ≤ n) : OB n 74 6 2 := ⟨Nat.lt_of_lt_of_le (by decide) h, by decide, rfl⟩
theorem ob_75 {n : Nat} (h : 85 ≤ n) : OB n 75 20 160 := ⟨Nat.lt_of_lt_of_le (by decide) h, by decide, rfl⟩
theorem ob_76 {n : Nat} (h : 85 ≤ n) : OB n 76 20 3 := ⟨Nat.lt_of_lt_of_le (by decide) h, by decide, rfl⟩
theorem ob_77 {n : Nat} (h : 85 ≤ n) : OB n 77 4 3 := ⟨Nat.lt_of_lt_of_le (by decide) h, by decide, rfl⟩
theorem ob_78 {n : Nat} (h : 85 ≤ n) : OB n 78 20 40 := ⟨Nat.lt_of_lt_of_le (by decide) h, by decide, rfl⟩
theorem ob_79 {n : Nat} (h : 85 ≤ n) : OB n 79 4 3 := ⟨Nat.lt_of_lt_of_le (by decide) h, by decide, rfl⟩
theorem ob_80 {n : Nat} (h : 85 ≤ n) : OB n 80 20 40 := ⟨Nat.lt_of_lt_of_le (by decide) h, by decide, rfl⟩
theorem ob_81 {n : Nat} (h : 85 ≤ n) : OB n 81 4 3 := ⟨Nat.lt_of_lt_of_le (by decide) h, by decide, rfl⟩
theorem ob_82 {n : Nat} (h : 85 ≤ n) : OB n 82 20 40 := ⟨Nat.lt_of_lt_of_le (by decide) h, by decide, rfl⟩
theorem ob_83 {n : Nat} (h : 85 ≤ n) : OB n 83 4 3 := ⟨Nat.lt_of_lt_of_le (by decide) h, by decide, rfl⟩
theorem ob_84 {n : Nat} (h : 85 ≤ n) : OB n 84 20 40 := ⟨Nat.lt_of_lt_of_le (by decide) h, by decide, rfl⟩
theorem ob_85 {n : Nat} (h : 113 ≤ n) : OB n 85 8 59 := ⟨Nat.lt_of_lt_of_le (by decide) h, by decide, rfl⟩
theorem ob_86 {n : Nat} (h : 113 ≤ n) : OB n 86 20 960 := ⟨Nat.lt_of_lt_of_le (by decide) h, by decide, rfl⟩
theorem ob_87 {n : Nat} (h : 113 ≤ n) : OB n 87 20 6 := ⟨Nat.lt_of_lt_of_le (by decide) h, by decide, rfl⟩
theorem ob_88 {n : Nat} (h : 113 ≤ n) : OB n 88 20 160 := ⟨Nat.lt_of_lt_of_le (by decide) h, by decide, rfl⟩
theorem ob_89 {n : Nat} (h : 113 ≤ n) : OB n 89 20 8 := ⟨Nat.lt_of_lt_of_le (by decide) h, by decide, rfl⟩
theorem ob_90 {n : Nat} (h : 113 ≤ n) : OB n 90 20 8 := ⟨Nat.lt_of_lt_of_le (by decide) h, by decide, rfl⟩
theorem ob_91 {n : Nat} (h : 113 ≤ n) : OB n 91 20 8 := ⟨Nat.lt_of_lt_of_le (by decide) h, by decide, rfl⟩
theorem ob_92 {n : Nat} (h : 113 ≤ n) : OB n 92 20 4 := ⟨Nat.lt_of_lt_of_le (by decide) h, by decide, rfl⟩
theorem ob_93 {n : Nat} (h : 113 ≤ n) : OB n 93 20 4 := ⟨Nat.lt_of_lt_of_le (by decide) h, by decide, rfl⟩
theorem ob_94 {n : Nat} (h : 113 ≤ n) : OB n 94 20 4 := ⟨Nat.lt_of_lt_of_le (by decide) h, by decide, rfl⟩
theorem ob_95 {n : Nat} (h : 113 ≤ n) : OB n 95 20 20 := ⟨Nat.lt_of_lt_of_le (by decide) h, by decide, rfl⟩
theorem ob_96 {n : Nat} (h : 113 ≤ n) : OB n 96 20 4 := ⟨Nat.lt_of_lt_of_le (by decide) h, by decide, rfl⟩
theorem ob_97 {n : Nat} (h : 113 ≤ n) : OB n 97 20 64 := ⟨Nat.lt_of_lt_of_le (by decide) h, by decide, rfl⟩
theorem ob_98 {n : Nat} (h : 113 ≤ n) : OB n 98 20 4 := ⟨Nat.lt_of_lt_of_le (by decide) h, by decide, rfl⟩
theorem ob_99 {n : Nat} (h : 113 ≤ n) : OB n 99 20 4 := ⟨Nat.lt_of_lt_of_le (by decide) h, by decide, rfl⟩
theorem ob_100 {n : Nat} (h : 113 ≤ n) : OB n 100 20 4 := ⟨Nat.lt_of_lt_of_le (by decide) h, by decide, rfl⟩
theorem ob_101 {n : Nat} (h : 113 ≤ n) : OB n 101 20 4 := ⟨Nat.lt_of_lt_of_le (by decide) h, by decide, rfl⟩
theorem ob_102 {n : Nat} (h : 113 ≤ n) : OB n 102 20 4 := ⟨Nat.lt_of_lt_of_le (by decide) h, by decide, rfl⟩
theorem ob_103 {n : Nat} (h : 113 ≤ n) : OB n 103 20 4 := ⟨Nat.lt_of_lt_of_le (by decide) h, by decide, rfl⟩
theorem ob_104 {n : Nat} (h : 113 ≤ n) : OB n 104 20 8 := ⟨Nat.lt_of_lt_of_le (by decide) h, by decide, rfl⟩
theorem ob_105 {n : Nat} (h : 113 ≤ n) : OB n 105 20 5 := ⟨Nat.lt_of_lt_of_le (by decide) h, by decide, rfl⟩
theorem ob_106 {n : Nat} (h : 113 ≤ n) : OB n 106 20 8 := ⟨Nat.lt_of_lt_of_le (by decide) h, by decide, rfl⟩
theorem ob_107 {n : Nat} (h : 113 ≤ n) : OB n 107 20 24 := ⟨Nat.lt_of_lt_of_le (by decide) h, by decide, rfl⟩
theorem ob_108 {n : Nat} (h : 113 ≤ n) : OB n 108 20 32 := ⟨Nat.lt_of_lt_of_le (by decide) h, by decide, rfl⟩
theorem ob_109 {n : Nat} (h : 113 ≤ n) : OB n 109 21 4 := ⟨Nat.lt_of_lt_of_le (by decide) h, by decide, rfl⟩
theorem ob_110 {n : Nat} (h : 113 ≤ n) : OB n 110 20 4 := ⟨Nat.lt_of_lt_of_le (by decide) h, by decide, rfl⟩
theorem ob_111 {n : Nat} (h : 113 ≤ n) : OB n 111 20 4 := ⟨Nat.lt_of_lt_of_le (by decide) h, by decide, rfl⟩
theorem ob_112 {n : Nat} (h : 113 ≤ n) : OB n 112 20 160 := ⟨Nat.lt_of_lt_of_le (by decide) h, by decide, rfl⟩
theorem p_0_0 {M : Mem} : PD M 0 0 = some 1 := rfl
theorem p_0_1 {M : Mem} : PD M 0 1 = some 14 := rfl
theorem p_0_2 {M : Mem} : PD M 0 2 = some 27 := rfl
theorem p_0_4 {M : Mem} : PD M 0 4 = some 40 := rfl
theorem p_0_5 {M : Mem} : PD M 0 5 = some 44 := rfl
theorem p_0_7 {M : Mem} : PD M 0 7 = some 45 := rfl
theorem p_0_8 {M : Mem} : PD M 0 8 = some 57 := rfl
theorem p_0_9 {M : Mem} : PD M 0 9 = some 58 := rfl
theorem p_1_4 {M : Mem} : PD M 1 4 = some 2 := rfl
theorem p_1_5 {M : Mem} : PD M 1 5 = some 3 := rfl
theorem p_1_6 {M : Mem} : PD M 1 6 = some 4 := rfl
theorem p_1_7 {M : Mem} : PD M 1 7 = some 5 := rfl
theorem p_6_4 {M : Mem} : PD M 6 4 = some 7 := rfl
theorem p_8_4 {M : Mem} : PD M 8 4 = some 9 := rfl
theorem p_10_4 {M : Mem} : PD M 10 4 = some 11 := rfl
theorem p_12_4 {M : Mem} : PD M 12 4 = some 13 := rfl
theorem p_14_4 {M : Mem} : PD M 14 4 = some 15 := rfl
theorem p_14_5 {M : Mem} : PD M 14 5 = some 16 := rfl
theorem p_14_6 {M : Mem} : PD M 14 6 = some 17 := rfl
theorem p_14_7 {M : Mem} : PD M 14 7 = some 18 := rfl
theorem p_19_4 {M : Mem} : PD M 19 4 = some 20 := rfl
theorem p_21_4 {M : Mem} : PD M 21 4 = some 22 := rfl
theorem p_23_4 {M : Mem} : PD M 23 4 = some 24 := rfl
theorem p_25_4 {M : Mem} : PD M 25 4 = some 26 := rfl
theorem p_27_4 {M : Mem} : PD M 27 4 = some 28 := rfl
theorem p_27_5 {M : Mem} : PD M 27 5 = some 29 := rfl
theorem p_27_6 {M : Mem} : PD M 27 6 = some 30 := rfl
theorem p_27_7 {M : Mem} : PD M 27 7 = some 31 := rfl
theorem p_32_4 {M : Mem} : PD M 32 4 = some 33 := rfl
theorem p_34_4 {M : Mem} : PD M 34 4 = some 35 := rfl
theorem p_36_4 {M : Mem} : PD M 36 4 = some 37 := rfl
theorem p_38_4 {M : Mem} : PD M 38 4 = some 39 := rfl
theorem p_40_0 {M : Mem} : PD M 40 0 = some 41 := rfl
theorem p_40_7 {M : Mem} : PD M 40 7 = some 42 := rfl
theorem p_40_8 {M : Mem} : PD M 40 8 = some 43 := rfl
theorem p_45_1 {M : Mem} : PD M 45 1 = some 44 := rfl
theorem p_45_2 {M : Mem} : PD M 45 2 = some 46 := rfl
theorem p_45_3 {M : Mem} : PD M 45 3 = some 48 := rfl
theorem p_45_4 {M : Mem} : PD M 45 4 = some 49 := rfl
theorem p_45_5 {M : Mem} : PD M 45 5 = some 50 := rfl
theorem p_45_6 {M : Mem} : PD M 45 6 = some 51 := rfl
theorem p_45_7 {M : Mem} : PD M 45 7 = some 52 := rfl
theorem p_45_8 {M : Mem} : PD M 45 8 = some 53 := rfl
theorem p_45_9 {M : Mem} : PD M 45 9 = some 54 := rfl
theorem p_45_10 {M : Mem} : PD M 45 10 = some 55 := rfl
theorem p_45_11 {M : Mem} : PD M 45 11 = some 56 := rfl
theorem p_46_0 {M : Mem} : PD M 46 0 = some 47 := rfl
theorem p_59_0 {M : Mem} : PD M 59 0 = some 60 := rfl
theorem p_59_1 {M : Mem} : PD M 59 1 = some 61 := rfl
theorem p_62_0 {M : Mem} : PD M 62 0 = some 63 := rfl
theorem p_62_1 {M : Mem} : PD M 62 1 = some 64 := rfl
theorem p_65_0 {M : Mem} : PD M 65 0 = some 66 := rfl
theorem p_65_1 {M : Mem} : PD M 65 1 = some 67 := rfl
theorem p_68_0 {M : Mem} : PD M 68 0 = some 69 := rfl
theorem p_68_1 {M : Mem} : PD M 68 1 = some 70 := rfl
theorem p_71_0 {M : Mem} : PD M 71 0 = some 72 := rfl
theorem p_71_1 {M : Mem} : PD M 71 1 = some 73 := rfl
theorem p_74_0 {M : Mem} : PD M 74 0 = some 75 := rfl
theorem p_74_1 {M : Mem} : PD M 74 1 = some 76 := rfl
theorem p_77_2 {M : Mem} : PD M 77 2 = some 78 := rfl
theorem p_79_2 {M : Mem} : PD M 79 2 = some 80 := rfl
theorem p_81_2 {M : Mem} : PD M 81 2 = some 82 := rfl
theorem p_83_2 {M : Mem} : PD M 83 2 = some 84 := rfl
theorem p_85_1 {M : Mem} : PD M 85 1 = some 86 := rfl
theorem p_85_2 {M : Mem} : PD M 85 2 = some 87 := rfl
theorem p_85_5 {M : Mem} : PD M 85 5 = some 88 := rfl
theorem p_85_8 {M : Mem} : PD M 85 8 = some 89 := rfl
theorem p_85_9 {M : Mem} : PD M 85 9 = some 90 := rfl
theorem p_85_10 {M : Mem} : PD M 85 10 = some 91 := rfl
theorem p_85_12 {M : Mem} : PD M 85 12 = some 92 := rfl
theorem p_85_13 {M : Mem} : PD M 85 13 = some 93 := rfl
theorem p_85_14 {M : Mem} : PD M 85 14 = some 94 := rfl
theorem p_85_15 {M : Mem} : PD M 85 15 = some 95 := rfl
theorem p_85_16 {M : Mem} : PD M 85 16 = some 96 := rfl
theorem p_85_19 {M : Mem} : PD M 85 19 = some 97 := rfl
theorem p_85_36 {M : Mem} : PD M 85 36 = some 98 := rfl
theorem p_85_37 {M : Mem} : PD M 85 37 = some 99 := rfl
theorem p_85_38 {M : Mem} : PD M 85 38 = some 100 := rfl
theorem p_85_39 {M : Mem} : PD M 85 39 = some 101 := rfl
theorem p_85_40 {M : Mem} : PD M 85 40 = some 102 := rfl
theorem p_85_41 {M : Mem} : PD M 85 41 = some 103 := rfl
theorem p_85_42 {M : Mem} : PD M 85 42 = some 104 := rfl
theorem p_85_45 {M : Mem} : PD M 85 45 = some 105 := rfl
theorem p_85_48 {M : Mem} : PD M 85 48 = some 106 := rfl
theorem p_85_49 {M : Mem} : PD M 85 49 = some 107 := rfl
theorem p_85_50 {M : Mem} : PD M 85 50 = some 108 := rfl
theorem p_85_55 {M : Mem} : PD M 85 55 = some 109 := rfl
theorem p_85_56 {M : Mem} : PD M 85 56 = some 110 := rfl
theorem p_85_57 {M : Mem} : PD M 85 57 = some 111 := rfl
theorem p_85_58 {M : Mem} : PD M 85 58 = some 112 := rfl
abbrev hOK (k : Nat) : Prop := k = 1 ∨ k = 14 ∨ k = 27
abbrev aOK (k : Nat) : Prop := (5 < k ∧ k < 14 ∧ k % 2 = 0) ∨ (18 < k ∧ k < 27 ∧ k % 2 = 1) ∨ (31 < k ∧ k < 40 ∧ k % 2 = 0)
abbrev sOK (k : Nat) : Prop := 76 < k ∧ k < 85 ∧ k % 2 = 1
abbrev gOK (k : Nat) : Prop := 58 < k ∧ k < 77 ∧ k % 3 = 2
theorem co_all {N : Nat} {Q R : Nat → Prop} [DecidablePred Q] [DecidablePred R] (h : (List.range N).all (fun i => decide (Q i → R i)) = true) : ∀ i, i < N → Q i → R i := fun i hi hq => (of_decide_eq_true (List.all_eq_true.mp h i (List.mem_range.mpr hi))) hq
theorem PD_P0 {M : Mem} {k j : Nat} (h : k ≠ 45) : PD M k j = P0 k j := if_neg (fun z => h z.1)
theorem hOK_t : ∀ k, k < 113 → hOK k → (shf k = (1, 8) ∧ shf (k + 1) = (20, 8) ∧ shf (k + 2) = (20, 8) ∧ shf (k + 3) = (20, 8) ∧ shf (k + 4) = (22, 4)) ∧ P0 k 4 = some (k + 1) ∧ P0 k 5 = some (k + 2) ∧ P0 k 6 = some (k + 3) ∧ P0 k 7 = some (k + 4) ∧ ∀ j, j < 4 → P0 (k + 4) j = some (k + 5 + 2 * j) ∧ aOK (k + 5 + 2 * j) := by
  rintro k _ (rfl | rfl | rfl) <;> decide
theorem aOK_t : ∀ k, k < 113 → aOK k → shf k = (2, 5) ∧ shf (k + 1) = (20, 5) ∧ P0 k 4 = some (k + 1) := co_all (by decide +kernel)
theorem sOK_t : ∀ k, k < 113 → sOK k → shf k = (4, 3) ∧ shf (k + 1) = (20, 40) ∧ P0 k 2 = some (k + 1) := co_all (by decide +kernel)
theorem gOK_t : ∀ k, k < 113 → gOK k → shf k = (6, 2) ∧ shf (k + 1) = (20, 160) ∧ shf (k + 2) = (20, 3) ∧ P0 k 0 = some (k + 1) ∧ P0 k 1 = some (k + 2) := co_all (by decide +kernel)
section S6
variable {n k : Nat} {M : Mem}
theorem hOK_lt (h : hOK k) : k < 80 := by unfold hOK at h; omega
theorem aOK_lt (h : aOK k) : k < 40 := by unfold aOK at h; omega
theorem hO (hn : 85 ≤ n) (h : hOK k) : OB n k 1 8 := ⟨by have := hOK_lt h; omega, by have := hOK_lt h; omega, (hOK_t k (by have := hOK_lt h; omega) h).1.1⟩
theorem hO1 (hn : 85 ≤ n) (h : hOK k) : OB n (k + 1) 20 8 := ⟨by have := hOK_lt h; omega, by have := hOK_lt h; omega, (hOK_t k (by have := hOK_lt h; omega) h).1.2.1⟩
theorem hO2 (hn : 85 ≤ n) (h : hOK k) : OB n (k + 2) 20 8 := ⟨by have := hOK_lt h; omega, by have := hOK_lt h; omega, (hOK_t k (by have := hOK_lt h; omega) h).1.2.2.1⟩
theorem hO3 (hn : 85 ≤ n) (h : hOK k) : OB n (k + 3) 20 8 := ⟨by have := hOK_lt h; omega, by have := hOK_lt h; omega, (hOK_t k (by have := hOK_lt h; omega) h).1.2.2.2.1⟩
theorem hO4 (hn : 85 ≤ n) (h : hOK k) : OB n (k + 4) 22 4 := ⟨by have := hOK_lt h; omega, by have := hOK_lt h; omega, (hOK_t k (by have := hOK_lt h; omega) h).1.2.2.2.2⟩
theorem hP4 (h : hOK k) : PD M k 4 = some (k + 1) := by rw [PD_P0 (by have h := h; unfold hOK at h; omega)]; exact (hOK_t k (by have := hOK_lt h; omega) h).2.1
theorem hP5 (h : hOK k) : PD M k 5 = some (k + 2) := by rw [PD_P0 (by have h := h; unfold hOK at h; omega)]; exact (hOK_t k (by have := hOK_lt h; omega) h).2.2.1
theorem hP6 (h : hOK k) : PD M k 6 = some (k + 3) := by rw [PD_P0 (by have h := h; unfold hOK at h; omega)]; exact (hOK_t k (by have := hOK_lt h; omega) h).2.2.2.1
theorem hP7 (h : hOK k) : PD M k 7 = some (k + 4) := by rw [PD_P0 (by have h := h; unfold hOK at h; omega)]; exact (hOK_t k (by have := hOK_lt h; omega) h).2.2.2.2.1
theorem ix_lt {i : Int32} {N : Nat} (h : ib i N) : ix i < N := by unfold ix; have := h; omega
theorem hPA {i : Int32} (h : hOK k) (hi : ib i 4) : PD M (k + 4) (ix i) = some (k + 5 + 2 * ix i) := by rw [PD_P0 (by have h := h; unfold hOK at h; omega)]; exact ((hOK_t k (by have := hOK_lt h; omega) h).2.2.2.2.2 _ (ix_lt hi)).1
theorem hA {i : Int32} (h : hOK k) (hi : ib i 4) : aOK (k + 5 + 2 * ix i) := ((hOK_t k (by have := hOK_lt h; omega) h).2.2.2.2.2 _ (ix_lt hi)).2
theorem aO (hn : 85 ≤ n) (h : aOK k) : OB n k 2 5 := ⟨by have := aOK_lt h; omega, by have := aOK_lt h; omega, (aOK_t k (by have := aOK_lt h; omega) h).1⟩
theorem aO1 (hn : 85 ≤ n) (h : aOK k) : OB n (k + 1) 20 5 := ⟨by have := aOK_lt h; omega, by have := aOK_lt h; omega, (aOK_t k (by have := aOK_lt h; omega) h).2.1⟩
theorem aP4 (h : aOK k) : PD M k 4 = some (k + 1) := by rw [PD_P0 (by have := aOK_lt h; omega)]; exact (aOK_t k (by have := aOK_lt h; omega) h).2.2
theorem sO (hn : 85 ≤ n) (h : sOK k) : OB n k 4 3 := ⟨by have := h.2.1; omega, by have := h.2.1; omega, (sOK_t k (by have := h.2.1; omega) h).1⟩
theorem sO1 (hn : 85 ≤ n) (h : sOK k) : OB n (k + 1) 20 40 := ⟨by have := h.2.1; have := h.2.2; omega, by have := h.2.1; omega, (sOK_t k (by have := h.2.1; omega) h).2.1⟩
theorem sP2 (h : sOK k) : PD M k 2 = some (k + 1) := by rw [PD_P0 (by have := h.1; omega)]; exact (sOK_t k (by have := h.2.1; omega) h).2.2
theorem gO (hn : 85 ≤ n) (h : gOK k) : OB n k 6 2 := ⟨by have := h.2.1; omega, by have := h.2.1; omega, (gOK_t k (by have := h.2.1; omega) h).1⟩
theorem gO1 (hn : 85 ≤ n) (h : gOK k) : OB n (k + 1) 20 160 := ⟨by have := h.2.1; omega, by have := h.2.1; omega, (gOK_t k (by have := h.2.1; omega) h).2.1⟩
theorem gO2 (hn : 85 ≤ n) (h : gOK k) : OB n (k + 2) 20 3 := ⟨by have := h.2.1; omega, by have := h.2.1; omega, (gOK_t k (by have := h.2.1; omega) h).2.2.1⟩
theorem gP0 (h : gOK k) : PD M k 0 = some (k + 1) := by rw [PD_P0 (by have := h.1; omega)]; exact (gOK_t k (by have := h.2.1; omega) h).2.2.2.1
theorem gP1 (h : gOK k) : PD M k 1 = some (k + 2) := by rw [PD_P0 (by have := h.1; omega)]; exact (gOK_t k (by have := h.2.1; omega) h).2.2.2.2
theorem txP : ∀ j, j < 6 → P0 44 j = some (59 + 3 * j) ∧ gOK (59 + 3 * j) := by decide +kernel
theorem shP : ∀ j, j < 4 → P0 57 j = some (77 + 2 * j) ∧ sOK (77 + 2 * j) := by decide +kernel
theorem tPA {i : Int32} (hi : ib i 6) : PD M 44 (ix i) = some (59 + 3 * ix i) := by rw [PD_P0 (by decide)]; exact (txP _ (ix_lt hi)).1
theorem tA {i : Int32} (hi : ib i 6) : gOK (59 + 3 * ix i) := (txP _ (ix_lt hi)).2
theorem qPA {i : Int32} (hi : ib i 4) : PD M 57 (ix i) = some (77 + 2 * ix i) := by rw [PD_P0 (by decide)]; exact (shP _ (ix_lt hi)).1
theorem qA {i : Int32} (hi : ib i 4) : sOK (77 + 2 * ix i) := (shP _ (ix_lt hi)).2
end S6
theorem sl_0 {l : List (Option Value)} : ∀ (i : Nat) (v : Value), ([] : List (Option Value))[i]? = some (some v) → l[i]? = some (some v) := fun i v h => by simp at h
theorem sl_n {l' l : List (Option Value)} {b : Option Value} (h : ∀ (i : Nat) (v : Value), l'[i]? = some (some v) → l[i]? = some (some v)) : ∀ (i : Nat) (v : Value), (none :: l')[i]? = some (some v) → (b :: l)[i]? = some (some v)
  | 0, v, e => by simp at e
  | i + 1, v, e => by simpa using h i v (by simpa using e)
theorem sl_k {l' l : List (Option Value)} {b : Option Value} (h : ∀ (i : Nat) (v : Value), l'[i]? = some (some v) → l[i]? = some (some v)) : ∀ (i : Nat) (v : Value), (b :: l')[i]? = some (some v) → (b :: l)[i]? = some (some v)
  | 0, v, e => by simpa using e
  | i + 1, v, e => by simpa using h i v (by simpa using e)
/-- decode rows by a table -/
def tbq (cc : ByteArray) (q : Nat × Instr × Nat) : Bool := match decode cc q.1 with
  | .ok x => decide (x = (q.2.1, q.2.2))
  | .error _ => false
theorem tbq_ok {cc : ByteArray} {q : Nat × Instr × Nat} (h : tbq cc q = true) : decode cc q.1 = .ok (q.2.1, q.2.2) := by
  unfold tbq at h
  cases hd : decode cc q.1 with
  | error e => rw [hd] at h; cases h
  | ok x => rw [hd] at h; rw [of_decide_eq_true h]
def TB (cc : ByteArray) (t : List (Nat × Instr × Nat)) : Prop := t.all (fun q => tbq cc q) = true
theorem tb_at {cc : ByteArray} {t : List (Nat × Instr × Nat)} (h : TB cc t) (i : Nat) {pc len : Nat} {ins : Instr} (hi : t[i]? = some (pc, ins, len)) : decode cc pc = .ok (ins, len) := tbq_ok (q := (pc, ins, len)) (List.all_eq_true.mp h _ (List.mem_of_getElem? hi))
abbrev Ti (n : Nat) (q : Int32 × Mem) : Tg := fun rv n1 M1 P1 => rv = some (.int q.1) ∧ n1 = n ∧ M1 = q.2 ∧ P1 = PD q.2
abbrev Tl (n : Nat) (q : Int64 × Mem) : Tg := fun rv n1 M1 P1 => rv = some (.long q.1) ∧ n1 = n ∧ M1 = q.2 ∧ P1 = PD q.2
abbrev Tv (n : Nat) (q : Mem) : Tg := fun rv n1 M1 P1 => rv = none ∧ n1 = n ∧ M1 = q ∧ P1 = PD q
/-- the frame of a steady walk: room, level, locals, answer -/
def SS (K : Cx) (n lv nL : Nat) (ret : Option FieldType) (T : Tg) : Prop := Rm K n ∧ (n - kn K ≤ 0 ∧ sln n - sln (kn K) ≤ 0) ∧ lv ≤ (kR K).frames ∧ kL K = nL ∧ RT K ret T 0 0
section R6
variable {K : Cx} {own : String} {cc : ByteArray} {n : Nat} {M : Mem} {pc : Nat} {loc : List (Option Value)} {st : List Value} {lv0 nL0 : Nat} {ret0 : Option FieldType} {T0 : Tg}
variable {β : Type} {A B : Option β} {r : β}
theorem sw_put (C : Ctx K own cc) {k ci N j lk : Nat} {x : Int32} {Cn : String} {T : u_T} (ob : OB n k ci N) (hc : vwCl[ci]? = some (Cn, T, N)) (hj : j < N) (hj2 : N ≤ 100) (h45 : k ≠ 45 ∨ j ≠ 0) (hf : fso (vty ci j) = 0) (hfin : (T j).2.2.2 = false) (hn : narrow (vty ci j) (.int x) = .int x) (hfit : fits (vty ci j) (.int x) = true) (hg : Cond.fieldLink own lk (T j).1 (T j).2.1 (T j).2.2.1 ∈ lw_gd) (d : decode cc pc = .ok (.putfield lk, 3)) (kk : AS K n (wr M k j x) (pc + 3) loc st) : AS K n M pc loc (.int x :: .ref k :: st) :=
  aw_put C ob hc hj hj2 hf hfin hn hfit hg d (by rw [← PD_wr (M := M) (x := x) h45]; exact kk)
theorem sw_putL (C : Ctx K own cc) {k ci N j lk : Nat} {x : Int64} {Cn : String} {T : u_T} (ob : OB n k ci N) (hc : vwCl[ci]? = some (Cn, T, N)) (hj : j < N) (hj2 : N ≤ 100) (h45 : k ≠ 45) (hf : vty ci j = .long) (hfin : (T j).2.2.2 = false) (hg : Cond.fieldLink own lk (T j).1 (T j).2.1 (T j).2.2.1 ∈ lw_gd) (d : decode cc pc = .ok (.putfield lk, 3)) (kk : AS K n (wr (wr M k (j + 100) (lgHi x)) k j (lgLo x)) (pc + 3) loc st) : AS K n M pc loc (.long x :: .ref k :: st) :=
  aw_putL C ob hc hj hj2 hf hfin hg d (by rw [← PD_wr (M := M) (j := j + 100) (x := lgHi x) (Or.inl h45), ← PD_wr (M := wr M k (j + 100) (lgHi x)) (j := j) (x := lgLo x) (Or.inl h45)]; exact kk)
theorem ob_ne {k N t : Nat} (ob : OB n k (t + 20) N) : k ≠ 45 := fun h => by
  have := ob.2.2
  rw [h] at this
  have e : shf 45 = (0, 15) := rfl
  rw [e] at this
  injection this with h1 h2
  omega
theorem sw_iast (C : Ctx K own cc) {k N : Nat} {i x : Int32} (ob : OB n k 20 N) (d : decode cc pc = .ok (.iastore, 1)) (h : (if ib i N then A else none) = some r) (kk : A = some r → AS K n (wr M k (ix i) x) (pc + 1) loc st) : AS K n M pc loc (.int x :: .int i :: .ref k :: st) :=
  aw_iast C ob d h (fun h => by rw [← PD_wr (M := M) (j := ix i) (x := x) (Or.inl (ob_ne (t := 0) ob))]; exact kk h)
theorem sw_zast (C : Ctx K own cc) {k N : Nat} {i x : Int32} (ob : OB n k 21 N) (d : decode cc pc = .ok (.bastore, 1)) (h : (if ib i N then A else none) = some r) (kk : A = some r → AS K n (wr M k (ix i) (vp_nar .boolean x)) (pc + 1) loc st) : AS K n M pc loc (.int x :: .int i :: .ref k :: st) :=
  aw_zast C ob d h (fun h => by rw [← PD_wr (M := M) (j := ix i) (x := vp_nar .boolean x) (Or.inl (ob_ne (t := 1) ob))]; exact kk h)
theorem sw_copy (C : Ctx K own cc) {k1 k2 N1 N2 lk : Nat} {sp dp m : Int32} (ob1 : OB n k1 20 N1) (ob2 : OB n k2 20 N2) (hg : Cond.methodLink own lk arraycopyName ∈ lw_gd) (hst : (st.map fun v => v.category).sum ≤ 20) (d : decode cc pc = .ok (.invokestatic lk, 3)) (h : (if 0 ≤ sp.toInt ∧ 0 ≤ dp.toInt ∧ 0 ≤ m.toInt ∧ sp.toInt + m.toInt ≤ N1 ∧ dp.toInt + m.toInt ≤ N2 then A else none) = some r) (hw : Cond.native arraycopyName ∈ lw_gd ∧ Cond.static arraycopyName ∈ lw_gd ∧ Cond.initialized "java/lang/System" ∈ lw_gd)
    (kk : A = some r → AS K n (wrR M k2 (va_cpy (M k1) (M k2) (ix sp) (ix dp) (ix m))) (pc + 3) loc st) : AS K n M pc loc (.int m :: .int dp :: .ref k2 :: .int sp :: .ref k1 :: st) :=
  aw_copy C ob1 ob2 hg hst d h hw (fun h => by rw [← PD_wrR (M := M) (f := va_cpy (M k1) (M k2) (ix sp) (ix dp) (ix m)) (ob_ne (t := 0) ob2)]; exact kk h)
theorem sw_aald (C : Ctx K own cc) (t : Nat) {k N q : Nat} {i : Int32} {Cn : String} (ob : OB n k (t + 20) N) (ht : 2 ≤ t) (hty : (tysO (kw K))[t]? = some (wA (kw K) t, .object Cn)) (d : decode cc pc = .ok (.aaload, 1)) (hq : ib i N → PD M k (ix i) = some q) (h : (if ib i N then A else none) = some r) (kk : ib i N → A = some r → AS K n M (pc + 1) loc (.ref q :: st)) : AS K n M pc loc (.int i :: .ref k :: st) := by
  by_cases hi : ib i N
  · exact aw_aald C t ob ht hty d h hq (fun h => kk hi h)
  · rw [if_neg hi] at h
    cases h
/-- the day's house, read: a guard says which it can be -/
theorem sw_getH (C : Ctx K own cc) {lk : Nat} (hn : 85 ≤ n) (hg : Cond.fieldLink own lk (TX0 0).1 (TX0 0).2.1 (TX0 0).2.2.1 ∈ lw_gd) (d : decode cc pc = .ok (.getfield lk, 3)) (h : (if hOK (ix (M 45 0)) then A else none) = some r) (kk : hOK (ix (M 45 0)) → A = some r → AS K n M (pc + 3) loc (.ref (ix (M 45 0)) :: st)) : AS K n M pc loc (.ref 45 :: st) := by
  by_cases hi : hOK (ix (M 45 0))
  · rw [if_pos hi] at h
    exact aw_getR C (ob_45 hn) rfl (by decide) rfl rfl hg d (kk hi h)
  · rw [if_neg hi] at h
    cases h
/-- and put -/
theorem sw_putH (C : Ctx K own cc) {q lk : Nat} (hn : 85 ≤ n) (hq : hOK q) (hg : Cond.fieldLink own lk (TX0 0).1 (TX0 0).2.1 (TX0 0).2.2.1 ∈ lw_gd) (d : decode cc pc = .ok (.putfield lk, 3)) (kk : AS K n (wr M 45 0 (nI q)) (pc + 3) loc st) : AS K n M pc loc (.ref q :: .ref 45 :: st) := by
  intro ls H locs hl hP hS
  have ob := ob_45 hn
  have he := wsO_at (w := kw K) (M := M) (P := PD M) ob.1
  rw [ent_ob ob.2.2 (by decide)] at he
  rw [List.map_cons, List.map_cons, cvr ob.2.1]
  refine va_put C.1 C.2.1 C.2.2.2.2.1 (cl_words _ (List.mem_of_getElem? (i := 0) rfl)) (vty 0) (vty_ok 0 (by decide) _ rfl) (vnm_ok 0 (by decide) _ rfl) C.2.2.2.1 C.2.2.2.2.2.1.1 hP wsO_D hS 45 he rfl 0 (by decide) (C.2.2.2.2.1 _ hg) (fun _ h => h) rfl (vty_ok 0 (by decide) _ rfl 0 (by decide)) rfl rfl (by simp) d (fun H1 locs1 hP1 _ hS1 => kk ls H1 locs1 hl ?_ hS1)
  have e0 : ix (nI q) = q := by rcases hq with rfl | rfl | rfl <;> rfl
  have ep : ∀ a b, ¬ (a = 45 ∧ b = 0) → PD (wr M 45 0 (nI q)) a b = PD M a b := fun a b h => by unfold PD; rw [if_neg h, if_neg h]
  rw [← wsO_set (M := M) (P := PD M) (M' := wr M 45 0 (nI q)) (P' := PD (wr M 45 0 (nI q))) ob.1 _ (fun a _ ha => ?_)]
  · exact hP1
  · rw [ent_ob ob.2.2 (by decide)]
    refine congrArg (fun l => Sum.inr (0, l)) (rng_set ?_ ?_).symm
    · show va_rf ((PD (wr M 45 0 (nI q)) 45 0).map (wad (kw K))) = cv (kw K) (.ref q)
      unfold PD
      rw [if_pos ⟨rfl, rfl⟩, wr_same, e0]
      rfl
    · intro i _ hi
      unfold fvl
      rw [wr_at hi, wr_at (show i + 100 ≠ 0 by omega), ep 45 i (fun z => hi z.2)]
  · have e1 : wr M 45 0 (nI q) a = M a := wr_ne ha
    have e2 : PD (wr M 45 0 (nI q)) a = PD M a := funext fun b => ep a b (fun z => ha z.1)
    unfold ent fvl
    rw [e1, e2]
theorem bnd {α : Type} {X : Option α} {F : α → Option β} (h : X.bind F = some r) : ∃ q, X = some q ∧ F q = some r := by
  cases X with
  | none => cases h
  | some q => exact ⟨q, rfl, h⟩
theorem sw_0 (S : SS K n lv0 nL0 ret0 T0) : n - kn K + 0 ≤ (kR K).cells ∧ sln n - sln (kn K) + 0 ≤ (kR K).slots := S.1.2
theorem sw_cVi (C : Ctx K own cc) (S : SS K n lv0 nL0 ret0 T0) {k ci N lk na maxL lv : Nat} {y : MethodName} {bytes : ByteArray} {ret : Option FieldType} {Cn : String} {TT : u_T} (as rest : List Value) {X : Option (Int32 × Mem)} {F : Int32 × Mem → Option β} (d : decode cc pc = .ok (.invokevirtual lk, 3)) (h : X.bind F = some r) (hM : ∀ q, X = some q → CM (kl K) (kw K) y bytes maxL ret lv 0 0 (.ref k :: as) n M (PD M) (Ti n q)) (mf : MF y bytes maxL ret na) (ob : OB n k ci N) (hc : vwCl[ci]? = some (Cn, TT, N)) (hy : y.cls = Cn) (hw : Cond.methodLink own lk y ∈ lw_gd ∧ Cond.instanceMethod y ∈ lw_gd ∧ Cond.selects y.cls y y ∈ lw_gd) (hna : as.length = na) (hlv : lv + 1 ≤ lv0) (hs : st = as.reverse ++ .ref k :: rest) (hst : (rest.map fun v => v.category).sum ≤ 8) (kk : ∀ r1 M1, F (r1, M1) = some r → AS K n M1 (pc + 3) loc (.int r1 :: rest)) : AS K n M pc loc st := by
  obtain ⟨q, e, h⟩ := bnd h
  refine aw_cV (rest := rest) C S.1 d (hM q e) mf ob hc hy hw hna (Nat.le_trans hlv S.2.2.1) hs hst (sw_0 S) (fun _ _ _ _ t => ⟨t.2.1, by rw [t.2.1, Nat.add_zero]⟩) (fun rv n1 M1 P1 t => ?_)
  obtain ⟨rfl, rfl, rfl, rfl⟩ := t
  exact kk q.1 q.2 h
theorem sw_cVl (C : Ctx K own cc) (S : SS K n lv0 nL0 ret0 T0) {k ci N lk na maxL lv : Nat} {y : MethodName} {bytes : ByteArray} {ret : Option FieldType} {Cn : String} {TT : u_T} (as rest : List Value) {X : Option (Int64 × Mem)} {F : Int64 × Mem → Option β} (d : decode cc pc = .ok (.invokevirtual lk, 3)) (h : X.bind F = some r) (hM : ∀ q, X = some q → CM (kl K) (kw K) y bytes maxL ret lv 0 0 (.ref k :: as) n M (PD M) (Tl n q)) (mf : MF y bytes maxL ret na) (ob : OB n k ci N) (hc : vwCl[ci]? = some (Cn, TT, N)) (hy : y.cls = Cn) (hw : Cond.methodLink own lk y ∈ lw_gd ∧ Cond.instanceMethod y ∈ lw_gd ∧ Cond.selects y.cls y y ∈ lw_gd) (hna : as.length = na) (hlv : lv + 1 ≤ lv0) (hs : st = as.reverse ++ .ref k :: rest) (hst : (rest.map fun v => v.category).sum ≤ 8) (kk : ∀ r1 M1, F (r1, M1) = some r → AS K n M1 (pc + 3) loc (.long r1 :: rest)) : AS K n M pc loc st := by
  obtain ⟨q, e, h⟩ := bnd h
  refine aw_cV (rest := rest) C S.1 d (hM q e) mf ob hc hy hw hna (Nat.le_trans hlv S.2.2.1) hs hst (sw_0 S) (fun _ _ _ _ t => ⟨t.2.1, by rw [t.2.1, Nat.add_zero]⟩) (fun rv n1 M1 P1 t => ?_)
  obtain ⟨rfl, rfl, rfl, rfl⟩ := t
  exact kk q.1 q.2 h
theorem sw_cVv (C : Ctx K own cc) (S : SS K n lv0 nL0 ret0 T0) {k ci N lk na maxL lv : Nat} {y : MethodName} {bytes : ByteArray} {Cn : String} {TT : u_T} (as rest : List Value) {X : Option Mem} {F : Mem → Option β} (d : decode cc pc = .ok (.invokevirtual lk, 3)) (h : X.bind F = some r) (hM : ∀ q, X = some q → CM (kl K) (kw K) y bytes maxL none lv 0 0 (.ref k :: as) n M (PD M) (Tv n q)) (mf : MF y bytes maxL none na) (ob : OB n k ci N) (hc : vwCl[ci]? = some (Cn, TT, N)) (hy : y.cls = Cn) (hw : Cond.methodLink own lk y ∈ lw_gd ∧ Cond.instanceMethod y ∈ lw_gd ∧ Cond.selects y.cls y y ∈ lw_gd) (hna : as.length = na) (hlv : lv + 1 ≤ lv0) (hs : st = as.reverse ++ .ref k :: rest) (hst : (rest.map fun v => v.category).sum ≤ 8) (kk : ∀ M1, F M1 = some r → AS K n M1 (pc + 3) loc rest) : AS K n M pc loc st := by
  obtain ⟨q, e, h⟩ := bnd h
  refine aw_cV (rest := rest) C S.1 d (hM q e) mf ob hc hy hw hna (Nat.le_trans hlv S.2.2.1) hs hst (sw_0 S) (fun _ _ _ _ t => ⟨t.2.1, by rw [t.2.1, Nat.add_zero]⟩) (fun rv n1 M1 P1 t => ?_)
  obtain ⟨rfl, rfl, rfl, rfl⟩ := t
  exact kk _ h
theorem sw_cSi (C : Ctx K own cc) (S : SS K n lv0 nL0 ret0 T0) {lk na maxL lv : Nat} {y : MethodName} {bytes : ByteArray} {ret : Option FieldType} (as rest : List Value) {X : Option (Int32 × Mem)} {F : Int32 × Mem → Option β} (d : decode cc pc = .ok (.invokestatic lk, 3)) (h : X.bind F = some r) (hM : ∀ q, X = some q → CM (kl K) (kw K) y bytes maxL ret lv 0 0 as n M (PD M) (Ti n q)) (mf : MF y bytes maxL ret na) (hw : Cond.methodLink own lk y ∈ lw_gd ∧ Cond.static y ∈ lw_gd) (hna : as.length = na) (hlv : lv + 1 ≤ lv0) (hs : st = as.reverse ++ rest) (hst : (rest.map fun v => v.category).sum ≤ 8) (kk : ∀ r1 M1, F (r1, M1) = some r → AS K n M1 (pc + 3) loc (.int r1 :: rest)) : AS K n M pc loc st := by
  obtain ⟨q, e, h⟩ := bnd h
  refine aw_cS (rest := rest) C S.1 d (hM q e) mf hw hna (Nat.le_trans hlv S.2.2.1) hs hst (sw_0 S) (fun _ _ _ _ t => ⟨t.2.1, by rw [t.2.1, Nat.add_zero]⟩) (fun rv n1 M1 P1 t => ?_)
  obtain ⟨rfl, rfl, rfl, rfl⟩ := t
  exact kk q.1 q.2 h
theorem sw_cSNi (C : Ctx K own cc) (S : SS K n lv0 nL0 ret0 T0) {lk na maxL lv : Nat} {y : MethodName} {host : String} {bytes : ByteArray} {ret : Option FieldType} (as rest : List Value) {X : Option (Int32 × Mem)} {F : Int32 × Mem → Option β} (d : decode cc pc = .ok (.invokestatic lk, 3)) (h : X.bind F = some r) (hM : ∀ q, X = some q → CM (kl K) (kw K) y bytes maxL ret lv 0 0 as n M (PD M) (Ti n q)) (mf : MF y bytes maxL ret na) (hw : (own, lk, y, host) ∈ nstM ∧ Cond.static y ∈ lw_gd) (hna : as.length = na) (hlv : lv + 1 ≤ lv0) (hs : st = as.reverse ++ rest) (hst : (rest.map fun v => v.category).sum ≤ 8) (kk : ∀ r1 M1, F (r1, M1) = some r → AS K n M1 (pc + 3) loc (.int r1 :: rest)) : AS K n M pc loc st := by
  obtain ⟨q, e, h⟩ := bnd h
  refine aw_cSN (rest := rest) C S.1 d (hM q e) mf hw hna (Nat.le_trans hlv S.2.2.1) hs hst (sw_0 S) (fun _ _ _ _ t => ⟨t.2.1, by rw [t.2.1, Nat.add_zero]⟩) (fun rv n1 M1 P1 t => ?_)
  obtain ⟨rfl, rfl, rfl, rfl⟩ := t
  exact kk q.1 q.2 h
theorem sw_iret (C : Ctx K own cc) {ty : FieldType} {x : Int32} {q : Int32 × Mem} (S : SS K n lv0 nL0 (some ty) (Ti n q)) (hnar : narrow ty (.int x) = .int x) (d : decode cc pc = .ok (.ireturn, 1)) (h : some (x, M) = some q) : AS K n M pc loc [.int x] :=
  aw_iret C S.2.2.2.2 hnar S.2.1 d (by cases h; exact ⟨rfl, rfl, rfl, rfl⟩)
theorem sw_lret (C : Ctx K own cc) {x : Int64} {q : Int64 × Mem} (S : SS K n lv0 nL0 (some .long) (Tl n q)) (d : decode cc pc = .ok (.lreturn, 1)) (h : some (x, M) = some q) : AS K n M pc loc [.long x] :=
  aw_lret C S.2.2.2.2 S.2.1 d (by cases h; exact ⟨rfl, rfl, rfl, rfl⟩)
theorem sw_vret (C : Ctx K own cc) {q : Mem} (S : SS K n lv0 nL0 none (Tv n q)) (d : decode cc pc = .ok (.return_, 1)) (h : some M = some q) : AS K n M pc loc [] :=
  aw_vret C S.2.2.2.2 S.2.1 d (by cases h; exact ⟨rfl, rfl, rfl, rfl⟩)
theorem sm_of {l : Launch} {w : Wd} {y : MethodName} {cc : ByteArray} {maxL : Nat} {ret : Option FieldType} {lv na : Nat} {as : List Value} {T : Tg} {loc : List (Option Value)} (mf : MF y cc maxL ret na) (hlv : 1 ≤ lv) (has : (entL as).length ≤ maxL) (hloc : padL maxL (entL as) = loc)
    (body : ∀ K : Cx, kl K = l → kw K = w → Ctx K y.cls cc → SS K n lv maxL ret T → AS K n M 0 loc []) : CM l w y cc maxL ret lv 0 0 as n M (PD M) T :=
  cm_of mf hlv has hloc (fun K C rt hl hw hL hn hR _ => body K hl hw C ⟨⟨by rw [hn]; exact Nat.le_refl _, by rw [hn, Nat.sub_self]; exact Nat.zero_le _, by rw [hn, Nat.sub_self]; exact Nat.zero_le _⟩, ⟨by rw [hn, Nat.sub_self]; exact Nat.le_refl _, by rw [hn, Nat.sub_self]; exact Nat.le_refl _⟩, by rw [hR]; exact Nat.le_refl _, hL, rt⟩)
end R6
