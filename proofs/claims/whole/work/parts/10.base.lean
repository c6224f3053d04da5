/-! 10: small facts on ints, rows, loops -/
theorem tI_lt (x : Int32) : x.toInt < 2147483648 := x.toInt_lt
theorem tI_ge (x : Int32) : -2147483648 ≤ x.toInt := x.le_toInt
theorem t_add {a b : Int32} (h1 : -2147483648 ≤ a.toInt + b.toInt) (h2 : a.toInt + b.toInt < 2147483648) : (a + b).toInt = a.toInt + b.toInt := by
  rw [Int32.toInt_add]; exact Int.bmod_eq_of_le h1 h2
theorem t_sub {a b : Int32} (h1 : -2147483648 ≤ a.toInt - b.toInt) (h2 : a.toInt - b.toInt < 2147483648) : (a - b).toInt = a.toInt - b.toInt := by
  rw [Int32.toInt_sub]; exact Int.bmod_eq_of_le h1 h2
theorem t_mul {a b : Int32} (h1 : -2147483648 ≤ a.toInt * b.toInt) (h2 : a.toInt * b.toInt < 2147483648) : (a * b).toInt = a.toInt * b.toInt := by
  rw [Int32.toInt_mul]; exact Int.bmod_eq_of_le h1 h2
theorem t_neg {a : Int32} (h : -2147483648 < a.toInt) : (-a).toInt = -a.toInt := by
  have := tI_lt a
  rw [Int32.toInt_neg]; exact Int.bmod_eq_of_le (by omega) (by omega)
theorem t_lit (n : Nat) (h : n < 2147483648) : (OfNat.ofNat n : Int32).toInt = n := Int32.toInt_ofNat_of_lt h
theorem i_lt {a b : Int32} : a < b ↔ a.toInt < b.toInt := Int32.lt_iff_toInt_lt
theorem i_le {a b : Int32} : a ≤ b ↔ a.toInt ≤ b.toInt := Int32.le_iff_toInt_le
theorem i_eq {a b : Int32} : a = b ↔ a.toInt = b.toInt := Int32.toInt_inj.symm
theorem nI_t {n : Nat} (h : n < 2147483648) : (nI n).toInt = n := nI_toInt h
theorem ix_nI {n : Nat} (h : n < 2147483648) : ix (nI n) = n := by unfold ix; rw [nI_t h]; rfl
theorem ib_nI {n N : Nat} (h : n < N) (hN : N < 2147483648) : ib (nI n) N := by unfold ib; rw [nI_t (by omega)]; omega
theorem of_ib {x : Int32} {N : Nat} (h : ib x N) : x = nI (ix x) ∧ ix x < N := by
  have h1 := h.1
  have h2 := h.2
  have h3 := tI_lt x
  refine ⟨?_, ix_lt h⟩
  rw [i_eq, nI_t (by unfold ix; omega)]
  unfold ix
  omega
theorem nI_ix {x : Int32} (h : 0 ≤ x.toInt) : nI (ix x) = x := by
  have h3 := tI_lt x
  rw [i_eq, nI_t (by unfold ix; omega)]
  unfold ix
  omega
theorem n_le {a b : Nat} (ha : a < 2147483648) (hb : b < 2147483648) : nI a ≤ nI b ↔ a ≤ b := nI_leI ha hb
theorem n_lt {a b : Nat} (ha : a < 2147483648) (hb : b < 2147483648) : nI a < nI b ↔ a < b := nI_ltI ha hb
theorem n_eq {a b : Nat} (ha : a < 2147483648) (hb : b < 2147483648) : nI a = nI b ↔ a = b := nI_eq ha hb
theorem lit_n (n : Nat) : (OfNat.ofNat n : Int32) = nI n := rfl
theorem m1_t : (-1 : Int32).toInt = -1 := by decide
theorem nI_m1 {n : Nat} (h : n < 2147483648) : nI n ≠ -1 := by
  intro z
  rw [i_eq, nI_t h, m1_t] at z
  omega
/-- a truth as an int -/
abbrev bz (p : Prop) [Decidable p] : Int32 := if p then 1 else 0
theorem bz_iff {p q : Prop} [Decidable p] [Decidable q] (h : p ↔ q) : bz p = bz q := by
  by_cases hp : p
  · rw [bz, bz, if_pos hp, if_pos (h.mp hp)]
  · rw [bz, bz, if_neg hp, if_neg (fun z => hp (h.mpr z))]
theorem bz_0 {p : Prop} [Decidable p] : (bz p = 0) = ¬ p := by by_cases h : p <;> simp [h]
theorem bz_1 {p : Prop} [Decidable p] : (bz p = 1) = p := by by_cases h : p <;> simp [h]
theorem bz_01 {p : Prop} [Decidable p] : (bz p = 0 ∨ bz p = 1) = True := by by_cases h : p <;> simp [h]
theorem l_lt {x y : Int64} : x < y ↔ x.toInt < y.toInt := Int64.lt_iff_toInt_lt
theorem l_le {x y : Int64} : x ≤ y ↔ x.toInt ≤ y.toInt := Int64.le_iff_toInt_le
theorem lgc_lt {x y : Int64} : lg_cmp x y < 0 ↔ x.toInt < y.toInt := by
  have h := lg_cmp_ge x y
  rw [l_le, Int32.le_iff_toInt_le] at h
  rw [Int32.lt_iff_toInt_lt]
  rw [show (0 : Int32).toInt = 0 from rfl] at *
  omega
theorem lgc_gt {x y : Int64} : 0 < lg_cmp x y ↔ y.toInt < x.toInt := by
  unfold lg_cmp
  simp only [gt_iff_lt, Int64.lt_iff_toInt_lt, ← Int64.toInt_inj]
  repeat' split
  · simp_all
  · have : ¬ (0 : Int32) < 0 := by decide
    simp only [this, false_iff]; omega
  · have : ¬ (0 : Int32) < -1 := by decide
    simp only [this, false_iff]; omega
theorem lgc_eq0 {x y : Int64} : lg_cmp x y = 0 ↔ x = y := by
  unfold lg_cmp
  simp only [gt_iff_lt, Int64.lt_iff_toInt_lt]
  repeat' split
  · rename_i h; constructor
    · intro z; cases z
    · intro z; subst z; omega
  · simp_all
  · rename_i h; constructor
    · intro z; cases z
    · intro z; exact absurd z h
/-- the two tests of a range -/
theorem fN_within_eq (a n : Int32) (M : Mem) : fN_within a n M = some (bz (0 ≤ a.toInt ∧ a.toInt < n.toInt), M) := by
  unfold fN_within
  simp only [i_lt, i_le, show (0 : Int32).toInt = 0 from rfl]
  by_cases h1 : a.toInt < 0
  · rw [if_pos h1, bz, if_neg (by omega)]
  · rw [if_neg h1]
    by_cases h2 : n.toInt ≤ a.toInt
    · rw [if_pos h2, bz, if_neg (by omega)]
    · rw [if_neg h2, bz, if_pos (by omega)]
theorem fM_in_eq (v a b : Int64) (M : Mem) : fM_in v a b M = some (bz (a.toInt ≤ v.toInt ∧ v.toInt ≤ b.toInt), M) := by
  unfold fM_in
  simp only [lgc_lt, lgc_gt]
  by_cases h1 : v.toInt < a.toInt
  · rw [if_pos h1, bz, if_neg (by omega)]
  · rw [if_neg h1]
    by_cases h2 : b.toInt < v.toInt
    · rw [if_pos h2, bz, if_neg (by omega)]
    · rw [if_neg h2, bz, if_pos (by omega)]
theorem t64 (x : Int32) : x.toInt64.toInt = x.toInt := Int32.toInt_toInt64 x
theorem L0 : (0 : Int64).toInt = 0 := rfl
theorem fM_isRoom_eq (a : Int32) (M : Mem) : fM_isRoom a M = some (bz (0 ≤ a.toInt ∧ a.toInt < 8), M) := by
  unfold fM_isRoom
  rw [fM_in_eq]
  simp only [Option.bind_some, t64, L0, show (7 : Int64).toInt = 7 from rfl, bz_01, if_true]
  rw [bz_iff (show (0 ≤ a.toInt ∧ a.toInt ≤ 7) ↔ (0 ≤ a.toInt ∧ a.toInt < 8) by omega)]
theorem fM_isSheet_eq (a : Int32) (M : Mem) : fM_isSheet a M = some (bz (0 ≤ a.toInt ∧ a.toInt < 4), M) := by
  unfold fM_isSheet
  rw [fM_in_eq]
  simp only [Option.bind_some, t64, L0, show (3 : Int64).toInt = 3 from rfl, bz_01, if_true]
  rw [bz_iff (show (0 ≤ a.toInt ∧ a.toInt ≤ 3) ↔ (0 ≤ a.toInt ∧ a.toInt < 4) by omega)]
theorem fM_isMaid_eq (a : Int32) (M : Mem) (h : 0 ≤ (M 85 17).toInt) : fM_isMaid a M = some (bz (0 ≤ a.toInt ∧ a.toInt < (M 85 17).toInt), M) := by
  unfold fM_isMaid
  rw [fM_in_eq]
  have h1 := tI_lt (M 85 17)
  have e : (M 85 17 - 1).toInt = (M 85 17).toInt - 1 := by
    have e1 : (1 : Int32).toInt = 1 := rfl
    rw [t_sub (by omega) (by omega), e1]
  simp only [Option.bind_some, t64, L0, e, bz_01, if_true]
  rw [bz_iff (show (0 ≤ a.toInt ∧ a.toInt ≤ (M 85 17).toInt - 1) ↔ (0 ≤ a.toInt ∧ a.toInt < (M 85 17).toInt) by omega)]
theorem fM_isStay_eq (a : Int32) (M : Mem) (h : 0 ≤ (M 85 11).toInt) : fM_isStay a M = some (bz (0 ≤ a.toInt ∧ a.toInt < (M 85 11).toInt), M) := by
  unfold fM_isStay
  rw [fM_in_eq]
  have h1 := tI_lt (M 85 11)
  have e : (M 85 11 - 1).toInt = (M 85 11).toInt - 1 := by
    have e1 : (1 : Int32).toInt = 1 := rfl
    rw [t_sub (by omega) (by omega), e1]
  simp only [Option.bind_some, t64, L0, e, bz_01, if_true]
  rw [bz_iff (show (0 ≤ a.toInt ∧ a.toInt ≤ (M 85 11).toInt - 1) ↔ (0 ≤ a.toInt ∧ a.toInt < (M 85 11).toInt) by omega)]
