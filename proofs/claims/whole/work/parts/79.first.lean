/-! 79: what stands when all cells are made -/
theorem aw_ext {K : Cx} {n : Nat} {M M' : Mem} {P P' : Pm} {pc : Nat} {loc : List (Option Value)} {st : List Value} (h : ∀ k, k < n → ent (kw K) M P k = ent (kw K) M' P' k) (kk : AW K n M' P' pc loc st) : AW K n M P pc loc st := fun ls H locs hl hP hS => kk ls H locs hl (by rw [← wsO_ext h]; exact hP) hS
theorem ent_eq {w : Wd} {M M' : Mem} {P P' : Pm} {k : Nat} (hM : ∀ j, (k ≠ 45 ∨ j ≠ 0) → M' k j = M k j) (hP : ∀ j, P' k j = P k j) : ent w M' P' k = ent w M P k := by
  have e : P' k = P k := funext hP
  by_cases h : k = 45
  · subst h
    rw [ent_ob (ci := 0) (N := 15) rfl (by decide), ent_ob (ci := 0) (N := 15) rfl (by decide)]
    refine congrArg (fun l => Sum.inr (0, l)) (List.map_congr_left fun j hj => ?_)
    unfold fvl
    by_cases h0 : j = 0
    · subst h0
      rw [e]
      rfl
    · rw [e, hM j (Or.inr h0), hM (j + 100) (Or.inr (by omega))]
  · have e2 : M' k = M k := funext fun j => hM j (Or.inl h)
    unfold ent fvl
    rw [e, e2]
def lowW (M : Mem) : Prop := ∀ a b, 16 ≤ b → M a b = 0
theorem lowW_wr {M : Mem} {k j : Nat} {v : Int32} (h : lowW M) (hj : j < 16) : lowW (wr M k j v) := fun a b hb => (if_neg (fun z => by omega)).trans (h a b hb)
def lowP (P : Pm) : Prop := ∀ a b, 60 ≤ b → P a b = none
theorem lowP_wr {P : Pm} {k j : Nat} {v : Option Nat} (h : lowP P) (hj : j < 60) : lowP (wrP P k j v) := fun a b hb => (if_neg (fun z => by omega)).trans (h a b hb)
abbrev Z0 : Mem := fun _ _ => 0
abbrev N0 : Pm := fun _ _ => none
theorem lowW_C : lowW (iM_X7_init Z0) := by
  unfold iM_X7_init iM_X1_init iM_X2_init iM_X3_init iM_X0_init iM_X5_init iM_X6_init iM_X4_init
  repeat (first | exact (fun _ _ _ => rfl) | refine lowW_wr ?_ (by decide))
theorem lowP_C : lowP (iP_X7_init N0) := by
  unfold iP_X7_init iP_X1_init iP_X2_init iP_X3_init iP_X0_init iP_X5_init iP_X6_init iP_X4_init
  repeat (first | exact (fun _ _ _ => rfl) | refine lowP_wr ?_ (by decide))
theorem S0_low : lowW S0 := fun a b hb => by
  have h6 : ¬ b = 6 := by omega
  have h0 : ¬ b = 0 := by omega
  have h8 : ¬ b < 8 := by omega
  have h4 : ¬ b = 4 := by omega
  have h14 : ¬ b = 14 := by omega
  have h1 : ¬ b = 1 := by omega
  unfold S0
  simp only [if_neg h6, if_neg h0, if_neg h8, if_neg h4, if_neg h14, if_neg h1, ite_self]
theorem M_C : ∀ k j, k < 85 → (k ≠ 45 ∨ j ≠ 0) → iM_X7_init Z0 k j = S0 k j := by
  intro k j hk h
  by_cases hj : j < 16
  · have : ∀ k, k < 85 → ∀ j, j < 16 → (k ≠ 45 ∨ j ≠ 0) → iM_X7_init Z0 k j = S0 k j := by decide +kernel
    exact this k hk j hj h
  · rw [lowW_C k j (by omega), S0_low k j (by omega)]
theorem P0_low : lowP P0 := fun a b hb => by
  unfold P0
  by_cases ha : a < 200
  · have : ∀ a, a < 200 → (p0t.getD a []).length ≤ 60 := by decide +kernel
    rw [List.getD_eq_getElem?_getD, List.getElem?_eq_none (by have := this a ha; omega)]
    rfl
  · have : p0t.length ≤ 200 := by decide +kernel
    rw [List.getD_eq_getElem?_getD (l := p0t), List.getElem?_eq_none (by omega)]
    rfl
theorem P_C : ∀ k j, k < 85 → iP_X7_init N0 k j = PD S0 k j := by
  intro k j hk
  by_cases hj : j < 60
  · have : ∀ k, k < 85 → ∀ j, j < 60 → iP_X7_init N0 k j = PD S0 k j := by decide +kernel
    exact this k hk j hj
  · rw [lowP_C k j (by omega)]
    unfold PD
    rw [if_neg (by omega), P0_low k j (by omega)]
/-- the class's cells are all made: the steady world begins -/
theorem aw_C85 {K : Cx} {pc : Nat} {loc : List (Option Value)} {st : List Value} (kk : AS K 85 S0 pc loc st) : AW K 85 (iM_X7_init Z0) (iP_X7_init N0) pc loc st := aw_ext (fun k hk => ent_eq (fun j h => M_C k j hk h) (fun j => P_C k j hk)) kk
