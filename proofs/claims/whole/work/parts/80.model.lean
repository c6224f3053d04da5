/-! 80: the model's cells are all made -/
/-- the model's fields, behind what the class holds -/
def mdl0 (M : Mem) : Mem := fun a b => if a < 85 then M a b else if a = 85 then (if b = 7 then 3 else if b = 18 then -1 else if b = 51 then -1 else 0) else 0
/-- the references of the class alone -/
def PR (M : Mem) : Pm := fun k j => if k < 85 then PD M k j else none
theorem PR_Fr {M : Mem} (h : ∀ k, 85 ≤ k → ∀ j, M k j = 0) : Fr 85 M (PR M) := fun q hq => ⟨h q hq, fun j => if_neg (by omega)⟩
theorem aw_PR {K : Cx} {M : Mem} {pc : Nat} {loc : List (Option Value)} {st : List Value} (kk : AW K 85 M (PR M) pc loc st) : AS K 85 M pc loc st := aw_ext (fun k hk => ent_eq (fun _ _ => rfl) (fun j => (if_pos hk).symm)) kk
theorem wrP_cg {P P' : Pm} {k a b : Nat} {v : Option Nat} (h : P k = P' k) : wrP P a b v k = wrP P' a b v k := by
  funext j
  unfold wrP
  rw [h]
theorem M_M {M : Mem} (h : ∀ k, 85 ≤ k → ∀ j, M k j = 0) : ∀ k j, iM_X8_init M k j = mdl0 M k j := by
  intro k j
  unfold iM_X8_init mdl0 wr
  by_cases h1 : k < 85
  · rw [if_pos h1, if_neg (by omega), if_neg (by omega), if_neg (by omega)]
  · rw [if_neg h1]
    by_cases h2 : k = 85
    · subst h2
      rw [if_pos rfl, h 85 (by omega)]
      by_cases a : j = 51
      · subst a; rfl
      · by_cases b : j = 18
        · subst b; rfl
        · by_cases c : j = 7
          · subst c; rfl
          · rw [if_neg (fun z => a z.2), if_neg (fun z => b z.2), if_neg (fun z => c z.2), if_neg c, if_neg b, if_neg a]
    · rw [if_neg h2, if_neg (fun z => h2 z.1), if_neg (fun z => h2 z.1), if_neg (fun z => h2 z.1)]
      exact h k (by omega) j
theorem lowP_M : lowP (iP_X8_init N0) := by
  unfold iP_X8_init
  repeat (first | exact (fun _ _ _ => rfl) | refine lowP_wr ?_ (by decide))
theorem P_M {M : Mem} : ∀ k j, k < 113 → iP_X8_init (PR M) k j = PD (mdl0 M) k j := by
  intro k j hk
  by_cases h : k < 85
  · have e : iP_X8_init (PR M) k = PR M k := by
      unfold iP_X8_init
      repeat (first | rfl | rw [wrP_ne (by omega)])
    rw [e]
    unfold PR PD
    rw [if_pos h, show mdl0 M 45 0 = M 45 0 from if_pos (by decide)]
  · have e : iP_X8_init (PR M) k = iP_X8_init N0 k := by
      unfold iP_X8_init
      repeat (first | refine wrP_cg ?_ | exact (funext fun j => if_neg h))
    rw [e]
    unfold PD
    rw [if_neg (by omega)]
    by_cases hj : j < 60
    · have : ∀ k, k < 113 → 85 ≤ k → ∀ j, j < 60 → iP_X8_init N0 k j = P0 k j := by decide +kernel
      exact this k hk (by omega) j hj
    · rw [lowP_M k j (by omega), P0_low k j (by omega)]
/-- all cells are made: the steady world of both begins -/
theorem aw_M113 {K : Cx} {M : Mem} {pc : Nat} {loc : List (Option Value)} {st : List Value} (h : ∀ k, 85 ≤ k → ∀ j, M k j = 0) (kk : AS K 113 (mdl0 M) pc loc st) : AW K 113 (iM_X8_init M) (iP_X8_init (PR M)) pc loc st := aw_ext (fun k hk => ent_eq (fun j _ => M_M h k j) (fun j => P_M k j hk)) kk
