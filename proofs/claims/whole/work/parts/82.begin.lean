/-! 82: the start, told for the walk -/
theorem adN_0 : adN 0 = S0 := by
  funext a b
  unfold adN
  rw [if_neg (fun z => absurd z.2 (by omega))]
  by_cases h : a = 40 ∧ b = 1
  · rw [if_pos h, h.1, h.2]; rfl
  · rw [if_neg h]
theorem S0_hi {k : Nat} (h : 85 ≤ k) (j : Nat) : S0 k j = 0 := by
  unfold S0
  rw [if_neg (by omega), if_neg (by omega), if_neg (by omega), if_neg (by omega), if_neg (by omega), if_neg (by omega), if_neg (by omega)]
theorem start_all : ∃ M, fR_read 59 (adN 36) = some (-1, M) ∧ Rel (mdl M) ∧ ∀ k, 85 ≤ k → ∀ j, M k j = 0 := by
  obtain ⟨M, e1, hR⟩ := start_rel
  obtain ⟨M2, e2, -, e3, -⟩ := start_C
  rw [e1] at e2
  cases e2
  refine ⟨M, e1, hR, fun k hk j => ?_⟩
  rw [e3 k (by omega) (by omega) (by omega) (by omega) (by omega)]
  unfold adN
  rw [if_neg (by omega), if_neg (by omega)]
  exact S0_hi hk j
