/-! 81: what the model's constructor writes at the end -/
def mdw (n : Nat) (M : Mem) : Mem := fun a b => if a = 89 ∧ b < n then 9 else mdl0 M a b
theorem mdw_0 (M : Mem) : mdw 0 M = mdl0 M := by
  funext a b
  exact if_neg (fun z => absurd z.2 (by omega))
theorem mdw_step {n : Nat} {M : Mem} : wr (mdw n M) 89 n 9 = mdw (n + 1) M := by
  funext a b
  unfold wr mdw
  by_cases h : a = 89 ∧ b = n
  · rw [if_pos h, if_pos ⟨h.1, by omega⟩]
  · rw [if_neg h]
    by_cases h2 : a = 89 ∧ b < n
    · rw [if_pos h2, if_pos ⟨h2.1, by omega⟩]
    · rw [if_neg h2, if_neg (by omega)]
def mds (n : Nat) (M : Mem) : Mem := fun a b => if a = 86 ∧ b < n then tx0 b else mdw 8 M a b
theorem mds_0 (M : Mem) : mds 0 M = mdw 8 M := by
  funext a b
  exact if_neg (fun z => absurd z.2 (by omega))
theorem mds_step {n : Nat} {M : Mem} : wr (mds n M) 86 n (tx0 n) = mds (n + 1) M := by
  funext a b
  unfold wr mds
  by_cases h : a = 86 ∧ b = n
  · rw [if_pos h, if_pos ⟨h.1, by omega⟩, h.2]
  · rw [if_neg h]
    by_cases h2 : a = 86 ∧ b < n
    · rw [if_pos h2, if_pos ⟨h2.1, by omega⟩]
    · rw [if_neg h2, if_neg (by omega)]
theorem spell_eq {p : Nat} {M : Mem} (hp : p < 100) : fM_spell (nI p) (tx0 p) (tx0 (p + 1)) (tx0 (p + 2)) (tx0 (p + 3)) (tx0 (p + 4)) (tx0 (p + 5)) (tx0 (p + 6)) (tx0 (p + 7)) (mds p M) = some (mds (p + 8) M) := by
  have e : ∀ q, q < 8 → nI p + nI q = nI (p + q) := fun q _ => nI_add p q
  have g : ∀ q, q < 8 → ib (nI (p + q)) 960 := fun q hq => ib_nI (by omega) (by omega)
  have x : ∀ q, q < 8 → ix (nI (p + q)) = p + q := fun q hq => ix_nI (by omega)
  unfold fM_spell
  rw [show (1 : Int32) = nI 1 from rfl, show (2 : Int32) = nI 2 from rfl, show (3 : Int32) = nI 3 from rfl, show (4 : Int32) = nI 4 from rfl, show (5 : Int32) = nI 5 from rfl, show (6 : Int32) = nI 6 from rfl, show (7 : Int32) = nI 7 from rfl, e 1 (by omega), e 2 (by omega), e 3 (by omega), e 4 (by omega), e 5 (by omega), e 6 (by omega), e 7 (by omega)]
  rw [if_pos (ib_nI (by omega) (by omega)), if_pos (g 1 (by omega)), if_pos (g 2 (by omega)), if_pos (g 3 (by omega)), if_pos (g 4 (by omega)), if_pos (g 5 (by omega)), if_pos (g 6 (by omega)), if_pos (g 7 (by omega)), ix_nI (by omega), x 1 (by omega), x 2 (by omega), x 3 (by omega), x 4 (by omega), x 5 (by omega), x 6 (by omega), x 7 (by omega)]
  rw [mds_step, mds_step, mds_step, mds_step, mds_step, mds_step, mds_step, mds_step]
theorem mdl_end (M : Mem) : wr (wr (mds 40 M) 87 0 40) 85 3 1 = mdl M := by
  funext a b
  unfold wr mds mdw mdl0 mdl
  by_cases h0 : a < 85
  · rw [if_pos h0, if_pos h0, if_neg (by omega), if_neg (by omega), if_neg (by omega), if_neg (by omega)]
  · rw [if_neg h0, if_neg h0]
    by_cases h5 : a = 85
    · subst h5
      rw [if_pos rfl, if_pos rfl]
      by_cases h3 : b = 3
      · rw [if_pos ⟨rfl, h3⟩, if_pos h3]
      · rw [if_neg (fun z => h3 z.2), if_neg h3, if_neg (by omega), if_neg (by omega), if_neg (by omega)]
    · rw [if_neg h5, if_neg h5, if_neg (fun z => h5 z.1)]
      by_cases h7 : a = 87
      · subst h7
        by_cases hb : b = 0
        · subst hb; rfl
        · rw [if_neg (fun z => hb z.2), if_neg (show ¬ (87 = 86 ∧ b < 40) by omega), if_neg (show ¬ (87 = 89 ∧ b < 8) by omega), if_neg (show ¬ (87 : Nat) = 86 by omega), if_pos rfl, if_neg hb]
      · rw [if_neg (fun z => h7 z.1), if_neg h7]
        by_cases h6 : a = 86
        · subst h6
          rw [if_pos rfl]
          by_cases hb : b < 40
          · rw [if_pos ⟨rfl, hb⟩, if_pos hb]
          · rw [if_neg (fun z => hb z.2), if_neg hb, if_neg (by omega)]
        · rw [if_neg (fun z => h6 z.1), if_neg h6]
          by_cases h9 : a = 89
          · subst h9
            rw [if_pos rfl]
            by_cases hb : b < 8
            · rw [if_pos ⟨rfl, hb⟩, if_pos hb]
            · rw [if_neg (fun z => hb z.2), if_neg hb]
          · rw [if_neg (fun z => h9 z.1), if_neg h9]
