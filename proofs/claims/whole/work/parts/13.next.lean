/-! 13: NEXT of the model -/
/-- a memory that holds the table of the stairs s -/
def TB97 (s : Nat) (M : Mem) : Prop := M 85 7 = nI s ∧ ∀ i, i < 64 → M 97 i = nI (tI (ftab.getD s []) i)
theorem gaM_TB {s : Nat} {M : Mem} (h : M 85 7 = nI s) : TB97 s (gaM s M) := by
  refine ⟨by unfold gaM tbM; rw [if_neg (by omega)]; exact h, fun i hi => ?_⟩
  unfold gaM tbM
  rw [if_pos ⟨rfl, hi⟩]
theorem fM_nextTo_b28_z {s : Nat} {M N : Mem} (hM : TB97 s M) (hN : TB97 s N) (a b : Int32) : ∀ (z : Nat) (x i : Int32), fM_nextTo_b28 a b z x i M = (fM_nextTo_b28 a b z x i N).map (fun q => (q.1, M)) := by
  intro z
  induction z with
  | zero => intro x i; rfl
  | succ z ih =>
    intro x i
    rw [fM_nextTo_b28, fM_nextTo_b28]
    simp only [fM_isBeside_eq, Option.bind_some, fM_nextTo_b79, fM_nextTo_b76, hM.1, hN.1]
    by_cases h1 : 8 ≤ i
    · simp only [if_pos h1, Option.map_some]
    · simp only [if_neg h1]
      by_cases h2 : bsI (nI s) a i = 0
      · simp only [if_pos h2]
        exact ih _ _
      · simp only [if_neg h2]
        by_cases h3 : x = -1
        · simp only [if_pos h3]
          exact ih _ _
        · simp only [if_neg h3]
          by_cases h4 : ib (8 * i + b) 64
          · by_cases h5 : ib (8 * x + b) 64
            · simp only [if_pos h4, if_pos h5]
              rw [hM.2 _ (ix_lt h4), hM.2 _ (ix_lt h5), hN.2 _ (ix_lt h4), hN.2 _ (ix_lt h5)]
              split
              · exact ih _ _
              · exact ih _ _
            · simp only [if_pos h4, if_neg h5, Option.map_none]
          · simp only [if_neg h4, Option.map_none]
def cM (s : Nat) : Mem := gaM s (wr zM 85 7 (nI s))
theorem nt_ok : ∀ s, s < 4 → ∀ a, a < 8 → ∀ b, b < 8 → (fM_nextTo (nI a) (nI b) (cM s)).map (fun q => q.1) = some (nxt s a b) := by decide +kernel
theorem fM_nextTo_eq {s a b : Nat} {M : Mem} (hs : s < 4) (hM : TB97 s M) (ha : a < 8) (hb : b < 8) : fM_nextTo (nI a) (nI b) M = some (nxt s a b, M) := by
  have hN : TB97 s (cM s) := gaM_TB wr_same
  have h := nt_ok s hs a ha b hb
  have e8 : 8 * nI a + nI b = nI (8 * a + b) := by rw [show (8 : Int32) = nI 8 from rfl, pk_mul, nI_add]
  have key : fM_nextTo (nI a) (nI b) M = (fM_nextTo (nI a) (nI b) (cM s)).map (fun q => (q.1, M)) := by
    unfold fM_nextTo
    rw [e8, if_pos (ib_nI (show 8 * a + b < 64 by omega) (by omega)), if_pos (ib_nI (show 8 * a + b < 64 by omega) (by omega)), ix_nI (by omega), hM.2 _ (by omega), hN.2 _ (by omega)]
    repeat' split
    · rfl
    · exact fM_nextTo_b28_z hM hN _ _ _ _ _
    · rfl
  rw [key]
  cases hq : fM_nextTo (nI a) (nI b) (cM s) with
  | none => rw [hq] at h; cases h
  | some q =>
    rw [hq] at h
    simp only [Option.map_some, Option.some.injEq] at h ⊢
    rw [h]
