/-! 17: a minute, a morning in the class -/
theorem turnS_congr {V D M : Mem} {tl : Tell} (e : EqD D M) (k : Nat) (t mm : Int32) : EqD (turnS V tl k t mm D) (turnS V tl k t mm M) := by
  have e50 := e 50 (by decide) (by decide)
  have e51 := e 51 (by decide) (by decide)
  have e52 := e 52 (by decide) (by decide)
  have e53 := e 53 (by decide) (by decide)
  have e54 := e 54 (by decide) (by decide)
  have e55 := e 55 (by decide) (by decide)
  have e56 := e 56 (by decide) (by decide)
  have e45 := e 45 (by decide) (by decide)
  have ea : aimS V M k = aimS V D k := by unfold aimS; rw [e53]
  have en : nextS V M k = nextS V D k := by unfold nextS; rw [ea, e50]
  have et : ∀ p b, telS tl V M p k t b = telS tl V D p k t b := fun p b => by
    unfold telS othS
    rw [e50, e56, othF_congr (D := D) e50 e52]
  have w1 : ∀ (x j : Nat) (v : Int32), EqD (wr D x j v) (wr M x j v) := fun x j v a h1 h2 => by
    funext b
    unfold wr
    rw [e a h1 h2]
  have w2 : ∀ (x j : Nat) (v : Int32) (x2 j2 : Nat) (v2 : Int32), EqD (wr (wr D x j v) x2 j2 v2) (wr (wr M x j v) x2 j2 v2) := fun x j v x2 j2 v2 a h1 h2 => by
    funext b
    unfold wr
    rw [e a h1 h2]
  unfold turnS
  simp only [e50, e51, e52, e53, e54, e55, e56, e45, ea, en, et]
  split
  · split
    · exact w2 _ _ _ _ _ _
    · exact w1 _ _ _
  · split
    · exact w2 _ _ _ _ _ _
    · split
      · split
        · exact w2 _ _ _ _ _ _
        · exact w1 _ _ _
      · split
        · exact w1 _ _ _
        · exact w2 _ _ _ _ _ _
theorem turnS_45 {V D : Mem} {tl : Tell} {k j : Nat} {t mm : Int32} (hj : j ≠ 13) : turnS V tl k t mm D 45 j = D 45 j := by
  unfold turnS
  repeat' split
  all_goals (unfold wr; simp [hj])
theorem turnS_row {V D : Mem} {tl : Tell} {k a : Nat} {t mm : Int32} (ha : a ≠ 45 ∧ (a < 50 ∨ 56 < a)) : turnS V tl k t mm D a = D a := by
  have h : ∀ (M : Mem) (x j : Nat) (v : Int32), x = 45 ∨ (50 ≤ x ∧ x ≤ 56) → wr M x j v a = M a := fun M x j v hx => wr_ne (by omega)
  unfold turnS
  repeat' split
  all_goals (first | rw [h _ _ _ _ (by decide), h _ _ _ _ (by decide)] | rw [h _ _ _ _ (by decide)])
theorem CV.eqd {h : Nat} {V D M : Mem} {tl : Tell} (c : CV h V tl D) (e : EqD D M) : CV h V tl M := c.keep ⟨fun a _ h2 => e a (by omega) (by omega), by rw [e 45 (by decide) (by decide)]⟩
theorem DOK.eqd {V D M : Mem} (d : DOK V D) (e : EqD D M) : DOK V M := by
  intro k hk
  rw [e 50 (by decide) (by decide), e 51 (by decide) (by decide), e 52 (by decide) (by decide), e 53 (by decide) (by decide)]
  exact d k hk
/-- the bits of the rooms that are on lists -/
def AskOK (V : Mem) (x : Int32) : Prop := ∀ r, r < 8 → (((x >>> (nI r &&& 31)) &&& 1 = 0) ↔ ¬ ∃ k, k < vM V ∧ ∃ i, i < vL V k ∧ ix (V (8 + k) i) = r)
theorem doneS_iff {V D : Mem} : doneS V D = true ↔ ∀ k, k < vM V → ∀ i, i < vL V k → (D 56 (ix (V (8 + k) i))).toInt ≤ 0 := by
  unfold doneS
  simp only [List.all_eq_true, List.mem_range, decide_eq_true_eq]
theorem fD_isAllDone_eq {V M : Mem} (vo : VOK V) (ask : AskOK V (M 45 12)) : fD_isAllDone M = some (bz (doneS V M = true), M) := by
  have e0 : (0 : Int32).toInt = 0 := rfl
  have hb : doneS V M = true ↔ ∀ q, q < 8 → ((M 45 12 >>> (nI q &&& 31)) &&& 1 = 0) ∨ (M 56 q).toInt ≤ 0 := by
    rw [doneS_iff]
    constructor
    · intro hh q hq
      by_cases z : (M 45 12 >>> (nI q &&& 31)) &&& 1 = 0
      · exact Or.inl z
      · right
        have : ∃ k, k < vM V ∧ ∃ i, i < vL V k ∧ ix (V (8 + k) i) = q := Classical.byContradiction (fun w => z ((ask q hq).mpr w))
        obtain ⟨k, hk, i, hi, e⟩ := this
        rw [← e]
        exact hh k hk i hi
    · intro hh k hk i hi
      have hb := (vo.2.2.2 k hk).2.2.2 i hi
      rcases hh _ (ix_lt hb) with z | z
      · exact absurd ⟨k, hk, i, hi, rfl⟩ ((ask _ (ix_lt hb)).mp z)
      · exact z
  have loop : ∀ (c r z : Nat), r + c = 8 → c < z → (∀ q, q < r → ((M 45 12 >>> (nI q &&& 31)) &&& 1 = 0) ∨ (M 56 q).toInt ≤ 0) → fD_isAllDone_b2 z (nI r) M = some (bz (doneS V M = true), M) := by
    intro c
    induction c with
    | zero =>
      intro r z hr hz hq
      obtain ⟨z, rfl⟩ := Nat.exists_eq_succ_of_ne_zero (show z ≠ 0 by omega)
      have : r = 8 := by omega
      subst this
      rw [fD_isAllDone_b2, if_pos (by decide), bz, if_pos (hb.mpr hq)]
    | succ c ih =>
      intro r z hr hz hq
      obtain ⟨z, rfl⟩ := Nat.exists_eq_succ_of_ne_zero (show z ≠ 0 by omega)
      rw [fD_isAllDone_b2, if_neg (by rw [show (8 : Int32) = nI 8 from rfl, n_le (by omega) (by omega)]; omega)]
      simp only [fD_isAllDone_b30, if_pos (ib_nI (show r < 8 by omega) (by omega)), ix_nI (show r < 2147483648 by omega), nI_1]
      have step : ((M 45 12 >>> (nI r &&& 31)) &&& 1 = 0) ∨ (M 56 r).toInt ≤ 0 → ∀ q, q < r + 1 → ((M 45 12 >>> (nI q &&& 31)) &&& 1 = 0) ∨ (M 56 q).toInt ≤ 0 := by
        intro h q hq2
        by_cases hqr : q = r
        · subst hqr; exact h
        · exact hq q (by omega)
      by_cases h1 : (M 45 12 >>> (nI r &&& 31)) &&& 1 = 0
      · rw [if_pos h1]
        exact ih (r + 1) z (by omega) (by omega) (step (Or.inl h1))
      · rw [if_neg h1]
        by_cases h2 : M 56 r ≤ 0
        · rw [if_pos h2]
          rw [i_le, e0] at h2
          exact ih (r + 1) z (by omega) (by omega) (step (Or.inr h2))
        · rw [if_neg h2, bz, if_neg]
          intro w
          rw [i_le, e0] at h2
          rcases (hb.mp w) r (by omega) with z | z
          · exact h1 z
          · exact h2 z
  unfold fD_isAllDone
  have := loop 8 0 1000 (by omega) (by omega) (fun q hq => by omega)
  rw [show (0 : Int32) = nI 0 from rfl, this]
theorem turnsF_45 {V : Mem} {tl : Tell} {t mm : Int32} {j : Nat} (hj : j ≠ 13) : ∀ (c k : Nat) (D : Mem), turnsF V tl t mm c k D 45 j = D 45 j
  | 0, _, _ => rfl
  | c + 1, k, D => by rw [turnsF, turnsF_45 hj c (k + 1), turnS_45 hj]
theorem turnsF_row {V : Mem} {tl : Tell} {t mm : Int32} {a : Nat} (ha : a ≠ 45 ∧ (a < 50 ∨ 56 < a)) : ∀ (c k : Nat) (D : Mem), turnsF V tl t mm c k D a = D a
  | 0, _, _ => rfl
  | c + 1, k, D => by rw [turnsF, turnsF_row ha c (k + 1), turnS_row ha]
theorem fD_turns_eq {h : Nat} {V : Mem} {tl : Tell} (t mm : Int32) : ∀ (c k z : Nat) (D M : Mem), k + c = vM V → c < z → CV h V tl M → DOK V M → AskOK V (M 45 12) → EqD D M → ∃ M', fD_pass_b11 t mm z (nI k) M = (if M' 45 14 = -1 then (some (bz (doneS V M' = true), M')).bind (fun w4 => if w4.1 = 0 then some w4.2 else some (wr w4.2 45 14 t)) else some M') ∧ EqD (turnsF V tl t mm c k D) M' ∧ CV h V tl M' ∧ DOK V M' := by
  intro c
  induction c with
  | zero =>
    intro k z D M hk hz cv dk ask e
    obtain ⟨z, rfl⟩ := Nat.exists_eq_succ_of_ne_zero (show z ≠ 0 by omega)
    have F := cv.f
    have m4 := cv.2.2.2.1.2.2.1.2
    refine ⟨M, ?_, e, cv, dk⟩
    rw [fD_pass_b11, if_pos F.2.1, F.1, F.2.2.2.2.1, if_pos (by rw [n_le (by omega) (by omega)]; omega), fD_isAllDone_eq cv.2.2.2.1 ask]
  | succ c ih =>
    intro k z D M hk hz cv dk ask e
    obtain ⟨z, rfl⟩ := Nat.exists_eq_succ_of_ne_zero (show z ≠ 0 by omega)
    have F := cv.f
    have m4 := cv.2.2.2.1.2.2.1.2
    obtain ⟨⟨M1, e1, q1⟩, d1, k1⟩ := fD_turn_eq cv dk (show k < vM V by omega) t mm
    rw [fD_pass_b11, if_pos F.2.1, F.1, F.2.2.2.2.1, if_neg (by rw [n_le (by omega) (by omega)]; omega), e1]
    simp only [Option.bind_some, nI_1]
    have ask1 : AskOK V (M1 45 12) := by rw [q1 45 (by decide) (by decide), turnS_45 (by decide)]; exact ask
    have e2 : EqD (turnS V tl k t mm D) M1 := fun a h1 h2 => by rw [q1 a h1 h2]; exact turnS_congr e k t mm a h1 h2
    obtain ⟨M', r1, r2⟩ := ih (k + 1) z (turnS V tl k t mm D) M1 (by omega) (by omega) ((cv.keep k1).eqd q1) (d1.eqd q1) ask1 e2
    exact ⟨M', r1, r2⟩
theorem doneS_congr {V D M : Mem} (e : M 56 = D 56) : doneS V M = doneS V D := by unfold doneS; rw [e]
theorem fD_pass_eq {h : Nat} {V : Mem} {tl : Tell} (t : Int32) {D M : Mem} (cv : CV h V tl M) (dk : DOK V M) (ask : AskOK V (M 45 12)) (e : EqD D M) : ∃ M', fD_pass t M = some M' ∧ EqD (passS V tl t D) M' ∧ CV h V tl M' ∧ DOK V M' ∧ AskOK V (M' 45 12) := by
  have F := cv.f
  have vo := cv.2.2.2.1
  have n8 := vo.2.1.2.1
  unfold fD_pass
  rw [if_pos F.2.1, F.1, fH_masterIn_eq t F.2.2.2.1 n8]
  simp only [Option.bind_some]
  rw [mst_congr (r' := V 1) (m' := V 2) t F.2.2.2.2.2.1]
  obtain ⟨M', r1, r2, r3, r4⟩ := fD_turns_eq t (mst (vN V) (V 1) (V 2) t) (vM V) 0 1000 D M (by omega) (by have := vo.2.2.1.2; omega) cv dk ask e
  rw [show (0 : Int32) = nI 0 from rfl, r1]
  have e45 := r2 45 (by decide) (by decide)
  have e56 := r2 56 (by decide) (by decide)
  have a12 : M' 45 12 = M 45 12 := by rw [e45, turnsF_45 (by decide), e 45 (by decide) (by decide)]
  unfold passS
  dsimp only
  rw [← doneS_congr e56, ← e45]
  by_cases h1 : M' 45 14 = -1
  · rw [if_pos h1]
    simp only [Option.bind_some, bz_0]
    by_cases h2 : doneS V M' = true
    · rw [if_neg (fun z => z h2), if_pos ⟨h1, h2⟩]
      refine ⟨_, rfl, ?_, r3.keep (KeepC.put (Or.inr ⟨rfl, by decide⟩)), DOK_wr_other r4 (by decide), ?_⟩
      · intro a x1 x2
        funext b
        unfold wr
        rw [r2 a x1 x2]
      · rw [wr_at (by decide), a12]; exact ask
    · rw [if_pos h2, if_neg (fun z => h2 z.2)]
      exact ⟨_, rfl, r2, r3, r4, by rw [a12]; exact ask⟩
  · rw [if_neg h1, if_neg (fun z => h1 z.1)]
    exact ⟨_, rfl, r2, r3, r4, by rw [a12]; exact ask⟩
theorem fD_run_b7_eq {h : Nat} {V : Mem} {tl : Tell} {n : Nat} (hn : n ≤ 100) : ∀ (c t z : Nat) (D M : Mem), t + c = n → c < z → CV h V tl M → DOK V M → AskOK V (M 45 12) → EqD D M → ∃ M', fD_run_b7 (nI n) z (nI t) M = some M' ∧ EqD (dayF V tl c t D) M' ∧ CV h V tl M' ∧ DOK V M' := by
  intro c
  induction c with
  | zero =>
    intro t z D M ht hz cv dk ask e
    obtain ⟨z, rfl⟩ := Nat.exists_eq_succ_of_ne_zero (show z ≠ 0 by omega)
    rw [fD_run_b7, if_pos (by rw [n_le (by omega) (by omega)]; omega)]
    exact ⟨_, rfl, e, cv, dk⟩
  | succ c ih =>
    intro t z D M ht hz cv dk ask e
    obtain ⟨z, rfl⟩ := Nat.exists_eq_succ_of_ne_zero (show z ≠ 0 by omega)
    obtain ⟨M1, r1, r2, r3, r4, r5⟩ := fD_pass_eq (nI t) cv dk ask e
    rw [fD_run_b7, if_neg (by rw [n_le (by omega) (by omega)]; omega), r1]
    simp only [Option.bind_some, nI_1]
    exact ih (t + 1) z _ M1 (by omega) (by omega) r3 r4 r5 r2
