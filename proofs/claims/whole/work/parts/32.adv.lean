/-! 32: a step ahead, in the class and in the model -/
def endT (n : Nat) (T : Stk) (a : Nat) : Nat := if a < n then (if cLt (T a) = true then rn cLt n T a else if cDg (T a) = true then rn cDg n T a else if cSg (T a) = true then a + 1 else a) else a
def tokC (n : Nat) (T : Stk) (a : Nat) : Int32 := if a < n then (if cLt (T a) = true then nI (wdT T a (rn cLt n T a)) else if cDg (T a) = true then (if rn cDg n T a - a ≤ 4 then 12 else 14) else if cSg (T a) = true then T a else 14) else 13
def kndT (n : Nat) (T : Stk) (a : Nat) : Int32 := if a < n then (if cLt (T a) = true then 1 else if cDg (T a) = true then (if rn cDg n T a - a ≤ 4 then 2 else 4) else if cSg (T a) = true then 3 else 4) else 0
def numC (T : Stk) : Nat → Nat → Int32 → Int32
  | 0, _, x => x
  | c + 1, j, x => numC T c (j + 1) (x * 10 + T j - 48)
def numL (T : Stk) : Nat → Nat → Int64 → Int64
  | 0, _, x => x
  | c + 1, j, x => numL T c (j + 1) (10 * x + (T j).toInt64 - 48)
def numT (n : Nat) (T : Stk) (a : Nat) : Int32 := numC T (rn cDg n T a - a) a 0
def TC (n : Nat) (T : Stk) (M : Mem) : Prop := M 40 1 = nI n ∧ n ≤ 160 ∧ ∀ i, i < n → M 41 i = T i
def CS (n : Nat) (T : Stk) (M : Mem) (a w : Nat) : Prop := TC n T M ∧ a ≤ n ∧ M 40 2 = nI a ∧ M 40 3 = nI (endT n T a) ∧ M 40 4 = tokC n T a ∧ (tokC n T a = 12 → M 40 5 = numT n T a) ∧ M 40 6 = (if tokC n T a = 14 then nI a else -1) ∧ M 40 9 = nI w
def KA (M N : Mem) : Prop := (∀ a, a ≠ 40 → N a = M a) ∧ ∀ j, (j < 2 ∨ 6 < j) → N 40 j = M 40 j
theorem KA.trans {M N O : Mem} (a : KA M N) (b : KA N O) : KA M O := ⟨fun x h => (b.1 x h).trans (a.1 x h), fun j h => (b.2 j h).trans (a.2 j h)⟩
theorem KA.put {M : Mem} {j : Nat} {v : Int32} (h : 2 ≤ j ∧ j ≤ 6) : KA M (wr M 40 j v) := ⟨fun a ha => wr_ne ha, fun i hi => wr_at (by omega)⟩
theorem TC.ka {n : Nat} {T : Stk} {M N : Mem} (h : TC n T M) (k : KA M N) : TC n T N := ⟨by rw [k.2 1 (by omega)]; exact h.1, h.2.1, fun i hi => by rw [k.1 41 (by decide)]; exact h.2.2 i hi⟩
theorem wr_cc {M : Mem} {k j i : Nat} {v w : Int32} (h : j ≠ i) : wr (wr M k j v) k i w = wr (wr M k i w) k j v := by
  funext a b
  unfold wr
  by_cases h1 : a = k ∧ b = i
  · rw [if_pos h1, if_neg (by omega), if_pos h1]
  · rw [if_neg h1, if_neg h1]
theorem fR_takeWord_b0_eq {n : Nat} {T : Stk} : ∀ (c j z : Nat) (M : Mem), TC n T M → M 40 3 = nI j → j ≤ n → n - j = c → c < z → fR_takeWord_b0 z M = fR_takeWord_b39 (wr M 40 3 (nI (rn cLt n T j))) := by
  intro c
  induction c with
  | zero =>
    intro j z M h h3 hj hc hz
    have hn := h.2.1
    obtain ⟨z, rfl⟩ := Nat.exists_eq_succ_of_ne_zero (show z ≠ 0 by omega)
    rw [rn_stop (by omega), ← h3, wr_self, fR_takeWord_b0, h.1, h3, if_pos (by rw [n_le (by omega) (by omega)]; omega)]
  | succ c ih =>
    intro j z M h h3 hj hc hz
    have hn := h.2.1
    obtain ⟨z, rfl⟩ := Nat.exists_eq_succ_of_ne_zero (show z ≠ 0 by omega)
    rw [fR_takeWord_b0, h.1, h3, if_neg (by rw [n_le (by omega) (by omega)]; omega), if_pos (ib_nI (by omega) (by omega)), ix_nI (by omega), h.2.2 j (by omega), fR_isLetter_eq]
    simp only [Option.bind_some, bz_0]
    by_cases hl : cLt (T j) = true
    · rw [if_neg (fun k => k hl), h3, nI_1, rn_go (by omega) hl, ih (j + 1) z _ (h.ka (KA.put (by omega))) wr_same (by omega) (by omega) (by omega), wr_wr]
    · rw [if_pos hl, rn_stop (fun k => hl k.2), ← h3, wr_self]
theorem fR_takeNumber_b5_eq {n : Nat} {T : Stk} : ∀ (c j z : Nat) (M : Mem), TC n T M → M 40 3 = nI j → j ≤ n → n - j = c → c < z → fR_takeNumber_b5 z M = fR_takeNumber_b68 (wr (wr M 40 5 (numC T (rn cDg n T j - j) j (M 40 5))) 40 3 (nI (rn cDg n T j))) := by
  intro c
  induction c with
  | zero =>
    intro j z M h h3 hj hc hz
    have hn := h.2.1
    obtain ⟨z, rfl⟩ := Nat.exists_eq_succ_of_ne_zero (show z ≠ 0 by omega)
    rw [rn_stop (by omega), Nat.sub_self, numC, wr_self, ← h3, wr_self, fR_takeNumber_b5, h.1, h3, if_pos (by rw [n_le (by omega) (by omega)]; omega)]
  | succ c ih =>
    intro j z M h h3 hj hc hz
    have hn := h.2.1
    obtain ⟨z, rfl⟩ := Nat.exists_eq_succ_of_ne_zero (show z ≠ 0 by omega)
    rw [fR_takeNumber_b5, h.1, h3, if_neg (by rw [n_le (by omega) (by omega)]; omega), if_pos (ib_nI (by omega) (by omega)), ix_nI (by omega), h.2.2 j (by omega), fR_isDigit_eq]
    simp only [Option.bind_some, bz_0]
    by_cases hl : cDg (T j) = true
    · have hb := (rn_bd (P := cDg) (n := n) (i := j + 1) (T := T) (by omega)).1
      rw [if_neg (fun k => k hl), h3, if_pos (ib_nI (by omega) (by omega)), ix_nI (by omega), h.2.2 j (by omega), wr_at (show 3 ≠ 5 by decide), h3, nI_1, rn_go (by omega) hl, ih (j + 1) z _ ((h.ka (KA.put (by omega))).ka (KA.put (by omega))) wr_same (by omega) (by omega) (by omega), wr_at (show 5 ≠ 3 by decide), wr_same, show rn cDg n T (j + 1) - j = (rn cDg n T (j + 1) - (j + 1)) + 1 by omega, numC, wr_cc (show 3 ≠ 5 by decide), wr_wr, wr_wr]
    · rw [if_pos hl, rn_stop (fun k => hl k.2), Nat.sub_self, numC, wr_self, ← h3, wr_self]
theorem tok14 {n : Nat} {T : Stk} {a : Nat} (hB : ∀ i, i < n → 0 ≤ (T i).toInt) (ha : a < n) (h1 : cLt (T a) = false) (h2 : cDg (T a) = false) (h3 : cSg (T a) = true) : T a ≠ 14 ∧ T a ≠ 12 ∧ T a ≠ 13 ∧ 40 ≤ (T a).toInt := by
  unfold cSg at h3
  simp only [Bool.or_eq_true, decide_eq_true_eq] at h3
  rcases h3 with (((((((h | h) | h) | h) | h) | h) | h) | h) <;> rw [h] <;> decide
theorem fR_advance_b52_eq {n : Nat} {T : Stk} {M : Mem} {a w : Nat} (hB : ∀ i, i < n → 0 ≤ (T i).toInt) (h : TC n T M) (h3 : M 40 3 = nI a) (ha : a ≤ n) (h6 : M 40 6 = -1) (h9 : M 40 9 = nI w) : ∃ M', fR_advance_b52 M = some M' ∧ CS n T M' a w ∧ KA M M' := by
  have hn := h.2.1
  unfold fR_advance_b52
  rw [h3]
  have k1 : KA M (wr M 40 2 (nI a)) := KA.put (by omega)
  have q1 : wr M 40 2 (nI a) 40 1 = nI n := by rw [wr_at (by decide)]; exact h.1
  have q2 : wr M 40 2 (nI a) 40 2 = nI a := wr_same
  have q3 : wr M 40 2 (nI a) 40 3 = nI a := by rw [wr_at (by decide)]; exact h3
  have q6 : wr M 40 2 (nI a) 40 6 = -1 := by rw [wr_at (by decide)]; exact h6
  have q9 : wr M 40 2 (nI a) 40 9 = nI w := by rw [wr_at (by decide)]; exact h9
  have qT := h.ka k1
  generalize wr M 40 2 (nI a) = N at *
  rw [q1, q2]
  by_cases hc : a < n
  · rw [if_pos (by rw [n_lt (by omega) (by omega)]; exact hc), if_pos (ib_nI (by omega) (by omega)), ix_nI (by omega), qT.2.2 a hc, fR_isLetter_eq]
    simp only [Option.bind_some, bz_0]
    by_cases hl : cLt (T a) = true
    · have hb := rn_bd (P := cLt) (n := n) (i := a) (T := T) (by omega)
      rw [if_neg (fun k => k hl), fR_takeWord, fR_takeWord_b0_eq (n - a) a 1000 N qT q3 (by omega) rfl (by omega), fR_takeWord_b39]
      have k2 : KA N (wr N 40 3 (nI (rn cLt n T a))) := KA.put (by omega)
      rw [fR_wordOnTape_eq hn (qT.ka k2).2.2 (by rw [wr_at (by decide)]; exact q2) wr_same hb.1 hb.2.1]
      simp only [Option.bind_some]
      rw [wr_same]
      have et : tokC n T a = nI (wdT T a (rn cLt n T a)) := by unfold tokC; rw [if_pos hc, if_pos hl]
      have ee : endT n T a = rn cLt n T a := by unfold endT; rw [if_pos hc, if_pos hl]
      have wb := wd_bd (T := T) (a := a) (e := rn cLt n T a)
      have n12 : ¬ tokC n T a = 12 := by
        rw [et, show (12 : Int32) = nI 12 from rfl, n_eq (by omega) (by omega)]; omega
      by_cases hw : nI (wdT T a (rn cLt n T a)) = 14
      · rw [if_pos hw]
        unfold fR_refuse fR_refuse_b16
        rw [wr_at (show 6 ≠ 4 by decide), wr_at (show 6 ≠ 3 by decide), q6, if_pos rfl, wr_at (show 2 ≠ 4 by decide), wr_at (show 2 ≠ 3 by decide), q2]
        simp only [Option.bind_some]
        refine ⟨_, rfl, ⟨?_, ha, ?_, ?_, ?_, fun z => absurd z n12, ?_, ?_⟩, ?_⟩
        · exact (((qT.ka (KA.put (by omega))).ka (KA.put (by omega))).ka (KA.put (by omega))).ka (KA.put (by omega))
        · simp [wr, q2]
        · simp [wr, ee]
        · rw [wr_same, et, hw]
        · rw [et, hw, if_pos rfl]; simp [wr]
        · simp [wr, q9]
        · exact ((((k1.trans (KA.put (by omega))).trans (KA.put (by omega))).trans (KA.put (by omega))).trans (KA.put (by omega)))
      · rw [if_neg hw]
        refine ⟨_, rfl, ⟨?_, ha, ?_, ?_, ?_, fun z => absurd z n12, ?_, ?_⟩, ?_⟩
        · exact (qT.ka (KA.put (by omega))).ka (KA.put (by omega))
        · simp [wr, q2]
        · simp [wr, ee]
        · rw [wr_same, et]
        · rw [et, if_neg hw]; simp [wr, q6]
        · simp [wr, q9]
        · exact (k1.trans (KA.put (by omega))).trans (KA.put (by omega))
    · rw [if_pos hl, q2, if_pos (ib_nI (by omega) (by omega)), ix_nI (by omega), qT.2.2 a hc, fR_isDigit_eq]
      simp only [Option.bind_some, bz_0]
      by_cases hd : cDg (T a) = true
      · have hb := rn_bd (P := cDg) (n := n) (i := a) (T := T) (by omega)
        rw [if_neg (fun k => k hd), fR_takeNumber, fR_takeNumber_b5_eq (n - a) a 1000 _ (qT.ka (KA.put (by omega))) (by rw [wr_at (by decide)]; exact q3) (by omega) rfl (by omega), fR_takeNumber_b68, wr_same, wr_wr]
        have et : tokC n T a = if rn cDg n T a - a ≤ 4 then 12 else 14 := by unfold tokC; rw [if_pos hc, if_neg hl, if_pos hd]
        have ee : endT n T a = rn cDg n T a := by unfold endT; rw [if_pos hc, if_neg hl, if_pos hd]
        rw [wr_at (show 3 ≠ 4 by decide), wr_same, wr_at (show 2 ≠ 4 by decide), wr_at (show 2 ≠ 3 by decide), wr_at (show 2 ≠ 5 by decide), q2, nI_subm hb.1]
        by_cases h4 : rn cDg n T a - a ≤ 4
        · rw [if_pos (by rw [show (4 : Int32) = nI 4 from rfl, n_le (by omega) (by omega)]; exact h4)]
          rw [if_pos h4] at et
          refine ⟨_, rfl, ⟨?_, ha, ?_, ?_, ?_, fun _ => ?_, ?_, ?_⟩, ?_⟩
          · exact ((qT.ka (KA.put (by omega))).ka (KA.put (by omega))).ka (KA.put (by omega))
          · simp [wr, q2]
          · simp [wr, ee]
          · rw [wr_same, et]
          · simp [wr]; rfl
          · rw [et, if_neg (by decide)]; simp [wr, q6]
          · simp [wr, q9]
          · exact ((k1.trans (KA.put (by omega))).trans (KA.put (by omega))).trans (KA.put (by omega))
        · rw [if_neg (by rw [show (4 : Int32) = nI 4 from rfl, n_le (by omega) (by omega)]; exact h4)]
          rw [if_neg h4] at et
          unfold fR_refuse fR_refuse_b16
          rw [wr_at (show 6 ≠ 4 by decide), wr_at (show 6 ≠ 3 by decide), wr_at (show 6 ≠ 5 by decide), q6, if_pos rfl, wr_at (show 2 ≠ 4 by decide), wr_at (show 2 ≠ 3 by decide), wr_at (show 2 ≠ 5 by decide), q2]
          simp only [Option.bind_some]
          refine ⟨_, rfl, ⟨?_, ha, ?_, ?_, ?_, fun z => ?_, ?_, ?_⟩, ?_⟩
          · exact ((((qT.ka (KA.put (by omega))).ka (KA.put (by omega))).ka (KA.put (by omega))).ka (KA.put (by omega))).ka (KA.put (by omega))
          · simp [wr, q2]
          · simp [wr, ee]
          · rw [wr_same, et]
          · rw [et] at z; exact absurd z (by decide)
          · rw [et, if_pos rfl]; simp [wr]
          · simp [wr, q9]
          · exact ((((k1.trans (KA.put (by omega))).trans (KA.put (by omega))).trans (KA.put (by omega))).trans (KA.put (by omega))).trans (KA.put (by omega))
      · rw [if_pos hd, q2, if_pos (ib_nI (by omega) (by omega)), ix_nI (by omega), qT.2.2 a hc, fR_isSign_eq]
        simp only [Option.bind_some, bz_0]
        by_cases hs : cSg (T a) = true
        · rw [if_neg (fun k => k hs), q2, if_pos (ib_nI (by omega) (by omega)), ix_nI (by omega), qT.2.2 a hc, wr_at (show 3 ≠ 4 by decide), q3, nI_1]
          have et : tokC n T a = T a := by unfold tokC; rw [if_pos hc, if_neg hl, if_neg hd, if_pos hs]
          have ee : endT n T a = a + 1 := by unfold endT; rw [if_pos hc, if_neg hl, if_neg hd, if_pos hs]
          have t14 := tok14 hB hc (by simpa using hl) (by simpa using hd) hs
          refine ⟨_, rfl, ⟨?_, ha, ?_, ?_, ?_, fun z => ?_, ?_, ?_⟩, ?_⟩
          · exact (qT.ka (KA.put (by omega))).ka (KA.put (by omega))
          · simp [wr, q2]
          · simp [wr, ee]
          · simp [wr, et]
          · rw [et] at z; exact absurd z t14.2.1
          · rw [et, if_neg t14.1]; simp [wr, q6]
          · simp [wr, q9]
          · exact (k1.trans (KA.put (by omega))).trans (KA.put (by omega))
        · rw [if_pos hs]
          have et : tokC n T a = 14 := by unfold tokC; rw [if_pos hc, if_neg hl, if_neg hd, if_neg hs]
          have ee : endT n T a = a := by unfold endT; rw [if_pos hc, if_neg hl, if_neg hd, if_neg hs]
          unfold fR_refuse fR_refuse_b16
          rw [q6, if_pos rfl, q2]
          simp only [Option.bind_some]
          refine ⟨_, rfl, ⟨?_, ha, ?_, ?_, ?_, fun z => ?_, ?_, ?_⟩, ?_⟩
          · exact (qT.ka (KA.put (by omega))).ka (KA.put (by omega))
          · simp [wr, q2]
          · simp [wr, ee, q3]
          · rw [wr_same, et]
          · rw [et] at z; exact absurd z (by decide)
          · rw [et, if_pos rfl]; simp [wr]
          · simp [wr, q9]
          · exact (k1.trans (KA.put (by omega))).trans (KA.put (by omega))
  · rw [if_neg (by rw [n_lt (by omega) (by omega)]; exact hc)]
    have et : tokC n T a = 13 := by unfold tokC; rw [if_neg hc]
    have ee : endT n T a = a := by unfold endT; rw [if_neg hc]
    refine ⟨_, rfl, ⟨?_, ha, ?_, ?_, ?_, fun z => ?_, ?_, ?_⟩, ?_⟩
    · exact qT.ka (KA.put (by omega))
    · simp [wr, q2]
    · simp [wr, ee, q3]
    · rw [wr_same, et]
    · rw [et] at z; exact absurd z (by decide)
    · rw [et, if_neg (by decide)]; simp [wr, q6]
    · simp [wr, q9]
    · exact k1.trans (KA.put (by omega))
theorem fR_advance_b0_eq {n : Nat} {T : Stk} : ∀ (c j z : Nat) (M : Mem), TC n T M → M 40 3 = nI j → j ≤ n → n - j = c → c < z → fR_advance_b0 z M = fR_advance_b52 (wr M 40 3 (nI (rn cBl n T j))) := by
  intro c
  induction c with
  | zero =>
    intro j z M h h3 hj hc hz
    have hn := h.2.1
    obtain ⟨z, rfl⟩ := Nat.exists_eq_succ_of_ne_zero (show z ≠ 0 by omega)
    rw [rn_stop (by omega), ← h3, wr_self, fR_advance_b0, h.1, h3, if_pos (by rw [n_le (by omega) (by omega)]; omega)]
  | succ c ih =>
    intro j z M h h3 hj hc hz
    have hn := h.2.1
    obtain ⟨z, rfl⟩ := Nat.exists_eq_succ_of_ne_zero (show z ≠ 0 by omega)
    rw [fR_advance_b0, h.1, h3, if_neg (by rw [n_le (by omega) (by omega)]; omega), if_pos (ib_nI (by omega) (by omega)), if_pos (ib_nI (by omega) (by omega)), ix_nI (by omega), h.2.2 j (by omega)]
    unfold fR_advance_b39
    rw [h3, nI_1]
    by_cases h1 : T j = 32
    · rw [if_pos h1, rn_go (by omega) (by simp [cBl, h1]), ih (j + 1) z _ (h.ka (KA.put (by omega))) wr_same (by omega) (by omega) (by omega), wr_wr]
    · rw [if_neg h1]
      by_cases h2 : T j = 10
      · rw [if_pos h2, rn_go (by omega) (by simp [cBl, h2]), ih (j + 1) z _ (h.ka (KA.put (by omega))) wr_same (by omega) (by omega) (by omega), wr_wr]
      · rw [if_neg h2, rn_stop (by simp [cBl, h1, h2]), ← h3, wr_self]
theorem fR_advance_eq {n : Nat} {T : Stk} {M : Mem} {b w : Nat} (hB : ∀ i, i < n → 0 ≤ (T i).toInt) (h : TC n T M) (h3 : M 40 3 = nI b) (hb : b ≤ n) (h6 : M 40 6 = -1) (h9 : M 40 9 = nI w) : ∃ M', fR_advance M = some M' ∧ CS n T M' (rn cBl n T b) w ∧ KA M M' := by
  have hn := h.2.1
  unfold fR_advance
  rw [fR_advance_b0_eq (n - b) b 1000 M h h3 hb rfl (by omega)]
  obtain ⟨M', e, c, k⟩ := fR_advance_b52_eq (M := wr M 40 3 (nI (rn cBl n T b))) hB (h.ka (KA.put (by omega))) wr_same (rn_bd hb).2.1 (by rw [wr_at (by decide)]; exact h6) (by rw [wr_at (by decide)]; exact h9)
  exact ⟨M', e, c, (KA.put (by omega)).trans k⟩
/-! the model -/
def KN (M N : Mem) : Prop := (∀ a, a ≠ 85 → N a = M a) ∧ ∀ j, (j < 29 ∨ (32 < j ∧ j ≠ 132)) → N 85 j = M 85 j
theorem KN.trans {M N O : Mem} (a : KN M N) (b : KN N O) : KN M O := ⟨fun x h => (b.1 x h).trans (a.1 x h), fun j h => (b.2 j h).trans (a.2 j h)⟩
theorem KN.rfl' {M : Mem} : KN M M := ⟨fun _ _ => rfl, fun _ _ => rfl⟩
theorem KN.put {M : Mem} {j : Nat} {v : Int32} (h : (29 ≤ j ∧ j ≤ 32) ∨ j = 132) : KN M (wr M 85 j v) := ⟨fun a ha => wr_ne ha, fun i hi => wr_at (by omega)⟩
theorem KN.r {M N : Mem} (a : KN M N) : KeepR M N := ⟨a.1, fun j h => a.2 j (by omega)⟩
theorem NB.kn {n t : Nat} {T : Stk} {M N : Mem} (h : NB n t T M) (k : KN M N) : NB n t T N := by
  unfold NB
  rw [k.2 27 (by omega), k.2 28 (by omega), k.1 86 (by decide)]
  exact h
def NS (n t : Nat) (T : Stk) (N : Mem) (a : Nat) (o : Int32) : Prop := NB n t T N ∧ N 85 31 = nI a ∧ N 85 29 = nI (endT n T a) ∧ N 85 30 = kndT n T a ∧ (kndT n T a = 2 → (lgc (N 85 132) (N 85 32)).toInt32 = numT n T a) ∧ (kndT n T a = 3 → lgc (N 85 132) (N 85 32) = (T a).toInt64) ∧ N 85 34 = 0 ∧ N 85 33 = o
theorem nx_run {n t : Nat} {T : Stk} : ∀ (c b z : Nat) (N : Mem), NB n t T N → N 85 29 = nI b → b + c ≤ n → (∀ j, b ≤ j → j < b + c → cBl (T j) = true) → fM_next_b0 (z + c) N = fM_next_b0 z (wr N 85 29 (nI (b + c)))
  | 0, b, z, N, h, h3, hc, hb => by rw [Nat.add_zero, Nat.add_zero, ← h3, wr_self]
  | c + 1, b, z, N, h, h3, hc, hb => by
    have hn := h.1.2
    have h0 := hb b (Nat.le_refl _) (by omega)
    have ih := nx_run c (b + 1) z (wr N 85 29 (nI (b + 1))) (h.kn (KN.put (by omega))) wr_same (by omega) (fun j h1 h2 => hb j (by omega) (by omega))
    rw [wr_wr, show b + 1 + c = b + (c + 1) by omega] at ih
    rw [← Nat.add_assoc, fM_next_b0, h3, fM_byteAt_eq h (by omega), if_pos (by omega)]
    simp only [Option.bind_some]
    unfold fM_next_b26
    rw [h3, nI_1]
    by_cases h1 : T b = 32
    · rw [if_pos h1]; exact ih
    · rw [if_neg h1, fM_byteAt_eq h (by omega), if_pos (by omega)]
      simp only [Option.bind_some]
      rw [if_pos (by simpa [cBl, h1] using h0), h3, nI_1]
      exact ih
theorem fM_next_b100_eq {n t : Nat} {T : Stk} : ∀ (c j z : Nat) (N : Mem), NB n t T N → N 85 29 = nI j → j ≤ n → n - j = c → c < z → fM_next_b100 z N = some (wr N 85 29 (nI (rn cLt n T j))) := by
  intro c
  induction c with
  | zero =>
    intro j z N h h3 hj hc hz
    have hn := h.1.2
    obtain ⟨z, rfl⟩ := Nat.exists_eq_succ_of_ne_zero (show z ≠ 0 by omega)
    rw [rn_stop (by omega), fM_next_b100, h3, fM_byteAt_eq h (by omega), if_neg (by omega)]
    simp only [Option.bind_some, fM_inLt, bz_0]
    rw [if_pos (by decide), ← h3, wr_self]
  | succ c ih =>
    intro j z N h h3 hj hc hz
    have hn := h.1.2
    obtain ⟨z, rfl⟩ := Nat.exists_eq_succ_of_ne_zero (show z ≠ 0 by omega)
    rw [fM_next_b100, h3, fM_byteAt_eq h (by omega), if_pos (by omega)]
    simp only [Option.bind_some, fM_inLt, bz_0]
    by_cases hl : cLt (T j) = true
    · rw [if_neg (fun k => k hl), h3, nI_1, rn_go (by omega) hl, ih (j + 1) z _ (h.kn (KN.put (by omega))) wr_same (by omega) (by omega) (by omega), wr_wr]
    · rw [if_pos hl, rn_stop (fun k => hl k.2), ← h3, wr_self]
theorem fM_next_b160_eq {n t : Nat} {T : Stk} : ∀ (c j z k : Nat) (N : Mem), NB n t T N → N 85 29 = nI j → j ≤ n → n - j = c → c < z → k ≤ j → ∃ N', fM_next_b160 z (nI k) N = some N' ∧ KN N N' ∧ N' 85 31 = N 85 31 ∧ N' 85 29 = nI (rn cDg n T j) ∧ N' 85 30 = (if k + (rn cDg n T j - j) ≤ 4 then 2 else 4) ∧ (k + (rn cDg n T j - j) ≤ 4 → lgc (N' 85 132) (N' 85 32) = numL T (rn cDg n T j - j) j (lgc (N 85 132) (N 85 32))) := by
  intro c
  have fin : ∀ (j z k : Nat) (N : Mem), NB n t T N → N 85 29 = nI j → j ≤ n → k ≤ j → rn cDg n T j = j → (j < n → cDg (T j) = false) → ∃ N', fM_next_b160 (z + 1) (nI k) N = some N' ∧ KN N N' ∧ N' 85 31 = N 85 31 ∧ N' 85 29 = nI (rn cDg n T j) ∧ N' 85 30 = (if k + (rn cDg n T j - j) ≤ 4 then 2 else 4) ∧ (k + (rn cDg n T j - j) ≤ 4 → lgc (N' 85 132) (N' 85 32) = numL T (rn cDg n T j - j) j (lgc (N 85 132) (N 85 32))) := by
    intro j z k N h h3 hj hk e hd
    have hn := h.1.2
    rw [e, Nat.sub_self, Nat.add_zero, numL, fM_next_b160, h3, fM_byteAt_eq h (by omega)]
    simp only [Option.bind_some, fM_inDg, bz_0]
    rw [if_pos (by
      by_cases hc : j < n
      · rw [if_pos hc, hd hc]; decide
      · rw [if_neg hc]; decide)]
    unfold fM_next_b246
    by_cases h4 : k ≤ 4
    · rw [if_pos (by rw [show (4 : Int32) = nI 4 from rfl, n_le (by omega) (by omega)]; exact h4), if_pos (show k + 0 ≤ 4 from h4)]
      refine ⟨_, rfl, KN.put (by omega), ?_, ?_, wr_same, fun _ => ?_⟩
      · rw [wr_at (by decide)]
      · rw [wr_at (by decide)]; exact h3
      · rw [wr_at (by decide), wr_at (by decide)]
    · rw [if_neg (by rw [show (4 : Int32) = nI 4 from rfl, n_le (by omega) (by omega)]; exact h4), if_neg (show ¬ k + 0 ≤ 4 from h4)]
      refine ⟨_, rfl, KN.put (by omega), ?_, ?_, wr_same, fun _ => ?_⟩
      · rw [wr_at (by decide)]
      · rw [wr_at (by decide)]; exact h3
      · rw [wr_at (by decide), wr_at (by decide)]
  induction c with
  | zero =>
    intro j z k N h h3 hj hc hz hk
    obtain ⟨z, rfl⟩ := Nat.exists_eq_succ_of_ne_zero (show z ≠ 0 by omega)
    exact fin j z k N h h3 hj hk (rn_stop (by omega)) (by omega)
  | succ c ih =>
    intro j z k N h h3 hj hc hz hk
    have hn := h.1.2
    obtain ⟨z, rfl⟩ := Nat.exists_eq_succ_of_ne_zero (show z ≠ 0 by omega)
    by_cases hl : cDg (T j) = true
    · have hb := (rn_bd (P := cDg) (n := n) (i := j + 1) (T := T) (by omega)).1
      rw [fM_next_b160, h3, fM_byteAt_eq h (by omega), if_pos (by omega)]
      simp only [Option.bind_some, fM_inDg, bz_0]
      rw [if_neg (fun k => k hl), h3]
      unfold fM_next_b216
      have step : ∀ s0 : Int64, ∃ N', fM_next_b160 z (nI k + 1) (wr (wr (wr N 85 132 (lgHi s0)) 85 32 (lgLo s0)) 85 29 (((wr (wr N 85 132 (lgHi s0)) 85 32 (lgLo s0)) 85 29) + 1)) = some N' ∧ KN N N' ∧ N' 85 31 = N 85 31 ∧ N' 85 29 = nI (rn cDg n T (j + 1)) ∧ N' 85 30 = (if k + 1 + (rn cDg n T (j + 1) - (j + 1)) ≤ 4 then 2 else 4) ∧ (k + 1 + (rn cDg n T (j + 1) - (j + 1)) ≤ 4 → lgc (N' 85 132) (N' 85 32) = numL T (rn cDg n T (j + 1) - (j + 1)) (j + 1) s0) := by
        intro s0
        rw [nI_1, wr_at (show 29 ≠ 32 by decide), wr_at (show 29 ≠ 132 by decide), h3, nI_1]
        have kn : KN N (wr (wr (wr N 85 132 (lgHi s0)) 85 32 (lgLo s0)) 85 29 (nI (j + 1))) := ((KN.put (by omega)).trans (KN.put (by omega))).trans (KN.put (by omega))
        obtain ⟨N', e1, e2, e3, e4, e5, e6⟩ := ih (j + 1) z (k + 1) _ (h.kn kn) wr_same (by omega) (by omega) (by omega) (by omega)
        refine ⟨N', e1, kn.trans e2, ?_, e4, e5, fun h4 => ?_⟩
        · rw [e3]; simp [wr]
        · rw [e6 h4, wr_at (show 132 ≠ 29 by decide), wr_at (show 32 ≠ 29 by decide), wr_same, wr_at (show 132 ≠ 32 by decide), wr_same, lgc_eq]
      have hx : k + (rn cDg n T (j + 1) - j) = k + 1 + (rn cDg n T (j + 1) - (j + 1)) := by omega
      rw [rn_go (by omega) hl, hx]
      by_cases h4 : 4 ≤ k
      · rw [if_pos (by rw [show (4 : Int32) = nI 4 from rfl, n_le (by omega) (by omega)]; exact h4)]
        obtain ⟨N', e1, e2, e3, e4, e5, e6⟩ := step (lgc (N 85 132) (N 85 32))
        exact ⟨N', e1, e2, e3, e4, e5, fun h5 => absurd h5 (by omega)⟩
      · rw [if_neg (by rw [show (4 : Int32) = nI 4 from rfl, n_le (by omega) (by omega)]; exact h4), fM_byteAt_eq h (by omega), if_pos (by omega)]
        simp only [Option.bind_some]
        obtain ⟨N', e1, e2, e3, e4, e5, e6⟩ := step (((10 : Int64) * (lgc (N 85 132) (N 85 32))) + ((T j).toInt64) - (48 : Int64))
        refine ⟨N', e1, e2, e3, e4, e5, fun h5 => ?_⟩
        rw [e6 h5, show rn cDg n T (j + 1) - j = (rn cDg n T (j + 1) - (j + 1)) + 1 by omega, numL]
    · exact fin j z k N h h3 hj hk (rn_stop (fun w => hl w.2)) (fun _ => by simpa using hl)
theorem numCL {T : Stk} : ∀ (c j m : Nat) (x : Int32) (y : Int64), x.toInt = y.toInt → 0 ≤ x.toInt → m = 10 ^ c → (x.toInt + 1) * (m : Int) ≤ 10000 → (∀ i, j ≤ i → i < j + c → cDg (T i) = true) → (numC T c j x).toInt = (numL T c j y).toInt ∧ 0 ≤ (numC T c j x).toInt ∧ (numC T c j x).toInt < 10000
  | 0, j, m, x, y, h1, h2, h3, h4, h5 => by
    have : m = 1 := h3
    subst this
    exact ⟨h1, h2, by show x.toInt < 10000; omega⟩
  | c + 1, j, m, x, y, h1, h2, h3, h4, h5 => by
    have hd := cDg_iff.mp (h5 j (Nat.le_refl _) (by omega))
    rw [numC, numL]
    have hp : 0 < 10 ^ c := Nat.pow_pos (by omega)
    have hm : (m : Int) = 10 * ((10 ^ c : Nat) : Int) := by rw [h3, Nat.pow_succ]; omega
    have hp1 : (1 : Int) ≤ ((10 ^ c : Nat) : Int) := by omega
    generalize ((10 ^ c : Nat) : Int) = u at *
    have hx : (x.toInt + 1) * 10 * u ≤ 10000 := by rw [Int.mul_assoc, ← hm]; exact h4
    have hle : (x.toInt + 1) * 10 * 1 ≤ (x.toInt + 1) * 10 * u := Int.mul_le_mul_of_nonneg_left hp1 (by omega)
    have b1 : (x.toInt + 1) * 10 ≤ 10000 := by omega
    have e10 : (10 : Int32).toInt = 10 := rfl
    have e48 : (48 : Int32).toInt = 48 := rfl
    have t1 : (x * 10).toInt = x.toInt * 10 := by rw [t_mul (by rw [e10]; omega) (by rw [e10]; omega), e10]
    have t2 : (x * 10 + T j).toInt = x.toInt * 10 + (T j).toInt := by rw [t_add (by omega) (by omega), t1]
    have t3 : (x * 10 + T j - 48).toInt = x.toInt * 10 + (T j).toInt - 48 := by rw [t_sub (by omega) (by omega), t2, e48]
    have l10 : (10 : Int64).toInt = 10 := rfl
    have l48 : (48 : Int64).toInt = 48 := rfl
    have s1 : (10 * y).toInt = 10 * x.toInt := by rw [Int64.toInt_mul, l10, ← h1, Int.bmod_eq_of_le (by omega) (by omega)]
    have s2 : (10 * y + (T j).toInt64).toInt = 10 * x.toInt + (T j).toInt := by rw [Int64.toInt_add, s1, t64, Int.bmod_eq_of_le (by omega) (by omega)]
    have s3 : (10 * y + (T j).toInt64 - 48).toInt = 10 * x.toInt + (T j).toInt - 48 := by rw [Int64.toInt_sub, s2, l48, Int.bmod_eq_of_le (by omega) (by omega)]
    refine numCL c (j + 1) (10 ^ c) _ _ (by omega) (by omega) rfl ?_ (fun i h6 h7 => h5 i (by omega) (by omega))
    have hu : ((10 ^ c : Nat) : Int) = u := by omega
    rw [t3, hu]
    have : (x.toInt * 10 + (T j).toInt - 48 + 1) * u ≤ (x.toInt + 1) * 10 * u := Int.mul_le_mul_of_nonneg_right (by omega) (by omega)
    omega
theorem numT_eq {n : Nat} {T : Stk} {a : Nat} (ha : a ≤ n) (h4 : rn cDg n T a - a ≤ 4) : (numL T (rn cDg n T a - a) a 0).toInt32 = numT n T a ∧ 0 ≤ (numT n T a).toInt := by
  have hb := rn_bd (P := cDg) (n := n) (i := a) (T := T) ha
  unfold numT
  have hm : (((10 ^ (rn cDg n T a - a) : Nat)) : Int) ≤ 10000 := by
    have : 10 ^ (rn cDg n T a - a) ≤ 10 ^ 4 := Nat.pow_le_pow_right (by omega) h4
    omega
  obtain ⟨h1, h2, h3⟩ := numCL (T := T) (rn cDg n T a - a) a _ 0 0 rfl (by decide) rfl (by rw [show (0 : Int32).toInt = 0 from rfl]; omega) (fun i h5 h6 => hb.2.2.2 i h5 (by omega))
  refine ⟨?_, h2⟩
  rw [i_eq, Int64.toInt_toInt32, ← h1, Int.bmod_eq_of_le (by omega) (by omega)]
