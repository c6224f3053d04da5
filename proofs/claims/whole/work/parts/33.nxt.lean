/-! 33: the model's step -/
theorem next_at {n t : Nat} {T : Stk} {N : Mem} {a z : Nat} {o : Int32} (hB : ∀ i, i < n → 0 ≤ (T i).toInt) (h : NB n t T N) (h3 : N 85 29 = nI a) (ha : a ≤ n) (hbl : a < n → cBl (T a) = false) (hbad : N 85 34 = 0) (ho : N 85 33 = o) : ∃ N', fM_next_b0 (z + 1) N = some N' ∧ NS n t T N' a o ∧ KN N N' := by
  have hn := h.1.2
  rw [fM_next_b0, h3, fM_byteAt_eq h (by omega)]
  simp only [Option.bind_some]
  have hnb : ¬ (if a < n then T a else -1) = 32 ∧ ¬ (if a < n then T a else -1) = 10 := by
    by_cases hc : a < n
    · rw [if_pos hc]
      have := hbl hc
      simp [cBl] at this
      exact this
    · rw [if_neg hc]; decide
  rw [if_neg hnb.1, h3, fM_byteAt_eq h (by omega)]
  simp only [Option.bind_some]
  rw [if_neg hnb.2, h3]
  have k1 : KN N (wr N 85 31 (nI a)) := KN.put (by omega)
  have q29 : wr N 85 31 (nI a) 85 29 = nI a := by rw [wr_at (by decide)]; exact h3
  have q31 : wr N 85 31 (nI a) 85 31 = nI a := wr_same
  have q34 : wr N 85 31 (nI a) 85 34 = 0 := by rw [wr_at (by decide)]; exact hbad
  have q33 : wr N 85 31 (nI a) 85 33 = o := by rw [wr_at (by decide)]; exact ho
  have hN := h.kn k1
  generalize wr N 85 31 (nI a) = N1 at *
  rw [q29, fM_byteAt_eq hN (by omega)]
  simp only [Option.bind_some]
  by_cases hc : a < n
  · rw [if_pos hc, if_pos (by rw [i_le]; exact hB a hc), fM_inLt]
    simp only [Option.bind_some, bz_0]
    have k2 : KN N1 (wr N1 85 30 4) := KN.put (by omega)
    have p29 : wr N1 85 30 4 85 29 = nI a := by rw [wr_at (by decide)]; exact q29
    have p31 : wr N1 85 30 4 85 31 = nI a := by rw [wr_at (by decide)]; exact q31
    have p34 : wr N1 85 30 4 85 34 = 0 := by rw [wr_at (by decide)]; exact q34
    have p33 : wr N1 85 30 4 85 33 = o := by rw [wr_at (by decide)]; exact q33
    have p30 : wr N1 85 30 4 85 30 = 4 := wr_same
    have hN2 := hN.kn k2
    generalize wr N1 85 30 4 = N2 at *
    have k12 := k1.trans k2
    by_cases hl : cLt (T a) = true
    · rw [if_neg (fun k => k hl)]
      have ek : kndT n T a = 1 := by unfold kndT; rw [if_pos hc, if_pos hl]
      have ee : endT n T a = rn cLt n T a := by unfold endT; rw [if_pos hc, if_pos hl]
      rw [fM_next_b100_eq (n - a) a 1000 _ (hN2.kn (KN.put (by omega))) (by rw [wr_at (by decide)]; exact p29) ha rfl (by omega)]
      refine ⟨_, rfl, ⟨(hN2.kn (KN.put (by omega))).kn (KN.put (by omega)), ?_, ?_, ?_, fun w => ?_, fun w => ?_, ?_, ?_⟩, (k12.trans (KN.put (by omega))).trans (KN.put (by omega))⟩
      · simp [wr, p31]
      · rw [wr_same, ee]
      · rw [ek]; simp [wr]
      · rw [ek] at w; exact absurd w (by decide)
      · rw [ek] at w; exact absurd w (by decide)
      · simp [wr, p34]
      · simp [wr, p33]
    · rw [if_pos hl, fM_inDg]
      simp only [Option.bind_some, bz_0]
      by_cases hd : cDg (T a) = true
      · rw [if_neg (fun k => k hd)]
        have ek : kndT n T a = if rn cDg n T a - a ≤ 4 then 2 else 4 := by unfold kndT; rw [if_pos hc, if_neg hl, if_pos hd]
        have ee : endT n T a = rn cDg n T a := by unfold endT; rw [if_pos hc, if_neg hl, if_pos hd]
        have k3 : KN N2 (wr (wr (wr N2 85 30 2) 85 132 (lgHi (0 : Int64))) 85 32 (lgLo (0 : Int64))) := ((KN.put (by omega)).trans (KN.put (by omega))).trans (KN.put (by omega))
        have z0 : lgc (wr (wr (wr N2 85 30 2) 85 132 (lgHi (0 : Int64))) 85 32 (lgLo (0 : Int64)) 85 132) (wr (wr (wr N2 85 30 2) 85 132 (lgHi (0 : Int64))) 85 32 (lgLo (0 : Int64)) 85 32) = 0 := by
          rw [wr_at (show 132 ≠ 32 by decide), wr_same, wr_same, lgc_eq]
        obtain ⟨N', e1, e2, e3, e4, e5, e6⟩ := fM_next_b160_eq (n - a) a 1000 0 _ (hN2.kn k3) (by simp [wr, p29]) ha rfl (by omega) (Nat.zero_le _)
        rw [Nat.zero_add] at e5 e6
        rw [z0] at e6
        refine ⟨N', e1, ⟨(hN2.kn k3).kn e2, ?_, ?_, ?_, fun w => ?_, fun w => ?_, ?_, ?_⟩, (k12.trans k3).trans e2⟩
        · rw [e3]; simp [wr, p31]
        · rw [e4, ee]
        · rw [e5, ek]
        · by_cases h4 : rn cDg n T a - a ≤ 4
          · rw [e6 h4]; exact (numT_eq ha h4).1
          · rw [ek, if_neg h4] at w; exact absurd w (by decide)
        · rw [ek] at w
          by_cases h4 : rn cDg n T a - a ≤ 4
          · rw [if_pos h4] at w; exact absurd w (by decide)
          · rw [if_neg h4] at w; exact absurd w (by decide)
        · rw [e2.2 34 (by omega)]; simp [wr, p34]
        · rw [e2.2 33 (by omega)]; simp [wr, p33]
      · rw [if_pos hd]
        have ek : kndT n T a = if cSg (T a) = true then 3 else 4 := by unfold kndT; rw [if_pos hc, if_neg hl, if_neg hd]
        have ee : endT n T a = if cSg (T a) = true then a + 1 else a := by unfold endT; rw [if_pos hc, if_neg hl, if_neg hd]
        have sign : cSg (T a) = true → ∃ N', fM_next_b300 (T a) N2 = some N' ∧ NS n t T N' a o ∧ KN N N' := by
          intro hs
          rw [if_pos hs] at ek ee
          unfold fM_next_b300
          rw [wr_at (show 29 ≠ 32 by decide), wr_at (show 29 ≠ 132 by decide), wr_at (show 29 ≠ 30 by decide), p29, nI_1]
          have k3 : KN N2 (wr (wr (wr (wr N2 85 30 3) 85 132 (lgHi (T a).toInt64)) 85 32 (lgLo (T a).toInt64)) 85 29 (nI (a + 1))) := (((KN.put (by omega)).trans (KN.put (by omega))).trans (KN.put (by omega))).trans (KN.put (by omega))
          refine ⟨_, rfl, ⟨hN2.kn k3, ?_, ?_, ?_, fun w => ?_, fun w => ?_, ?_, ?_⟩, k12.trans k3⟩
          · simp [wr, p31]
          · rw [wr_same, ee]
          · rw [ek]; simp [wr]
          · rw [ek] at w; exact absurd w (by decide)
          · rw [wr_at (show 132 ≠ 29 by decide), wr_at (show 132 ≠ 32 by decide), wr_same, wr_at (show 32 ≠ 29 by decide), wr_same, lgc_eq]
          · simp [wr, p34]
          · simp [wr, p33]
        have none : cSg (T a) = false → ∃ N', some N2 = some N' ∧ NS n t T N' a o ∧ KN N N' := by
          intro hs
          rw [hs, if_neg (by decide)] at ek ee
          refine ⟨_, rfl, ⟨hN2, p31, by rw [p29, ee], by rw [p30, ek], fun w => ?_, fun w => ?_, p34, p33⟩, k12⟩
          · rw [ek] at w; exact absurd w (by decide)
          · rw [ek] at w; exact absurd w (by decide)
        by_cases s1 : T a = 40
        · rw [if_pos s1]; exact sign (by simp [cSg, s1])
        rw [if_neg s1]
        by_cases s2 : T a = 41
        · rw [if_pos s2]; exact sign (by simp [cSg, s2])
        rw [if_neg s2]
        by_cases s3 : T a = 59
        · rw [if_pos s3]; exact sign (by simp [cSg, s3])
        rw [if_neg s3]
        by_cases s4 : T a = 43
        · rw [if_pos s4]; exact sign (by simp [cSg, s4])
        rw [if_neg s4]
        by_cases s5 : T a = 45
        · rw [if_pos s5]; exact sign (by simp [cSg, s5])
        rw [if_neg s5]
        by_cases s6 : T a = 42
        · rw [if_pos s6]; exact sign (by simp [cSg, s6])
        rw [if_neg s6]
        by_cases s7 : T a = 60
        · rw [if_pos s7]; exact sign (by simp [cSg, s7])
        rw [if_neg s7]
        by_cases s8 : T a = 61
        · rw [if_pos s8]; exact sign (by simp [cSg, s8])
        rw [if_neg s8]
        exact none (by simp [cSg, s1, s2, s3, s4, s5, s6, s7, s8])
  · rw [if_neg hc, if_neg (by decide)]
    have ek : kndT n T a = 0 := by unfold kndT; rw [if_neg hc]
    have ee : endT n T a = a := by unfold endT; rw [if_neg hc]
    have hna : a = n := by omega
    rw [wr_at (show 28 ≠ 30 by decide), wr_at (show 28 ≠ 30 by decide), hN.2.2.1]
    have k3 : KN N1 (wr (wr (wr N1 85 30 4) 85 30 0) 85 31 (nI n)) := ((KN.put (by omega)).trans (KN.put (by omega))).trans (KN.put (by omega))
    refine ⟨_, rfl, ⟨hN.kn k3, ?_, ?_, ?_, fun w => ?_, fun w => ?_, ?_, ?_⟩, k1.trans k3⟩
    · rw [wr_same, hna]
    · rw [ee]; simp [wr, q29]
    · rw [ek]; simp [wr]
    · rw [ek] at w; exact absurd w (by decide)
    · rw [ek] at w; exact absurd w (by decide)
    · simp [wr, q34]
    · simp [wr, q33]
theorem fM_next_eq {n t : Nat} {T : Stk} {N : Mem} {b : Nat} {o : Int32} (hB : ∀ i, i < n → 0 ≤ (T i).toInt) (h : NB n t T N) (h3 : N 85 29 = nI b) (hb : b ≤ n) (hbad : N 85 34 = 0) (ho : N 85 33 = o) : ∃ N', fM_next N = some N' ∧ NS n t T N' (rn cBl n T b) o ∧ KN N N' := by
  have hn := h.1.2
  have bd := rn_bd (P := cBl) (n := n) (i := b) (T := T) hb
  unfold fM_next
  rw [show 1000 = (999 - (rn cBl n T b - b) + 1) + (rn cBl n T b - b) by omega, nx_run (rn cBl n T b - b) b _ N h h3 (by omega) (fun j h1 h2 => bd.2.2.2 j h1 (by omega)), show b + (rn cBl n T b - b) = rn cBl n T b by omega]
  obtain ⟨N', e1, e2, e3⟩ := next_at (z := 999 - (rn cBl n T b - b)) (o := o) hB (h.kn (KN.put (by omega))) (wr_same (M := N) (v := nI (rn cBl n T b))) bd.2.1 bd.2.2.1 (by rw [wr_at (by decide)]; exact hbad) (by rw [wr_at (by decide)]; exact ho)
  exact ⟨N', e1, e2, (KN.put (by omega)).trans e3⟩
/-! both at once: the state of a reading, what a rule does -/
theorem tok_wd {n : Nat} {T : Stk} {a w : Nat} (hB : ∀ i, i < n → 0 ≤ (T i).toInt) (ha : a ≤ n) (hw : w < 12) : tokC n T a = nI w ↔ kndT n T a = 1 ∧ wdT T a (endT n T a) = w := by
  unfold tokC kndT endT
  by_cases hc : a < n
  · rw [if_pos hc, if_pos hc, if_pos hc]
    by_cases hl : cLt (T a) = true
    · rw [if_pos hl, if_pos hl, if_pos hl]
      have := wd_bd (T := T) (a := a) (e := rn cLt n T a)
      rw [n_eq (by omega) (by omega)]
      exact ⟨fun z => ⟨rfl, z⟩, fun z => z.2⟩
    · rw [if_neg hl, if_neg hl, if_neg hl]
      by_cases hd : cDg (T a) = true
      · rw [if_pos hd, if_pos hd]
        constructor
        · intro z
          split at z
          · rw [show (12 : Int32) = nI 12 from rfl, n_eq (by omega) (by omega)] at z; omega
          · rw [show (14 : Int32) = nI 14 from rfl, n_eq (by omega) (by omega)] at z; omega
        · rintro ⟨z, -⟩
          split at z <;> exact absurd z (by decide)
      · rw [if_neg hd, if_neg hd]
        constructor
        · intro z
          split at z
          · rename_i hs
            have := tok14 hB hc (by simpa using hl) (by simpa using hd) hs
            rw [z, nI_t (by omega)] at this
            omega
          · rw [show (14 : Int32) = nI 14 from rfl, n_eq (by omega) (by omega)] at z; omega
        · rintro ⟨z, -⟩
          split at z <;> exact absurd z (by decide)
  · rw [if_neg hc, if_neg hc]
    constructor
    · intro z
      rw [show (13 : Int32) = nI 13 from rfl, n_eq (by omega) (by omega)] at z; omega
    · rintro ⟨z, -⟩; exact absurd z (by decide)
theorem tok_sg {n : Nat} {T : Stk} {a : Nat} {s : Int32} (hs : cSg s = true) : tokC n T a = s ↔ kndT n T a = 3 ∧ T a = s := by
  have h40 : 40 ≤ s.toInt := by
    unfold cSg at hs
    simp only [Bool.or_eq_true, decide_eq_true_eq] at hs
    rcases hs with (((((((h | h) | h) | h) | h) | h) | h) | h) <;> rw [h] <;> decide
  have ne : ∀ k : Nat, k < 40 → nI k ≠ s := by
    intro k hk z
    rw [← z, nI_t (by omega)] at h40
    omega
  unfold tokC kndT
  by_cases hc : a < n
  · rw [if_pos hc, if_pos hc]
    by_cases hl : cLt (T a) = true
    · rw [if_pos hl, if_pos hl]
      have := wd_bd (T := T) (a := a) (e := rn cLt n T a)
      exact ⟨fun z => absurd z (ne _ (by omega)), fun z => absurd z.1 (by decide)⟩
    · rw [if_neg hl, if_neg hl]
      by_cases hd : cDg (T a) = true
      · rw [if_pos hd, if_pos hd]
        constructor
        · intro z
          split at z
          · exact absurd z (ne 12 (by omega))
          · exact absurd z (ne 14 (by omega))
        · rintro ⟨z, -⟩
          split at z <;> exact absurd z (by decide)
      · rw [if_neg hd, if_neg hd]
        by_cases h : cSg (T a) = true
        · rw [if_pos h, if_pos h]
          exact ⟨fun z => ⟨rfl, z⟩, fun z => z.2⟩
        · rw [if_neg h, if_neg h]
          exact ⟨fun z => absurd z (ne 14 (by omega)), fun z => absurd z.1 (by decide)⟩
  · rw [if_neg hc, if_neg hc]
    exact ⟨fun z => absurd z (ne 13 (by omega)), fun z => absurd z.1 (by decide)⟩
theorem tok_nm {n : Nat} {T : Stk} {a : Nat} (hB : ∀ i, i < n → 0 ≤ (T i).toInt) : tokC n T a = 12 ↔ kndT n T a = 2 := by
  unfold tokC kndT
  by_cases hc : a < n
  · rw [if_pos hc, if_pos hc]
    by_cases hl : cLt (T a) = true
    · rw [if_pos hl, if_pos hl]
      have := wd_bd (T := T) (a := a) (e := rn cLt n T a)
      constructor
      · intro z; rw [show (12 : Int32) = nI 12 from rfl, n_eq (by omega) (by omega)] at z; omega
      · intro z; exact absurd z (by decide)
    · rw [if_neg hl, if_neg hl]
      by_cases hd : cDg (T a) = true
      · rw [if_pos hd, if_pos hd]
        by_cases h4 : rn cDg n T a - a ≤ 4
        · rw [if_pos h4, if_pos h4]; decide
        · rw [if_neg h4, if_neg h4]; decide
      · rw [if_neg hd, if_neg hd]
        by_cases h : cSg (T a) = true
        · rw [if_pos h, if_pos h]
          have := tok14 hB hc (by simpa using hl) (by simpa using hd) h
          exact ⟨fun z => absurd z this.2.1, fun z => absurd z (by decide)⟩
        · rw [if_neg h, if_neg h]; decide
  · rw [if_neg hc, if_neg hc]; decide
theorem tok_end {n : Nat} {T : Stk} {a : Nat} (hB : ∀ i, i < n → 0 ≤ (T i).toInt) : tokC n T a = 13 ↔ kndT n T a = 0 := by
  unfold tokC kndT
  by_cases hc : a < n
  · rw [if_pos hc, if_pos hc]
    by_cases hl : cLt (T a) = true
    · rw [if_pos hl, if_pos hl]
      have := wd_bd (T := T) (a := a) (e := rn cLt n T a)
      constructor
      · intro z; rw [show (13 : Int32) = nI 13 from rfl, n_eq (by omega) (by omega)] at z; omega
      · intro z; exact absurd z (by decide)
    · rw [if_neg hl, if_neg hl]
      by_cases hd : cDg (T a) = true
      · rw [if_pos hd, if_pos hd]
        by_cases h4 : rn cDg n T a - a ≤ 4
        · rw [if_pos h4, if_pos h4]; decide
        · rw [if_neg h4, if_neg h4]; decide
      · rw [if_neg hd, if_neg hd]
        by_cases h : cSg (T a) = true
        · rw [if_pos h, if_pos h]
          have := tok14 hB hc (by simpa using hl) (by simpa using hd) h
          exact ⟨fun z => absurd z this.2.2.1, fun z => absurd z (by decide)⟩
        · rw [if_neg h, if_neg h]; decide
  · rw [if_neg hc, if_neg hc]; decide
/-- a token that can stand is not the end of the tape: it has bytes -/
theorem tok_len {n : Nat} {T : Stk} {a : Nat} (ha : a ≤ n) (h13 : tokC n T a ≠ 13) (h14 : tokC n T a ≠ 14) : a < endT n T a ∧ endT n T a ≤ n := by
  unfold tokC at h13 h14
  unfold endT
  by_cases hc : a < n
  · rw [if_pos hc] at h14 ⊢
    by_cases hl : cLt (T a) = true
    · rw [if_pos hl]
      have b := rn_bd (P := cLt) (n := n) (i := a + 1) (T := T) (by omega)
      rw [rn_go hc hl]
      omega
    · rw [if_neg hl] at h14 ⊢
      by_cases hd : cDg (T a) = true
      · rw [if_pos hd]
        have b := rn_bd (P := cDg) (n := n) (i := a + 1) (T := T) (by omega)
        rw [rn_go hc hd]
        omega
      · rw [if_neg hd] at h14 ⊢
        by_cases h : cSg (T a) = true
        · rw [if_pos h]; omega
        · rw [if_neg h] at h14; exact absurd rfl h14
  · rw [if_neg hc] at h13; exact absurd rfl h13
theorem end_le {n : Nat} {T : Stk} {a : Nat} (ha : a ≤ n) : a ≤ endT n T a ∧ endT n T a ≤ n := by
  unfold endT
  by_cases hc : a < n
  · rw [if_pos hc]
    have b1 := rn_bd (P := cLt) (n := n) (i := a) (T := T) (by omega)
    have b2 := rn_bd (P := cDg) (n := n) (i := a) (T := T) (by omega)
    split
    · omega
    · split
      · omega
      · split <;> omega
  · rw [if_neg hc]; omega
theorem NS_word {n t : Nat} {T : Stk} {N : Mem} {a w : Nat} {o : Int32} (hB : ∀ i, i < n → 0 ≤ (T i).toInt) (s : NS n t T N a o) (ha : a ≤ n) (hw : w < 12) : fM_isWord (cw (wtab.getD w (0, 0)) 0) (cw (wtab.getD w (0, 0)) 1) (cw (wtab.getD w (0, 0)) 2) (cw (wtab.getD w (0, 0)) 3) (cw (wtab.getD w (0, 0)) 4) (cw (wtab.getD w (0, 0)) 5) (cw (wtab.getD w (0, 0)) 6) (cw (wtab.getD w (0, 0)) 7) N = some (bz (tokC n T a = nI w), N) := by
  obtain ⟨s1, s2, s3, s4, s5, s6, s7, s8⟩ := s
  have el := end_le (T := T) ha
  rw [bz_iff (tok_wd hB ha hw)]
  by_cases hk : kndT n T a = 1
  · rw [fM_isWord_eq s1 s7 (s4.trans hk) s2 s3 el.2 el.1]
    have ok := wtab_ok w hw
    have hL : ∀ i, a ≤ i → i < endT n T a → cLt (T i) = true := by
      unfold kndT at hk
      unfold endT
      by_cases hc : a < n
      · rw [if_pos hc] at hk ⊢
        by_cases hl : cLt (T a) = true
        · rw [if_pos hl]
          exact (rn_bd (P := cLt) (n := n) (i := a) (T := T) (by omega)).2.2.2
        · rw [if_neg hl] at hk
          exfalso
          split at hk
          · split at hk <;> exact absurd hk (by decide)
          · split at hk <;> exact absurd hk (by decide)
      · rw [if_neg hc] at hk; exact absurd hk (by decide)
    have hm := isW_mt (T := T) (s := (wtab.getD w (0, 0)).1) (t := (wtab.getD w (0, 0)).2) el.1 hL ok.1 ok.2
    rw [hm]
    exact congrArg (fun x => some (x, N)) (bz_iff (by rw [← wd_iff hw]; exact ⟨fun z => ⟨hk, z⟩, fun z => z.2⟩))
  · unfold fM_isWord
    rw [if_pos s7, s4, if_neg hk, bz, if_neg (fun z => hk z.1)]
theorem NS_sign {n t : Nat} {T : Stk} {N : Mem} {a : Nat} {o s : Int32} (q : NS n t T N a o) (hs : cSg s = true) : fM_isSign s N = some (bz (tokC n T a = s), N) := by
  obtain ⟨s1, s2, s3, s4, s5, s6, s7, s8⟩ := q
  rw [bz_iff (tok_sg hs)]
  unfold fM_isSign
  rw [if_pos s7, s4]
  by_cases hk : kndT n T a = 3
  · rw [if_pos hk, s6 hk]
    by_cases ht : T a = s
    · rw [if_pos (by rw [lgc_eq0, ht]), bz, if_pos ⟨hk, ht⟩]
    · rw [if_neg (by
        rw [lgc_eq0, ← Int64.toInt_inj, t64, t64, ← i_eq]
        exact ht), bz, if_neg (fun z => ht z.2)]
  · rw [if_neg hk, bz, if_neg (fun z => hk z.1)]
