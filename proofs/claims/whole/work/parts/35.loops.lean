/-! 35: the loops of the rules -/
theorem Out.stay {n t : Nat} {T : Stk} {M N : Mem} {a w a0 w0 o : Nat} {v : Int32} (c : CS n T M a w) (q : NS n t T N a (nI o)) (ha : a0 < a) (hw : w0 < w) (hwa : w + a0 ≤ w0 + a) (ev : Ev (nmN N) (M 42) w0 w v) : Out n t T M N M N a0 w0 o v := ⟨KC.rfl', KeepR.rfl', Or.inl ⟨a, w, c, q, ha, hw, hwa, ev, fun _ _ => rfl⟩⟩
theorem NS_w0 {n t : Nat} {T : Stk} {N : Mem} {a : Nat} {o : Int32} (hB : ∀ i, i < n → 0 ≤ (T i).toInt) (s : NS n t T N a o) (ha : a ≤ n) : fM_isWord 109 105 110 117 116 101 0 0 N = some (bz (tokC n T a = 0), N) := by
  have h := NS_word hB s ha (w := 0) (by decide)
  have e0 : cw (wtab.getD 0 (0, 0)) 0 = 109 := by decide +kernel
  have e1 : cw (wtab.getD 0 (0, 0)) 1 = 105 := by decide +kernel
  have e2 : cw (wtab.getD 0 (0, 0)) 2 = 110 := by decide +kernel
  have e3 : cw (wtab.getD 0 (0, 0)) 3 = 117 := by decide +kernel
  have e4 : cw (wtab.getD 0 (0, 0)) 4 = 116 := by decide +kernel
  have e5 : cw (wtab.getD 0 (0, 0)) 5 = 101 := by decide +kernel
  have e6 : cw (wtab.getD 0 (0, 0)) 6 = 0 := by decide +kernel
  have e7 : cw (wtab.getD 0 (0, 0)) 7 = 0 := by decide +kernel
  rw [e0, e1, e2, e3, e4, e5, e6, e7] at h
  exact h
theorem NS_w1 {n t : Nat} {T : Stk} {N : Mem} {a : Nat} {o : Int32} (hB : ∀ i, i < n → 0 ≤ (T i).toInt) (s : NS n t T N a o) (ha : a ≤ n) : fM_isWord 114 111 111 109 0 0 0 0 N = some (bz (tokC n T a = 1), N) := by
  have h := NS_word hB s ha (w := 1) (by decide)
  have e0 : cw (wtab.getD 1 (0, 0)) 0 = 114 := by decide +kernel
  have e1 : cw (wtab.getD 1 (0, 0)) 1 = 111 := by decide +kernel
  have e2 : cw (wtab.getD 1 (0, 0)) 2 = 111 := by decide +kernel
  have e3 : cw (wtab.getD 1 (0, 0)) 3 = 109 := by decide +kernel
  have e4 : cw (wtab.getD 1 (0, 0)) 4 = 0 := by decide +kernel
  have e5 : cw (wtab.getD 1 (0, 0)) 5 = 0 := by decide +kernel
  have e6 : cw (wtab.getD 1 (0, 0)) 6 = 0 := by decide +kernel
  have e7 : cw (wtab.getD 1 (0, 0)) 7 = 0 := by decide +kernel
  rw [e0, e1, e2, e3, e4, e5, e6, e7] at h
  exact h
theorem NS_w2 {n t : Nat} {T : Stk} {N : Mem} {a : Nat} {o : Int32} (hB : ∀ i, i < n → 0 ≤ (T i).toInt) (s : NS n t T N a o) (ha : a ≤ n) : fM_isWord 108 101 102 116 0 0 0 0 N = some (bz (tokC n T a = 2), N) := by
  have h := NS_word hB s ha (w := 2) (by decide)
  have e0 : cw (wtab.getD 2 (0, 0)) 0 = 108 := by decide +kernel
  have e1 : cw (wtab.getD 2 (0, 0)) 1 = 101 := by decide +kernel
  have e2 : cw (wtab.getD 2 (0, 0)) 2 = 102 := by decide +kernel
  have e3 : cw (wtab.getD 2 (0, 0)) 3 = 116 := by decide +kernel
  have e4 : cw (wtab.getD 2 (0, 0)) 4 = 0 := by decide +kernel
  have e5 : cw (wtab.getD 2 (0, 0)) 5 = 0 := by decide +kernel
  have e6 : cw (wtab.getD 2 (0, 0)) 6 = 0 := by decide +kernel
  have e7 : cw (wtab.getD 2 (0, 0)) 7 = 0 := by decide +kernel
  rw [e0, e1, e2, e3, e4, e5, e6, e7] at h
  exact h
theorem NS_w3 {n t : Nat} {T : Stk} {N : Mem} {a : Nat} {o : Int32} (hB : ∀ i, i < n → 0 ≤ (T i).toInt) (s : NS n t T N a o) (ha : a ≤ n) : fM_isWord 110 117 109 98 101 114 0 0 N = some (bz (tokC n T a = 3), N) := by
  have h := NS_word hB s ha (w := 3) (by decide)
  have e0 : cw (wtab.getD 3 (0, 0)) 0 = 110 := by decide +kernel
  have e1 : cw (wtab.getD 3 (0, 0)) 1 = 117 := by decide +kernel
  have e2 : cw (wtab.getD 3 (0, 0)) 2 = 109 := by decide +kernel
  have e3 : cw (wtab.getD 3 (0, 0)) 3 = 98 := by decide +kernel
  have e4 : cw (wtab.getD 3 (0, 0)) 4 = 101 := by decide +kernel
  have e5 : cw (wtab.getD 3 (0, 0)) 5 = 114 := by decide +kernel
  have e6 : cw (wtab.getD 3 (0, 0)) 6 = 0 := by decide +kernel
  have e7 : cw (wtab.getD 3 (0, 0)) 7 = 0 := by decide +kernel
  rw [e0, e1, e2, e3, e4, e5, e6, e7] at h
  exact h
theorem NS_w4 {n t : Nat} {T : Stk} {N : Mem} {a : Nat} {o : Int32} (hB : ∀ i, i < n → 0 ≤ (T i).toInt) (s : NS n t T N a o) (ha : a ≤ n) : fM_isWord 98 101 115 105 100 101 0 0 N = some (bz (tokC n T a = 4), N) := by
  have h := NS_word hB s ha (w := 4) (by decide)
  have e0 : cw (wtab.getD 4 (0, 0)) 0 = 98 := by decide +kernel
  have e1 : cw (wtab.getD 4 (0, 0)) 1 = 101 := by decide +kernel
  have e2 : cw (wtab.getD 4 (0, 0)) 2 = 115 := by decide +kernel
  have e3 : cw (wtab.getD 4 (0, 0)) 3 = 105 := by decide +kernel
  have e4 : cw (wtab.getD 4 (0, 0)) 4 = 100 := by decide +kernel
  have e5 : cw (wtab.getD 4 (0, 0)) 5 = 101 := by decide +kernel
  have e6 : cw (wtab.getD 4 (0, 0)) 6 = 0 := by decide +kernel
  have e7 : cw (wtab.getD 4 (0, 0)) 7 = 0 := by decide +kernel
  rw [e0, e1, e2, e3, e4, e5, e6, e7] at h
  exact h
theorem NS_w5 {n t : Nat} {T : Stk} {N : Mem} {a : Nat} {o : Int32} (hB : ∀ i, i < n → 0 ≤ (T i).toInt) (s : NS n t T N a o) (ha : a ≤ n) : fM_isWord 109 97 105 100 115 0 0 0 N = some (bz (tokC n T a = 5), N) := by
  have h := NS_word hB s ha (w := 5) (by decide)
  have e0 : cw (wtab.getD 5 (0, 0)) 0 = 109 := by decide +kernel
  have e1 : cw (wtab.getD 5 (0, 0)) 1 = 97 := by decide +kernel
  have e2 : cw (wtab.getD 5 (0, 0)) 2 = 105 := by decide +kernel
  have e3 : cw (wtab.getD 5 (0, 0)) 3 = 100 := by decide +kernel
  have e4 : cw (wtab.getD 5 (0, 0)) 4 = 115 := by decide +kernel
  have e5 : cw (wtab.getD 5 (0, 0)) 5 = 0 := by decide +kernel
  have e6 : cw (wtab.getD 5 (0, 0)) 6 = 0 := by decide +kernel
  have e7 : cw (wtab.getD 5 (0, 0)) 7 = 0 := by decide +kernel
  rw [e0, e1, e2, e3, e4, e5, e6, e7] at h
  exact h
theorem NS_w6 {n t : Nat} {T : Stk} {N : Mem} {a : Nat} {o : Int32} (hB : ∀ i, i < n → 0 ≤ (T i).toInt) (s : NS n t T N a o) (ha : a ≤ n) : fM_isWord 115 116 101 112 115 0 0 0 N = some (bz (tokC n T a = 6), N) := by
  have h := NS_word hB s ha (w := 6) (by decide)
  have e0 : cw (wtab.getD 6 (0, 0)) 0 = 115 := by decide +kernel
  have e1 : cw (wtab.getD 6 (0, 0)) 1 = 116 := by decide +kernel
  have e2 : cw (wtab.getD 6 (0, 0)) 2 = 101 := by decide +kernel
  have e3 : cw (wtab.getD 6 (0, 0)) 3 = 112 := by decide +kernel
  have e4 : cw (wtab.getD 6 (0, 0)) 4 = 115 := by decide +kernel
  have e5 : cw (wtab.getD 6 (0, 0)) 5 = 0 := by decide +kernel
  have e6 : cw (wtab.getD 6 (0, 0)) 6 = 0 := by decide +kernel
  have e7 : cw (wtab.getD 6 (0, 0)) 7 = 0 := by decide +kernel
  rw [e0, e1, e2, e3, e4, e5, e6, e7] at h
  exact h
theorem NS_w7 {n t : Nat} {T : Stk} {N : Mem} {a : Nat} {o : Int32} (hB : ∀ i, i < n → 0 ≤ (T i).toInt) (s : NS n t T N a o) (ha : a ≤ n) : fM_isWord 100 111 101 115 0 0 0 0 N = some (bz (tokC n T a = 7), N) := by
  have h := NS_word hB s ha (w := 7) (by decide)
  have e0 : cw (wtab.getD 7 (0, 0)) 0 = 100 := by decide +kernel
  have e1 : cw (wtab.getD 7 (0, 0)) 1 = 111 := by decide +kernel
  have e2 : cw (wtab.getD 7 (0, 0)) 2 = 101 := by decide +kernel
  have e3 : cw (wtab.getD 7 (0, 0)) 3 = 115 := by decide +kernel
  have e4 : cw (wtab.getD 7 (0, 0)) 4 = 0 := by decide +kernel
  have e5 : cw (wtab.getD 7 (0, 0)) 5 = 0 := by decide +kernel
  have e6 : cw (wtab.getD 7 (0, 0)) 6 = 0 := by decide +kernel
  have e7 : cw (wtab.getD 7 (0, 0)) 7 = 0 := by decide +kernel
  rw [e0, e1, e2, e3, e4, e5, e6, e7] at h
  exact h
theorem NS_w8 {n t : Nat} {T : Stk} {N : Mem} {a : Nat} {o : Int32} (hB : ∀ i, i < n → 0 ≤ (T i).toInt) (s : NS n t T N a o) (ha : a ≤ n) : fM_isWord 99 111 115 116 115 0 0 0 N = some (bz (tokC n T a = 8), N) := by
  have h := NS_word hB s ha (w := 8) (by decide)
  have e0 : cw (wtab.getD 8 (0, 0)) 0 = 99 := by decide +kernel
  have e1 : cw (wtab.getD 8 (0, 0)) 1 = 111 := by decide +kernel
  have e2 : cw (wtab.getD 8 (0, 0)) 2 = 115 := by decide +kernel
  have e3 : cw (wtab.getD 8 (0, 0)) 3 = 116 := by decide +kernel
  have e4 : cw (wtab.getD 8 (0, 0)) 4 = 115 := by decide +kernel
  have e5 : cw (wtab.getD 8 (0, 0)) 5 = 0 := by decide +kernel
  have e6 : cw (wtab.getD 8 (0, 0)) 6 = 0 := by decide +kernel
  have e7 : cw (wtab.getD 8 (0, 0)) 7 = 0 := by decide +kernel
  rw [e0, e1, e2, e3, e4, e5, e6, e7] at h
  exact h
theorem NS_w9 {n t : Nat} {T : Stk} {N : Mem} {a : Nat} {o : Int32} (hB : ∀ i, i < n → 0 ≤ (T i).toInt) (s : NS n t T N a o) (ha : a ≤ n) : fM_isWord 111 114 0 0 0 0 0 0 N = some (bz (tokC n T a = 9), N) := by
  have h := NS_word hB s ha (w := 9) (by decide)
  have e0 : cw (wtab.getD 9 (0, 0)) 0 = 111 := by decide +kernel
  have e1 : cw (wtab.getD 9 (0, 0)) 1 = 114 := by decide +kernel
  have e2 : cw (wtab.getD 9 (0, 0)) 2 = 0 := by decide +kernel
  have e3 : cw (wtab.getD 9 (0, 0)) 3 = 0 := by decide +kernel
  have e4 : cw (wtab.getD 9 (0, 0)) 4 = 0 := by decide +kernel
  have e5 : cw (wtab.getD 9 (0, 0)) 5 = 0 := by decide +kernel
  have e6 : cw (wtab.getD 9 (0, 0)) 6 = 0 := by decide +kernel
  have e7 : cw (wtab.getD 9 (0, 0)) 7 = 0 := by decide +kernel
  rw [e0, e1, e2, e3, e4, e5, e6, e7] at h
  exact h
theorem NS_w10 {n t : Nat} {T : Stk} {N : Mem} {a : Nat} {o : Int32} (hB : ∀ i, i < n → 0 ≤ (T i).toInt) (s : NS n t T N a o) (ha : a ≤ n) : fM_isWord 97 110 100 0 0 0 0 0 N = some (bz (tokC n T a = 10), N) := by
  have h := NS_word hB s ha (w := 10) (by decide)
  have e0 : cw (wtab.getD 10 (0, 0)) 0 = 97 := by decide +kernel
  have e1 : cw (wtab.getD 10 (0, 0)) 1 = 110 := by decide +kernel
  have e2 : cw (wtab.getD 10 (0, 0)) 2 = 100 := by decide +kernel
  have e3 : cw (wtab.getD 10 (0, 0)) 3 = 0 := by decide +kernel
  have e4 : cw (wtab.getD 10 (0, 0)) 4 = 0 := by decide +kernel
  have e5 : cw (wtab.getD 10 (0, 0)) 5 = 0 := by decide +kernel
  have e6 : cw (wtab.getD 10 (0, 0)) 6 = 0 := by decide +kernel
  have e7 : cw (wtab.getD 10 (0, 0)) 7 = 0 := by decide +kernel
  rw [e0, e1, e2, e3, e4, e5, e6, e7] at h
  exact h
theorem NS_w11 {n t : Nat} {T : Stk} {N : Mem} {a : Nat} {o : Int32} (hB : ∀ i, i < n → 0 ≤ (T i).toInt) (s : NS n t T N a o) (ha : a ≤ n) : fM_isWord 110 111 116 0 0 0 0 0 N = some (bz (tokC n T a = 11), N) := by
  have h := NS_word hB s ha (w := 11) (by decide)
  have e0 : cw (wtab.getD 11 (0, 0)) 0 = 110 := by decide +kernel
  have e1 : cw (wtab.getD 11 (0, 0)) 1 = 111 := by decide +kernel
  have e2 : cw (wtab.getD 11 (0, 0)) 2 = 116 := by decide +kernel
  have e3 : cw (wtab.getD 11 (0, 0)) 3 = 0 := by decide +kernel
  have e4 : cw (wtab.getD 11 (0, 0)) 4 = 0 := by decide +kernel
  have e5 : cw (wtab.getD 11 (0, 0)) 5 = 0 := by decide +kernel
  have e6 : cw (wtab.getD 11 (0, 0)) 6 = 0 := by decide +kernel
  have e7 : cw (wtab.getD 11 (0, 0)) 7 = 0 := by decide +kernel
  rw [e0, e1, e2, e3, e4, e5, e6, e7] at h
  exact h
theorem loop_term {n t : Nat} {T : Stk} {d o a0 w0 : Nat} (hB : ∀ i, i < n → 0 ≤ (T i).toInt) (R : Rule n t T d 5 o) : ∀ (c i z z' : Nat) (M N : Mem) (a w : Nat) (v : Int32), n - a ≤ c → c < z → c < z' → i ≤ a → CS n T M a w → NS n t T N a (nI o) → a0 < a → w0 < w → w + a0 ≤ w0 + a → w ≤ a → Ev (nmN N) (M 42) w0 w v → ∃ M' N' v', fR_readTerm_b7 (f_rR d) (nI o) z (nI i) M = some M' ∧ fM_term_b5 (f_rM d) z' v N = some (v', N') ∧ Out n t T M N M' N' a0 w0 o v' := by
  intro c
  have stop : ∀ (i z z' : Nat) (M N : Mem) (a w : Nat) (v : Int32), ¬ tokC n T a = 42 → CS n T M a w → NS n t T N a (nI o) → a0 < a → w0 < w → w + a0 ≤ w0 + a → Ev (nmN N) (M 42) w0 w v → ∃ M' N' v', fR_readTerm_b7 (f_rR d) (nI o) (z + 1) (nI i) M = some M' ∧ fM_term_b5 (f_rM d) (z' + 1) v N = some (v', N') ∧ Out n t T M N M' N' a0 w0 o v' := by
    intro i z z' M N a w v h0 c q ha hw hwa ev
    refine ⟨M, N, v, ?_, ?_, Out.stay c q ha hw hwa ev⟩
    · rw [fR_readTerm_b7, c.2.2.2.2.1, if_neg h0, ite_self]
    · rw [fM_term_b5, NS_sign q (by decide)]
      simp only [Option.bind_some, bz_0]
      rw [if_pos h0]
  have bad : ∀ (f z z' : Nat) (i v : Int32) (M N : Mem), CB M f → NF N f → fR_readTerm_b7 (f_rR d) (nI o) (z + 1) i M = some M ∧ fM_term_b5 (f_rM d) (z' + 1) v N = some (v, N) := by
    intro f z z' i v M N cb nf
    refine ⟨?_, ?_⟩
    · rw [fR_readTerm_b7, cb.1, if_neg (show ¬ (14 : Int32) = 42 by decide), ite_self]
    · rw [fM_term_b5, sign_NF nf]
      simp only [Option.bind_some, if_true]
  induction c with
  | zero =>
    intro i z z' M N a w v hc hz hz' hi c q ha hw hwa hle ev
    obtain ⟨z, rfl⟩ := Nat.exists_eq_succ_of_ne_zero (show z ≠ 0 by omega)
    obtain ⟨z', rfl⟩ := Nat.exists_eq_succ_of_ne_zero (show z' ≠ 0 by omega)
    have no : ∀ x, x ≠ 13 → x ≠ 14 → ¬ tokC n T a = x := by
      intro x h1 h2 e
      have := tok_len c.2.1 (by rw [e]; exact h1) (by rw [e]; exact h2)
      omega
    exact stop i z z' M N a w v (no _ (by decide) (by decide)) c q ha hw hwa ev
  | succ c0 ih =>
    intro i z z' M N a w v hc hz hz' hi c q ha hw hwa hle ev
    obtain ⟨z, rfl⟩ := Nat.exists_eq_succ_of_ne_zero (show z ≠ 0 by omega)
    obtain ⟨z', rfl⟩ := Nat.exists_eq_succ_of_ne_zero (show z' ≠ 0 by omega)
    have hn := c.1.2.1
    obtain ⟨z, rfl⟩ := Nat.exists_eq_succ_of_ne_zero (show z ≠ 0 by omega)
    obtain ⟨z', rfl⟩ := Nat.exists_eq_succ_of_ne_zero (show z' ≠ 0 by omega)
    by_cases h0 : tokC n T a = 42
    · have tl := tok_len c.2.1 (by rw [h0]; decide) (by rw [h0]; decide)
      obtain ⟨M2, N2, M3, N3, u, M4, e1, e2, e3, e4, e5, k4, r3, res⟩ := stepL hB R (s := 42) c q (by rw [h0]; decide) (by rw [h0]; decide) ha hw hwa hle ev (by decide)
      have hcl : fR_readTerm_b7 (f_rR d) (nI o) (z + 1 + 1) (nI i) M = fR_readTerm_b7 (f_rR d) (nI o) (z + 1) (nI (i + 1)) M4 := by
        rw [fR_readTerm_b7, if_neg (by rw [show (160 : Int32) = nI 160 from rfl, n_le (by omega) (by omega)]; omega), c.2.2.2.2.1, if_pos h0]
        rw [e1]
        simp only [Option.bind_some]
        rw [e3]
        simp only [Option.bind_some]
        rw [show (-42 : Int32) = -42 from rfl, e5]
        simp only [Option.bind_some, nI_1]
      have hmo : fM_term_b5 (f_rM d) (z' + 1 + 1) v N = fM_term_b5 (f_rM d) (z' + 1) (jn 42 v u) N3 := by
        rw [fM_term_b5, NS_sign q (by decide)]
        simp only [Option.bind_some, bz_0]
        rw [if_neg (fun w => w h0), e2]
        simp only [Option.bind_some]
        rw [e4]
        simp only [Option.bind_some]
        rfl
      rw [hcl, hmo]
      rcases res with ⟨a4, w4, c4, q4, x1, x2, x3, x4, ev4, p4⟩ | ⟨f, f1, f2, f3⟩
      · obtain ⟨M', N', v', y1, y2, y3⟩ := ih (i + 1) (z + 1) (z' + 1) M4 N3 a4 w4 _ (by omega) (by omega) (by omega) (by omega) c4 q4 (by omega) x2 x3 x4 (ev4.nm (fun j hj => (nmN_keep r3 j hj).symm))
        exact ⟨M', N', v', y1, y2, y3.pre k4 r3 p4⟩
      · obtain ⟨y1, y2⟩ := bad f z z' (nI (i + 1)) (jn 42 v u) M4 N3 f1 f2
        exact ⟨M4, N3, _, y1, y2, k4, r3, Or.inr ⟨f, f1, f2, f3⟩⟩
    exact stop i (z + 1) (z' + 1) M N a w v h0 c q ha hw hwa ev
theorem loop_sum {n t : Nat} {T : Stk} {d o a0 w0 : Nat} (hB : ∀ i, i < n → 0 ≤ (T i).toInt) (R : Rule n t T d 4 o) : ∀ (c i z z' : Nat) (M N : Mem) (a w : Nat) (v : Int32), n - a ≤ c → c < z → c < z' → i ≤ a → CS n T M a w → NS n t T N a (nI o) → a0 < a → w0 < w → w + a0 ≤ w0 + a → w ≤ a → Ev (nmN N) (M 42) w0 w v → ∃ M' N' v', fR_readSum_b7 (f_rR d) (nI o) z (nI i) M = some M' ∧ fM_added_b5 (f_rM d) z' v N = some (v', N') ∧ Out n t T M N M' N' a0 w0 o v' := by
  intro c
  have stop : ∀ (i z z' : Nat) (M N : Mem) (a w : Nat) (v : Int32), ¬ tokC n T a = 43 → ¬ tokC n T a = 45 → CS n T M a w → NS n t T N a (nI o) → a0 < a → w0 < w → w + a0 ≤ w0 + a → Ev (nmN N) (M 42) w0 w v → ∃ M' N' v', fR_readSum_b7 (f_rR d) (nI o) (z + 1) (nI i) M = some M' ∧ fM_added_b5 (f_rM d) (z' + 1) v N = some (v', N') ∧ Out n t T M N M' N' a0 w0 o v' := by
    intro i z z' M N a w v h0 h1 c q ha hw hwa ev
    refine ⟨M, N, v, ?_, ?_, Out.stay c q ha hw hwa ev⟩
    · rw [fR_readSum_b7, c.2.2.2.2.1, if_neg h0, if_neg h1, ite_self]
    · rw [fM_added_b5, NS_sign q (by decide)]
      simp only [Option.bind_some, bz_0]
      rw [if_pos h0, NS_sign q (by decide)]
      simp only [Option.bind_some, bz_0]
      rw [if_pos h1]
  have bad : ∀ (f z z' : Nat) (i v : Int32) (M N : Mem), CB M f → NF N f → fR_readSum_b7 (f_rR d) (nI o) (z + 1) i M = some M ∧ fM_added_b5 (f_rM d) (z' + 1) v N = some (v, N) := by
    intro f z z' i v M N cb nf
    refine ⟨?_, ?_⟩
    · rw [fR_readSum_b7, cb.1, if_neg (show ¬ (14 : Int32) = 43 by decide), if_neg (show ¬ (14 : Int32) = 45 by decide), ite_self]
    · rw [fM_added_b5, sign_NF nf]
      simp only [Option.bind_some, if_true]
      rw [sign_NF nf]
      simp only [Option.bind_some, if_true]
  induction c with
  | zero =>
    intro i z z' M N a w v hc hz hz' hi c q ha hw hwa hle ev
    obtain ⟨z, rfl⟩ := Nat.exists_eq_succ_of_ne_zero (show z ≠ 0 by omega)
    obtain ⟨z', rfl⟩ := Nat.exists_eq_succ_of_ne_zero (show z' ≠ 0 by omega)
    have no : ∀ x, x ≠ 13 → x ≠ 14 → ¬ tokC n T a = x := by
      intro x h1 h2 e
      have := tok_len c.2.1 (by rw [e]; exact h1) (by rw [e]; exact h2)
      omega
    exact stop i z z' M N a w v (no _ (by decide) (by decide)) (no _ (by decide) (by decide)) c q ha hw hwa ev
  | succ c0 ih =>
    intro i z z' M N a w v hc hz hz' hi c q ha hw hwa hle ev
    obtain ⟨z, rfl⟩ := Nat.exists_eq_succ_of_ne_zero (show z ≠ 0 by omega)
    obtain ⟨z', rfl⟩ := Nat.exists_eq_succ_of_ne_zero (show z' ≠ 0 by omega)
    have hn := c.1.2.1
    obtain ⟨z, rfl⟩ := Nat.exists_eq_succ_of_ne_zero (show z ≠ 0 by omega)
    obtain ⟨z', rfl⟩ := Nat.exists_eq_succ_of_ne_zero (show z' ≠ 0 by omega)
    by_cases h0 : tokC n T a = 43
    · have tl := tok_len c.2.1 (by rw [h0]; decide) (by rw [h0]; decide)
      obtain ⟨M2, N2, M3, N3, u, M4, e1, e2, e3, e4, e5, k4, r3, res⟩ := stepL hB R (s := 43) c q (by rw [h0]; decide) (by rw [h0]; decide) ha hw hwa hle ev (by decide)
      have hcl : fR_readSum_b7 (f_rR d) (nI o) (z + 1 + 1) (nI i) M = fR_readSum_b7 (f_rR d) (nI o) (z + 1) (nI (i + 1)) M4 := by
        rw [fR_readSum_b7, if_neg (by rw [show (160 : Int32) = nI 160 from rfl, n_le (by omega) (by omega)]; omega), c.2.2.2.2.1, if_pos h0]
        unfold fR_readSum_b32
        rw [e1]
        simp only [Option.bind_some]
        rw [e3]
        simp only [Option.bind_some]
        rw [c.2.2.2.2.1, h0, e5]
        simp only [Option.bind_some, nI_1]
      have hmo : fM_added_b5 (f_rM d) (z' + 1 + 1) v N = fM_added_b5 (f_rM d) (z' + 1) (jn 43 v u) N3 := by
        have tk := (tok_sg (n := n) (T := T) (a := a) (show cSg 43 = true by decide)).mp h0
        rw [fM_added_b5, NS_sign q (by decide)]
        simp only [Option.bind_some, bz_0]
        rw [if_neg (fun w => w h0)]
        unfold fM_added_b23 fM_added_b39 fM_added_b62
        rw [q.2.2.2.2.2.1 tk.1, tk.2, if_pos (by decide), e2]
        simp only [Option.bind_some]
        rw [e4]
        simp only [Option.bind_some]
        rw [if_neg (by decide)]
        rfl
      rw [hcl, hmo]
      rcases res with ⟨a4, w4, c4, q4, x1, x2, x3, x4, ev4, p4⟩ | ⟨f, f1, f2, f3⟩
      · obtain ⟨M', N', v', y1, y2, y3⟩ := ih (i + 1) (z + 1) (z' + 1) M4 N3 a4 w4 _ (by omega) (by omega) (by omega) (by omega) c4 q4 (by omega) x2 x3 x4 (ev4.nm (fun j hj => (nmN_keep r3 j hj).symm))
        exact ⟨M', N', v', y1, y2, y3.pre k4 r3 p4⟩
      · obtain ⟨y1, y2⟩ := bad f z z' (nI (i + 1)) (jn 43 v u) M4 N3 f1 f2
        exact ⟨M4, N3, _, y1, y2, k4, r3, Or.inr ⟨f, f1, f2, f3⟩⟩
    by_cases h1 : tokC n T a = 45
    · have tl := tok_len c.2.1 (by rw [h1]; decide) (by rw [h1]; decide)
      obtain ⟨M2, N2, M3, N3, u, M4, e1, e2, e3, e4, e5, k4, r3, res⟩ := stepL hB R (s := 45) c q (by rw [h1]; decide) (by rw [h1]; decide) ha hw hwa hle ev (by decide)
      have hcl : fR_readSum_b7 (f_rR d) (nI o) (z + 1 + 1) (nI i) M = fR_readSum_b7 (f_rR d) (nI o) (z + 1) (nI (i + 1)) M4 := by
        rw [fR_readSum_b7, if_neg (by rw [show (160 : Int32) = nI 160 from rfl, n_le (by omega) (by omega)]; omega), c.2.2.2.2.1, if_neg h0, if_pos h1]
        unfold fR_readSum_b32
        rw [e1]
        simp only [Option.bind_some]
        rw [e3]
        simp only [Option.bind_some]
        rw [c.2.2.2.2.1, h1, e5]
        simp only [Option.bind_some, nI_1]
      have hmo : fM_added_b5 (f_rM d) (z' + 1 + 1) v N = fM_added_b5 (f_rM d) (z' + 1) (jn 45 v u) N3 := by
        have tk := (tok_sg (n := n) (T := T) (a := a) (show cSg 45 = true by decide)).mp h1
        rw [fM_added_b5, NS_sign q (by decide)]
        simp only [Option.bind_some, bz_0]
        rw [if_pos h0, NS_sign q (by decide)]
        simp only [Option.bind_some, bz_0]
        rw [if_neg (fun w => w h1)]
        unfold fM_added_b23 fM_added_b39 fM_added_b62
        rw [q.2.2.2.2.2.1 tk.1, tk.2, if_neg (by decide), e2]
        simp only [Option.bind_some]
        rw [e4]
        simp only [Option.bind_some]
        rw [if_pos trivial]
        rfl
      rw [hcl, hmo]
      rcases res with ⟨a4, w4, c4, q4, x1, x2, x3, x4, ev4, p4⟩ | ⟨f, f1, f2, f3⟩
      · obtain ⟨M', N', v', y1, y2, y3⟩ := ih (i + 1) (z + 1) (z' + 1) M4 N3 a4 w4 _ (by omega) (by omega) (by omega) (by omega) c4 q4 (by omega) x2 x3 x4 (ev4.nm (fun j hj => (nmN_keep r3 j hj).symm))
        exact ⟨M', N', v', y1, y2, y3.pre k4 r3 p4⟩
      · obtain ⟨y1, y2⟩ := bad f z z' (nI (i + 1)) (jn 45 v u) M4 N3 f1 f2
        exact ⟨M4, N3, _, y1, y2, k4, r3, Or.inr ⟨f, f1, f2, f3⟩⟩
    exact stop i (z + 1) (z' + 1) M N a w v h0 h1 c q ha hw hwa ev
theorem loop_both {n t : Nat} {T : Stk} {d o a0 w0 : Nat} (hB : ∀ i, i < n → 0 ≤ (T i).toInt) (R : Rule n t T d 2 o) : ∀ (c i z z' : Nat) (M N : Mem) (a w : Nat) (v : Int32), n - a ≤ c → c < z → c < z' → i ≤ a → CS n T M a w → NS n t T N a (nI o) → a0 < a → w0 < w → w + a0 ≤ w0 + a → w ≤ a → Ev (nmN N) (M 42) w0 w v → ∃ M' N' v', fR_readBoth_b7 (f_rR d) (nI o) z (nI i) M = some M' ∧ fM_both_b5 (f_rM d) z' v N = some (v', N') ∧ Out n t T M N M' N' a0 w0 o v' := by
  intro c
  have stop : ∀ (i z z' : Nat) (M N : Mem) (a w : Nat) (v : Int32), ¬ tokC n T a = 10 → CS n T M a w → NS n t T N a (nI o) → a0 < a → w0 < w → w + a0 ≤ w0 + a → Ev (nmN N) (M 42) w0 w v → ∃ M' N' v', fR_readBoth_b7 (f_rR d) (nI o) (z + 1) (nI i) M = some M' ∧ fM_both_b5 (f_rM d) (z' + 1) v N = some (v', N') ∧ Out n t T M N M' N' a0 w0 o v' := by
    intro i z z' M N a w v h0 c q ha hw hwa ev
    refine ⟨M, N, v, ?_, ?_, Out.stay c q ha hw hwa ev⟩
    · rw [fR_readBoth_b7, c.2.2.2.2.1, if_neg h0, ite_self]
    · have hq := NS_w10 hB q c.2.1
      rw [fM_both_b5, hq]
      simp only [Option.bind_some, bz_0]
      rw [if_pos h0]
  have bad : ∀ (f z z' : Nat) (i v : Int32) (M N : Mem), CB M f → NF N f → fR_readBoth_b7 (f_rR d) (nI o) (z + 1) i M = some M ∧ fM_both_b5 (f_rM d) (z' + 1) v N = some (v, N) := by
    intro f z z' i v M N cb nf
    refine ⟨?_, ?_⟩
    · rw [fR_readBoth_b7, cb.1, if_neg (show ¬ (14 : Int32) = 10 by decide), ite_self]
    · rw [fM_both_b5, word_NF nf]
      simp only [Option.bind_some, if_true]
  induction c with
  | zero =>
    intro i z z' M N a w v hc hz hz' hi c q ha hw hwa hle ev
    obtain ⟨z, rfl⟩ := Nat.exists_eq_succ_of_ne_zero (show z ≠ 0 by omega)
    obtain ⟨z', rfl⟩ := Nat.exists_eq_succ_of_ne_zero (show z' ≠ 0 by omega)
    have no : ∀ x, x ≠ 13 → x ≠ 14 → ¬ tokC n T a = x := by
      intro x h1 h2 e
      have := tok_len c.2.1 (by rw [e]; exact h1) (by rw [e]; exact h2)
      omega
    exact stop i z z' M N a w v (no _ (by decide) (by decide)) c q ha hw hwa ev
  | succ c0 ih =>
    intro i z z' M N a w v hc hz hz' hi c q ha hw hwa hle ev
    obtain ⟨z, rfl⟩ := Nat.exists_eq_succ_of_ne_zero (show z ≠ 0 by omega)
    obtain ⟨z', rfl⟩ := Nat.exists_eq_succ_of_ne_zero (show z' ≠ 0 by omega)
    have hn := c.1.2.1
    obtain ⟨z, rfl⟩ := Nat.exists_eq_succ_of_ne_zero (show z ≠ 0 by omega)
    obtain ⟨z', rfl⟩ := Nat.exists_eq_succ_of_ne_zero (show z' ≠ 0 by omega)
    by_cases h0 : tokC n T a = 10
    · have tl := tok_len c.2.1 (by rw [h0]; decide) (by rw [h0]; decide)
      obtain ⟨M2, N2, M3, N3, u, M4, e1, e2, e3, e4, e5, k4, r3, res⟩ := stepL hB R (s := 10) c q (by rw [h0]; decide) (by rw [h0]; decide) ha hw hwa hle ev (by decide)
      have hcl : fR_readBoth_b7 (f_rR d) (nI o) (z + 1 + 1) (nI i) M = fR_readBoth_b7 (f_rR d) (nI o) (z + 1) (nI (i + 1)) M4 := by
        rw [fR_readBoth_b7, if_neg (by rw [show (160 : Int32) = nI 160 from rfl, n_le (by omega) (by omega)]; omega), c.2.2.2.2.1, if_pos h0]
        rw [e1]
        simp only [Option.bind_some]
        rw [e3]
        simp only [Option.bind_some]
        rw [show (-10 : Int32) = -10 from rfl, e5]
        simp only [Option.bind_some, nI_1]
      have hmo : fM_both_b5 (f_rM d) (z' + 1 + 1) v N = fM_both_b5 (f_rM d) (z' + 1) (jn 10 v u) N3 := by
        have hq := NS_w10 hB q c.2.1
        rw [fM_both_b5, hq]
        simp only [Option.bind_some, bz_0]
        rw [if_neg (fun w => w h0), e2]
        simp only [Option.bind_some]
        rw [e4]
        simp only [Option.bind_some]
        unfold fM_both_b44 fM_both_b45 jn
        rw [if_pos rfl]
        by_cases g1 : v = 0
        · rw [if_pos g1, if_neg (fun w => w.1 g1)]
        · rw [if_neg g1]
          by_cases g2 : u = 0
          · rw [if_pos g2, if_neg (fun w => w.2 g2)]
          · rw [if_neg g2, if_pos ⟨g1, g2⟩]
      rw [hcl, hmo]
      rcases res with ⟨a4, w4, c4, q4, x1, x2, x3, x4, ev4, p4⟩ | ⟨f, f1, f2, f3⟩
      · obtain ⟨M', N', v', y1, y2, y3⟩ := ih (i + 1) (z + 1) (z' + 1) M4 N3 a4 w4 _ (by omega) (by omega) (by omega) (by omega) c4 q4 (by omega) x2 x3 x4 (ev4.nm (fun j hj => (nmN_keep r3 j hj).symm))
        exact ⟨M', N', v', y1, y2, y3.pre k4 r3 p4⟩
      · obtain ⟨y1, y2⟩ := bad f z z' (nI (i + 1)) (jn 10 v u) M4 N3 f1 f2
        exact ⟨M4, N3, _, y1, y2, k4, r3, Or.inr ⟨f, f1, f2, f3⟩⟩
    exact stop i (z + 1) (z' + 1) M N a w v h0 c q ha hw hwa ev
theorem loop_either {n t : Nat} {T : Stk} {d o a0 w0 : Nat} (hB : ∀ i, i < n → 0 ≤ (T i).toInt) (R : Rule n t T d 1 o) : ∀ (c i z z' : Nat) (M N : Mem) (a w : Nat) (v : Int32), n - a ≤ c → c < z → c < z' → i ≤ a → CS n T M a w → NS n t T N a (nI o) → a0 < a → w0 < w → w + a0 ≤ w0 + a → w ≤ a → Ev (nmN N) (M 42) w0 w v → ∃ M' N' v', fR_readEither_b7 (f_rR d) (nI o) z (nI i) M = some M' ∧ fM_either_b5 (f_rM d) z' v N = some (v', N') ∧ Out n t T M N M' N' a0 w0 o v' := by
  intro c
  have stop : ∀ (i z z' : Nat) (M N : Mem) (a w : Nat) (v : Int32), ¬ tokC n T a = 9 → CS n T M a w → NS n t T N a (nI o) → a0 < a → w0 < w → w + a0 ≤ w0 + a → Ev (nmN N) (M 42) w0 w v → ∃ M' N' v', fR_readEither_b7 (f_rR d) (nI o) (z + 1) (nI i) M = some M' ∧ fM_either_b5 (f_rM d) (z' + 1) v N = some (v', N') ∧ Out n t T M N M' N' a0 w0 o v' := by
    intro i z z' M N a w v h0 c q ha hw hwa ev
    refine ⟨M, N, v, ?_, ?_, Out.stay c q ha hw hwa ev⟩
    · rw [fR_readEither_b7, c.2.2.2.2.1, if_neg h0, ite_self]
    · have hq := NS_w9 hB q c.2.1
      rw [fM_either_b5, hq]
      simp only [Option.bind_some, bz_0]
      rw [if_pos h0]
  have bad : ∀ (f z z' : Nat) (i v : Int32) (M N : Mem), CB M f → NF N f → fR_readEither_b7 (f_rR d) (nI o) (z + 1) i M = some M ∧ fM_either_b5 (f_rM d) (z' + 1) v N = some (v, N) := by
    intro f z z' i v M N cb nf
    refine ⟨?_, ?_⟩
    · rw [fR_readEither_b7, cb.1, if_neg (show ¬ (14 : Int32) = 9 by decide), ite_self]
    · rw [fM_either_b5, word_NF nf]
      simp only [Option.bind_some, if_true]
  induction c with
  | zero =>
    intro i z z' M N a w v hc hz hz' hi c q ha hw hwa hle ev
    obtain ⟨z, rfl⟩ := Nat.exists_eq_succ_of_ne_zero (show z ≠ 0 by omega)
    obtain ⟨z', rfl⟩ := Nat.exists_eq_succ_of_ne_zero (show z' ≠ 0 by omega)
    have no : ∀ x, x ≠ 13 → x ≠ 14 → ¬ tokC n T a = x := by
      intro x h1 h2 e
      have := tok_len c.2.1 (by rw [e]; exact h1) (by rw [e]; exact h2)
      omega
    exact stop i z z' M N a w v (no _ (by decide) (by decide)) c q ha hw hwa ev
  | succ c0 ih =>
    intro i z z' M N a w v hc hz hz' hi c q ha hw hwa hle ev
    obtain ⟨z, rfl⟩ := Nat.exists_eq_succ_of_ne_zero (show z ≠ 0 by omega)
    obtain ⟨z', rfl⟩ := Nat.exists_eq_succ_of_ne_zero (show z' ≠ 0 by omega)
    have hn := c.1.2.1
    obtain ⟨z, rfl⟩ := Nat.exists_eq_succ_of_ne_zero (show z ≠ 0 by omega)
    obtain ⟨z', rfl⟩ := Nat.exists_eq_succ_of_ne_zero (show z' ≠ 0 by omega)
    by_cases h0 : tokC n T a = 9
    · have tl := tok_len c.2.1 (by rw [h0]; decide) (by rw [h0]; decide)
      obtain ⟨M2, N2, M3, N3, u, M4, e1, e2, e3, e4, e5, k4, r3, res⟩ := stepL hB R (s := 9) c q (by rw [h0]; decide) (by rw [h0]; decide) ha hw hwa hle ev (by decide)
      have hcl : fR_readEither_b7 (f_rR d) (nI o) (z + 1 + 1) (nI i) M = fR_readEither_b7 (f_rR d) (nI o) (z + 1) (nI (i + 1)) M4 := by
        rw [fR_readEither_b7, if_neg (by rw [show (160 : Int32) = nI 160 from rfl, n_le (by omega) (by omega)]; omega), c.2.2.2.2.1, if_pos h0]
        rw [e1]
        simp only [Option.bind_some]
        rw [e3]
        simp only [Option.bind_some]
        rw [show (-9 : Int32) = -9 from rfl, e5]
        simp only [Option.bind_some, nI_1]
      have hmo : fM_either_b5 (f_rM d) (z' + 1 + 1) v N = fM_either_b5 (f_rM d) (z' + 1) (jn 9 v u) N3 := by
        have hq := NS_w9 hB q c.2.1
        rw [fM_either_b5, hq]
        simp only [Option.bind_some, bz_0]
        rw [if_neg (fun w => w h0), e2]
        simp only [Option.bind_some]
        rw [e4]
        simp only [Option.bind_some]
        unfold fM_either_b39 fM_either_b44
        rw [show jn 9 v u = (if v ≠ 0 ∨ u ≠ 0 then 1 else 0) from rfl]
        by_cases g1 : v = 0
        · rw [if_pos g1]
          by_cases g2 : u = 0
          · rw [if_pos g2, if_neg (by rintro (w | w); exact w g1; exact w g2)]
          · rw [if_neg g2, if_pos (Or.inr g2)]
        · rw [if_neg g1, if_pos (Or.inl g1)]
      rw [hcl, hmo]
      rcases res with ⟨a4, w4, c4, q4, x1, x2, x3, x4, ev4, p4⟩ | ⟨f, f1, f2, f3⟩
      · obtain ⟨M', N', v', y1, y2, y3⟩ := ih (i + 1) (z + 1) (z' + 1) M4 N3 a4 w4 _ (by omega) (by omega) (by omega) (by omega) c4 q4 (by omega) x2 x3 x4 (ev4.nm (fun j hj => (nmN_keep r3 j hj).symm))
        exact ⟨M', N', v', y1, y2, y3.pre k4 r3 p4⟩
      · obtain ⟨y1, y2⟩ := bad f z z' (nI (i + 1)) (jn 9 v u) M4 N3 f1 f2
        exact ⟨M4, N3, _, y1, y2, k4, r3, Or.inr ⟨f, f1, f2, f3⟩⟩
    exact stop i (z + 1) (z' + 1) M N a w v h0 c q ha hw hwa ev
