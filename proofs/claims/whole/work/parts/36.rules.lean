/-! 36: the rules -/
theorem rR0 {d : Nat} {a : Int32} {M : Mem} : f_rR (d + 1) 0 a M = fR_readEither (f_rR d) a M := rfl
theorem rR1 {d : Nat} {a : Int32} {M : Mem} : f_rR (d + 1) 1 a M = fR_readBoth (f_rR d) a M := rfl
theorem rR2 {d : Nat} {a : Int32} {M : Mem} : f_rR (d + 1) 2 a M = fR_readNot (f_rR d) a M := rfl
theorem rR3 {d : Nat} {a : Int32} {M : Mem} : f_rR (d + 1) 3 a M = fR_readSum (f_rR d) a M := rfl
theorem rR4 {d : Nat} {a : Int32} {M : Mem} : f_rR (d + 1) 4 a M = fR_readTerm (f_rR d) a M := rfl
theorem rR5 {d : Nat} {a : Int32} {M : Mem} : f_rR (d + 1) 5 a M = fR_readOne (f_rR d) a M := rfl
theorem rM0 {d : Nat} {N : Mem} : f_rM (d + 1) 0 N = fM_either (f_rM d) N := rfl
theorem rM1 {d : Nat} {N : Mem} : f_rM (d + 1) 1 N = fM_both (f_rM d) N := rfl
theorem rM2 {d : Nat} {N : Mem} : f_rM (d + 1) 2 N = fM_not (f_rM d) N := rfl
theorem rM3 {d : Nat} {N : Mem} : f_rM (d + 1) 3 N = fM_added (f_rM d) N := rfl
theorem rM4 {d : Nat} {N : Mem} : f_rM (d + 1) 4 N = fM_term (f_rM d) N := rfl
theorem rM5 {d : Nat} {N : Mem} : f_rM (d + 1) 5 N = fM_atom (f_rM d) N := rfl
theorem num_pos {n : Nat} {T : Stk} {a : Nat} (h : tokC n T a = 12) : 0 ≤ (numT n T a).toInt := by
  unfold tokC at h
  by_cases hc : a < n
  · rw [if_pos hc] at h
    by_cases hl : cLt (T a) = true
    · rw [if_pos hl, show (12 : Int32) = nI 12 from rfl] at h
      have := wd_bd (T := T) (a := a) (e := rn cLt n T a)
      rw [n_eq (by omega) (by omega)] at h
      omega
    · rw [if_neg hl] at h
      by_cases hd : cDg (T a) = true
      · rw [if_pos hd] at h
        by_cases h4 : rn cDg n T a - a ≤ 4
        · exact (numT_eq (by omega) h4).2
        · rw [if_neg h4] at h; exact absurd h (by decide)
      · rw [if_neg hd] at h
        by_cases hs : cSg (T a) = true
        · rw [if_pos hs] at h
          rw [h] at hs; exact absurd hs (by decide)
        · rw [if_neg hs] at h; exact absurd h (by decide)
  · rw [if_neg hc] at h; exact absurd h (by decide)
theorem name_eq {n t : Nat} {T : Stk} {N : Mem} {a w : Nat} {o : Int32} (hB : ∀ i, i < n → 0 ≤ (T i).toInt) (q : NS n t T N a o) (ha : a ≤ n) (hw : w < 6) (h : tokC n T a = nI w) : fM_name N = some (N 85 (21 + w), N) := by
  unfold fM_name
  have w0 := NS_w0 hB q ha
  have w1 := NS_w1 hB q ha
  have w2 := NS_w2 hB q ha
  have w3 := NS_w3 hB q ha
  have w4 := NS_w4 hB q ha
  have w5 := NS_w5 hB q ha
  rw [h] at w0 w1 w2 w3 w4 w5
  have y : ∀ (j : Nat) (x : Int32) (p : w = j), (if (bz (nI w = x)) = 0 then (0 : Int32) else 0) = 0 := fun _ _ _ => by split <;> rfl
  rcases (by omega : w = 0 ∨ w = 1 ∨ w = 2 ∨ w = 3 ∨ w = 4 ∨ w = 5) with rfl | rfl | rfl | rfl | rfl | rfl
  · rw [bz, if_pos (by decide)] at w0
    simp only [w0, Option.bind_some, show ¬ (1 : Int32) = 0 by decide, if_false]
  · rw [bz, if_neg (by decide)] at w0
    rw [bz, if_pos (by decide)] at w1
    simp only [w0, w1, Option.bind_some, show ¬ (1 : Int32) = 0 by decide, if_false, if_true]
  · rw [bz, if_neg (by decide)] at w0 w1
    rw [bz, if_pos (by decide)] at w2
    simp only [w0, w1, w2, Option.bind_some, show ¬ (1 : Int32) = 0 by decide, if_false, if_true]
  · rw [bz, if_neg (by decide)] at w0 w1 w2
    rw [bz, if_pos (by decide)] at w3
    simp only [w0, w1, w2, w3, Option.bind_some, show ¬ (1 : Int32) = 0 by decide, if_false, if_true]
  · rw [bz, if_neg (by decide)] at w0 w1 w2 w3
    rw [bz, if_pos (by decide)] at w4
    simp only [w0, w1, w2, w3, w4, Option.bind_some, show ¬ (1 : Int32) = 0 by decide, if_false, if_true]
  · rw [bz, if_neg (by decide)] at w0 w1 w2 w3 w4
    rw [bz, if_pos (by decide)] at w5
    simp only [w0, w1, w2, w3, w4, w5, Option.bind_some, show ¬ (1 : Int32) = 0 by decide, if_false, if_true]
theorem name_no {n t : Nat} {T : Stk} {N : Mem} {a : Nat} {o : Int32} (hB : ∀ i, i < n → 0 ≤ (T i).toInt) (q : NS n t T N a o) (ha : a ≤ n) (h : ∀ w, w < 6 → tokC n T a ≠ nI w) : fM_name N = (fM_fail N).bind fun M7 => some (0, M7) := by
  unfold fM_name
  have w0 := NS_w0 hB q ha
  have w1 := NS_w1 hB q ha
  have w2 := NS_w2 hB q ha
  have w3 := NS_w3 hB q ha
  have w4 := NS_w4 hB q ha
  have w5 := NS_w5 hB q ha
  rw [bz, if_neg (show ¬ tokC n T a = 0 from h 0 (by decide))] at w0
  rw [bz, if_neg (show ¬ tokC n T a = 1 from h 1 (by decide))] at w1
  rw [bz, if_neg (show ¬ tokC n T a = 2 from h 2 (by decide))] at w2
  rw [bz, if_neg (show ¬ tokC n T a = 3 from h 3 (by decide))] at w3
  rw [bz, if_neg (show ¬ tokC n T a = 4 from h 4 (by decide))] at w4
  rw [bz, if_neg (show ¬ tokC n T a = 5 from h 5 (by decide))] at w5
  simp only [w0, w1, w2, w3, w4, w5, Option.bind_some, if_true]
/-- code written, a step ahead: one item said v -/
theorem one_item {n t : Nat} {T : Stk} {M N : Mem} {a r o : Nat} {c0 v : Int32} (hB : ∀ i, i < n → 0 ≤ (T i).toInt) (c : CS n T M a r) (q : NS n t T N a (nI o)) (h13 : tokC n T a ≠ 13) (h14 : tokC n T a ≠ 14) (hr : r ≤ a) (hv : (0 ≤ c0.toInt ∧ v = c0) ∨ (-6 ≤ c0.toInt ∧ c0.toInt < 0 ∧ v = nmN N (ix (-1 - c0)))) : ∃ M1 M' N', fR_write c0 M = some M1 ∧ fR_advance M1 = some M' ∧ fM_next N = some N' ∧ Out n t T M N M' N' a r o v := by
  have tl := tok_len c.2.1 h13 h14
  have hn := c.1.2.1
  obtain ⟨M1, e1, c1, m1, k1⟩ := write_CS c0 c (by omega)
  obtain ⟨M', N', a', e2, e3, c2, q2, h2, k2, r2, m2⟩ := adv_both hB c1 q h13 h14
  refine ⟨M1, M', N', e1, e2, e3, k1.trans k2, r2, Or.inl ⟨a', r + 1, c2, q2, h2, by omega, by omega, ?_, fun i hi => ?_⟩⟩
  · have hr : (M' 42) r = c0 := by rw [m2, m1, stS, if_pos rfl]
    apply Ev.one
    rw [hr]
    exact hv
  · rw [m2, m1, stS, if_neg (by omega)]
theorem rule_one {n t : Nat} {T : Stk} {d o : Nat} (hB : ∀ i, i < n → 0 ≤ (T i).toInt) (ho : o ≤ 5) (R5 : o < 5 → Rule n t T d 5 (o + 1)) (R0 : o < 5 → Rule n t T d 0 (o + 1)) : Rule n t T (d + 1) 5 o := by
  intro M N a r c q hr
  have hn := c.1.2.1
  have ha := c.2.1
  have h34 := q.2.2.2.2.2.2.1
  have h33 := q.2.2.2.2.2.2.2
  rw [rR5, rM5]
  unfold fR_readOne fM_atom
  rw [c.2.2.2.2.1]
  by_cases h12 : tokC n T a = 12
  · rw [if_pos h12, NS_sign q (by decide)]
    simp only [Option.bind_some, bz_0]
    rw [if_pos (by rw [h12]; decide), NS_sign q (by decide)]
    simp only [Option.bind_some, bz_0]
    have hk := (tok_nm hB).mp h12
    rw [if_pos (by rw [h12]; decide), if_pos h34, q.2.2.2.1, if_pos hk, q.2.2.2.2.1 hk, c.2.2.2.2.2.1 h12]
    obtain ⟨M1, M', N', e1, e2, e3, ou⟩ := one_item (c0 := numT n T a) (v := numT n T a) hB c q (by rw [h12]; decide) (by rw [h12]; decide) hr (Or.inl ⟨num_pos h12, rfl⟩)
    rw [e1]
    simp only [Option.bind_some]
    rw [e2, e3]
    exact ⟨M', N', _, rfl, rfl, ou⟩
  · rw [if_neg h12, fN_within_eq, NS_sign q (by decide)]
    simp only [Option.bind_some, bz_0]
    by_cases hw : ∃ w, w < 6 ∧ tokC n T a = nI w
    · obtain ⟨w, hw6, hw⟩ := hw
      have nlit : ∀ k : Nat, k < 200 → k ≠ w → ¬ tokC n T a = nI k := fun k hk hne z => by
        rw [hw, n_eq (by omega) (by omega)] at z
        omega
      rw [if_neg (by rw [hw, nI_t (by omega), show (6 : Int32).toInt = 6 from rfl]; omega), if_pos (show ¬ tokC n T a = 45 from nlit 45 (by omega) (by omega)), NS_sign q (by decide)]
      simp only [Option.bind_some, bz_0]
      have hk : kndT n T a = 1 := ((tok_wd hB ha (by omega)).mp hw).1
      rw [if_pos (show ¬ tokC n T a = 40 from nlit 40 (by omega) (by omega)), if_pos h34, q.2.2.2.1, if_neg (by rw [hk]; decide)]
      unfold fM_atom_b123
      rw [if_pos h34, q.2.2.2.1, if_pos hk, name_eq hB q ha hw6 hw, c.2.2.2.2.1, hw]
      simp only [Option.bind_some]
      have e1m : ((-1 : Int32) - nI w).toInt = -1 - w := by
        rw [t_sub (by rw [m1_t, nI_t (by omega)]; omega) (by rw [m1_t, nI_t (by omega)]; omega), m1_t, nI_t (by omega)]
      have e2m : (-1 : Int32) - (-1 - nI w) = nI w := by
        rw [i_eq, t_sub (by rw [m1_t, e1m]; omega) (by rw [m1_t, e1m]; omega), m1_t, e1m, nI_t (by omega)]
        omega
      obtain ⟨M1, M', N', e1, e2, e3, ou⟩ := one_item (c0 := -1 - nI w) (v := N 85 (21 + w)) hB c q (nlit 13 (by omega) (by omega)) (nlit 14 (by omega) (by omega)) hr (Or.inr ⟨by omega, by omega, by rw [e2m, ix_nI (by omega)]; rfl⟩)
      rw [if_pos h34, e1]
      simp only [Option.bind_some]
      rw [e2, e3]
      exact ⟨M', N', _, rfl, rfl, ou⟩
    · have hw' : ∀ w, w < 6 → tokC n T a ≠ nI w := fun w h1 h2 => hw ⟨w, h1, h2⟩
      rw [if_pos (by
        intro z
        rw [show (6 : Int32).toInt = 6 from rfl] at z
        exact hw ⟨ix (tokC n T a), by unfold ix; omega, (nI_ix z.1).symm⟩)]
      obtain ⟨Mr, er, cr, kr⟩ := refuse_CS c (by omega)
      obtain ⟨Nf, ef, nf, rf⟩ := fail_NS q
      have badOut : ∀ v, Out n t T M N Mr Nf a r o v := fun v => ⟨kr, rf, Or.inr ⟨a, cr, nf, ha⟩⟩
      by_cases h45 : tokC n T a = 45
      · rw [c.2.2.2.2.1, if_pos h45, if_neg (show ¬ ¬ tokC n T a = 45 from fun z => z h45)]
        unfold fM_opens
        rw [h33]
        by_cases ho5 : o = 5
        · subst ho5
          rw [if_pos (by decide), if_pos (by decide), ef]
          unfold fR_readOne_b87 fR_readOne_b121
          rw [c.2.2.2.2.1, if_neg (by rw [h45]; decide), er]
          simp only [Option.bind_some, if_true]
          exact ⟨Mr, Nf, 0, rfl, rfl, badOut 0⟩
        · rw [if_neg (by rw [show (5 : Int32) = nI 5 from rfl, n_le (by omega) (by omega)]; omega), if_neg (by rw [show (5 : Int32) = nI 5 from rfl, n_eq (by omega) (by omega)]; omega), nI_1]
          obtain ⟨M2, N2, a2, e1, e2, c2, q2, h2, k2, r2, m2⟩ := adv_both hB c (q.o (nI (o + 1))) (by rw [h45]; decide) (by rw [h45]; decide)
          obtain ⟨M3, N3, v, e3, e4, k3, r3, h3⟩ := R5 (by omega) M2 N2 a2 r c2 q2 (by omega)
          rw [e1, e2]
          simp only [Option.bind_some]
          rw [if_neg (by decide), e3, e4]
          simp only [Option.bind_some]
          have kN : KeepR N (wr N3 85 33 (N3 85 33 - 1)) := ((KeepR.put (by omega)).trans (r2.trans r3)).trans (KeepR.put (by omega))
          rcases h3 with ⟨a3, w3, c3, q3, x1, x2, x3, ev3, p3⟩ | ⟨f, f1, f2, f3⟩
          · have hn3 := c3.2.1
            obtain ⟨M4, e5, c4, m4, k4⟩ := write_CS (-12) c3 (by omega)
            rw [e5]
            simp only [Option.bind_some]
            refine ⟨M4, _, -v, rfl, rfl, (k2.trans k3).trans k4, kN, Or.inl ⟨a3, w3 + 1, c4, ?_, by omega, by omega, by omega, ?_, fun i hi => ?_⟩⟩
            · rw [q3.2.2.2.2.2.2.2, nI_pd (by omega), Nat.add_sub_cancel]
              exact q3.o _
            · refine Ev.un (v := v) ((ev3.congr (by omega) (fun i h5 h6 => by rw [m4, stS, if_neg (by omega)])).nm (nmN_keep ((KeepR.put (by omega)).trans r2))) (by omega) (Or.inl ⟨by rw [m4, stS, if_pos rfl], rfl⟩)
            · rw [m4, stS, if_neg (by omega), p3 i hi, m2]
          · obtain ⟨M4, e5, c4, k4⟩ := write_CB (-12) f1
            rw [e5]
            simp only [Option.bind_some]
            exact ⟨M4, _, -v, rfl, rfl, (k2.trans k3).trans k4, kN, Or.inr ⟨f, c4, f2.o _, f3⟩⟩
      · rw [if_pos h45, c.2.2.2.2.1, if_neg h45, NS_sign q (by decide)]
        simp only [Option.bind_some, bz_0]
        unfold fR_readOne_b87 fR_readOne_b121
        rw [c.2.2.2.2.1]
        by_cases h40 : tokC n T a = 40
        · rw [if_pos h40, if_neg (show ¬ ¬ tokC n T a = 40 from fun z => z h40)]
          unfold fM_opens
          rw [h33]
          by_cases ho5 : o = 5
          · subst ho5
            rw [if_pos (by decide), if_pos (by decide), ef, er]
            simp only [Option.bind_some, if_true]
            exact ⟨Mr, Nf, 0, rfl, rfl, badOut 0⟩
          · rw [if_neg (by rw [show (5 : Int32) = nI 5 from rfl, n_le (by omega) (by omega)]; omega), if_neg (by rw [show (5 : Int32) = nI 5 from rfl, n_eq (by omega) (by omega)]; omega), nI_1]
            obtain ⟨M2, N2, a2, e1, e2, c2, q2, h2, k2, r2, m2⟩ := adv_both hB c (q.o (nI (o + 1))) (by rw [h40]; decide) (by rw [h40]; decide)
            obtain ⟨M3, N3, v, e3, e4, k3, r3, h3⟩ := R0 (by omega) M2 N2 a2 r c2 q2 (by omega)
            rw [e1, e2]
            simp only [Option.bind_some]
            rw [if_neg (by decide), e3, e4]
            simp only [Option.bind_some]
            have kN : KeepR N N3 := (KeepR.put (by omega)).trans (r2.trans r3)
            rcases h3 with ⟨a3, w3, c3, q3, x1, x2, x3, ev3, p3⟩ | ⟨f, f1, f2, f3⟩
            · have hn3 := c3.2.1
              rw [NS_sign q3 (by decide)]
              simp only [Option.bind_some, bz_0]
              unfold fR_expect fM_atom_b71
              rw [c3.2.2.2.2.1]
              by_cases h41 : tokC n T a3 = 41
              · rw [if_pos h41, if_neg (by decide), if_neg (fun z => z h41), wr_at (show 34 ≠ 33 by decide), if_pos q3.2.2.2.2.2.2.1, q3.2.2.2.2.2.2.2, nI_pd (by omega), Nat.add_sub_cancel]
                obtain ⟨M5, N5, a5, e6, e7, c5, q5, h5, k5, r5, m5⟩ := adv_both hB c3 (q3.o (nI o)) (by rw [h41]; decide) (by rw [h41]; decide)
                rw [e6, e7]
                simp only [Option.bind_some]
                refine ⟨M5, N5, v, rfl, rfl, (k2.trans k3).trans k5, (kN.trans (KeepR.put (by omega))).trans r5, Or.inl ⟨a5, w3, c5, q5, by omega, by omega, by omega, ?_, fun i hi => ?_⟩⟩
                · rw [m5]; exact ev3.nm (nmN_keep ((KeepR.put (by omega)).trans r2))
                · rw [m5, p3 i hi, m2]
              · rw [if_neg h41, if_pos h41]
                obtain ⟨M4, e5, c4, k4⟩ := refuse_CS c3 (by omega)
                obtain ⟨N4, e6, n4, r4⟩ := fail_NS q3
                rw [e5, e6]
                simp only [Option.bind_some]
                rw [wr_at (show 34 ≠ 33 by decide), n4.1, if_neg (by decide)]
                exact ⟨M4, _, v, rfl, rfl, (k2.trans k3).trans k4, (kN.trans r4).trans (KeepR.put (by omega)), Or.inr ⟨a3, c4, n4.o _, hn3⟩⟩
            · rw [sign_NF f2]
              unfold fR_expect fM_atom_b71
              rw [f1.1, if_neg (by decide), refuse_CB f1]
              simp only [Option.bind_some, if_true]
              rw [fail_NF f2]
              simp only [Option.bind_some]
              rw [wr_at (show 34 ≠ 33 by decide), f2.1, if_neg (by decide)]
              exact ⟨M3, _, v, rfl, rfl, k2.trans k3, kN.trans (KeepR.put (by omega)), Or.inr ⟨f, f1, f2.o _, f3⟩⟩
        · rw [if_pos h40, if_neg h40, if_pos h34, er]
          simp only [Option.bind_some]
          have hk2 : ¬ N 85 30 = 2 := by rw [q.2.2.2.1]; exact fun z => h12 ((tok_nm hB).mpr z)
          rw [if_neg hk2]
          unfold fM_atom_b123 fM_atom_b157
          rw [if_pos h34]
          by_cases hk1 : N 85 30 = 1
          · rw [if_pos hk1, name_no hB q ha hw', ef]
            simp only [Option.bind_some]
            rw [nf.1, if_neg (by decide)]
            exact ⟨Mr, Nf, 0, rfl, rfl, badOut 0⟩
          · rw [if_neg hk1, ef]
            simp only [Option.bind_some]
            exact ⟨Mr, Nf, 0, rfl, rfl, badOut 0⟩
