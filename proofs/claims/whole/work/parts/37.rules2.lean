/-! 37: the other rules, all by depth -/
theorem rule_term {n t : Nat} {T : Stk} {d o : Nat} (hB : ∀ i, i < n → 0 ≤ (T i).toInt) (R : Rule n t T d 5 o) : Rule n t T (d + 1) 4 o := by
  intro M N a r c q hr
  have hn := c.1.2.1
  rw [rR4, rM4]
  unfold fR_readTerm fM_term
  obtain ⟨M1, N1, v, e1, e2, k1, r1, h1⟩ := R M N a r c q hr
  rw [e1, e2]
  simp only [Option.bind_some]
  rcases h1 with ⟨a1, w1, c1, q1, x1, x2, x3, ev1, p1⟩ | ⟨f, f1, f2, f3⟩
  · obtain ⟨M', N', v', y1, y2, y3⟩ := loop_term hB R n 0 1000 1000 M1 N1 a1 w1 v (by omega) (by omega) (by omega) (by omega) c1 q1 x1 x2 x3 (by omega) (ev1.nm (fun j hj => (nmN_keep r1 j hj).symm))
    exact ⟨M', N', v', y1, y2, y3.pre k1 r1 p1⟩
  · refine ⟨M1, N1, v, ?_, ?_, k1, r1, Or.inr ⟨f, f1, f2, f3⟩⟩
    · show fR_readTerm_b7 (f_rR d) (nI o) (999 + 1) 0 M1 = some M1
      rw [fR_readTerm_b7, f1.1, if_neg (show ¬ (14 : Int32) = 42 by decide), ite_self]
    · show fM_term_b5 (f_rM d) (999 + 1) v N1 = some (v, N1)
      rw [fM_term_b5, sign_NF f2]
      simp only [Option.bind_some, if_true]
theorem rule_sum {n t : Nat} {T : Stk} {d o : Nat} (hB : ∀ i, i < n → 0 ≤ (T i).toInt) (R : Rule n t T d 4 o) : Rule n t T (d + 1) 3 o := by
  intro M N a r c q hr
  have hn := c.1.2.1
  rw [rR3, rM3]
  unfold fR_readSum fM_added
  obtain ⟨M1, N1, v, e1, e2, k1, r1, h1⟩ := R M N a r c q hr
  rw [e1, e2]
  simp only [Option.bind_some]
  rcases h1 with ⟨a1, w1, c1, q1, x1, x2, x3, ev1, p1⟩ | ⟨f, f1, f2, f3⟩
  · obtain ⟨M', N', v', y1, y2, y3⟩ := loop_sum hB R n 0 1000 1000 M1 N1 a1 w1 v (by omega) (by omega) (by omega) (by omega) c1 q1 x1 x2 x3 (by omega) (ev1.nm (fun j hj => (nmN_keep r1 j hj).symm))
    exact ⟨M', N', v', y1, y2, y3.pre k1 r1 p1⟩
  · refine ⟨M1, N1, v, ?_, ?_, k1, r1, Or.inr ⟨f, f1, f2, f3⟩⟩
    · show fR_readSum_b7 (f_rR d) (nI o) (999 + 1) 0 M1 = some M1
      rw [fR_readSum_b7, f1.1, if_neg (show ¬ (14 : Int32) = 43 by decide), if_neg (show ¬ (14 : Int32) = 45 by decide), ite_self]
    · show fM_added_b5 (f_rM d) (999 + 1) v N1 = some (v, N1)
      rw [fM_added_b5, sign_NF f2]
      simp only [Option.bind_some, if_true]
      rw [sign_NF f2]
      simp only [Option.bind_some, if_true]
theorem rule_both {n t : Nat} {T : Stk} {d o : Nat} (hB : ∀ i, i < n → 0 ≤ (T i).toInt) (R : Rule n t T d 2 o) : Rule n t T (d + 1) 1 o := by
  intro M N a r c q hr
  have hn := c.1.2.1
  rw [rR1, rM1]
  unfold fR_readBoth fM_both
  obtain ⟨M1, N1, v, e1, e2, k1, r1, h1⟩ := R M N a r c q hr
  rw [e1, e2]
  simp only [Option.bind_some]
  rcases h1 with ⟨a1, w1, c1, q1, x1, x2, x3, ev1, p1⟩ | ⟨f, f1, f2, f3⟩
  · obtain ⟨M', N', v', y1, y2, y3⟩ := loop_both hB R n 0 1000 1000 M1 N1 a1 w1 v (by omega) (by omega) (by omega) (by omega) c1 q1 x1 x2 x3 (by omega) (ev1.nm (fun j hj => (nmN_keep r1 j hj).symm))
    exact ⟨M', N', v', y1, y2, y3.pre k1 r1 p1⟩
  · refine ⟨M1, N1, v, ?_, ?_, k1, r1, Or.inr ⟨f, f1, f2, f3⟩⟩
    · show fR_readBoth_b7 (f_rR d) (nI o) (999 + 1) 0 M1 = some M1
      rw [fR_readBoth_b7, f1.1, if_neg (show ¬ (14 : Int32) = 10 by decide), ite_self]
    · show fM_both_b5 (f_rM d) (999 + 1) v N1 = some (v, N1)
      rw [fM_both_b5, word_NF f2]
      simp only [Option.bind_some, if_true]
theorem rule_either {n t : Nat} {T : Stk} {d o : Nat} (hB : ∀ i, i < n → 0 ≤ (T i).toInt) (R : Rule n t T d 1 o) : Rule n t T (d + 1) 0 o := by
  intro M N a r c q hr
  have hn := c.1.2.1
  rw [rR0, rM0]
  unfold fR_readEither fM_either
  obtain ⟨M1, N1, v, e1, e2, k1, r1, h1⟩ := R M N a r c q hr
  rw [e1, e2]
  simp only [Option.bind_some]
  rcases h1 with ⟨a1, w1, c1, q1, x1, x2, x3, ev1, p1⟩ | ⟨f, f1, f2, f3⟩
  · obtain ⟨M', N', v', y1, y2, y3⟩ := loop_either hB R n 0 1000 1000 M1 N1 a1 w1 v (by omega) (by omega) (by omega) (by omega) c1 q1 x1 x2 x3 (by omega) (ev1.nm (fun j hj => (nmN_keep r1 j hj).symm))
    exact ⟨M', N', v', y1, y2, y3.pre k1 r1 p1⟩
  · refine ⟨M1, N1, v, ?_, ?_, k1, r1, Or.inr ⟨f, f1, f2, f3⟩⟩
    · show fR_readEither_b7 (f_rR d) (nI o) (999 + 1) 0 M1 = some M1
      rw [fR_readEither_b7, f1.1, if_neg (show ¬ (14 : Int32) = 9 by decide), ite_self]
    · show fM_either_b5 (f_rM d) (999 + 1) v N1 = some (v, N1)
      rw [fM_either_b5, word_NF f2]
      simp only [Option.bind_some, if_true]
/-- behind a fault the class reads nothing more -/
theorem bad_C {M : Mem} {f : Nat} (s : CB M f) (a : Int32) (d : Nat) : f_rR (d + 1) 5 a M = some M ∧ f_rR (d + 2) 4 a M = some M ∧ f_rR (d + 3) 3 a M = some M ∧ f_rR (d + 4) 2 a M = some M ∧ f_rR (d + 5) 1 a M = some M ∧ f_rR (d + 6) 0 a M = some M := by
  have h5 : f_rR (d + 1) 5 a M = some M := by
    rw [rR5]
    unfold fR_readOne fR_readOne_b87 fR_readOne_b121
    rw [s.1, if_neg (by decide), fN_within_eq]
    simp only [Option.bind_some, bz_0]
    rw [if_pos (by decide), s.1, if_neg (by decide), if_neg (by decide), refuse_CB s]
    rfl
  have h4 : f_rR (d + 2) 4 a M = some M := by
    rw [rR4]
    unfold fR_readTerm
    rw [h5]
    simp only [Option.bind_some]
    show fR_readTerm_b7 _ a (999 + 1) 0 M = some M
    rw [fR_readTerm_b7, s.1, if_neg (show ¬ (14 : Int32) = 42 by decide), ite_self]
  have h3 : f_rR (d + 3) 3 a M = some M := by
    rw [rR3]
    unfold fR_readSum
    rw [h4]
    simp only [Option.bind_some]
    show fR_readSum_b7 _ a (999 + 1) 0 M = some M
    rw [fR_readSum_b7, s.1, if_neg (show ¬ (14 : Int32) = 43 by decide), if_neg (show ¬ (14 : Int32) = 45 by decide), ite_self]
  have h2 : f_rR (d + 4) 2 a M = some M := by
    rw [rR2]
    unfold fR_readNot fR_readNot_b32
    rw [s.1, if_neg (by decide), h3]
    simp only [Option.bind_some]
    rw [s.1, if_neg (by decide), if_neg (by decide)]
  have h1 : f_rR (d + 5) 1 a M = some M := by
    rw [rR1]
    unfold fR_readBoth
    rw [h2]
    simp only [Option.bind_some]
    show fR_readBoth_b7 _ a (999 + 1) 0 M = some M
    rw [fR_readBoth_b7, s.1, if_neg (show ¬ (14 : Int32) = 10 by decide), ite_self]
  refine ⟨h5, h4, h3, h2, h1, ?_⟩
  rw [rR0]
  unfold fR_readEither
  rw [h1]
  simp only [Option.bind_some]
  show fR_readEither_b7 _ a (999 + 1) 0 M = some M
  rw [fR_readEither_b7, s.1, if_neg (show ¬ (14 : Int32) = 9 by decide), ite_self]
/-- a not that can't stand -/
theorem not_C {n : Nat} {T : Stk} {M Mr : Mem} {a r : Nat} (c : CS n T M a r) (h : tokC n T a = 11) (er : fR_refuse M = some Mr) (cr : CB Mr a) (x : Int32) (d : Nat) : f_rR (d + 3) 3 x M = some Mr := by
  rw [rR3]
  unfold fR_readSum
  have h5 : f_rR (d + 1) 5 x M = some Mr := by
    rw [rR5]
    unfold fR_readOne fR_readOne_b87 fR_readOne_b121
    rw [c.2.2.2.2.1, h, if_neg (by decide), fN_within_eq]
    simp only [Option.bind_some, bz_0]
    rw [if_pos (by decide), c.2.2.2.2.1, h, if_neg (by decide), if_neg (by decide), er]
    rfl
  have h4 : f_rR (d + 2) 4 x M = some Mr := by
    rw [rR4]
    unfold fR_readTerm
    rw [h5]
    simp only [Option.bind_some]
    show fR_readTerm_b7 _ x (999 + 1) 0 Mr = some Mr
    rw [fR_readTerm_b7, cr.1, if_neg (show ¬ (14 : Int32) = 42 by decide), ite_self]
  rw [h4]
  simp only [Option.bind_some]
  show fR_readSum_b7 _ x (999 + 1) 0 Mr = some Mr
  rw [fR_readSum_b7, cr.1, if_neg (show ¬ (14 : Int32) = 43 by decide), if_neg (show ¬ (14 : Int32) = 45 by decide), ite_self]
theorem rule_not {n t : Nat} {T : Stk} {d o : Nat} (hB : ∀ i, i < n → 0 ≤ (T i).toInt) (ho : o ≤ 5) (hd : 3 ≤ d) (R3 : Rule n t T d 3 o) (R2 : o < 5 → Rule n t T d 2 (o + 1)) : Rule n t T (d + 1) 2 o := by
  intro M N a r c q hr
  have hn := c.1.2.1
  have ha := c.2.1
  have h34 := q.2.2.2.2.2.2.1
  have h33 := q.2.2.2.2.2.2.2
  rw [rR2, rM2]
  unfold fR_readNot fM_not
  rw [c.2.2.2.2.1, NS_w11 hB q ha]
  simp only [Option.bind_some, bz_0]
  by_cases h11 : tokC n T a = 11
  · rw [if_pos h11, if_neg (show ¬ ¬ tokC n T a = 11 from fun z => z h11)]
    unfold fM_opens
    rw [h33]
    by_cases ho5 : o = 5
    · subst ho5
      obtain ⟨Mr, er, cr, kr⟩ := refuse_CS c (by omega)
      obtain ⟨Nf, ef, nf, rf⟩ := fail_NS q
      rw [if_pos (by decide), if_pos (by decide), ef]
      simp only [Option.bind_some, if_true]
      unfold fR_readNot_b32
      obtain ⟨d0, rfl⟩ := Nat.le.dest hd
      rw [Nat.add_comm 3 d0, not_C c h11 er cr]
      simp only [Option.bind_some]
      rw [cr.1, if_neg (by decide), if_neg (by decide)]
      exact ⟨Mr, Nf, 0, rfl, rfl, kr, rf, Or.inr ⟨a, cr, nf, ha⟩⟩
    · rw [if_neg (by rw [show (5 : Int32) = nI 5 from rfl, n_le (by omega) (by omega)]; omega), if_neg (by rw [show (5 : Int32) = nI 5 from rfl, n_eq (by omega) (by omega)]; omega), nI_1]
      obtain ⟨M2, N2, a2, e1, e2, c2, q2, h2, k2, r2, m2⟩ := adv_both hB c (q.o (nI (o + 1))) (by rw [h11]; decide) (by rw [h11]; decide)
      obtain ⟨M3, N3, v, e3, e4, k3, r3, h3⟩ := R2 (by omega) M2 N2 a2 r c2 q2 (by omega)
      rw [e1, e2]
      simp only [Option.bind_some]
      rw [if_neg (by decide), e3, e4]
      simp only [Option.bind_some]
      have kN : KeepR N (wr N3 85 33 (N3 85 33 - 1)) := ((KeepR.put (by omega)).trans (r2.trans r3)).trans (KeepR.put (by omega))
      have hv : (if v = 0 then some ((1 : Int32), wr N3 85 33 (N3 85 33 - 1)) else some (0, wr N3 85 33 (N3 85 33 - 1))) = some (if v = 0 then 1 else 0, wr N3 85 33 (N3 85 33 - 1)) := by split <;> rfl
      rw [hv]
      rcases h3 with ⟨a3, w3, c3, q3, x1, x2, x3, ev3, p3⟩ | ⟨f, f1, f2, f3⟩
      · have hn3 := c3.2.1
        obtain ⟨M4, e5, c4, m4, k4⟩ := write_CS (-11) c3 (by omega)
        rw [e5]
        simp only [Option.bind_some]
        refine ⟨M4, _, _, rfl, rfl, (k2.trans k3).trans k4, kN, Or.inl ⟨a3, w3 + 1, c4, ?_, by omega, by omega, by omega, ?_, fun i hi => ?_⟩⟩
        · rw [q3.2.2.2.2.2.2.2, nI_pd (by omega), Nat.add_sub_cancel]
          exact q3.o _
        · refine Ev.un (v := v) ((ev3.congr (by omega) (fun i h5 h6 => by rw [m4, stS, if_neg (by omega)])).nm (nmN_keep ((KeepR.put (by omega)).trans r2))) (by omega) (Or.inr ⟨by rw [m4, stS, if_pos rfl], rfl⟩)
        · rw [m4, stS, if_neg (by omega), p3 i hi, m2]
      · obtain ⟨M4, e5, c4, k4⟩ := write_CB (-11) f1
        rw [e5]
        simp only [Option.bind_some]
        exact ⟨M4, _, _, rfl, rfl, (k2.trans k3).trans k4, kN, Or.inr ⟨f, c4, f2.o _, f3⟩⟩
  · rw [if_neg h11, if_pos h11]
    unfold fR_readNot_b32
    obtain ⟨M1, N1, v, e1, e2, k1, r1, h1⟩ := R3 M N a r c q hr
    rw [e1, e2]
    simp only [Option.bind_some]
    rcases h1 with ⟨a1, w1, c1, q1, x1, x2, x3, ev1, p1⟩ | ⟨f, f1, f2, f3⟩
    · have go : ∀ s, (s = 60 ∨ s = 61) → tokC n T a1 = s → ∃ M' N' v', fR_readNot_b55 (f_rR d) (nI o) M1 = some M' ∧ fM_not_b77 (f_rM d) v N1 = some (v', N') ∧ Out n t T M N M' N' a r o v' := by
        intro s hs ht
        obtain ⟨M2, N2, M3, N3, u, M4, y1, y2, y3, y4, y5, k4, r3, res⟩ := stepL hB R3 (s := s) c1 q1 (by rcases hs with rfl | rfl <;> rw [ht] <;> decide) (by rcases hs with rfl | rfl <;> rw [ht] <;> decide) x1 x2 x3 (by omega) (ev1.nm (fun j hj => (nmN_keep r1 j hj).symm)) (by rcases hs with rfl | rfl <;> decide)
        have tk := (tok_sg (n := n) (T := T) (a := a1) (show cSg s = true by rcases hs with rfl | rfl <;> decide)).mp ht
        have hm : fM_not_b77 (f_rM d) v N1 = some (jn s v u, N3) := by
          unfold fM_not_b77 fM_not_b93 fM_not_b120
          rw [q1.2.2.2.2.2.1 tk.1, tk.2, y2]
          simp only [Option.bind_some]
          rw [y4]
          simp only [Option.bind_some]
          rcases hs with rfl | rfl
          · rw [if_pos (by decide), if_neg (by decide), show jn 60 v u = (if v < u then 1 else 0) from rfl]
            by_cases g : u ≤ v
            · rw [if_pos g, if_neg (by rw [i_lt]; rw [i_le] at g; omega)]
            · rw [if_neg g, if_pos (by rw [i_lt]; rw [i_le] at g; omega)]
          · rw [if_neg (by decide), if_pos trivial, show jn 61 v u = (if v = u then 1 else 0) from rfl]
            by_cases g : v = u
            · rw [if_pos g, if_pos g]
            · rw [if_neg g, if_neg g]
        have hc : fR_readNot_b55 (f_rR d) (nI o) M1 = some M4 := by
          unfold fR_readNot_b55
          rw [y1]
          simp only [Option.bind_some]
          rw [y3]
          simp only [Option.bind_some]
          rw [c1.2.2.2.2.1, ht, y5]
          rfl
        rw [hm, hc]
        rcases res with ⟨a4, w4, c4, q4, z1, z2, z3, z4, ev4, p4⟩ | ⟨f, f1, f2, f3⟩
        · exact ⟨M4, N3, _, rfl, rfl, k1.trans k4, r1.trans r3, Or.inl ⟨a4, w4, c4, q4, by omega, z2, z3, ev4.nm (nmN_keep r1), fun i hi => (p4 i hi).trans (p1 i hi)⟩⟩
        · exact ⟨M4, N3, _, rfl, rfl, k1.trans k4, r1.trans r3, Or.inr ⟨f, f1, f2, f3⟩⟩
      rw [c1.2.2.2.2.1, NS_sign q1 (by decide)]
      simp only [Option.bind_some, bz_0]
      by_cases g1 : tokC n T a1 = 60
      · rw [if_pos g1, if_neg (show ¬ ¬ tokC n T a1 = 60 from fun z => z g1)]
        exact go 60 (Or.inl rfl) g1
      · rw [if_neg g1, if_pos g1, NS_sign q1 (by decide)]
        simp only [Option.bind_some, bz_0]
        by_cases g2 : tokC n T a1 = 61
        · rw [if_pos g2, if_neg (show ¬ ¬ tokC n T a1 = 61 from fun z => z g2)]
          exact go 61 (Or.inr rfl) g2
        · rw [if_neg g2, if_pos g2]
          exact ⟨M1, N1, v, rfl, rfl, k1, r1, Or.inl ⟨a1, w1, c1, q1, x1, x2, x3, ev1, p1⟩⟩
    · rw [f1.1, if_neg (by decide), if_neg (by decide), sign_NF f2]
      simp only [Option.bind_some, if_true]
      rw [sign_NF f2]
      simp only [Option.bind_some, if_true]
      exact ⟨M1, N1, v, rfl, rfl, k1, r1, Or.inr ⟨f, f1, f2, f3⟩⟩
theorem rules {n t : Nat} {T : Stk} (hB : ∀ i, i < n → 0 ≤ (T i).toInt) : ∀ (d w o : Nat), w ≤ 5 → o ≤ 5 → 6 * (5 - o) + (6 - w) ≤ d → Rule n t T d w o := by
  intro d
  induction d with
  | zero => intro w o h1 h2 h3; omega
  | succ d ih =>
    intro w o h1 h2 h3
    rcases (by omega : w = 0 ∨ w = 1 ∨ w = 2 ∨ w = 3 ∨ w = 4 ∨ w = 5) with rfl | rfl | rfl | rfl | rfl | rfl
    · exact rule_either hB (ih 1 o (by omega) h2 (by omega))
    · exact rule_both hB (ih 2 o (by omega) h2 (by omega))
    · exact rule_not hB h2 (by omega) (ih 3 o (by omega) h2 (by omega)) (fun h => ih 2 (o + 1) (by omega) (by omega) (by omega))
    · exact rule_sum hB (ih 4 o (by omega) h2 (by omega))
    · exact rule_term hB (ih 5 o (by omega) h2 (by omega))
    · exact rule_one hB h2 (fun h => ih 5 (o + 1) (by omega) (by omega) (by omega)) (fun h => ih 0 (o + 1) (by omega) (by omega) (by omega))
