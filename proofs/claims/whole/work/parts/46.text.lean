/-! 46: ways, the tape, the rule, the master -/
theorem gaM_same {s : Nat} {M : Mem} : Same M (gaM s M) := by
  have r : ∀ a b, a ≠ 97 → gaM s M a b = M a b := fun a b h => by unfold gaM tbM; rw [if_neg (fun z => h z.1)]
  exact ⟨fun a h => funext fun b => r a b (by omega), ⟨r 0 3 (by decide), r 0 6 (by decide)⟩, fun j _ => r 1 j (by decide), r 40 1 (by decide), fun j _ => r 85 j (by decide)⟩
theorem gaM_lw {s : Nat} {M : Mem} (h : LW M) : LW (gaM s M) := h.same (by unfold gaM tbM; rw [if_neg (by omega)]) (funext fun b => by unfold gaM tbM; rw [if_neg (by omega)])
theorem op_way (a b w : Int32) : Op (fN_way a b w) (fM_way a b w) := by
  intro M hR
  obtain ⟨s, s1, s2, s3⟩ := hR.1
  have hlw := hR.2.2.2.2.2.2.2.2.2
  unfold fN_way fM_way
  simp only [fN_w8, fN_w2, fM_r8, fM_i2, Option.bind_some, bz_0]
  by_cases g1 : ib a 8
  · rw [if_neg (nn g1)]
    by_cases g2 : ib b 8
    · rw [if_neg (nn g2)]
      by_cases g3 : ib w 2
      · rw [if_neg (nn g3)]
        have hR2 : Rel (gaM s M) := hR.same gaM_same (gaM_lw hlw)
        have hTB := gaM_TB s3
        obtain ⟨x, hx, rfl⟩ := ib_ex g1
        obtain ⟨y, hy, rfl⟩ := ib_ex g2
        by_cases g0 : w = 0
        · rw [if_pos g0, fY_far_eq, s2]
          simp only [Option.bind_some]
          refine ⟨_, M, gaM s M, rfl, ?_, hR2⟩
          rw [if_neg (nn g1), if_neg (nn g2), if_neg (nn g3), fM_gathers_eq s1 s3]
          simp only [Option.bind_some]
          have e8 : 8 * nI x + nI y = nI (8 * x + y) := by rw [show (8 : Int32) = nI 8 from rfl, pk_mul, nI_add]
          rw [if_pos g0, e8, if_pos (ib_nI (by omega) (by omega)), ix_nI (by omega), hTB.2 _ (by omega), far_ok s s1 x hx y hy]
        · rw [if_neg g0, s2, fY_nextRoom_eq M s1 hx hy]
          simp only [Option.bind_some]
          refine ⟨_, M, gaM s M, rfl, ?_, hR2⟩
          rw [if_neg (nn g1), if_neg (nn g2), if_neg (nn g3), fM_gathers_eq s1 s3]
          simp only [Option.bind_some]
          rw [if_neg g0, fM_nextTo_eq s1 hTB hx hy]
          rfl
      · exact ⟨-2, M, M, by rw [if_pos g3], by rw [if_neg (nn g1), if_neg (nn g2), if_pos g3], hR⟩
    · exact ⟨-2, M, M, by rw [if_pos g2], by rw [if_neg (nn g1), if_pos g2], hR⟩
  · exact ⟨-2, M, M, by rw [if_pos g1], by rw [if_pos g1], hR⟩
theorem op_feed (a : Int32) : Op (fN_feed a) (fM_feed a) := by
  intro M hR
  obtain ⟨h1, h2, h3, h4, h5, ⟨n, n1, n2, n3, n4⟩, h7, h8, h9⟩ := hR
  have hR := hR_intro h1 h2 h3 h4 h5 ⟨n, n1, n2, n3, n4⟩ h7 h8 h9
  unfold fN_feed fM_feed fR_add
  simp only [fN_w256, fM_i256, Option.bind_some, bz_0]
  by_cases g1 : ib a 256
  · rw [if_neg (nn g1), n2]
    by_cases h160 : n = 160
    · subst h160
      refine ⟨-4, M, M, ?_, ?_, hR⟩
      · rw [if_neg (by decide)]; rfl
      · rw [if_neg (nn g1), n3, if_pos (by decide)]
    · rw [if_pos (by rw [show (160 : Int32) = nI 160 from rfl, n_lt (by omega) (by omega)]; omega), if_pos (ib_nI (by omega) (by omega)), ix_nI (by omega), wr_ne (show 40 ≠ 41 by decide), n2, nI_1]
      simp only [Option.bind_some]
      rw [if_neg (by decide), wr_same]
      refine ⟨nI (n + 1), _, wr (wr (wr (wr M 41 n a) 40 1 (nI (n + 1))) 88 n a) 85 6 (nI (n + 1)), rfl, ?_, ?_⟩
      · have q3 : (wr (wr M 41 n a) 40 1 (nI (n + 1))) 85 6 = nI n := by rw [wr_ne (by decide), wr_ne (by decide)]; exact n3
        rw [if_neg (nn g1), q3, if_neg (by rw [show (160 : Int32) = nI 160 from rfl, n_eq (by omega) (by omega)]; exact h160), if_pos (ib_nI (by omega) (by omega)), ix_nI (by omega), wr_ne (show 85 ≠ 88 by decide), q3, nI_1, wr_same]
      · refine hR_intro ((((h1.put (by omega)).put (by omega)).put (by omega)).put (by omega)) ((((h2.put (by omega)).put (by omega)).put (by omega)).put (by omega)) ((((h3.put (by omega)).put (by omega)).put (by omega)).put (by omega)) ((((h4.put (by omega)).put (by omega)).put (by omega)).put (by omega)) ((((h5.put (by omega)).put (by omega)).put (by omega)).put (by omega)) ⟨n + 1, by omega, by simp [wr], by simp [wr], fun i hi => ?_⟩ ((((h7.put (by omega)).put (by omega)).put (by omega)).put (by omega)) ((((h8.put (by omega)).put (by omega)).put (by omega)).put (by omega)) ((((h9.put (by omega)).put (by omega)).put (by omega)).put (by omega))
        by_cases hin : i = n
        · subst hin
          simp [wr]
          exact g1
        · simp [wr, hin]
          exact n4 i (by omega)
  · exact ⟨-2, M, M, by rw [if_pos g1], by rw [if_pos g1], hR⟩
theorem fM_tc {c : Nat} (a : Int32) (M : Mem) (hc : c ≤ 6) (h : M 85 3 = nI c) : fM_in a.toInt64 (0 : Int64) ((M 85 3 - 1).toInt64) M = some (bz (ib a c), M) := by
  refine fM_ib a _ _ c M rfl ?_
  rw [t64, h]
  have e1 : (1 : Int32).toInt = 1 := rfl
  rw [t_sub (by rw [nI_t (by omega)]; omega) (by rw [nI_t (by omega)]; omega), nI_t (by omega), e1]
  omega
theorem op_force (a : Int32) : Op (fN_force a) (fM_force a) := by
  intro M hR
  obtain ⟨h1, h2, h3, h4, ⟨c, r, c1, c2, c3, c4, r1, r2, r3, ct⟩, h6, h7, h8, h9⟩ := hR
  have hR := hR_intro h1 h2 h3 h4 ⟨c, r, c1, c2, c3, c4, r1, r2, r3, ct⟩ h6 h7 h8 h9
  unfold fN_force fM_force
  simp only [c3, fN_w _ c _ (show c < 2147483648 by omega), Option.bind_some, bz_0]
  by_cases g1 : ib a c
  · rw [if_neg (nn g1)]
    obtain ⟨x, hx, rfl⟩ := ib_ex g1
    refine ⟨M 1 3, wr M 1 3 (nI x), wr (wr M 1 3 (nI x)) 85 4 (nI x), rfl, ?_, ?_⟩
    · rw [fM_tc _ _ c2 (by rw [wr_ne (by decide)]; exact c4)]
      simp only [Option.bind_some, bz_0]
      rw [if_neg (nn g1), wr_ne (by decide), r2, r3]
    · refine hR_intro ((h1.put (by omega)).put (by omega)) ((h2.put (by omega)).put (by omega)) ((h3.put (by omega)).put (by omega)) ((h4.put (by omega)).put (by omega)) ⟨c, x, c1, c2, by simp [wr]; exact c3, by simp [wr]; exact c4, hx, by simp [wr], by simp [wr], fun t ht => ?_⟩ ((h6.put (by omega)).put (by omega)) ((h7.put (by omega)).put (by omega)) ((h8.put (by omega)).put (by omega)) ((h9.put (by omega)).put (by omega))
      exact (ct t ht).same (by rw [wr_ne (by omega), wr_ne (by omega)]) (by rw [wr_ne (by omega), wr_ne (by omega)]) (by rw [wr_ne (by omega), wr_ne (by omega)]) (fun i _ => by rw [wr_ne (by omega), wr_ne (by omega)])
  · refine ⟨-2, M, M, by rw [if_pos g1], ?_, hR⟩
    rw [fM_tc _ _ c2 c4]
    simp only [Option.bind_some, bz_0]
    rw [if_pos g1]
theorem fM_text_b14_eq {c n : Nat} (hc : c < 6) (hn : n ≤ 160) : ∀ (k i z : Nat) (N : Mem), i + k = n → k < z → N 85 6 = nI n → N 85 3 = nI c → ∃ N', fM_text_b14 z (nI i) N = fM_text_b14 (z - k) (nI n) N' ∧ (∀ a, a ≠ 86 → N' a = N a) ∧ (∀ j, N' 86 j = if 160 * c + i ≤ j ∧ j < 160 * c + n then N 88 (j - 160 * c) else N 86 j) := by
  intro k
  induction k with
  | zero =>
    intro i z N hi hz h6 h3
    have : i = n := by omega
    subst this
    exact ⟨N, by rw [Nat.sub_zero], fun _ _ => rfl, fun j => by rw [if_neg (by omega)]⟩
  | succ k ih =>
    intro i z N hi hz h6 h3
    obtain ⟨z, rfl⟩ := Nat.exists_eq_succ_of_ne_zero (show z ≠ 0 by omega)
    rw [fM_text_b14, h6, if_neg (by rw [n_le (by omega) (by omega)]; omega), if_pos (ib_nI (by omega) (by omega)), h3, show (160 : Int32) * nI c + nI i = nI (160 * c + i) by rw [show (160 : Int32) = nI 160 from rfl, pk_mul, nI_add], if_pos (ib_nI (by omega) (by omega)), ix_nI (by omega), ix_nI (by omega), nI_1]
    obtain ⟨N', e1, e2, e3⟩ := ih (i + 1) z (wr N 86 (160 * c + i) (N 88 i)) (by omega) (by omega) (by rw [wr_ne (by decide)]; exact h6) (by rw [wr_ne (by decide)]; exact h3)
    refine ⟨N', by rw [e1, show z.succ - (k + 1) = z - k by omega], fun a ha => by rw [e2 a ha, wr_ne ha], fun j => ?_⟩
    rw [e3 j, wr_ne (show 88 ≠ 86 by decide)]
    by_cases hj : j = 160 * c + i
    · subst hj
      rw [if_neg (by omega), wr_same, if_pos (by omega), Nat.add_sub_cancel_left]
    · rw [wr_at hj]
      by_cases h : 160 * c + (i + 1) ≤ j ∧ j < 160 * c + n
      · rw [if_pos h, if_pos (by omega)]
      · rw [if_neg h, if_neg (by omega)]
theorem op_text : Op fN_text fM_text := by
  intro M hR
  obtain ⟨h1, h2, h3, h4, ⟨c, r, c1, c2, c3, c4, r1, r2, r3, ct⟩, ⟨n, n1, n2, n3, n4⟩, h7, h8, h9⟩ := hR
  have hR := hR_intro h1 h2 h3 h4 ⟨c, r, c1, c2, c3, c4, r1, r2, r3, ct⟩ ⟨n, n1, n2, n3, n4⟩ h7 h8 h9
  unfold fN_text fM_text
  rw [c3]
  by_cases h6c : c = 6
  · subst h6c
    exact ⟨-4, M, M, by rw [if_neg (by decide)], by rw [c4, if_pos (by decide)], hR⟩
  · rw [if_pos (by rw [show (6 : Int32) = nI 6 from rfl, n_lt (by omega) (by omega)]; omega), if_pos (ib_nI (by omega) (by omega)), ix_nI (by omega)]
    obtain ⟨x, C, e1, k1, k2, res⟩ := read_text (t := c) (g := 59 + 3 * c) (T := M 41) (fun i hi => ((n4 i hi).2).1) (by omega) (by omega) ⟨n2, n1, fun _ _ => rfl⟩
    rw [e1]
    simp only [Option.bind_some]
    -- the model's side: what it copies, then reads
    have mod : ∀ D : Mem, (∀ a, 85 ≤ a → D a = M a) → ∃ N1, (∀ a, a ≠ 86 → a ≠ 87 → a ≠ 85 → N1 a = D a) ∧ (∀ j, j ≠ 6 → N1 85 j = M 85 j) ∧ N1 85 6 = 0 ∧ N1 87 = stS (M 87) c (nI n) ∧ (∀ j, N1 86 j = if 160 * c ≤ j ∧ j < 160 * c + n then M 88 (j - 160 * c) else M 86 j) ∧ fM_text_b14 1000 0 D = (fM_read (nI c) (nI 0) N1).bind (fun w1 => if (w1.2 85 34) = 0 then some ((((wr w1.2 85 3 ((w1.2 85 3) + 1)) 85 3) - 1), (wr w1.2 85 3 ((w1.2 85 3) + 1))) else some (((-100) - (w1.2 85 35)), w1.2)) := by
      intro D hD
      obtain ⟨D', y1, y2, y3⟩ := fM_text_b14_eq (c := c) (n := n) (by omega) n1 n 0 1000 D (by omega) (by omega) (by rw [hD 85 (by omega)]; exact n3) (by rw [hD 85 (by omega)]; exact c4)
      have d85 : D' 85 = M 85 := by rw [y2 85 (by decide), hD 85 (by omega)]
      refine ⟨wr (wr D' 87 c (nI n)) 85 6 0, fun a a1 a2 a3 => by rw [wr_ne a3, wr_ne a2, y2 a a1], fun j hj => by rw [wr_at hj, wr_ne (by decide), d85], wr_same, by rw [wr_ne (by decide), wr_stS, y2 87 (by decide), hD 87 (by omega)], fun j => ?_, ?_⟩
      · rw [wr_ne (by decide), wr_ne (by decide), y3 j, Nat.add_zero, hD 88 (by omega), hD 86 (by omega)]
      · show fM_text_b14 1000 (nI 0) D = _
        rw [y1, show 1000 - n = (999 - n) + 1 by omega, fM_text_b14, d85, n3, if_pos (by rw [n_le (by omega) (by omega)]; omega), c4, if_pos (ib_nI (by omega) (by omega)), ix_nI (by omega), wr_at (show 3 ≠ 6 by decide), wr_ne (show 85 ≠ 87 by decide), d85, c4]
        rfl
    have ne6 : ¬ M 85 3 = 6 := by rw [c4, show (6 : Int32) = nI 6 from rfl, n_eq (by omega) (by omega)]; exact h6c
    rcases res with ⟨hx, wf, rd⟩ | ⟨f, hf, hx, g1, g2, rd⟩
    · rw [if_pos hx]
      have q06 : C 0 6 = nI c := by rw [k2 0 (by omega) (by omega) (by omega) (by omega) (by omega)]; exact c3
      rw [q06, nI_1, wr_same, nI_pd (by omega), Nat.add_sub_cancel]
      obtain ⟨N1, m1, m2, m3, m4, m5, m6⟩ := mod (wr C 0 6 (nI (c + 1))) (fun a ha => by rw [wr_ne (by omega)]; exact k2 a (by omega) (by omega) (by omega) (by omega) (by omega))
      obtain ⟨N2, z1, z2, z3⟩ := rd N1 0 (by rw [m4, stS, if_pos rfl]) (fun i hi => by rw [m5, if_pos (by omega), Nat.add_sub_cancel_left]; exact (n4 i hi).1) (by omega)
      have p3 : N2 85 3 = nI c := by rw [z2.2 3 (by omega), m2 3 (by decide)]; exact c4
      have nx : ∀ a, a ≠ 86 → a ≠ 87 → a ≠ 85 → wr N2 85 3 (nI (c + 1)) a = wr C 0 6 (nI (c + 1)) a := fun a a1 a2 a3 => by rw [wr_ne a3, z2.1 a a3, m1 a a1 a2 a3]
      have n85 : ∀ j, (j < 20 ∨ (51 ≤ j ∧ j ≤ 54)) → j ≠ 6 → j ≠ 3 → wr N2 85 3 (nI (c + 1)) 85 j = M 85 j := fun j j1 j2 j3 => by rw [wr_at j3, z2.2 j (by omega), m2 j j2]
      have nC : ∀ a, a ≠ 86 → a ≠ 87 → a ≠ 85 → a ≠ 0 → a ≠ 40 → a ≠ 42 → a ≠ 43 → a ≠ 60 + 3 * c → a ≠ 61 + 3 * c → wr N2 85 3 (nI (c + 1)) a = M a := fun a a1 a2 a3 a4 a5 a6 a7 a8 a9 => by rw [nx a a1 a2 a3, wr_ne a4, k2 a a5 a6 a7 (by omega) (by omega)]
      refine ⟨nI c, _, wr N2 85 3 (nI (c + 1)), rfl, ?_, ?_⟩
      · rw [wr_ne (show 85 ≠ 0 by decide), k2 85 (by omega) (by omega) (by omega) (by omega) (by omega), if_neg ne6, m6, z1]
        simp only [Option.bind_some]
        rw [if_pos z3, p3, nI_1, wr_same, nI_pd (by omega), Nat.add_sub_cancel]
      · have b61 : wr N2 85 3 (nI (c + 1)) (60 + 3 * c) = C (59 + 3 * c + 1) := by rw [nx _ (by omega) (by omega) (by omega), wr_ne (by omega), show 59 + 3 * c + 1 = 60 + 3 * c by omega]
        have b62 : wr N2 85 3 (nI (c + 1)) (61 + 3 * c) = C (59 + 3 * c + 2) := by rw [nx _ (by omega) (by omega) (by omega), wr_ne (by omega), show 59 + 3 * c + 2 = 61 + 3 * c by omega]
        have b86 : ∀ j, wr N2 85 3 (nI (c + 1)) 86 j = if 160 * c ≤ j ∧ j < 160 * c + n then M 88 (j - 160 * c) else M 86 j := fun j => by rw [wr_ne (by decide), z2.1 86 (by decide), m5 j]
        have b87 : wr N2 85 3 (nI (c + 1)) 87 = stS (M 87) c (nI n) := by rw [wr_ne (by decide), z2.1 87 (by decide), m4]
        have b06 : wr N2 85 3 (nI (c + 1)) 0 6 = nI (c + 1) := by rw [nx 0 (by omega) (by omega) (by omega), wr_same]
        have b0 : ∀ j, j ≠ 6 → wr N2 85 3 (nI (c + 1)) 0 j = M 0 j := fun j hj => by rw [nx 0 (by omega) (by omega) (by omega), wr_at hj, k2 0 (by omega) (by omega) (by omega) (by omega) (by omega)]
        have b40 : wr N2 85 3 (nI (c + 1)) 40 1 = 0 := by rw [nx 40 (by omega) (by omega) (by omega), wr_ne (by decide), k1]
        have b36 : wr N2 85 3 (nI (c + 1)) 85 6 = 0 := by rw [wr_at (by decide), z2.2 6 (by omega), m3]
        have b33 : wr N2 85 3 (nI (c + 1)) 85 3 = nI (c + 1) := wr_same
        generalize wr N2 85 3 (nI (c + 1)) = R at *
        refine hR_intro (h1.same (by rw [nC 1 (by omega) (by omega) (by omega) (by omega) (by omega) (by omega) (by omega) (by omega) (by omega)]) (n85 7 (by omega) (by omega) (by omega))) (h2.same (by rw [nC 1 (by omega) (by omega) (by omega) (by omega) (by omega) (by omega) (by omega) (by omega) (by omega)]) (n85 11 (by omega) (by omega) (by omega)) (nC 2 (by omega) (by omega) (by omega) (by omega) (by omega) (by omega) (by omega) (by omega) (by omega)) (nC 3 (by omega) (by omega) (by omega) (by omega) (by omega) (by omega) (by omega) (by omega) (by omega)) (nC 90 (by omega) (by omega) (by omega) (by omega) (by omega) (by omega) (by omega) (by omega) (by omega)) (nC 91 (by omega) (by omega) (by omega) (by omega) (by omega) (by omega) (by omega) (by omega) (by omega))) (h3.same (nC 4 (by omega) (by omega) (by omega) (by omega) (by omega) (by omega) (by omega) (by omega) (by omega)) (nC 89 (by omega) (by omega) (by omega) (by omega) (by omega) (by omega) (by omega) (by omega) (by omega))) (h4.same (by rw [nC 1 (by omega) (by omega) (by omega) (by omega) (by omega) (by omega) (by omega) (by omega) (by omega)]) (n85 17 (by omega) (by omega) (by omega)) (fun x q1 q2 => nC x (by omega) (by omega) (by omega) (by omega) (by omega) (by omega) (by omega) (by omega) (by omega)) (nC 92 (by omega) (by omega) (by omega) (by omega) (by omega) (by omega) (by omega) (by omega) (by omega)) (nC 93 (by omega) (by omega) (by omega) (by omega) (by omega) (by omega) (by omega) (by omega) (by omega)) (nC 94 (by omega) (by omega) (by omega) (by omega) (by omega) (by omega) (by omega) (by omega) (by omega)) (nC 95 (by omega) (by omega) (by omega) (by omega) (by omega) (by omega) (by omega) (by omega) (by omega)) (nC 96 (by omega) (by omega) (by omega) (by omega) (by omega) (by omega) (by omega) (by omega) (by omega))) ⟨c + 1, r, by omega, by omega, b06, b33, by omega, by rw [nC 1 (by omega) (by omega) (by omega) (by omega) (by omega) (by omega) (by omega) (by omega) (by omega)]; exact r2, by rw [n85 4 (by omega) (by omega) (by omega)]; exact r3, fun t ht => ?_⟩ ⟨0, by omega, b40, b36, fun i hi => absurd hi (by omega)⟩ (h7.same (fun x q1 q2 => nC x (by omega) (by omega) (by omega) (by omega) (by omega) (by omega) (by omega) (by omega) (by omega)) (nC 109 (by omega) (by omega) (by omega) (by omega) (by omega) (by omega) (by omega) (by omega) (by omega)) (nC 110 (by omega) (by omega) (by omega) (by omega) (by omega) (by omega) (by omega) (by omega) (by omega)) (nC 111 (by omega) (by omega) (by omega) (by omega) (by omega) (by omega) (by omega) (by omega) (by omega)) (nC 112 (by omega) (by omega) (by omega) (by omega) (by omega) (by omega) (by omega) (by omega) (by omega))) (h8.same (b0 3 (by decide)) (fun x q1 q2 => nC x (by omega) (by omega) (by omega) (by omega) (by omega) (by omega) (by omega) (by omega) (by omega)) (fun j q1 q2 => n85 j (by omega) (by omega) (by omega)) (nC 107 (by omega) (by omega) (by omega) (by omega) (by omega) (by omega) (by omega) (by omega) (by omega)) (nC 108 (by omega) (by omega) (by omega) (by omega) (by omega) (by omega) (by omega) (by omega) (by omega)) (fun k _ _ => by rw [nC 92 (by omega) (by omega) (by omega) (by omega) (by omega) (by omega) (by omega) (by omega) (by omega)]) (by rw [nC 1 (by omega) (by omega) (by omega) (by omega) (by omega) (by omega) (by omega) (by omega) (by omega)]; exact Nat.le_refl _) (by rw [b06, c3, ix_nI (by omega), ix_nI (by omega)]; omega)) (h9.same (n85 18 (by omega) (by omega) (by omega)) (h9.2.same (by rw [nC 46 (by omega) (by omega) (by omega) (by omega) (by omega) (by omega) (by omega) (by omega) (by omega)]) (nC 47 (by omega) (by omega) (by omega) (by omega) (by omega) (by omega) (by omega) (by omega) (by omega))))
        by_cases htc : t = c
        · subst htc
          unfold TX TXm
          rw [b61, b62]
          refine ⟨wf, n, M 41, n1, by rw [b87, stS, if_pos rfl], fun i hi => ?_, rd⟩
          rw [b86, if_pos (by omega), Nat.add_sub_cancel_left]
          exact (n4 i hi).1
        · refine (ct t (by omega)).same (nC _ (by omega) (by omega) (by omega) (by omega) (by omega) (by omega) (by omega) (by omega) (by omega)) (nC _ (by omega) (by omega) (by omega) (by omega) (by omega) (by omega) (by omega) (by omega) (by omega)) (by rw [b87, stS, if_neg htc]) (fun i hi => ?_)
          rw [b86, if_neg (by omega)]
    · rw [hx, if_neg (nI_m1 (by omega))]
      obtain ⟨N1, m1, m2, m3, m4, m5, m6⟩ := mod C (fun a ha => k2 a (by omega) (by omega) (by omega) (by omega) (by omega))
      obtain ⟨v, N2, z1, z2, z3, z4⟩ := rd N1 0 (by rw [m4, stS, if_pos rfl]) (fun i hi => by rw [m5, if_pos (by omega), Nat.add_sub_cancel_left]; exact (n4 i hi).1) (by omega)
      have nx : ∀ a, a ≠ 86 → a ≠ 87 → a ≠ 85 → N2 a = C a := fun a a1 a2 a3 => by rw [z2.1 a a3, m1 a a1 a2 a3]
      have n85 : ∀ j, (j < 20 ∨ (51 ≤ j ∧ j ≤ 54)) → j ≠ 6 → N2 85 j = M 85 j := fun j j1 j2 => by rw [z2.2 j (by omega), m2 j j2]
      have nC : ∀ a, a ≠ 86 → a ≠ 87 → a ≠ 85 → a ≠ 40 → a ≠ 42 → a ≠ 43 → N2 a = M a := fun a a1 a2 a3 a5 a6 a7 => by
        rw [nx a a1 a2 a3]
        by_cases b1 : a = 59 + 3 * c + 1
        · rw [b1, g1]
        · by_cases b2 : a = 59 + 3 * c + 2
          · rw [b2, g2]
          · exact k2 a a5 a6 a7 b1 b2
      have b86 : ∀ j, N2 86 j = if 160 * c ≤ j ∧ j < 160 * c + n then M 88 (j - 160 * c) else M 86 j := fun j => by rw [z2.1 86 (by decide), m5 j]
      have b87 : N2 87 = stS (M 87) c (nI n) := by rw [z2.1 87 (by decide), m4]
      have b40 : N2 40 1 = 0 := by rw [nx 40 (by omega) (by omega) (by omega), k1]
      have b36 : N2 85 6 = 0 := by rw [z2.2 6 (by omega), m3]
      refine ⟨-100 - nI f, C, N2, rfl, ?_, ?_⟩
      · rw [k2 85 (by omega) (by omega) (by omega) (by omega) (by omega), if_neg ne6, m6, z1]
        simp only [Option.bind_some]
        rw [z3, if_neg (by decide), z4]
      · refine hR_intro (h1.same (by rw [nC 1 (by omega) (by omega) (by omega) (by omega) (by omega) (by omega)]) (n85 7 (by omega) (by omega))) (h2.same (by rw [nC 1 (by omega) (by omega) (by omega) (by omega) (by omega) (by omega)]) (n85 11 (by omega) (by omega)) (nC 2 (by omega) (by omega) (by omega) (by omega) (by omega) (by omega)) (nC 3 (by omega) (by omega) (by omega) (by omega) (by omega) (by omega)) (nC 90 (by omega) (by omega) (by omega) (by omega) (by omega) (by omega)) (nC 91 (by omega) (by omega) (by omega) (by omega) (by omega) (by omega))) (h3.same (nC 4 (by omega) (by omega) (by omega) (by omega) (by omega) (by omega)) (nC 89 (by omega) (by omega) (by omega) (by omega) (by omega) (by omega))) (h4.same (by rw [nC 1 (by omega) (by omega) (by omega) (by omega) (by omega) (by omega)]) (n85 17 (by omega) (by omega)) (fun x q1 q2 => nC x (by omega) (by omega) (by omega) (by omega) (by omega) (by omega)) (nC 92 (by omega) (by omega) (by omega) (by omega) (by omega) (by omega)) (nC 93 (by omega) (by omega) (by omega) (by omega) (by omega) (by omega)) (nC 94 (by omega) (by omega) (by omega) (by omega) (by omega) (by omega)) (nC 95 (by omega) (by omega) (by omega) (by omega) (by omega) (by omega)) (nC 96 (by omega) (by omega) (by omega) (by omega) (by omega) (by omega))) ⟨c, r, c1, c2, by rw [nC 0 (by omega) (by omega) (by omega) (by omega) (by omega) (by omega)]; exact c3, by rw [n85 3 (by omega) (by omega)]; exact c4, r1, by rw [nC 1 (by omega) (by omega) (by omega) (by omega) (by omega) (by omega)]; exact r2, by rw [n85 4 (by omega) (by omega)]; exact r3, fun t ht => ?_⟩ ⟨0, by omega, b40, b36, fun i hi => absurd hi (by omega)⟩ (h7.same (fun x q1 q2 => nC x (by omega) (by omega) (by omega) (by omega) (by omega) (by omega)) (nC 109 (by omega) (by omega) (by omega) (by omega) (by omega) (by omega)) (nC 110 (by omega) (by omega) (by omega) (by omega) (by omega) (by omega)) (nC 111 (by omega) (by omega) (by omega) (by omega) (by omega) (by omega)) (nC 112 (by omega) (by omega) (by omega) (by omega) (by omega) (by omega))) (h8.same (by rw [nC 0 (by omega) (by omega) (by omega) (by omega) (by omega) (by omega)]) (fun x q1 q2 => nC x (by omega) (by omega) (by omega) (by omega) (by omega) (by omega)) (fun j q1 q2 => n85 j (by omega) (by omega)) (nC 107 (by omega) (by omega) (by omega) (by omega) (by omega) (by omega)) (nC 108 (by omega) (by omega) (by omega) (by omega) (by omega) (by omega)) (fun k _ _ => by rw [nC 92 (by omega) (by omega) (by omega) (by omega) (by omega) (by omega)]) (by rw [nC 1 (by omega) (by omega) (by omega) (by omega) (by omega) (by omega)]; exact Nat.le_refl _) (by rw [nC 0 (by omega) (by omega) (by omega) (by omega) (by omega) (by omega)]; exact Nat.le_refl _)) (h9.same (n85 18 (by omega) (by omega)) (h9.2.same (by rw [nC 46 (by omega) (by omega) (by omega) (by omega) (by omega) (by omega)]) (nC 47 (by omega) (by omega) (by omega) (by omega) (by omega) (by omega))))
        refine (ct t ht).same (nC _ (by omega) (by omega) (by omega) (by omega) (by omega) (by omega)) (nC _ (by omega) (by omega) (by omega) (by omega) (by omega) (by omega)) (by rw [b87, stS, if_neg (by omega)]) (fun i hi => ?_)
        rw [b86, if_neg (by omega)]
