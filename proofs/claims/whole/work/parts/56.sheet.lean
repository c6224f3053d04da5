/-! 56: sheets -/
theorem Rel.sheets {M N : Mem} (hR : Rel M) (k : ∀ a, (a < 77 ∨ (85 ≤ a ∧ a < 109) ∨ 112 < a) → N a = M a) (h : RH N) : Rel N := by
  obtain ⟨h1, h2, h3, h4, h5, h6, h7, h8, h9⟩ := hR
  exact hR_intro (h1.same (by rw [k 1 (by omega)]) (by rw [k 85 (by omega)])) (h2.same (by rw [k 1 (by omega)]) (by rw [k 85 (by omega)]) (k 2 (by omega)) (k 3 (by omega)) (k 90 (by omega)) (k 91 (by omega))) (h3.same (k 4 (by omega)) (k 89 (by omega))) (h4.same (by rw [k 1 (by omega)]) (by rw [k 85 (by omega)]) (fun x _ _ => k x (by omega)) (k 92 (by omega)) (k 93 (by omega)) (k 94 (by omega)) (k 95 (by omega)) (k 96 (by omega))) (h5.same (by rw [k 0 (by omega)]) (by rw [k 85 (by omega)]) (by rw [k 1 (by omega)]) (by rw [k 85 (by omega)]) (fun x _ _ => k x (by omega)) (k 86 (by omega)) (k 87 (by omega))) (h6.same (by rw [k 40 (by omega)]) (by rw [k 85 (by omega)]) (k 41 (by omega)) (k 88 (by omega))) h (h8.same (by rw [k 0 (by omega)]) (fun x _ _ => k x (by omega)) (fun j _ _ => by rw [k 85 (by omega)]) (k 107 (by omega)) (k 108 (by omega)) (fun j _ _ => by rw [k 92 (by omega)]) (by rw [k 1 (by omega)]; exact Nat.le_refl _) (by rw [k 0 (by omega)]; exact Nat.le_refl _)) (h9.same (by rw [k 85 (by omega)]) (h9.2.same (by rw [k 46 (by omega)]) (k 47 (by omega))))
theorem fS_become_eq (q : Nat) (x y : Int32) (M : Mem) : ∃ C, fS_become q x y M = some C ∧ (∀ a, a ≠ q → a ≠ q + 1 → C a = M a) ∧ C q 0 = x ∧ C q 1 = y ∧ (∀ j, 2 ≤ j → C q j = M q j) ∧ ∀ i, i < 40 → C (q + 1) i = 0 := by
  have loop : ∀ (c i z : Nat) (N : Mem), i + c = 40 → c < z → ∃ C, fS_become_b12 q z (nI i) N = some C ∧ (∀ a, a ≠ q + 1 → C a = N a) ∧ ∀ b, C (q + 1) b = if i ≤ b ∧ b < 40 then 0 else N (q + 1) b := by
    intro c
    induction c with
    | zero =>
      intro i z N hi hz
      obtain ⟨z, rfl⟩ := Nat.exists_eq_succ_of_ne_zero (show z ≠ 0 by omega)
      exact ⟨N, by rw [fS_become_b12, if_pos (by rw [show (40 : Int32) = nI 40 from rfl, n_le (by omega) (by omega)]; omega)], fun _ _ => rfl, fun b => by rw [if_neg (by omega)]⟩
    | succ c ih =>
      intro i z N hi hz
      obtain ⟨z, rfl⟩ := Nat.exists_eq_succ_of_ne_zero (show z ≠ 0 by omega)
      obtain ⟨C, e1, e2, e3⟩ := ih (i + 1) z (wr N (q + 1) i 0) (by omega) (by omega)
      refine ⟨C, ?_, fun a ha => by rw [e2 a ha, wr_ne ha], fun b => ?_⟩
      · rw [fS_become_b12, if_neg (by rw [show (40 : Int32) = nI 40 from rfl, n_le (by omega) (by omega)]; omega), if_pos (ib_nI (by omega) (by omega)), ix_nI (by omega), nI_1]
        exact e1
      · rw [e3 b]
        by_cases hb : b = i
        · subst hb
          rw [if_neg (by omega), wr_same, if_pos (by omega)]
        · rw [wr_at hb]
          by_cases h2 : i + 1 ≤ b ∧ b < 40
          · rw [if_pos h2, if_pos (by omega)]
          · rw [if_neg h2, if_neg (by omega)]
  obtain ⟨C, e1, e2, e3⟩ := loop 40 0 1000 (wr (wr M q 0 x) q 1 y) (by omega) (by omega)
  refine ⟨C, e1, fun a a1 a2 => by rw [e2 a a2, wr_ne a1, wr_ne a1], ?_, ?_, fun j hj => ?_, fun i hi => ?_⟩
  · rw [e2 q (by omega), wr_at (by decide), wr_same]
  · rw [e2 q (by omega), wr_same]
  · rw [e2 q (by omega), wr_at (by omega), wr_at (by omega)]
  · rw [e3 i, if_pos (by omega)]
theorem fM_sheet_b77_eq {s n : Nat} (hs : s < 4) (hn : n ≤ 40) {q : Int32} (hq : ¬ q < 0) : ∀ (c i z : Nat) (N : Mem), i + c = n → c < z → ∃ C, fM_sheet_b77 (nI s) q (nI n) z (nI i) N = some (1, C) ∧ (∀ a, a ≠ 112 → C a = N a) ∧ ∀ b, C 112 b = if 40 * s + i ≤ b ∧ b < 40 * s + n then 0 else N 112 b := by
  intro c
  induction c with
  | zero =>
    intro i z N hi hz
    obtain ⟨z, rfl⟩ := Nat.exists_eq_succ_of_ne_zero (show z ≠ 0 by omega)
    exact ⟨N, by rw [fM_sheet_b77, if_pos (by rw [n_le (by omega) (by omega)]; omega)], fun _ _ => rfl, fun b => by rw [if_neg (by omega)]⟩
  | succ c ih =>
    intro i z N hi hz
    obtain ⟨z, rfl⟩ := Nat.exists_eq_succ_of_ne_zero (show z ≠ 0 by omega)
    obtain ⟨C, e1, e2, e3⟩ := ih (i + 1) z (wr N 112 (40 * s + i) 0) (by omega) (by omega)
    refine ⟨C, ?_, fun a ha => by rw [e2 a ha, wr_ne ha], fun b => ?_⟩
    · rw [fM_sheet_b77, if_neg (by rw [n_le (by omega) (by omega)]; omega), if_neg hq, show (40 : Int32) * nI s + nI i = nI (40 * s + i) by rw [show (40 : Int32) = nI 40 from rfl, pk_mul, nI_add], if_pos (ib_nI (by omega) (by omega)), ix_nI (by omega), nI_1]
      exact e1
    · rw [e3 b]
      by_cases hb : b = 40 * s + i
      · subst hb
        rw [if_neg (by omega), wr_same, if_pos (by omega)]
      · rw [wr_at hb]
        by_cases h2 : 40 * s + (i + 1) ≤ b ∧ b < 40 * s + n
        · rw [if_pos h2, if_pos (by omega)]
        · rw [if_neg h2, if_neg (by omega)]
/-- a sheet made: both, behind the guards -/
theorem sheet_mk {M C : Mem} {s q n : Nat} (hs : s < 4) (hq : q < 3) (hn : n ≤ 40) (hC : ∀ a, 85 ≤ a → C a = M a) : ∃ D, fM_sheet (nI s) (nI q) (nI n) C = some (1, D) ∧ (∀ a, a ≠ 109 → a ≠ 110 → a ≠ 111 → a ≠ 112 → D a = C a) ∧ D 109 = stS (M 109) s 1 ∧ D 110 = stS (M 110) s (nI q) ∧ D 111 = stS (M 111) s (nI n) ∧ ∀ b, D 112 b = if 40 * s ≤ b ∧ b < 40 * s + n then 0 else M 112 b := by
  have g4 : ib (nI s) 4 := ib_nI hs (by omega)
  have q0 : ¬ nI q < 0 := by rw [i_lt, show (0 : Int32).toInt = 0 from rfl, nI_t (by omega)]; omega
  obtain ⟨D, e1, e2, e3⟩ := fM_sheet_b77_eq (q := nI q) hs hn q0 n 0 1000 (wr (wr (wr C 109 s 1) 110 s (nI q)) 111 s (nI n)) (by omega) (by omega)
  refine ⟨D, ?_, fun a a1 a2 a3 a4 => by rw [e2 a a4, wr_ne a3, wr_ne a2, wr_ne a1], ?_, ?_, ?_, fun b => ?_⟩
  · unfold fM_sheet fM_sheet_b34 fM_sheet_b45 fM_sheet_b59
    rw [fM_s4]
    simp only [Option.bind_some, bz_0]
    rw [if_neg (nn g4), fM_iv (nI q) (-1) 2 (-1) 2 _ rfl rfl]
    simp only [Option.bind_some, bz_0]
    rw [if_neg (nn (by rw [nI_t (by omega)]; omega)), if_neg q0, if_pos (by rw [show (40 : Int32) = nI 40 from rfl, n_le (by omega) (by omega)]; exact hn), if_neg q0, if_pos (by rw [show (0 : Int32) = nI 0 from rfl, n_le (by omega) (by omega)]; omega), if_neg q0, if_pos g4, if_pos g4, if_pos g4, ix_nI (by omega)]
    exact e1
  · rw [e2 109 (by decide), wr_ne (by decide), wr_ne (by decide), wr_stS, hC 109 (by omega)]
  · rw [e2 110 (by decide), wr_ne (by decide), wr_stS, wr_ne (by decide), hC 110 (by omega)]
  · rw [e2 111 (by decide), wr_stS, wr_ne (by decide), wr_ne (by decide), hC 111 (by omega)]
  · rw [e3 b, wr_ne (by decide), wr_ne (by decide), wr_ne (by decide), hC 112 (by omega), Nat.add_zero]
theorem op_sheet (a b d : Int32) : Op (fN_sheet a b d) (fM_sheet a b d) := by
  intro M hR
  have t1 : (-1 : Int32).toInt = -1 := m1_t
  have t3 : (3 : Int32).toInt = 3 := rfl
  have t40 : (40 : Int32).toInt = 40 := rfl
  have t0 : (0 : Int32).toInt = 0 := rfl
  have hRH := hR.2.2.2.2.2.2.1
  unfold fN_sheet
  simp only [fN_w4, Option.bind_some, bz_0]
  by_cases g1 : ib a 4
  · rw [if_neg (nn g1)]
    obtain ⟨s, hs, rfl⟩ := ib_ex g1
    by_cases g2 : -1 ≤ b.toInt ∧ b.toInt ≤ 2
    · rw [if_neg (by rw [i_lt, t1]; omega), if_pos (by rw [i_lt, t3]; omega)]
      by_cases g3 : b = -1
      · subst g3
        rw [if_pos rfl, if_pos g1, ix_nI (by omega)]
        obtain ⟨C, e1, c1, c2, c3, c4, c5⟩ := fS_become_eq (77 + 2 * s) (-1) 0 M
        rw [e1]
        simp only [Option.bind_some]
        refine ⟨1, C, wr (wr (wr C 109 s 0) 110 s (-1)) 111 s d, rfl, ?_, ?_⟩
        · unfold fM_sheet fM_sheet_b34 fM_sheet_b45 fM_sheet_b59
          rw [fM_s4]
          simp only [Option.bind_some, bz_0]
          rw [if_neg (nn g1), fM_iv (-1) (-1) 2 (-1) 2 _ rfl rfl]
          simp only [Option.bind_some, bz_0]
          rw [if_neg (nn g2), if_pos (by decide), if_pos (by decide), if_pos (by decide), if_pos g1, if_pos g1, if_pos g1, ix_nI (by omega)]
          show fM_sheet_b77 (nI s) (-1) d (999 + 1) 0 _ = _
          rw [fM_sheet_b77]
          by_cases hd : d ≤ 0
          · rw [if_pos hd]; rfl
          · rw [if_neg hd, if_pos (by decide)]; rfl
        · refine hR.sheets (fun x hx => by rw [wr_ne (by omega), wr_ne (by omega), wr_ne (by omega), c1 x (by omega) (by omega)]) (fun q hq => ?_)
          by_cases hqs : q = s
          · subst hqs
            exact Or.inl ⟨by rw [wr_ne (by omega), wr_ne (by omega), wr_ne (by omega)]; exact c2, by rw [wr_ne (by omega), wr_ne (by omega), wr_same]⟩
          · refine (hRH q hq).same (by rw [wr_ne (by omega), wr_ne (by omega), wr_ne (by omega), c1 _ (by omega) (by omega)]) (by rw [wr_ne (by omega), wr_ne (by omega), wr_ne (by omega), c1 _ (by omega) (by omega)]) (by rw [wr_ne (by omega), wr_ne (by omega), wr_at hqs, c1 _ (by omega) (by omega)]) (by rw [wr_ne (by omega), wr_at hqs, wr_ne (by omega), c1 _ (by omega) (by omega)]) (by rw [wr_at hqs, wr_ne (by omega), wr_ne (by omega), c1 _ (by omega) (by omega)]) (fun i _ => by rw [wr_ne (by omega), wr_ne (by omega), wr_ne (by omega), c1 _ (by omega) (by omega)])
      · rw [if_neg g3]
        obtain ⟨q, hq, rfl⟩ : ∃ q, q < 3 ∧ b = nI q := by
          refine ⟨ix b, ?_, ?_⟩
          · rw [i_eq, t1] at g3; unfold ix; omega
          · rw [i_eq, t1] at g3; exact (nI_ix (by omega)).symm
        have q0 : ¬ nI q < 0 := by rw [i_lt, t0, nI_t (by omega)]; omega
        by_cases g4 : d.toInt ≤ 40
        · rw [if_pos (by rw [i_le, t40]; exact g4)]
          by_cases g5 : 0 ≤ d.toInt
          · rw [if_pos (by rw [i_le, t0]; exact g5), if_pos g1, ix_nI (by omega)]
            obtain ⟨n, hn, rfl⟩ : ∃ n, n ≤ 40 ∧ d = nI n := ⟨ix d, by unfold ix; omega, (nI_ix g5).symm⟩
            obtain ⟨C, e1, c1, c2, c3, c4, c5⟩ := fS_become_eq (77 + 2 * s) (nI q) (nI n) M
            rw [e1]
            simp only [Option.bind_some]
            obtain ⟨D, d1, d2, d3, d4, d5, d6⟩ := sheet_mk (M := M) (C := C) hs hq hn (fun x hx => c1 x (by omega) (by omega))
            refine ⟨1, C, D, rfl, d1, hR.sheets (fun x hx => by rw [d2 x (by omega) (by omega) (by omega) (by omega), c1 x (by omega) (by omega)]) (fun p hp => ?_)⟩
            by_cases hps : p = s
            · subst hps
              refine Or.inr ⟨q, n, hq, hn, by rw [d2 _ (by omega) (by omega) (by omega) (by omega)]; exact c2, by rw [d2 _ (by omega) (by omega) (by omega) (by omega)]; exact c3, by rw [d3, stS, if_pos rfl], by rw [d4, stS, if_pos rfl], by rw [d5, stS, if_pos rfl], fun i hi => ?_⟩
              rw [d6, if_pos (by omega), d2 _ (by omega) (by omega) (by omega) (by omega), show 78 + 2 * p = 77 + 2 * p + 1 by omega, c5 i (by omega)]
            · refine (hRH p hp).same (by rw [d2 _ (by omega) (by omega) (by omega) (by omega), c1 _ (by omega) (by omega)]) (by rw [d2 _ (by omega) (by omega) (by omega) (by omega), c1 _ (by omega) (by omega)]) (by rw [d3, stS, if_neg hps]) (by rw [d4, stS, if_neg hps]) (by rw [d5, stS, if_neg hps]) (fun i _ => by rw [d6, if_neg (by omega)])
          · rw [if_neg (by rw [i_le, t0]; exact g5)]
            refine ⟨-14, M, M, rfl, ?_, hR⟩
            unfold fM_sheet fM_sheet_b34
            rw [fM_s4]
            simp only [Option.bind_some, bz_0]
            rw [if_neg (nn g1), fM_iv _ (-1) 2 (-1) 2 _ rfl rfl]
            simp only [Option.bind_some, bz_0]
            rw [if_neg (nn g2), if_neg q0, if_pos (by rw [i_le, t40]; exact g4), if_neg q0, if_neg (by rw [i_le, t0]; exact g5)]
        · rw [if_neg (by rw [i_le, t40]; exact g4)]
          refine ⟨-2, M, M, rfl, ?_, hR⟩
          unfold fM_sheet
          rw [fM_s4]
          simp only [Option.bind_some, bz_0]
          rw [if_neg (nn g1), fM_iv _ (-1) 2 (-1) 2 _ rfl rfl]
          simp only [Option.bind_some, bz_0]
          rw [if_neg (nn g2), if_neg q0, if_neg (by rw [i_le, t40]; exact g4)]
    · refine ⟨-2, M, M, ?_, ?_, hR⟩
      · by_cases h : b < -1
        · rw [if_pos h]
        · rw [if_neg h, if_neg (by rw [i_lt, t3]; rw [i_lt, t1] at h; omega)]
      · unfold fM_sheet
        rw [fM_s4]
        simp only [Option.bind_some, bz_0]
        rw [if_neg (nn g1), fM_iv _ (-1) 2 (-1) 2 _ rfl rfl]
        simp only [Option.bind_some, bz_0]
        rw [if_pos g2]
  · refine ⟨-2, M, M, by rw [if_pos g1], ?_, hR⟩
    unfold fM_sheet
    rw [fM_s4]
    simp only [Option.bind_some, bz_0]
    rw [if_pos g1]
/-- what a sheet of a sort keeps of a number -/
def kep (q : Nat) (v : Int32) : Int32 := if q = 0 then v.toInt8.toInt32 else if q = 1 then v.toInt16.toInt32 else v
theorem fS_put_eq {s q n i : Nat} {v : Int32} {M : Mem} (hq : q < 3) (hn : n ≤ 40) (hi : i < n) (h0 : M (77 + 2 * s) 0 = nI q) (h1 : M (77 + 2 * s) 1 = nI n) : fS_put (77 + 2 * s) (nI i) v M = some (wr M (78 + 2 * s) i (kep q v)) := by
  unfold fS_put kep
  rw [h1, fN_w _ n _ (by omega)]
  simp only [Option.bind_some, bz_0]
  have g : ib (nI i) 40 := ib_nI (by omega) (by omega)
  rw [if_neg (nn (ib_nI hi (by omega))), h0, if_pos g, if_pos g, if_pos g, ix_nI (by omega), show 77 + 2 * s + 1 = 78 + 2 * s by omega]
  rcases (by omega : q = 0 ∨ q = 1 ∨ q = 2) with rfl | rfl | rfl
  · rw [if_pos (show nI 0 = 0 from rfl), if_pos rfl]
  · rw [if_neg (show ¬ nI 1 = 0 by decide), if_pos (show nI 1 = 1 from rfl), if_neg (show ¬ (1 : Nat) = 0 by decide), if_pos rfl]
  · rw [if_neg (show ¬ nI 2 = 0 by decide), if_neg (show ¬ nI 2 = 1 by decide), if_neg (show ¬ (2 : Nat) = 0 by decide), if_neg (show ¬ (2 : Nat) = 1 by decide)]
/-- one item changed in both -/
theorem Rel.item {M : Mem} {s i : Nat} {x : Int32} (hR : Rel M) (hs : s < 4) (hi : i < 40) : Rel (wr (wr M (78 + 2 * s) i x) 112 (40 * s + i) x) := by
  have hRH := hR.2.2.2.2.2.2.1
  refine hR.sheets (fun a ha => by rw [wr_ne (by omega), wr_ne (by omega)]) (fun p hp => ?_)
  by_cases hps : p = s
  · subst hps
    unfold SH
    rw [wr_ne (show 77 + 2 * p ≠ 112 by omega), wr_ne (show 77 + 2 * p ≠ 78 + 2 * p by omega), wr_ne (show 109 ≠ 112 by decide), wr_ne (show 109 ≠ 78 + 2 * p by omega), wr_ne (show 110 ≠ 112 by decide), wr_ne (show 110 ≠ 78 + 2 * p by omega), wr_ne (show 111 ≠ 112 by decide), wr_ne (show 111 ≠ 78 + 2 * p by omega)]
    rcases hRH p hp with h | ⟨q, n, h1, h2, h3, h4, h5, h6, h7, h8⟩
    · exact Or.inl h
    · refine Or.inr ⟨q, n, h1, h2, h3, h4, h5, h6, h7, fun j hj => ?_⟩
      rw [wr_ne (show 78 + 2 * p ≠ 112 by omega)]
      by_cases hji : j = i
      · subst hji; rw [wr_same, wr_same]
      · rw [wr_at (show 40 * p + j ≠ 40 * p + i by omega), wr_ne (show 112 ≠ 78 + 2 * p by omega), wr_at hji]; exact h8 j hj
  · exact (hRH p hp).same (by rw [wr_ne (by omega), wr_ne (by omega)]) (by rw [wr_ne (by omega), wr_ne (by omega)]) (by rw [wr_ne (by omega), wr_ne (by omega)]) (by rw [wr_ne (by omega), wr_ne (by omega)]) (by rw [wr_ne (by omega), wr_ne (by omega)]) (fun j _ => by rw [wr_at (by omega), wr_ne (by omega)])
theorem miss_1 {M : Mem} {q : Nat} (h : M q 0 = -1) : fS_isMissing q M = some (1, M) := by
  unfold fS_isMissing
  rw [if_pos h]
theorem miss_0 {M : Mem} {q k : Nat} (hk : k < 3) (h : M q 0 = nI k) : fS_isMissing q M = some (0, M) := by
  unfold fS_isMissing
  rw [h, if_neg (nI_m1 (by omega))]
theorem fM_sz {n : Nat} (a : Int32) (x : Int32) (M : Mem) (hn : n ≤ 40) (h : x = nI n) : fM_in a.toInt64 (0 : Int64) ((x - 1).toInt64) M = some (bz (ib a n), M) := by
  refine fM_ib a _ _ n M rfl ?_
  rw [t64, h]
  have e1 : (1 : Int32).toInt = 1 := rfl
  rw [t_sub (by rw [nI_t (by omega)]; omega) (by rw [nI_t (by omega)]; omega), nI_t (by omega), e1]
  omega
theorem op_cell (a b v : Int32) : Op (fN_cell a b v) (fM_cell a b v) := by
  intro M hR
  have hRH := hR.2.2.2.2.2.2.1
  unfold fN_cell fM_cell
  simp only [fN_w4, fM_s4, Option.bind_some, bz_0]
  by_cases g1 : ib a 4
  · rw [if_neg (nn g1), if_pos g1]
    obtain ⟨s, hs, rfl⟩ := ib_ex g1
    rw [ix_nI (by omega)]
    rcases hRH s hs with ⟨h1, h2⟩ | ⟨q, n, h1, h2, h3, h4, h5, h6, h7, h8⟩
    · rw [miss_1 h1]
      exact ⟨-11, M, M, rfl, by rw [if_neg (nn g1), if_pos g1, h2, if_pos rfl], hR⟩
    · rw [miss_0 h1 h3]
      simp only [Option.bind_some, if_true]
      rw [h4, fN_w _ n _ (by omega)]
      simp only [Option.bind_some, bz_0]
      by_cases g2 : ib b n
      · rw [if_neg (nn g2)]
        obtain ⟨i, hi, rfl⟩ := ib_ex g2
        rw [fS_put_eq h1 h2 hi h3 h4]
        simp only [Option.bind_some]
        refine ⟨1, _, _, rfl, ?_, hR.item (i := i) (x := kep q v) hs (by omega)⟩
        have r : ∀ x, x ≠ 78 + 2 * s → wr M (78 + 2 * s) i (kep q v) x = M x := fun x hx => wr_ne hx
        rw [if_neg (nn g1), if_pos g1, r 109 (by omega), h5, if_neg (by decide), if_pos g1, r 111 (by omega), fM_sz _ _ _ h2 h7]
        simp only [Option.bind_some, bz_0]
        rw [if_neg (nn g2), if_pos g1, if_pos g1, r 110 (by omega), h6, show (40 : Int32) * nI s + nI i = nI (40 * s + i) by rw [show (40 : Int32) = nI 40 from rfl, pk_mul, nI_add]]
        unfold fM_cell_b83 kep
        rw [if_pos (ib_nI (by omega) (by omega)), ix_nI (by omega), if_pos (ib_nI (by omega) (by omega)), if_pos (ib_nI (by omega) (by omega))]
        rcases (by omega : q = 0 ∨ q = 1 ∨ q = 2) with rfl | rfl | rfl
        · rw [if_pos (show nI 0 = 0 from rfl), if_pos rfl]
        · rw [if_neg (show ¬ nI 1 = 0 by decide), if_pos (show nI 1 = 1 from rfl), if_neg (by decide), if_pos rfl]
        · rw [if_neg (show ¬ nI 2 = 0 by decide), if_neg (show ¬ nI 2 = 1 by decide), if_neg (by decide), if_neg (by decide)]
      · rw [if_pos g2]
        refine ⟨-12, M, M, rfl, ?_, hR⟩
        rw [if_neg (nn g1), if_pos g1, h5, if_neg (by decide), if_pos g1, fM_sz _ _ _ h2 h7]
        simp only [Option.bind_some, bz_0]
        rw [if_pos g2]
  · exact ⟨-2, M, M, by rw [if_pos g1], by rw [if_pos g1], hR⟩
