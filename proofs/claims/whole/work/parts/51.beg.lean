/-! 51: where to begin; what the stairs are worth -/
/-- the best of rooms, from r on -/
def begF (f : Nat → Int32) : Nat → Nat → Int32 → Int32 → Int32 × Int32
  | 0, _, least, found => (least, found)
  | c + 1, r, least, found => if found = -1 then begF f c (r + 1) (f r) (nI r) else if least ≤ f r then begF f c (r + 1) least found else begF f c (r + 1) (f r) (nI r)
theorem fN_begin_b44_eq {V M : Mem} {tl : Tell} {k : Nat} (vo : VOK V) (hk : k < vM V) (w : Int32) : ∀ (c r z : Nat) (C : Mem) (least found : Int32), r + c = 8 → c < z → (∃ x, ib x 8 ∧ Wd27 (wr V 6 k x) tl M C) → ∃ C', fN_begin_b44 (nI k) w z least found (nI r) C = some (if w = 0 then (begF (fun r => dearS (wr V 6 k (nI r)) tl) c r least found).2 else (begF (fun r => dearS (wr V 6 k (nI r)) tl) c r least found).1, C') ∧ Same M C' ∧ LW C' := by
  have m4 := vo.2.2.1.2
  intro c
  induction c with
  | zero =>
    intro r z C least found hr hz ⟨x, hx, wd⟩
    obtain ⟨z, rfl⟩ := Nat.exists_eq_succ_of_ne_zero (show z ≠ 0 by omega)
    refine ⟨C, ?_, wd.same, wd.lw⟩
    rw [fN_begin_b44, if_pos (by rw [show (8 : Int32) = nI 8 from rfl, n_le (by omega) (by omega)]; omega), begF]
    by_cases hw : w = 0
    · rw [if_pos hw, if_pos hw]
    · rw [if_neg hw, if_neg hw]
  | succ c ih =>
    intro r z C least found hr hz ⟨x, hx, wd⟩
    obtain ⟨z, rfl⟩ := Nat.exists_eq_succ_of_ne_zero (show z ≠ 0 by omega)
    have hc := wd.cells
    have e2 : vM (wr V 6 k x) = vM V := by show ix (wr V 6 k x 0 2) = _; rw [wr_ne (by decide)]
    have wd2 : Wd27 (wr V 6 k (nI r)) tl M (wr C (32 + 2 * k) 2 (nI r)) := by
      refine wd.put (by omega) (by omega) ?_ (vo.maid (q := 2) (by omega) (fun h => absurd h (by omega)) (fun _ => ib_nI (by omega) (by omega)))
      have := view_maid (h := 27) (k := k) (q := 2) (x := nI r) (C := C) (by rw [hc.2.1, e2]; exact hk) (by omega)
      rw [show 27 + 5 + 2 * k = 32 + 2 * k by omega] at this
      rw [this, ← wd.1.2.1, wr_wr]
    obtain ⟨C', d1, d2, wd3, -⟩ := wd2.dear
    rw [fN_begin_b44, if_neg (by rw [show (8 : Int32) = nI 8 from rfl, n_le (by omega) (by omega)]; omega), if_pos (ib_nI (by omega) (by omega)), ix_nI (by omega), d1]
    simp only [Option.bind_some]
    rw [d2]
    simp only [Option.bind_some]
    unfold fN_begin_b99 fN_begin_b106
    rw [begF, nI_1]
    have nx : ∃ x, ib x 8 ∧ Wd27 (wr V 6 k x) tl M C' := ⟨nI r, ib_nI (by omega) (by omega), wd3⟩
    by_cases h1 : found = -1
    · rw [if_pos h1, if_pos h1]
      exact ih (r + 1) z C' _ _ (by omega) (by omega) nx
    · rw [if_neg h1, if_neg h1]
      by_cases h2 : least ≤ dearS (wr V 6 k (nI r)) tl
      · rw [if_pos h2, if_pos h2]
        exact ih (r + 1) z C' _ _ (by omega) (by omega) nx
      · rw [if_neg h2, if_neg h2]
        exact ih (r + 1) z C' _ _ (by omega) (by omega) nx
/-- what the model leaves alone while it tries row y -/
def KeepY (y : Nat) (M N : Mem) : Prop := (∀ a, a ≠ 85 → a ≠ y → (a < 97 ∨ 104 < a) → N a = M a) ∧ ∀ j, (j < 21 ∨ (36 ≤ j ∧ j ≠ 43 ∧ j ≠ 44 ∧ j ≠ 132)) → N 85 j = M 85 j
theorem KeepY.trans {y : Nat} {M N O : Mem} (a : KeepY y M N) (b : KeepY y N O) : KeepY y M O := ⟨fun x h1 h2 h3 => (b.1 x h1 h2 h3).trans (a.1 x h1 h2 h3), fun j h => (b.2 j h).trans (a.2 j h)⟩
theorem KeepL.y {y : Nat} {M N : Mem} (a : KeepL M N) : KeepY y M N := ⟨fun x h1 _ h3 => a.1 x h1 h3, a.2⟩
theorem KeepY.put {y j : Nat} {M : Mem} {v : Int32} (hy : y ≠ 85) : KeepY y M (wr M y j v) := ⟨fun x _ h2 _ => wr_ne h2, fun j _ => by rw [wr_ne hy.symm]⟩
theorem KeepY.rfl' {y : Nat} {M : Mem} : KeepY y M M := ⟨fun _ _ _ _ => rfl, fun _ _ => rfl⟩
theorem KeepY.l {y : Nat} {M N : Mem} (a : KeepY y M N) (h : N y = M y) : KeepL M N := ⟨fun x h1 h3 => by
  by_cases e : x = y
  · rw [e]; exact h
  · exact a.1 x h1 e h3, a.2⟩
theorem fM_begin_b37_eq {V M0 : Mem} {tl : Tell} {k : Nat} (vo : VOK V) (hk : k < vM V) (mv : MV V 4 M0) (vm : VMo (M0 85 4) tl (M0 86) (M0 87)) (w : Int32) : ∀ (c r z : Nat) (D : Mem) (least found : Int32), r + c = 8 → c < z → (∃ x, ib x 8 ∧ KeepY 94 M0 D ∧ D 94 = stS (M0 94) k x) → ∃ D', fM_begin_b37 (nI k) w (M0 94 k) z found least (nI r) D = some (if w = 0 then (begF (fun r => dearS (wr V 6 k (nI r)) tl) c r least found).2 else (begF (fun r => dearS (wr V 6 k (nI r)) tl) c r least found).1, D') ∧ KeepL M0 D' := by
  have m4 := vo.2.2.1.2
  intro c
  induction c with
  | zero =>
    intro r z D least found hr hz ⟨x, hx, ky, e94⟩
    obtain ⟨z, rfl⟩ := Nat.exists_eq_succ_of_ne_zero (show z ≠ 0 by omega)
    refine ⟨wr D 94 k (M0 94 k), ?_, (ky.trans (KeepY.put (by decide))).l ?_⟩
    · rw [fM_begin_b37, if_pos (by rw [show (8 : Int32) = nI 8 from rfl, n_le (by omega) (by omega)]; omega), begF, if_pos (ib_nI (by omega) (by omega)), ix_nI (by omega)]
      by_cases hw : w = 0
      · rw [if_pos hw, if_pos hw]
      · rw [if_neg hw, if_neg hw]
    · rw [wr_stS, e94]
      funext j
      unfold stS
      by_cases hj : j = k
      · rw [if_pos hj, hj]
      · rw [if_neg hj, if_neg hj]
  | succ c ih =>
    intro r z D least found hr hz ⟨x, hx, ky, e94⟩
    obtain ⟨z, rfl⟩ := Nat.exists_eq_succ_of_ne_zero (show z ≠ 0 by omega)
    have d94 : wr D 94 k (nI r) 94 = stS (M0 94) k (nI r) := by
      rw [wr_stS, e94]
      funext j
      unfold stS
      by_cases hj : j = k
      · rw [if_pos hj, if_pos hj]
      · rw [if_neg hj, if_neg hj, if_neg hj]
    have ky2 : KeepY 94 M0 (wr D 94 k (nI r)) := ky.trans (KeepY.put (by decide))
    have mo : MO0 (wr V 6 k (nI r)) 4 tl (wr D 94 k (nI r)) := by
      refine ⟨vo.maid (q := 2) (by omega) (fun h => absurd h (by omega)) (fun _ => ib_nI (by omega) (by omega)), ?_, by rw [ky2.2 4 (by omega), ky2.1 86 (by omega) (by omega) (by omega), ky2.1 87 (by omega) (by omega) (by omega)]; exact vm⟩
      have mv2 := mv.maid (q := 2) (k := k) (x := nI r) (by omega) (by omega) m4
      have e : ∀ a, a ≠ 85 → (a < 97 ∨ 104 < a) → wr D 94 k (nI r) a = wr M0 94 k (nI r) a := fun a h1 h2 => by
        by_cases h : a = 94
        · rw [h, d94, wr_stS]
        · rw [ky2.1 a h1 h h2, wr_ne h]
      unfold MV at mv2 ⊢
      rw [ky2.2 7 (by omega), ky2.2 11 (by omega), ky2.2 17 (by omega), ky2.2 18 (by omega), e 89 (by omega) (by omega), e 90 (by omega) (by omega), e 91 (by omega) (by omega), e 92 (by omega) (by omega), e 93 (by omega) (by omega), e 94 (by omega) (by omega), e 95 (by omega) (by omega), e 96 (by omega) (by omega)]
      rw [show 92 + 2 = 94 from rfl, show 4 + 2 = 6 from rfl, wr_ne (show 85 ≠ 94 by decide)] at mv2
      exact mv2
    obtain ⟨D', d1, kl, -⟩ := fM_dear_eq mo
    rw [fM_begin_b37, if_neg (by rw [show (8 : Int32) = nI 8 from rfl, n_le (by omega) (by omega)]; omega), if_pos (ib_nI (by omega) (by omega)), ix_nI (by omega), d1]
    simp only [Option.bind_some]
    unfold fM_begin_b71 fM_begin_b79
    rw [begF, nI_1]
    have nx : ∃ x, ib x 8 ∧ KeepY 94 M0 D' ∧ D' 94 = stS (M0 94) k x := ⟨nI r, ib_nI (by omega) (by omega), ky2.trans kl.y, by rw [kl.1 94 (by omega) (by omega), d94]⟩
    by_cases h1 : found = -1
    · rw [if_pos h1, if_pos h1]
      exact ih (r + 1) z D' _ _ (by omega) (by omega) nx
    · rw [if_neg h1, if_neg h1]
      by_cases h2 : least ≤ dearS (wr V 6 k (nI r)) tl
      · rw [if_pos h2, if_pos h2]
        exact ih (r + 1) z D' _ _ (by omega) (by omega) nx
      · rw [if_neg h2, if_neg h2]
        exact ih (r + 1) z D' _ _ (by omega) (by omega) nx
theorem stS_self (S : Stk) (k : Nat) : S = stS S k (S k) := by
  funext j
  unfold stS
  by_cases h : j = k
  · rw [if_pos h, h]
  · rw [if_neg h]
theorem op_begin (a w : Int32) : Op (fN_begin a w) (fM_begin a w) := by
  intro M hR
  obtain ⟨m, m1, m2, m3, m4⟩ := hR.2.2.2.1
  unfold fN_begin fM_begin
  simp only [m2, fN_w _ m _ (show m < 2147483648 by omega), fN_w2, fM_i2, Option.bind_some, bz_0]
  by_cases g1 : ib a m
  · rw [if_neg (nn g1)]
    by_cases g2 : ib w 2
    · rw [if_neg (nn g2)]
      obtain ⟨k, hk, rfl⟩ := ib_ex g1
      obtain ⟨tl, C0, e1, wd, mo, vo, -, -⟩ := hR.would
      have evm : vM (viewC 1 M) = m := by
        show ix (M 1 2) = m
        rw [m2, ix_nI (by omega)]
      rw [e1]
      simp only [Option.bind_some]
      have hkv : k < vM (viewC 1 M) := by rw [evm]; exact hk
      obtain ⟨C, e2, sC, lC⟩ := fN_begin_b44_eq vo hkv w 8 0 1000 C0 0 (-1) (by omega) (by omega) ⟨viewC 1 M 6 k, (vo.2.2.2 k hkv).2.1, by rw [wr_self]; exact wd⟩
      rw [show fN_begin_b44 (nI k) w 1000 0 (-1) 0 C0 = _ from e2]
      have hRC := hR.same sC lC
      -- the model sees what it saw
      have s85 : ∀ j, (j < 20 ∨ (51 ≤ j ∧ j ≤ 54)) → C 85 j = M 85 j := sC.2.2.2.2
      have sx : ∀ x, 86 ≤ x → x < 97 → C x = M x := fun x h1 h2 => sC.1 x (by omega)
      have moC : MV (viewC 1 M) 4 C ∧ VMo (C 85 4) tl (C 86) (C 87) := by
        refine ⟨?_, by rw [s85 4 (by omega), sx 86 (by omega) (by omega), sx 87 (by omega) (by omega)]; exact mo.2.2⟩
        have := mo.2.1
        unfold MV at this ⊢
        rw [s85 7 (by omega), s85 11 (by omega), s85 17 (by omega), s85 18 (by omega), sx 89 (by omega) (by omega), sx 90 (by omega) (by omega), sx 91 (by omega) (by omega), sx 92 (by omega) (by omega), sx 93 (by omega) (by omega), sx 94 (by omega) (by omega), sx 95 (by omega) (by omega), sx 96 (by omega) (by omega)]
        exact this
      obtain ⟨D, e3, kD⟩ := fM_begin_b37_eq vo hkv moC.1 moC.2 w 8 0 1000 C (nI 0) (-1) (by omega) (by omega) ⟨C 94 k, by
        rw [sx 94 (by omega) (by omega), (m4 k hk).2.2.1.2]
        exact (m4 k hk).2.2.1.1, KeepY.rfl', stS_self _ _⟩
      refine ⟨_, C, D, rfl, ?_, hRC.same kD.s (kD.lw lC)⟩
      rw [fM_mm _ _ m1 (by rw [s85 17 (by omega)]; exact m3)]
      simp only [Option.bind_some, bz_0]
      rw [if_neg (nn g1), if_neg (nn g2), if_pos (ib_mono g1 m1), ix_nI (by omega)]
      exact e3
    · refine ⟨-2, M, M, by rw [if_pos g2], ?_, hR⟩
      rw [fM_mm _ _ m1 m3]
      simp only [Option.bind_some, bz_0]
      rw [if_neg (nn g1), if_pos g2]
  · refine ⟨-2, M, M, by rw [if_pos g1], ?_, hR⟩
    rw [fM_mm _ _ m1 m3]
    simp only [Option.bind_some, bz_0]
    rw [if_pos g1]
/-- the model goes on from what the class left -/
theorem MO0.cl {V M C : Mem} {tl : Tell} (mo : MO0 V 4 tl M) (s : Same M C) : MO0 V 4 tl C := by
  have s85 := s.2.2.2.2
  have sx : ∀ x, 86 ≤ x → x < 97 → C x = M x := fun x h1 h2 => s.1 x (by omega)
  refine ⟨mo.1, ?_, by rw [s85 4 (by omega), sx 86 (by omega) (by omega), sx 87 (by omega) (by omega)]; exact mo.2.2⟩
  have := mo.2.1
  unfold MV at this ⊢
  rw [s85 7 (by omega), s85 11 (by omega), s85 17 (by omega), s85 18 (by omega), sx 89 (by omega) (by omega), sx 90 (by omega) (by omega), sx 91 (by omega) (by omega), sx 92 (by omega) (by omega), sx 93 (by omega) (by omega), sx 94 (by omega) (by omega), sx 95 (by omega) (by omega), sx 96 (by omega) (by omega)]
  exact this
theorem op_stairs : Op fN_stairs fM_stairs := by
  intro M hR
  obtain ⟨s, s1, s2, s3⟩ := hR.1
  obtain ⟨tl, C0, e1, wd, mo, vo, -, -⟩ := hR.would
  have vo0 := vo.stairs (s := 0) (by omega)
  have vo3 := vo.stairs (s := 3) (by omega)
  have w0 : Wd27 (wr (viewC 1 M) 0 0 (nI 0)) tl M (wr C0 27 0 0) := wd.put (by omega) (by omega) (by rw [view_stairs, ← wd.1.2.1]; rfl) vo0
  obtain ⟨C1, c1, c2, w1, -⟩ := w0.dear
  have w2 : Wd27 (wr (viewC 1 M) 0 0 (nI 3)) tl M (wr C1 27 0 3) := w1.put (by omega) (by omega) (by rw [view_stairs, ← w1.1.2.1, wr_wr]; rfl) vo3
  obtain ⟨C2, c3, c4, w3, -⟩ := w2.dear
  have moC := mo.cl w3.same
  have mv := moC.2.1
  have m0 : MO0 (wr (viewC 1 M) 0 0 (nI 0)) 4 tl (wr C2 85 7 0) := ⟨vo0, mv.stairs (s := 0) (by omega), by rw [wr_at (by decide), wr_ne (by decide), wr_ne (by decide)]; exact moC.2.2⟩
  obtain ⟨D1, d1, k1, -⟩ := fM_dear_eq m0
  have k1' : KeepL (wr C2 85 7 0) D1 := k1
  have m3 : MO0 (wr (viewC 1 M) 0 0 (nI 3)) 4 tl (wr D1 85 7 3) := by
    have h := (m0.keepL k1).2.1.stairs (s := 3) (by omega)
    rw [wr_wr] at h
    exact ⟨vo3, h, by rw [wr_at (by decide), wr_ne (by decide), wr_ne (by decide)]; exact (m0.keepL k1).2.2⟩
  obtain ⟨D2, d2, k2, -⟩ := fM_dear_eq m3
  unfold fN_stairs fM_stairs
  rw [e1]
  simp only [Option.bind_some]
  rw [c1]
  simp only [Option.bind_some]
  rw [c2]
  simp only [Option.bind_some]
  rw [c3]
  simp only [Option.bind_some]
  rw [c4]
  simp only [Option.bind_some]
  have kf : KeepL C2 (wr D2 85 7 (C2 85 7)) := by
    refine ⟨fun a h1 h2 => ?_, fun j hj => ?_⟩
    · rw [wr_ne h1, k2.1 a h1 h2, wr_ne h1, k1.1 a h1 h2, wr_ne h1]
    · by_cases h7 : j = 7
      · rw [h7, wr_same]
      · rw [wr_at h7, k2.2 j hj, wr_at h7, k1.2 j hj, wr_at h7]
  refine ⟨_, C2, wr D2 85 7 (C2 85 7), rfl, ?_, (hR.same w3.same w3.lw).same kf.s (kf.lw w3.lw)⟩
  rw [d1]
  simp only [Option.bind_some]
  rw [d2]
  rfl
