/-! 43: maids, lists -/
theorem hR_intro {M : Mem} (h1 : RS M) (h2 : RTY M) (h3 : RW M) (h4 : RM M) (h5 : RX M) (h6 : RP M) (h7 : RH M) (h8 : RK M) (h9 : RA M) : Rel M := ⟨h1, h2, h3, h4, h5, h6, h7, h8, h9⟩
def mOK (a b c : Int32) : Prop := ib a 6 ∧ ib b 10 ∧ ib c 8
def mcC (m : Nat) (a b c : Int32) (M : Mem) : Mem := wr (wr (wr (wr (wr M (6 + 2 * m) 0 a) (6 + 2 * m) 1 b) (6 + 2 * m) 2 c) (6 + 2 * m) 3 0) 1 2 (nI (m + 1))
def mcM (m : Nat) (a b c : Int32) (M : Mem) : Mem := wr (wr (wr (wr (wr M 92 m a) 93 m b) 94 m c) 96 m 0) 85 17 (nI (m + 1))
theorem fN_maid_ok {m : Nat} {a b c : Int32} {M : Mem} (h : mOK a b c) (hm : m < 4) (e : M 1 2 = nI m) : fN_maid a b c M = some (nI m, mcC m a b c M) := by
  unfold fN_maid fA_arrive
  simp only [fN_w6, fN_w8, fN_w10, Option.bind_some, bz_0]
  rw [if_neg (nn h.1), if_neg (nn h.2.1), if_neg (nn h.2.2), e, if_pos (by rw [show (4 : Int32) = nI 4 from rfl, n_lt (by omega) (by omega)]; omega), if_pos (ib_nI (by omega) (by omega)), ix_nI (by omega)]
  rw [wr_ne (show 1 ≠ 6 + 2 * m by omega), wr_ne (show 1 ≠ 6 + 2 * m by omega), wr_ne (show 1 ≠ 6 + 2 * m by omega), wr_ne (show 1 ≠ 6 + 2 * m by omega), e, nI_1, wr_same, nI_pd (by omega), Nat.add_sub_cancel]
  rfl
theorem fN_maid_full {a b c : Int32} {M : Mem} (h : mOK a b c) (e : M 1 2 = nI 4) : fN_maid a b c M = some (-4, M) := by
  unfold fN_maid
  simp only [fN_w6, fN_w8, fN_w10, Option.bind_some, bz_0]
  rw [if_neg (nn h.1), if_neg (nn h.2.1), if_neg (nn h.2.2), e, if_neg (by decide)]
theorem fN_maid_bad {a b c : Int32} {M : Mem} (h : ¬ mOK a b c) : fN_maid a b c M = some (-2, M) := by
  unfold fN_maid
  simp only [fN_w6, fN_w8, fN_w10, Option.bind_some, bz_0]
  by_cases h1 : ib a 6
  · rw [if_neg (nn h1)]
    by_cases h2 : ib b 10
    · rw [if_neg (nn h2), if_pos (fun h3 => h ⟨h1, h2, h3⟩)]
    · rw [if_pos h2]
  · rw [if_pos h1]
theorem fM_maid_ok {m : Nat} {a b c : Int32} {M : Mem} (h : mOK a b c) (hm : m < 4) (e : M 85 17 = nI m) : fM_maid a b c M = some (nI m, mcM m a b c M) := by
  unfold fM_maid
  simp only [fM_i6, fM_r8, fM_i10, Option.bind_some, bz_0]
  have g4 : ib (nI m) 4 := ib_nI hm (by omega)
  have w85 : ∀ (N : Mem) (k j : Nat) (x : Int32), k ≠ 85 → wr N k j x 85 = N 85 := fun N k j x hk => wr_ne hk.symm
  rw [if_neg (nn h.1), if_neg (nn h.2.1), if_neg (nn h.2.2)]
  simp only [w85 _ 92 _ _ (by decide), w85 _ 93 _ _ (by decide), w85 _ 94 _ _ (by decide), w85 _ 96 _ _ (by decide), e]
  rw [if_neg (by rw [show (4 : Int32) = nI 4 from rfl, n_eq (by omega) (by omega)]; omega), if_pos g4, if_pos g4, if_pos g4, if_pos g4, ix_nI (by omega), nI_1, wr_same, nI_pd (by omega), Nat.add_sub_cancel]
  rfl
theorem fM_maid_full {a b c : Int32} {M : Mem} (h : mOK a b c) (e : M 85 17 = nI 4) : fM_maid a b c M = some (-4, M) := by
  unfold fM_maid
  simp only [fM_i6, fM_r8, fM_i10, Option.bind_some, bz_0]
  rw [if_neg (nn h.1), if_neg (nn h.2.1), if_neg (nn h.2.2), e, if_pos (by decide)]
theorem fM_maid_bad {a b c : Int32} {M : Mem} (h : ¬ mOK a b c) : fM_maid a b c M = some (-2, M) := by
  unfold fM_maid
  simp only [fM_i6, fM_r8, fM_i10, Option.bind_some, bz_0]
  by_cases h1 : ib a 6
  · rw [if_neg (nn h1)]
    by_cases h2 : ib b 10
    · rw [if_neg (nn h2), if_pos (fun h3 => h ⟨h1, h2, h3⟩)]
    · rw [if_pos h2]
  · rw [if_pos h1]
theorem MD.at {M N : Mem} {k : Nat} (h : MD M k) (a : N (6 + 2 * k) = M (6 + 2 * k)) (b : N (7 + 2 * k) = M (7 + 2 * k)) (c : N 92 k = M 92 k) (d : N 93 k = M 93 k) (e : N 94 k = M 94 k) (f : ∀ i, i < 5 → N 95 (5 * k + i) = M 95 (5 * k + i)) (g : N 96 k = M 96 k) : MD N k := by
  unfold MD
  rw [a, b, c, d, e, g]
  obtain ⟨h1, h2, h3, l, h4, h5, h6, h7⟩ := h
  exact ⟨h1, h2, h3, l, h4, h5, h6, fun i hi => ⟨(h7 i hi).1, (f i (by omega)).trans (h7 i hi).2⟩⟩
theorem Rel.maid {m : Nat} {a b c : Int32} {M : Mem} (hR : Rel M) (h : mOK a b c) (hm : m < 4) (e : M 1 2 = nI m) : Rel (mcM m a b c (mcC m a b c M)) := by
  obtain ⟨h1, h2, h3, ⟨m', m1, m2, m3, m4⟩, h5, h6, h7, h8, h9⟩ := hR
  have : m' = m := by rw [m2, n_eq (by omega) (by omega)] at e; exact e
  subst this
  have c85 : ∀ j, j ≠ 17 → mcM m' a b c (mcC m' a b c M) 85 j = M 85 j := fun j hj => by
    unfold mcM mcC
    rw [wr_at hj, wr_ne (by omega), wr_ne (by omega), wr_ne (by omega), wr_ne (by omega), wr_ne (by omega), wr_ne (by omega), wr_ne (by omega), wr_ne (by omega), wr_ne (by omega)]
  have cc : ∀ x, x ≠ 85 → (x < 92 ∨ 94 < x) → x ≠ 96 → x ≠ 1 → x ≠ 6 + 2 * m' → mcM m' a b c (mcC m' a b c M) x = M x := fun x q1 q2 q3 q4 q5 => by
    unfold mcM mcC
    rw [wr_ne (by omega), wr_ne (by omega), wr_ne (by omega), wr_ne (by omega), wr_ne (by omega), wr_ne (by omega), wr_ne (by omega), wr_ne (by omega), wr_ne (by omega), wr_ne (by omega)]
  have c1 : ∀ j, j ≠ 2 → mcM m' a b c (mcC m' a b c M) 1 j = M 1 j := fun j hj => by
    unfold mcM mcC
    rw [wr_ne (by omega), wr_ne (by omega), wr_ne (by omega), wr_ne (by omega), wr_ne (by omega), wr_at hj, wr_ne (by omega), wr_ne (by omega), wr_ne (by omega), wr_ne (by omega)]
  have c92 : mcM m' a b c (mcC m' a b c M) 92 = stS (M 92) m' a := by
    unfold mcM mcC
    rw [wr_ne (by omega), wr_ne (by omega), wr_ne (by omega), wr_ne (by omega), wr_stS, wr_ne (by omega), wr_ne (by omega), wr_ne (by omega), wr_ne (by omega), wr_ne (by omega)]
  have c93 : mcM m' a b c (mcC m' a b c M) 93 = stS (M 93) m' b := by
    unfold mcM mcC
    rw [wr_ne (by omega), wr_ne (by omega), wr_ne (by omega), wr_stS, wr_ne (by omega), wr_ne (by omega), wr_ne (by omega), wr_ne (by omega), wr_ne (by omega), wr_ne (by omega)]
  have c94 : mcM m' a b c (mcC m' a b c M) 94 = stS (M 94) m' c := by
    unfold mcM mcC
    rw [wr_ne (by omega), wr_ne (by omega), wr_stS, wr_ne (by omega), wr_ne (by omega), wr_ne (by omega), wr_ne (by omega), wr_ne (by omega), wr_ne (by omega), wr_ne (by omega)]
  have c96 : mcM m' a b c (mcC m' a b c M) 96 = stS (M 96) m' 0 := by
    unfold mcM mcC
    rw [wr_ne (by omega), wr_stS, wr_ne (by omega), wr_ne (by omega), wr_ne (by omega), wr_ne (by omega), wr_ne (by omega), wr_ne (by omega), wr_ne (by omega), wr_ne (by omega)]
  have c12 : mcM m' a b c (mcC m' a b c M) 1 2 = nI (m' + 1) := by
    unfold mcM mcC
    rw [wr_ne (by omega), wr_ne (by omega), wr_ne (by omega), wr_ne (by omega), wr_ne (by omega), wr_same]
  have c17 : mcM m' a b c (mcC m' a b c M) 85 17 = nI (m' + 1) := by
    unfold mcM
    rw [wr_same]
  have c6 : ∀ j, mcM m' a b c (mcC m' a b c M) (6 + 2 * m') j = if j = 3 then 0 else if j = 2 then c else if j = 1 then b else if j = 0 then a else M (6 + 2 * m') j := fun j => by
    unfold mcM mcC
    rw [wr_ne (by omega), wr_ne (by omega), wr_ne (by omega), wr_ne (by omega), wr_ne (by omega), wr_ne (by omega), wr_stS, wr_stS, wr_stS, wr_stS]
    rfl
  generalize mcM m' a b c (mcC m' a b c M) = N at *
  refine hR_intro (h1.same (c1 0 (by omega)) (c85 7 (by omega))) (h2.same (c1 1 (by omega)) (c85 11 (by omega)) (cc 2 (by omega) (by omega) (by omega) (by omega) (by omega)) (cc 3 (by omega) (by omega) (by omega) (by omega) (by omega)) (cc 90 (by omega) (by omega) (by omega) (by omega) (by omega)) (cc 91 (by omega) (by omega) (by omega) (by omega) (by omega))) (h3.same (cc 4 (by omega) (by omega) (by omega) (by omega) (by omega)) (cc 89 (by omega) (by omega) (by omega) (by omega) (by omega))) ⟨m' + 1, by omega, c12, c17, fun k hk => ?_⟩ (h5.same (by rw [cc 0 (by omega) (by omega) (by omega) (by omega) (by omega)]) (c85 3 (by omega)) (c1 3 (by omega)) (c85 4 (by omega)) (fun x q1 q2 => cc x (by omega) (by omega) (by omega) (by omega) (by omega)) (cc 86 (by omega) (by omega) (by omega) (by omega) (by omega)) (cc 87 (by omega) (by omega) (by omega) (by omega) (by omega))) (h6.same (by rw [cc 40 (by omega) (by omega) (by omega) (by omega) (by omega)]) (c85 6 (by omega)) (cc 41 (by omega) (by omega) (by omega) (by omega) (by omega)) (cc 88 (by omega) (by omega) (by omega) (by omega) (by omega))) (h7.same (fun x q1 q2 => cc x (by omega) (by omega) (by omega) (by omega) (by omega)) (cc 109 (by omega) (by omega) (by omega) (by omega) (by omega)) (cc 110 (by omega) (by omega) (by omega) (by omega) (by omega)) (cc 111 (by omega) (by omega) (by omega) (by omega) (by omega)) (cc 112 (by omega) (by omega) (by omega) (by omega) (by omega))) (h8.same (by rw [cc 0 (by omega) (by omega) (by omega) (by omega) (by omega)]) (fun x q1 q2 => cc x (by omega) (by omega) (by omega) (by omega) (by omega)) (fun j q1 q2 => c85 j (by omega)) (cc 107 (by omega) (by omega) (by omega) (by omega) (by omega)) (cc 108 (by omega) (by omega) (by omega) (by omega) (by omega)) (fun k q1 q2 => ?_) ?_ ?_) (h9.same (c85 18 (by omega)) (h9.2.same (by rw [cc 46 (by omega) (by omega) (by omega) (by omega) (by omega)]) (cc 47 (by omega) (by omega) (by omega) (by omega) (by omega))))
  · by_cases hkm : k = m'
    · subst hkm
      unfold MD
      rw [c6, c6, c6, c6, c92, c93, c94, c96, if_neg (by decide), if_neg (by decide), if_neg (by decide), if_pos rfl, if_neg (by decide), if_neg (by decide), if_pos rfl, if_neg (by decide), if_pos rfl, if_pos rfl]
      unfold stS
      rw [if_pos rfl, if_pos rfl, if_pos rfl, if_pos rfl]
      exact ⟨⟨h.1, rfl⟩, ⟨h.2.1, rfl⟩, ⟨h.2.2, rfl⟩, 0, by omega, rfl, rfl, fun i hi => absurd hi (by omega)⟩
    · refine (m4 k (by omega)).at (cc _ (by omega) (by omega) (by omega) (by omega) (by omega)) (cc _ (by omega) (by omega) (by omega) (by omega) (by omega)) (by rw [c92, stS, if_neg hkm]) (by rw [c93, stS, if_neg hkm]) (by rw [c94, stS, if_neg hkm]) (fun i _ => by rw [cc 95 (by omega) (by omega) (by omega) (by omega) (by omega)]) (by rw [c96, stS, if_neg hkm])
  · rw [m2, ix_nI (by omega)] at q1
    rw [c92, stS, if_neg (by omega)]
  · rw [m2, c12, ix_nI (by omega), ix_nI (by omega)]; omega
  · rw [cc 0 (by omega) (by omega) (by omega) (by omega) (by omega)]; exact Nat.le_refl _
theorem op_maid (a b c : Int32) : Op (fN_maid a b c) (fM_maid a b c) := by
  intro M hR
  obtain ⟨m, m1, m2, m3, m4⟩ := hR.2.2.2.1
  by_cases h : mOK a b c
  · by_cases h4 : m = 4
    · subst h4
      exact ⟨-4, M, M, fN_maid_full h m2, fM_maid_full h m3, hR⟩
    · refine ⟨nI m, _, _, fN_maid_ok h (by omega) m2, fM_maid_ok h (by omega) ?_, hR.maid h (by omega) m2⟩
      unfold mcC
      rw [wr_ne (by omega), wr_ne (by omega), wr_ne (by omega), wr_ne (by omega), wr_ne (by omega)]
      exact m3
  · exact ⟨-2, M, M, fN_maid_bad h, fM_maid_bad h, hR⟩
theorem op_list (a b : Int32) : Op (fN_list a b) (fM_list a b) := by
  intro M hR
  obtain ⟨h1, h2, h3, ⟨m, m1, m2, m3, m4⟩, h5, h6, h7, h8, h9⟩ := hR
  have hR := hR_intro h1 h2 h3 ⟨m, m1, m2, m3, m4⟩ h5 h6 h7 h8 h9
  unfold fN_list fM_list
  simp only [m2, fN_w _ m _ (show m < 2147483648 by omega), fN_w8, Option.bind_some, bz_0]
  by_cases g1 : ib a m
  · rw [if_neg (nn g1)]
    have g4 : ib a 4 := ib_mono g1 m1
    by_cases g2 : ib b 8
    · rw [if_neg (nn g2), if_pos g4]
      have ea := of_ib g1
      obtain ⟨k, hk⟩ : ∃ k, k = ix a := ⟨_, rfl⟩
      rw [← hk]
      obtain ⟨d1, d2, d3, l, l1, l2, l3, l4⟩ := m4 k (by omega)
      rw [l2]
      by_cases h55 : l = 5
      · subst h55
        refine ⟨-4, M, M, by rw [if_neg (by decide)], ?_, hR⟩
        rw [fM_mm a M m1 m3]
        simp only [Option.bind_some, bz_0, fM_r8]
        rw [if_neg (nn g1), if_neg (nn g2), if_pos g4, l3, if_pos (by decide)]
      · rw [if_pos (by rw [show (5 : Int32) = nI 5 from rfl, n_lt (by omega) (by omega)]; omega), if_pos (ib_nI (by omega) (by omega)), ix_nI (by omega), wr_ne (show 6 + 2 * k ≠ 6 + 2 * k + 1 by omega), l2, nI_1, wr_same]
        generalize hC : wr (wr M (6 + 2 * k + 1) l b) (6 + 2 * k) 3 (nI (l + 1)) = C
        have cC : ∀ x, x ≠ 6 + 2 * k → x ≠ 7 + 2 * k → C x = M x := fun x q1 q2 => by rw [← hC, wr_ne q1, wr_ne (by omega)]
        refine ⟨nI (l + 1), C, wr (wr C 95 (5 * k + l) b) 96 k (nI (l + 1)), rfl, ?_, ?_⟩
        · rw [fM_mm a C m1 (by rw [cC 85 (by omega) (by omega)]; exact m3)]
          simp only [Option.bind_some, bz_0, fM_r8]
          rw [if_neg (nn g1), if_neg (nn g2), if_pos g4, if_pos g4, if_pos g4, if_pos g4, if_pos g4, cC 96 (by omega) (by omega), l3, if_neg (by rw [show (5 : Int32) = nI 5 from rfl, n_eq (by omega) (by omega)]; exact h55)]
          have e5 : (5 : Int32) * a + nI l = nI (5 * k + l) := by rw [ea.1, ← hk, show (5 : Int32) = nI 5 from rfl, pk_mul, nI_add]
          rw [e5, if_pos (ib_nI (by omega) (by omega)), ix_nI (by omega), wr_ne (show 96 ≠ 95 by decide), cC 96 (by omega) (by omega), l3, nI_1, wr_same]
        · have cN : ∀ x, x ≠ 6 + 2 * k → x ≠ 7 + 2 * k → x ≠ 95 → x ≠ 96 → wr (wr C 95 (5 * k + l) b) 96 k (nI (l + 1)) x = M x := fun x q1 q2 q3 q4 => by rw [wr_ne q4, wr_ne q3, cC x q1 q2]
          have c95 : wr (wr C 95 (5 * k + l) b) 96 k (nI (l + 1)) 95 = stS (M 95) (5 * k + l) b := by rw [wr_ne (by decide), wr_stS, cC 95 (by omega) (by omega)]
          have c96 : wr (wr C 95 (5 * k + l) b) 96 k (nI (l + 1)) 96 = stS (M 96) k (nI (l + 1)) := by rw [wr_stS, wr_ne (by decide), cC 96 (by omega) (by omega)]
          have c6 : wr (wr C 95 (5 * k + l) b) 96 k (nI (l + 1)) (6 + 2 * k) = stS (M (6 + 2 * k)) 3 (nI (l + 1)) := by rw [wr_ne (by omega), wr_ne (by omega), ← hC, wr_stS, wr_ne (by omega)]
          have c7 : wr (wr C 95 (5 * k + l) b) 96 k (nI (l + 1)) (7 + 2 * k) = stS (M (7 + 2 * k)) l b := by rw [wr_ne (by omega), wr_ne (by omega), ← hC, wr_ne (by omega), show 6 + 2 * k + 1 = 7 + 2 * k by omega, wr_stS]
          generalize wr (wr C 95 (5 * k + l) b) 96 k (nI (l + 1)) = N at *
          have s0 : ∀ x, (x < 6 ∨ 14 ≤ x) → x ≠ 95 → x ≠ 96 → N x = M x := fun x q1 q2 q3 => cN x (by omega) (by omega) q2 q3
          refine hR_intro (h1.same (by rw [s0 1 (by omega) (by omega) (by omega)]) (by rw [s0 85 (by omega) (by omega) (by omega)])) (h2.same (by rw [s0 1 (by omega) (by omega) (by omega)]) (by rw [s0 85 (by omega) (by omega) (by omega)]) (s0 2 (by omega) (by omega) (by omega)) (s0 3 (by omega) (by omega) (by omega)) (s0 90 (by omega) (by omega) (by omega)) (s0 91 (by omega) (by omega) (by omega))) (h3.same (s0 4 (by omega) (by omega) (by omega)) (s0 89 (by omega) (by omega) (by omega))) ⟨m, m1, by rw [s0 1 (by omega) (by omega) (by omega)]; exact m2, by rw [s0 85 (by omega) (by omega) (by omega)]; exact m3, fun q hq => ?_⟩ (h5.same (by rw [s0 0 (by omega) (by omega) (by omega)]) (by rw [s0 85 (by omega) (by omega) (by omega)]) (by rw [s0 1 (by omega) (by omega) (by omega)]) (by rw [s0 85 (by omega) (by omega) (by omega)]) (fun x q1 q2 => s0 x (by omega) (by omega) (by omega)) (s0 86 (by omega) (by omega) (by omega)) (s0 87 (by omega) (by omega) (by omega))) (h6.same (by rw [s0 40 (by omega) (by omega) (by omega)]) (by rw [s0 85 (by omega) (by omega) (by omega)]) (s0 41 (by omega) (by omega) (by omega)) (s0 88 (by omega) (by omega) (by omega))) (h7.same (fun x q1 q2 => s0 x (by omega) (by omega) (by omega)) (s0 109 (by omega) (by omega) (by omega)) (s0 110 (by omega) (by omega) (by omega)) (s0 111 (by omega) (by omega) (by omega)) (s0 112 (by omega) (by omega) (by omega))) (h8.same (by rw [s0 0 (by omega) (by omega) (by omega)]) (fun x q1 q2 => s0 x (by omega) (by omega) (by omega)) (fun j q1 q2 => by rw [s0 85 (by omega) (by omega) (by omega)]) (s0 107 (by omega) (by omega) (by omega)) (s0 108 (by omega) (by omega) (by omega)) (fun k q1 q2 => by rw [s0 92 (by omega) (by omega) (by omega)]) (by rw [s0 1 (by omega) (by omega) (by omega)]; exact Nat.le_refl _) (by rw [s0 0 (by omega) (by omega) (by omega)]; exact Nat.le_refl _)) (h9.same (by rw [s0 85 (by omega) (by omega) (by omega)]) (h9.2.same (by rw [s0 46 (by omega) (by omega) (by omega)]) (s0 47 (by omega) (by omega) (by omega))))
          by_cases hqk : q = k
          · subst hqk
            refine ⟨?_, ?_, ?_, l + 1, by omega, ?_, ?_, fun i hi => ?_⟩
            · rw [c6, s0 92 (by omega) (by omega) (by omega), stS, if_neg (by decide)]; exact d1
            · rw [c6, s0 93 (by omega) (by omega) (by omega), stS, if_neg (by decide)]; exact d2
            · rw [c6, s0 94 (by omega) (by omega) (by omega), stS, if_neg (by decide)]; exact d3
            · rw [c6, stS, if_pos rfl]
            · rw [c96, stS, if_pos rfl]
            · rw [c7, c95]
              unfold stS
              by_cases hil : i = l
              · subst hil
                rw [if_pos rfl, if_pos rfl]; exact ⟨g2, rfl⟩
              · rw [if_neg hil, if_neg (by omega)]; exact l4 i (by omega)
          · refine (m4 q hq).at (cN _ (by omega) (by omega) (by omega) (by omega)) (cN _ (by omega) (by omega) (by omega) (by omega)) (by rw [s0 92 (by omega) (by omega) (by omega)]) (by rw [s0 93 (by omega) (by omega) (by omega)]) (by rw [s0 94 (by omega) (by omega) (by omega)]) (fun i hi => ?_) (by rw [c96, stS, if_neg hqk])
            rw [c95, stS, if_neg (by omega)]
    · refine ⟨-2, M, M, by rw [if_pos g2], ?_, hR⟩
      rw [fM_mm a M m1 m3]
      simp only [Option.bind_some, bz_0, fM_r8]
      rw [if_neg (nn g1), if_pos g2]
  · refine ⟨-2, M, M, by rw [if_pos g1], ?_, hR⟩
    rw [fM_mm a M m1 m3]
    simp only [Option.bind_some, bz_0]
    rw [if_pos g1]
theorem op_clear (a : Int32) : Op (fN_clear a) (fM_clear a) := by
  intro M hR
  obtain ⟨h1, h2, h3, ⟨m, m1, m2, m3, m4⟩, h5, h6, h7, h8, h9⟩ := hR
  have hR := hR_intro h1 h2 h3 ⟨m, m1, m2, m3, m4⟩ h5 h6 h7 h8 h9
  unfold fN_clear fM_clear
  simp only [m2, fN_w _ m _ (show m < 2147483648 by omega), Option.bind_some, bz_0]
  by_cases g1 : ib a m
  · rw [if_neg (nn g1)]
    have g4 : ib a 4 := ib_mono g1 m1
    have ea := of_ib g1
    obtain ⟨k, hk⟩ : ∃ k, k = ix a := ⟨_, rfl⟩
    rw [if_pos g4, if_pos g4, ← hk]
    obtain ⟨d1, d2, d3, l, l1, l2, l3, l4⟩ := m4 k (by omega)
    refine ⟨M (6 + 2 * k) 3, wr M (6 + 2 * k) 3 0, wr (wr M (6 + 2 * k) 3 0) 96 k 0, rfl, ?_, ?_⟩
    · rw [fM_mm a _ m1 (by rw [wr_ne (by omega)]; exact m3)]
      simp only [Option.bind_some, bz_0]
      rw [if_neg (nn g1), if_pos g4, if_pos g4, wr_ne (show 96 ≠ 6 + 2 * k by omega), l3, l2]
    · have cN : ∀ x, x ≠ 6 + 2 * k → x ≠ 96 → wr (wr M (6 + 2 * k) 3 0) 96 k 0 x = M x := fun x q1 q4 => by rw [wr_ne q4, wr_ne q1]
      have c96 : wr (wr M (6 + 2 * k) 3 0) 96 k 0 96 = stS (M 96) k 0 := by rw [wr_stS, wr_ne (by omega)]
      have c6 : wr (wr M (6 + 2 * k) 3 0) 96 k 0 (6 + 2 * k) = stS (M (6 + 2 * k)) 3 0 := by rw [wr_ne (by omega), wr_stS]
      refine hR_intro ((h1.put (by omega)).put (by omega)) ((h2.put (by omega)).put (by omega)) ((h3.put (by omega)).put (by omega)) ⟨m, m1, by rw [cN 1 (by omega) (by omega)]; exact m2, by rw [cN 85 (by omega) (by omega)]; exact m3, fun q hq => ?_⟩ ((h5.put (by omega)).put (by omega)) ((h6.put (by omega)).put (by omega)) ((h7.put (by omega)).put (by omega)) ((h8.put (by omega)).put (by omega)) ((h9.put (by omega)).put (by omega))
      by_cases hqk : q = k
      · subst hqk
        refine ⟨?_, ?_, ?_, 0, by omega, ?_, ?_, fun i hi => absurd hi (by omega)⟩
        · rw [c6, cN 92 (by omega) (by omega), stS, if_neg (by decide)]; exact d1
        · rw [c6, cN 93 (by omega) (by omega), stS, if_neg (by decide)]; exact d2
        · rw [c6, cN 94 (by omega) (by omega), stS, if_neg (by decide)]; exact d3
        · rw [c6, stS, if_pos rfl]; rfl
        · rw [c96, stS, if_pos rfl]; rfl
      · exact (m4 q hq).at (cN _ (by omega) (by omega)) (cN _ (by omega) (by omega)) (by rw [cN 92 (by omega) (by omega)]) (by rw [cN 93 (by omega) (by omega)]) (by rw [cN 94 (by omega) (by omega)]) (fun i hi => by rw [cN 95 (by omega) (by omega)]) (by rw [c96, stS, if_neg hqk])
  · refine ⟨-2, M, M, by rw [if_pos g1], ?_, hR⟩
    rw [fM_mm a M m1 m3]
    simp only [Option.bind_some, bz_0]
    rw [if_pos g1]
