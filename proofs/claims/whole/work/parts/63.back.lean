/-! 63: back -/
theorem back_123 : ∀ (c i z : Nat) (N : Mem), i + c = 20 → c < z → (∀ x, x < i → N 95 x = N 108 (12 + x)) → ∃ D, fM_back_b123 z (nI i) N = some (N 85 51, D) ∧ (∀ a, a ≠ 95 → a ≠ 85 → D a = N a) ∧ (∀ x, x < 20 → D 95 x = N 108 (12 + x)) ∧ D 85 17 = N 85 51 ∧ D 85 7 = N 85 52 ∧ D 85 11 = N 85 53 ∧ D 85 4 = N 85 54 ∧ ∀ j, j ≠ 17 → j ≠ 7 → j ≠ 11 → j ≠ 4 → D 85 j = N 85 j := by
  intro c
  induction c with
  | zero =>
    intro i z N hi hz h
    obtain ⟨z, rfl⟩ := Nat.exists_eq_succ_of_ne_zero (show z ≠ 0 by omega)
    have : i = 20 := by omega
    subst this
    rw [fM_back_b123, if_pos (by decide)]
    refine ⟨_, congrArg some (Prod.ext ?_ rfl), fun a a1 a2 => ?_, fun x hx => ?_, ?_, ?_, ?_, ?_, fun j j1 j2 j3 j4 => ?_⟩
    · simp [wr]
    · rw [wr_ne a2, wr_ne a2, wr_ne a2, wr_ne a2]
    · rw [wr_ne (by decide), wr_ne (by decide), wr_ne (by decide), wr_ne (by decide)]; exact h x hx
    · simp [wr]
    · simp [wr]
    · simp [wr]
    · simp [wr]
    · rw [wr_at j4, wr_at j3, wr_at j2, wr_at j1]
  | succ c ih =>
    intro i z N hi hz h
    obtain ⟨z, rfl⟩ := Nat.exists_eq_succ_of_ne_zero (show z ≠ 0 by omega)
    obtain ⟨D, d1, d2, d4, d5, d6, d7, d8, d9⟩ := ih (i + 1) z (wr N 95 i (N 108 (12 + i))) (by omega) (by omega) (fun x hx => by
      by_cases e : x = i
      · subst e; rw [wr_same, wr_ne (by decide)]
      · rw [wr_at (by omega), wr_ne (by decide)]; exact h x (by omega))
    refine ⟨D, ?_, fun a a1 a2 => by rw [d2 a a1 a2, wr_ne a1], fun x hx => by rw [d4 x hx, wr_ne (by decide)], ?_, ?_, ?_, ?_, fun j j1 j2 j3 j4 => by rw [d9 j j1 j2 j3 j4, wr_ne (by decide)]⟩
    · rw [fM_back_b123, if_neg (by rw [show (20 : Int32) = nI 20 from rfl, n_le (by omega) (by omega)]; omega), show (12 : Int32) + nI i = nI (12 + i) from nI_add 12 i, if_pos (ib_nI (by omega) (by omega)), if_pos (ib_nI (by omega) (by omega)), ix_nI (by omega), ix_nI (by omega), nI_1, d1, wr_ne (by decide)]
    · rw [d5, wr_ne (by decide)]
    · rw [d6, wr_ne (by decide)]
    · rw [d7, wr_ne (by decide)]
    · rw [d8, wr_ne (by decide)]
theorem back_69 : ∀ (c i z : Nat) (N : Mem), i + c = 4 → c < z → (∀ x, x < i → N 93 x = N 108 x ∧ N 94 x = N 108 (4 + x) ∧ N 96 x = N 108 (8 + x)) → ∃ N', fM_back_b69 z (nI i) N = fM_back_b123 1000 0 N' ∧ (∀ a, a ≠ 93 → a ≠ 94 → a ≠ 96 → N' a = N a) ∧ ∀ x, x < 4 → N' 93 x = N 108 x ∧ N' 94 x = N 108 (4 + x) ∧ N' 96 x = N 108 (8 + x) := by
  intro c
  induction c with
  | zero =>
    intro i z N hi hz h
    obtain ⟨z, rfl⟩ := Nat.exists_eq_succ_of_ne_zero (show z ≠ 0 by omega)
    have : i = 4 := by omega
    subst this
    exact ⟨N, by rw [fM_back_b69, if_pos (by decide)], fun _ _ _ _ => rfl, h⟩
  | succ c ih =>
    intro i z N hi hz h
    obtain ⟨z, rfl⟩ := Nat.exists_eq_succ_of_ne_zero (show z ≠ 0 by omega)
    have e108 : wr (wr (wr N 93 i (N 108 i)) 94 i (N 108 (4 + i))) 96 i (N 108 (8 + i)) 108 = N 108 := by rw [wr_ne (by decide), wr_ne (by decide), wr_ne (by decide)]
    have e93 : wr (wr (wr N 93 i (N 108 i)) 94 i (N 108 (4 + i))) 96 i (N 108 (8 + i)) 93 = stS (N 93) i (N 108 i) := by rw [wr_ne (by decide), wr_ne (by decide), wr_stS]
    have e94 : wr (wr (wr N 93 i (N 108 i)) 94 i (N 108 (4 + i))) 96 i (N 108 (8 + i)) 94 = stS (N 94) i (N 108 (4 + i)) := by rw [wr_ne (by decide), wr_stS, wr_ne (by decide)]
    have e96 : wr (wr (wr N 93 i (N 108 i)) 94 i (N 108 (4 + i))) 96 i (N 108 (8 + i)) 96 = stS (N 96) i (N 108 (8 + i)) := by rw [wr_stS, wr_ne (by decide), wr_ne (by decide)]
    obtain ⟨N', d1, d2, d3⟩ := ih (i + 1) z (wr (wr (wr N 93 i (N 108 i)) 94 i (N 108 (4 + i))) 96 i (N 108 (8 + i))) (by omega) (by omega) (fun x hx => by
      rw [e108, e93, e94, e96]
      unfold stS
      by_cases e : x = i
      · subst e
        rw [if_pos rfl, if_pos rfl, if_pos rfl]
        exact ⟨rfl, rfl, rfl⟩
      · rw [if_neg e, if_neg e, if_neg e]
        exact h x (by omega))
    rw [e108] at d3
    refine ⟨N', ?_, fun a a1 a2 a3 => by rw [d2 a a1 a2 a3, wr_ne a3, wr_ne a2, wr_ne a1], d3⟩
    have g4 : ib (nI i) 4 := ib_nI (by omega) (by omega)
    rw [fM_back_b69, if_neg (by rw [show (4 : Int32) = nI 4 from rfl, n_le (by omega) (by omega)]; omega), show (4 : Int32) + nI i = nI (4 + i) from nI_add 4 i, show (8 : Int32) + nI i = nI (8 + i) from nI_add 8 i, if_pos (show ib (nI i) 32 from ib_nI (by omega) (by omega)), if_pos g4, if_pos (ib_nI (by omega) (by omega)), if_pos g4, if_pos (ib_nI (by omega) (by omega)), if_pos g4, ix_nI (by omega), ix_nI (by omega), ix_nI (by omega), nI_1]
    rw [wr_ne (show 108 ≠ 93 by decide), wr_ne (show 108 ≠ 94 by decide), wr_ne (show 108 ≠ 93 by decide)]
    exact d1
theorem back_13 : ∀ (c i z : Nat) (N : Mem), i + c = 8 → c < z → (∀ x, x < i → N 89 x = N 107 x ∧ N 90 x = N 107 (8 + x) ∧ N 91 x = N 107 (16 + x)) → ∃ N', fM_back_b13 z (nI i) N = fM_back_b69 1000 0 N' ∧ (∀ a, a ≠ 89 → a ≠ 90 → a ≠ 91 → N' a = N a) ∧ ∀ x, x < 8 → N' 89 x = N 107 x ∧ N' 90 x = N 107 (8 + x) ∧ N' 91 x = N 107 (16 + x) := by
  intro c
  induction c with
  | zero =>
    intro i z N hi hz h
    obtain ⟨z, rfl⟩ := Nat.exists_eq_succ_of_ne_zero (show z ≠ 0 by omega)
    have : i = 8 := by omega
    subst this
    exact ⟨N, by rw [fM_back_b13, if_pos (by decide)], fun _ _ _ _ => rfl, h⟩
  | succ c ih =>
    intro i z N hi hz h
    obtain ⟨z, rfl⟩ := Nat.exists_eq_succ_of_ne_zero (show z ≠ 0 by omega)
    have e107 : wr (wr (wr N 89 i (N 107 i)) 90 i (N 107 (8 + i))) 91 i (N 107 (16 + i)) 107 = N 107 := by rw [wr_ne (by decide), wr_ne (by decide), wr_ne (by decide)]
    have e89 : wr (wr (wr N 89 i (N 107 i)) 90 i (N 107 (8 + i))) 91 i (N 107 (16 + i)) 89 = stS (N 89) i (N 107 i) := by rw [wr_ne (by decide), wr_ne (by decide), wr_stS]
    have e90 : wr (wr (wr N 89 i (N 107 i)) 90 i (N 107 (8 + i))) 91 i (N 107 (16 + i)) 90 = stS (N 90) i (N 107 (8 + i)) := by rw [wr_ne (by decide), wr_stS, wr_ne (by decide)]
    have e91 : wr (wr (wr N 89 i (N 107 i)) 90 i (N 107 (8 + i))) 91 i (N 107 (16 + i)) 91 = stS (N 91) i (N 107 (16 + i)) := by rw [wr_stS, wr_ne (by decide), wr_ne (by decide)]
    obtain ⟨N', d1, d2, d3⟩ := ih (i + 1) z (wr (wr (wr N 89 i (N 107 i)) 90 i (N 107 (8 + i))) 91 i (N 107 (16 + i))) (by omega) (by omega) (fun x hx => by
      rw [e107, e89, e90, e91]
      unfold stS
      by_cases e : x = i
      · subst e
        rw [if_pos rfl, if_pos rfl, if_pos rfl]
        exact ⟨rfl, rfl, rfl⟩
      · rw [if_neg e, if_neg e, if_neg e]
        exact h x (by omega))
    rw [e107] at d3
    refine ⟨N', ?_, fun a a1 a2 a3 => by rw [d2 a a1 a2 a3, wr_ne a3, wr_ne a2, wr_ne a1], d3⟩
    have g8 : ib (nI i) 8 := ib_nI (by omega) (by omega)
    rw [fM_back_b13, if_neg (by rw [show (8 : Int32) = nI 8 from rfl, n_le (by omega) (by omega)]; omega), show (8 : Int32) + nI i = nI (8 + i) from nI_add 8 i, show (16 : Int32) + nI i = nI (16 + i) from nI_add 16 i, if_pos (show ib (nI i) 24 from ib_nI (by omega) (by omega)), if_pos g8, if_pos (ib_nI (by omega) (by omega)), if_pos g8, if_pos (ib_nI (by omega) (by omega)), if_pos g8, ix_nI (by omega), ix_nI (by omega), ix_nI (by omega), nI_1]
    rw [wr_ne (show 107 ≠ 89 by decide), wr_ne (show 107 ≠ 90 by decide), wr_ne (show 107 ≠ 89 by decide)]
    exact d1
theorem fM_back_eq (N : Mem) (h : N 85 51 ≠ -1) : ∃ D, fM_back N = some (N 85 51, D) ∧ (∀ a, (a < 89 ∨ a = 92 ∨ 96 < a) → a ≠ 85 → D a = N a) ∧ (∀ x, x < 8 → D 89 x = N 107 x ∧ D 90 x = N 107 (8 + x) ∧ D 91 x = N 107 (16 + x)) ∧ (∀ x, x < 4 → D 93 x = N 108 x ∧ D 94 x = N 108 (4 + x) ∧ D 96 x = N 108 (8 + x)) ∧ (∀ x, x < 20 → D 95 x = N 108 (12 + x)) ∧ (D 85 17 = N 85 51 ∧ D 85 7 = N 85 52 ∧ D 85 11 = N 85 53 ∧ D 85 4 = N 85 54) ∧ ∀ j, j ≠ 17 → j ≠ 7 → j ≠ 11 → j ≠ 4 → D 85 j = N 85 j := by
  obtain ⟨N1, a1, a2, a3⟩ := back_13 8 0 1000 N (by omega) (by omega) (fun x hx => absurd hx (by omega))
  obtain ⟨N2, b1, b2, b3⟩ := back_69 4 0 1000 N1 (by omega) (by omega) (fun x hx => absurd hx (by omega))
  obtain ⟨D, d1, d2, d4, d5, d6, d7, d8, d9⟩ := back_123 20 0 1000 N2 (by omega) (by omega) (fun x hx => absurd hx (by omega))
  have r : ∀ a, a ≠ 89 → a ≠ 90 → a ≠ 91 → a ≠ 93 → a ≠ 94 → a ≠ 96 → N2 a = N a := fun a h1 h2 h3 h4 h5 h6 => by rw [b2 a h4 h5 h6, a2 a h1 h2 h3]
  have r85 : N2 85 = N 85 := r 85 (by decide) (by decide) (by decide) (by decide) (by decide) (by decide)
  have r108 : N2 108 = N 108 := r 108 (by decide) (by decide) (by decide) (by decide) (by decide) (by decide)
  refine ⟨D, ?_, fun a h1 h2 => by rw [d2 a (by omega) h2, r a (by omega) (by omega) (by omega) (by omega) (by omega) (by omega)], fun x hx => ?_, fun x hx => ?_, fun x hx => by rw [d4 x hx, r108], ⟨by rw [d5, r85], by rw [d6, r85], by rw [d7, r85], by rw [d8, r85]⟩, fun j j1 j2 j3 j4 => by rw [d9 j j1 j2 j3 j4, r85]⟩
  · unfold fM_back
    rw [if_neg h, show fM_back_b13 1000 0 N = fM_back_b69 1000 0 N1 from a1, show fM_back_b69 1000 0 N1 = fM_back_b123 1000 0 N2 from b1, show fM_back_b123 1000 0 N2 = some (N2 85 51, D) from d1, r85]
  · rw [d2 89 (by decide) (by decide), d2 90 (by decide) (by decide), d2 91 (by decide) (by decide), b2 89 (by decide) (by decide) (by decide), b2 90 (by decide) (by decide) (by decide), b2 91 (by decide) (by decide) (by decide)]
    exact a3 x hx
  · have := b3 x hx
    rw [a2 108 (by decide) (by decide) (by decide)] at this
    rw [d2 93 (by decide) (by decide), d2 94 (by decide) (by decide), d2 96 (by decide) (by decide)]
    exact this
theorem op_back : Op fN_back fM_back := by
  intro M hR
  obtain ⟨h1, h2, h3, h4, h5, h6, h7, h8, h9⟩ := id hR
  rcases h8 with ⟨z1, z2⟩ | ⟨z1, kp⟩
  · refine ⟨-3, M, M, ?_, ?_, hR⟩
    · unfold fN_back; rw [if_pos z1]
    · unfold fM_back; rw [if_pos z2]
  · obtain ⟨⟨s, s1, s2, s3⟩, ⟨n, n1, n2, n3, n4⟩, hw, ⟨m, m1, m2, m3, m5, m4⟩, r, r1, r6, r2, r3⟩ := kp
    obtain ⟨c, r0, x1, x2, x3, x4, y1, y2, y3, ct⟩ := id h5
    rw [x3, ix_nI (by omega)] at r1
    obtain ⟨C, e1, k1, k2, k3, k4⟩ := fH_become_eq (q0 := 1) (q1 := 14) M (by omega)
    have cH : ∀ a, 85 ≤ a → C a = M a := fun a ha => k1 a (by omega)
    obtain ⟨D, d1, d2, d3, d4, d5, ⟨d6, d7, d8, d9⟩, d10⟩ := fM_back_eq C (by rw [cH 85 (by omega), m3]; exact nI_m1 (by omega))
    have dlo : ∀ a, (a < 1 ∨ a = 5 ∨ 14 ≤ a) → a ≠ 85 → (a < 89 ∨ a = 92 ∨ 96 < a) → D a = M a := fun a q1 q2 q3 => by rw [d2 a q3 q2, k1 a (by omega)]
    have d85 : ∀ j, j ≠ 17 → j ≠ 7 → j ≠ 11 → j ≠ 4 → D 85 j = M 85 j := fun j j1 j2 j3 j4 => by rw [d10 j j1 j2 j3 j4, cH 85 (by omega)]
    have dC : ∀ a, 1 ≤ a → a < 14 → D a = C a := fun a q1 q2 => d2 a (by omega) (by omega)
    refine ⟨C 1 2, C, D, ?_, ?_, ?_⟩
    · unfold fN_back
      rw [if_neg z1, e1]
      rfl
    · rw [d1, cH 85 (by omega), k2 2 (by omega), m2, m3]
    · refine hR_intro ⟨s, s1, ?_, ?_⟩ ⟨n, n1, ?_, ?_, fun i hi => ?_⟩ (fun q hq => ?_) ⟨m, m1, ?_, ?_, fun k hk => ?_⟩ ⟨c, r, x1, x2, ?_, ?_, r1, ?_, ?_, fun t ht => ?_⟩ (h6.same (by rw [dlo 40 (by omega) (by omega) (by omega)]) (d85 6 (by omega) (by omega) (by omega) (by omega)) (dlo 41 (by omega) (by omega) (by omega)) (dlo 88 (by omega) (by omega) (by omega))) (h7.same (fun x q1 q2 => dlo x (by omega) (by omega) (by omega)) (dlo 109 (by omega) (by omega) (by omega)) (dlo 110 (by omega) (by omega) (by omega)) (dlo 111 (by omega) (by omega) (by omega)) (dlo 112 (by omega) (by omega) (by omega))) (Or.inr ⟨by rw [dlo 0 (by omega) (by omega) (by omega)]; exact z1, ⟨s, s1, ?_, ?_⟩, ⟨n, n1, ?_, ?_, fun i hi => ?_⟩, fun q hq => ?_, ⟨m, m1, ?_, ?_, ?_, fun k hk => ?_⟩, r, ?_, r6, ?_, ?_⟩) (h9.same (d85 18 (by omega) (by omega) (by omega) (by omega)) (h9.2.same (by rw [dlo 46 (by omega) (by omega) (by omega)]) (dlo 47 (by omega) (by omega) (by omega))))
      · rw [dC 1 (by omega) (by omega), k2 0 (by omega)]; exact s2
      · rw [d7, cH 85 (by omega)]; exact s3
      · rw [dC 1 (by omega) (by omega), k2 1 (by omega)]; exact n2
      · rw [d8, cH 85 (by omega)]; exact n3
      · have h := d3 i (by omega)
        have k3i := k3 i (by omega)
        rw [dC 2 (by omega) (by omega), dC 3 (by omega) (by omega), h.2.1, h.2.2, cH 107 (by omega), show C 2 i = M 15 i from k3i.1, show C 3 i = M 16 i from k3i.2.1]
        exact n4 i hi
      · have h := d3 q hq
        rw [dC 4 (by omega) (by omega), h.1, cH 107 (by omega), show C 4 q = M 17 q from (k3 q hq).2.2]
        exact hw q hq
      · rw [dC 1 (by omega) (by omega), k2 2 (by omega)]; exact m2
      · rw [d6, cH 85 (by omega)]; exact m3
      · obtain ⟨a1, a2, a3, l, l1, l2, l3, l4⟩ := m4 k hk
        obtain ⟨k5, k6⟩ := k4 k (by omega)
        have k5' : ∀ j, j < 4 → C (6 + 2 * k) j = M (19 + 2 * k) j := fun j hj => by have := k5 j hj; rw [show 14 + 5 + 2 * k = 19 + 2 * k by omega, show 1 + 5 + 2 * k = 6 + 2 * k by omega] at this; exact this
        have k6' : ∀ i, i < 5 → C (7 + 2 * k) i = M (20 + 2 * k) i := fun i hi => by have := k6 i hi; rw [show 14 + 6 + 2 * k = 20 + 2 * k by omega, show 1 + 6 + 2 * k = 7 + 2 * k by omega] at this; exact this
        have d4k := d4 k (by omega)
        unfold MD
        rw [dC (6 + 2 * k) (by omega) (by omega), dC (7 + 2 * k) (by omega) (by omega), dlo 92 (by omega) (by omega) (by omega), k5' 0 (by omega), k5' 1 (by omega), k5' 2 (by omega), k5' 3 (by omega), d4k.1, d4k.2.1, d4k.2.2, cH 108 (by omega)]
        exact ⟨a1, a2, a3, l, l1, l2, l3, fun i hi => by rw [k6' i (by omega), d5 _ (by omega), cH 108 (by omega)]; exact l4 i hi⟩
      · rw [dlo 0 (by omega) (by omega) (by omega)]; exact x3
      · rw [d85 3 (by omega) (by omega) (by omega) (by omega)]; exact x4
      · rw [dC 1 (by omega) (by omega), k2 3 (by omega)]; exact r2
      · rw [d9, cH 85 (by omega)]; exact r3
      · exact (ct t ht).same (dlo _ (by omega) (by omega) (by omega)) (dlo _ (by omega) (by omega) (by omega)) (by rw [dlo 87 (by omega) (by omega) (by omega)]) (fun i _ => by rw [dlo 86 (by omega) (by omega) (by omega)])
      · rw [dlo 14 (by omega) (by omega) (by omega)]; exact s2
      · rw [d85 52 (by omega) (by omega) (by omega) (by omega)]; exact s3
      · rw [dlo 14 (by omega) (by omega) (by omega)]; exact n2
      · rw [d85 53 (by omega) (by omega) (by omega) (by omega)]; exact n3
      · rw [dlo 15 (by omega) (by omega) (by omega), dlo 16 (by omega) (by omega) (by omega), dlo 107 (by omega) (by omega) (by omega)]; exact n4 i hi
      · rw [dlo 17 (by omega) (by omega) (by omega), dlo 107 (by omega) (by omega) (by omega)]; exact hw q hq
      · rw [dlo 14 (by omega) (by omega) (by omega)]; exact m2
      · rw [d85 51 (by omega) (by omega) (by omega) (by omega)]; exact m3
      · rw [dC 1 (by omega) (by omega), k2 2 (by omega), m2, ix_nI (by omega)]; exact Nat.le_refl _
      · exact (m4 k hk).same (dlo _ (by omega) (by omega) (by omega)) (dlo _ (by omega) (by omega) (by omega)) (by rw [dlo 92 (by omega) (by omega) (by omega)]) (dlo 108 (by omega) (by omega) (by omega))
      · rw [dlo 0 (by omega) (by omega) (by omega), x3, ix_nI (by omega)]; exact r1
      · rw [dlo 14 (by omega) (by omega) (by omega)]; exact r2
      · rw [d85 54 (by omega) (by omega) (by omega) (by omega)]; exact r3
