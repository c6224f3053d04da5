/-! 62: image, back -/
theorem image_112 : ∀ (c i z : Nat) (N : Mem), i + c = 20 → c < z → (∀ x, x < i → N 108 (12 + x) = N 95 x) → ∃ D, fM_image_b112 z (nI i) N = some (N 85 17, D) ∧ (∀ a, a ≠ 108 → a ≠ 85 → D a = N a) ∧ (∀ x, x < 12 → D 108 x = N 108 x) ∧ (∀ x, x < 20 → D 108 (12 + x) = N 95 x) ∧ D 85 51 = N 85 17 ∧ D 85 52 = N 85 7 ∧ D 85 53 = N 85 11 ∧ D 85 54 = N 85 4 ∧ ∀ j, (j < 51 ∨ 54 < j) → D 85 j = N 85 j := by
  intro c
  induction c with
  | zero =>
    intro i z N hi hz h
    obtain ⟨z, rfl⟩ := Nat.exists_eq_succ_of_ne_zero (show z ≠ 0 by omega)
    have : i = 20 := by omega
    subst this
    rw [fM_image_b112, if_pos (by decide)]
    refine ⟨_, congrArg some (Prod.ext ?_ rfl), fun a a1 a2 => ?_, fun x hx => ?_, fun x hx => ?_, ?_, ?_, ?_, ?_, fun j hj => ?_⟩
    · simp [wr]
    · rw [wr_ne a2, wr_ne a2, wr_ne a2, wr_ne a2]
    · rw [wr_ne (by decide), wr_ne (by decide), wr_ne (by decide), wr_ne (by decide)]
    · rw [wr_ne (by decide), wr_ne (by decide), wr_ne (by decide), wr_ne (by decide)]; exact h x hx
    · simp [wr]
    · simp [wr]
    · simp [wr]
    · simp [wr]
    · rw [wr_at (by omega), wr_at (by omega), wr_at (by omega), wr_at (by omega)]
  | succ c ih =>
    intro i z N hi hz h
    obtain ⟨z, rfl⟩ := Nat.exists_eq_succ_of_ne_zero (show z ≠ 0 by omega)
    obtain ⟨D, d1, d2, d3, d4, d5, d6, d7, d8, d9⟩ := ih (i + 1) z (wr N 108 (12 + i) (N 95 i)) (by omega) (by omega) (fun x hx => by
      by_cases e : x = i
      · subst e; rw [wr_same, wr_ne (by decide)]
      · rw [wr_at (by omega), wr_ne (by decide)]; exact h x (by omega))
    refine ⟨D, ?_, fun a a1 a2 => by rw [d2 a a1 a2, wr_ne a1], fun x hx => by rw [d3 x hx, wr_at (by omega)], fun x hx => by rw [d4 x hx, wr_ne (by decide)], ?_, ?_, ?_, ?_, fun j hj => by rw [d9 j hj, wr_ne (by decide)]⟩
    · rw [fM_image_b112, if_neg (by rw [show (20 : Int32) = nI 20 from rfl, n_le (by omega) (by omega)]; omega), if_pos (ib_nI (by omega) (by omega)), show (12 : Int32) + nI i = nI (12 + i) from nI_add 12 i, if_pos (ib_nI (by omega) (by omega)), ix_nI (by omega), ix_nI (by omega), nI_1, d1, wr_ne (by decide)]
    · rw [d5, wr_ne (by decide)]
    · rw [d6, wr_ne (by decide)]
    · rw [d7, wr_ne (by decide)]
    · rw [d8, wr_ne (by decide)]
theorem image_58 : ∀ (c i z : Nat) (N : Mem), i + c = 4 → c < z → (∀ x, x < i → N 108 x = N 93 x ∧ N 108 (4 + x) = N 94 x ∧ N 108 (8 + x) = N 96 x) → ∃ N', fM_image_b58 z (nI i) N = fM_image_b112 1000 0 N' ∧ (∀ a, a ≠ 108 → N' a = N a) ∧ ∀ x, x < 4 → N' 108 x = N 93 x ∧ N' 108 (4 + x) = N 94 x ∧ N' 108 (8 + x) = N 96 x := by
  intro c
  induction c with
  | zero =>
    intro i z N hi hz h
    obtain ⟨z, rfl⟩ := Nat.exists_eq_succ_of_ne_zero (show z ≠ 0 by omega)
    have : i = 4 := by omega
    subst this
    exact ⟨N, by rw [fM_image_b58, if_pos (by decide)], fun _ _ => rfl, h⟩
  | succ c ih =>
    intro i z N hi hz h
    obtain ⟨z, rfl⟩ := Nat.exists_eq_succ_of_ne_zero (show z ≠ 0 by omega)
    obtain ⟨N', d1, d2, d3⟩ := ih (i + 1) z (wr (wr (wr N 108 i (N 93 i)) 108 (4 + i) (N 94 i)) 108 (8 + i) (N 96 i)) (by omega) (by omega) (fun x hx => by
      rw [wr_ne (show 93 ≠ 108 by decide), wr_ne (show 93 ≠ 108 by decide), wr_ne (show 93 ≠ 108 by decide), wr_ne (show 94 ≠ 108 by decide), wr_ne (show 94 ≠ 108 by decide), wr_ne (show 94 ≠ 108 by decide), wr_ne (show 96 ≠ 108 by decide), wr_ne (show 96 ≠ 108 by decide), wr_ne (show 96 ≠ 108 by decide)]
      by_cases e : x = i
      · subst e
        refine ⟨?_, ?_, ?_⟩
        · rw [wr_at (by omega), wr_at (by omega), wr_same]
        · rw [wr_at (by omega), wr_same]
        · rw [wr_same]
      · have := h x (by omega)
        refine ⟨?_, ?_, ?_⟩
        · rw [wr_at (by omega), wr_at (by omega), wr_at (by omega)]; exact this.1
        · rw [wr_at (by omega), wr_at (by omega), wr_at (by omega)]; exact this.2.1
        · rw [wr_at (by omega), wr_at (by omega), wr_at (by omega)]; exact this.2.2)
    refine ⟨N', ?_, fun a a1 => by rw [d2 a a1, wr_ne a1, wr_ne a1, wr_ne a1], fun x hx => by
      have := d3 x hx
      rw [wr_ne (show 93 ≠ 108 by decide), wr_ne (show 93 ≠ 108 by decide), wr_ne (show 93 ≠ 108 by decide), wr_ne (show 94 ≠ 108 by decide), wr_ne (show 94 ≠ 108 by decide), wr_ne (show 94 ≠ 108 by decide), wr_ne (show 96 ≠ 108 by decide), wr_ne (show 96 ≠ 108 by decide), wr_ne (show 96 ≠ 108 by decide)] at this
      exact this⟩
    have g4 : ib (nI i) 4 := ib_nI (by omega) (by omega)
    rw [fM_image_b58, if_neg (by rw [show (4 : Int32) = nI 4 from rfl, n_le (by omega) (by omega)]; omega), show (4 : Int32) + nI i = nI (4 + i) from nI_add 4 i, show (8 : Int32) + nI i = nI (8 + i) from nI_add 8 i, if_pos g4, if_pos (show ib (nI i) 32 from ib_nI (by omega) (by omega)), if_pos g4, if_pos (ib_nI (by omega) (by omega)), if_pos g4, if_pos (ib_nI (by omega) (by omega)), ix_nI (by omega), ix_nI (by omega), ix_nI (by omega), nI_1]
    rw [wr_ne (show 94 ≠ 108 by decide), wr_ne (show 96 ≠ 108 by decide), wr_ne (show 96 ≠ 108 by decide)]
    exact d1
theorem image_2 : ∀ (c i z : Nat) (N : Mem), i + c = 8 → c < z → (∀ x, x < i → N 107 x = N 89 x ∧ N 107 (8 + x) = N 90 x ∧ N 107 (16 + x) = N 91 x) → ∃ N', fM_image_b2 z (nI i) N = fM_image_b58 1000 0 N' ∧ (∀ a, a ≠ 107 → N' a = N a) ∧ ∀ x, x < 8 → N' 107 x = N 89 x ∧ N' 107 (8 + x) = N 90 x ∧ N' 107 (16 + x) = N 91 x := by
  intro c
  induction c with
  | zero =>
    intro i z N hi hz h
    obtain ⟨z, rfl⟩ := Nat.exists_eq_succ_of_ne_zero (show z ≠ 0 by omega)
    have : i = 8 := by omega
    subst this
    exact ⟨N, by rw [fM_image_b2, if_pos (by decide)], fun _ _ => rfl, h⟩
  | succ c ih =>
    intro i z N hi hz h
    obtain ⟨z, rfl⟩ := Nat.exists_eq_succ_of_ne_zero (show z ≠ 0 by omega)
    obtain ⟨N', d1, d2, d3⟩ := ih (i + 1) z (wr (wr (wr N 107 i (N 89 i)) 107 (8 + i) (N 90 i)) 107 (16 + i) (N 91 i)) (by omega) (by omega) (fun x hx => by
      rw [wr_ne (show 89 ≠ 107 by decide), wr_ne (show 89 ≠ 107 by decide), wr_ne (show 89 ≠ 107 by decide), wr_ne (show 90 ≠ 107 by decide), wr_ne (show 90 ≠ 107 by decide), wr_ne (show 90 ≠ 107 by decide), wr_ne (show 91 ≠ 107 by decide), wr_ne (show 91 ≠ 107 by decide), wr_ne (show 91 ≠ 107 by decide)]
      by_cases e : x = i
      · subst e
        refine ⟨?_, ?_, ?_⟩
        · rw [wr_at (by omega), wr_at (by omega), wr_same]
        · rw [wr_at (by omega), wr_same]
        · rw [wr_same]
      · have := h x (by omega)
        refine ⟨?_, ?_, ?_⟩
        · rw [wr_at (by omega), wr_at (by omega), wr_at (by omega)]; exact this.1
        · rw [wr_at (by omega), wr_at (by omega), wr_at (by omega)]; exact this.2.1
        · rw [wr_at (by omega), wr_at (by omega), wr_at (by omega)]; exact this.2.2)
    refine ⟨N', ?_, fun a a1 => by rw [d2 a a1, wr_ne a1, wr_ne a1, wr_ne a1], fun x hx => by
      have := d3 x hx
      rw [wr_ne (show 89 ≠ 107 by decide), wr_ne (show 89 ≠ 107 by decide), wr_ne (show 89 ≠ 107 by decide), wr_ne (show 90 ≠ 107 by decide), wr_ne (show 90 ≠ 107 by decide), wr_ne (show 90 ≠ 107 by decide), wr_ne (show 91 ≠ 107 by decide), wr_ne (show 91 ≠ 107 by decide), wr_ne (show 91 ≠ 107 by decide)] at this
      exact this⟩
    have g8 : ib (nI i) 8 := ib_nI (by omega) (by omega)
    rw [fM_image_b2, if_neg (by rw [show (8 : Int32) = nI 8 from rfl, n_le (by omega) (by omega)]; omega), show (8 : Int32) + nI i = nI (8 + i) from nI_add 8 i, show (16 : Int32) + nI i = nI (16 + i) from nI_add 16 i, if_pos g8, if_pos (show ib (nI i) 24 from ib_nI (by omega) (by omega)), if_pos g8, if_pos (ib_nI (by omega) (by omega)), if_pos g8, if_pos (ib_nI (by omega) (by omega)), ix_nI (by omega), ix_nI (by omega), ix_nI (by omega), nI_1]
    rw [wr_ne (show 90 ≠ 107 by decide), wr_ne (show 91 ≠ 107 by decide), wr_ne (show 91 ≠ 107 by decide)]
    exact d1
theorem fM_image_eq (N : Mem) : ∃ D, fM_image N = some (N 85 17, D) ∧ (∀ a, a ≠ 107 → a ≠ 108 → a ≠ 85 → D a = N a) ∧ (∀ x, x < 8 → D 107 x = N 89 x ∧ D 107 (8 + x) = N 90 x ∧ D 107 (16 + x) = N 91 x) ∧ (∀ x, x < 4 → D 108 x = N 93 x ∧ D 108 (4 + x) = N 94 x ∧ D 108 (8 + x) = N 96 x) ∧ (∀ x, x < 20 → D 108 (12 + x) = N 95 x) ∧ (D 85 51 = N 85 17 ∧ D 85 52 = N 85 7 ∧ D 85 53 = N 85 11 ∧ D 85 54 = N 85 4) ∧ ∀ j, (j < 51 ∨ 54 < j) → D 85 j = N 85 j := by
  obtain ⟨N1, a1, a2, a3⟩ := image_2 8 0 1000 N (by omega) (by omega) (fun x hx => absurd hx (by omega))
  obtain ⟨N2, b1, b2, b3⟩ := image_58 4 0 1000 N1 (by omega) (by omega) (fun x hx => absurd hx (by omega))
  obtain ⟨D, d1, d2, d3, d4, d5, d6, d7, d8, d9⟩ := image_112 20 0 1000 N2 (by omega) (by omega) (fun x hx => absurd hx (by omega))
  have r : ∀ a, a ≠ 107 → a ≠ 108 → N2 a = N a := fun a h1 h2 => by rw [b2 a h2, a2 a h1]
  refine ⟨D, ?_, fun a h1 h2 h3 => by rw [d2 a h2 h3, r a h1 h2], fun x hx => ?_, fun x hx => ?_, fun x hx => by rw [d4 x hx, r 95 (by decide) (by decide)], ⟨by rw [d5, r 85 (by decide) (by decide)], by rw [d6, r 85 (by decide) (by decide)], by rw [d7, r 85 (by decide) (by decide)], by rw [d8, r 85 (by decide) (by decide)]⟩, fun j hj => by rw [d9 j hj, r 85 (by decide) (by decide)]⟩
  · unfold fM_image
    rw [show fM_image_b2 1000 0 N = fM_image_b58 1000 0 N1 from a1, show fM_image_b58 1000 0 N1 = fM_image_b112 1000 0 N2 from b1, show fM_image_b112 1000 0 N2 = some (N2 85 17, D) from d1, r 85 (by decide) (by decide)]
  · rw [d2 107 (by decide) (by decide), b2 107 (by decide)]; exact a3 x hx
  · rw [d3 x (by omega), d3 (4 + x) (by omega), d3 (8 + x) (by omega)]
    have := b3 x hx
    rw [a2 93 (by decide), a2 94 (by decide), a2 96 (by decide)] at this
    exact this
theorem op_image : Op fN_image fM_image := by
  intro M hR
  obtain ⟨h1, h2, h3, h4, h5, h6, h7, h8, h9⟩ := id hR
  obtain ⟨C0, e1, mh⟩ := fH_become_eq (q0 := 14) (q1 := 1) M (by omega)
  obtain ⟨k1, k2, k3, k4⟩ := mh
  have rC : ∀ a, a ≠ 0 → (a < 14 ∨ a = 18 ∨ 27 ≤ a) → wr C0 0 3 1 a = M a := fun a a1 a2 => by rw [wr_ne a1, k1 a (by omega)]
  have rC0 : ∀ j, j ≠ 3 → wr C0 0 3 1 0 j = M 0 j := fun j hj => by rw [wr_at hj, k1 0 (by omega)]
  have rC3 : wr C0 0 3 1 0 3 = 1 := wr_same
  have cH : ∀ a, 14 ≤ a → wr C0 0 3 1 a = C0 a := fun a ha => wr_ne (by omega)
  have e14 : wr C0 0 3 1 14 2 = M 1 2 := by rw [wr_ne (by decide), k2 2 (by omega)]
  generalize hC : wr C0 0 3 1 = C at *
  obtain ⟨D, d1, d2, d3, d4, d5, ⟨d6, d7, d8, d9⟩, d10⟩ := fM_image_eq C
  have c85 : C 85 = M 85 := rC 85 (by omega) (by omega)
  have c1 : C 1 = M 1 := rC 1 (by omega) (by omega)
  have dlo : ∀ a, a ≠ 107 → a ≠ 108 → a ≠ 85 → a ≠ 0 → (a < 14 ∨ a = 18 ∨ 27 ≤ a) → D a = M a := fun a q1 q2 q3 q4 q5 => by rw [d2 a q1 q2 q3, rC a q4 q5]
  have d85 : ∀ j, (j < 51 ∨ 54 < j) → D 85 j = M 85 j := fun j hj => by rw [d10 j hj, c85]
  have D0 : ∀ j, j ≠ 3 → D 0 j = M 0 j := fun j hj => by rw [d2 0 (by decide) (by decide) (by decide), rC0 j hj]
  have D03 : D 0 3 = 1 := by rw [d2 0 (by decide) (by decide) (by decide), rC3]
  have D14 : ∀ a, 14 ≤ a → a < 27 → D a = C0 a := fun a q1 q2 => by rw [d2 a (by omega) (by omega) (by omega), cH a q1]
  obtain ⟨m, m1, m2, m3, m4⟩ := h4
  refine ⟨M 1 2, C, D, ?_, ?_, ?_⟩
  · unfold fN_image
    rw [e1, Option.bind_some, hC, e14]
  · rw [d1, c85, m3, m2]
  · obtain ⟨s, s1, s2, s3⟩ := id h1
    obtain ⟨n, n1, n2, n3, n4⟩ := id h2
    obtain ⟨c, r, x1, x2, x3, x4, r1, r2, r3, ct⟩ := id h5
    refine hR_intro (h1.same (by rw [dlo 1 (by omega) (by omega) (by omega) (by omega) (by omega)]) (d85 7 (by omega))) (h2.same (by rw [dlo 1 (by omega) (by omega) (by omega) (by omega) (by omega)]) (d85 11 (by omega)) (dlo 2 (by omega) (by omega) (by omega) (by omega) (by omega)) (dlo 3 (by omega) (by omega) (by omega) (by omega) (by omega)) (dlo 90 (by omega) (by omega) (by omega) (by omega) (by omega)) (dlo 91 (by omega) (by omega) (by omega) (by omega) (by omega))) (h3.same (dlo 4 (by omega) (by omega) (by omega) (by omega) (by omega)) (dlo 89 (by omega) (by omega) (by omega) (by omega) (by omega))) (RM.same ⟨m, m1, m2, m3, m4⟩ (by rw [dlo 1 (by omega) (by omega) (by omega) (by omega) (by omega)]) (d85 17 (by omega)) (fun x q1 q2 => dlo x (by omega) (by omega) (by omega) (by omega) (by omega)) (dlo 92 (by omega) (by omega) (by omega) (by omega) (by omega)) (dlo 93 (by omega) (by omega) (by omega) (by omega) (by omega)) (dlo 94 (by omega) (by omega) (by omega) (by omega) (by omega)) (dlo 95 (by omega) (by omega) (by omega) (by omega) (by omega)) (dlo 96 (by omega) (by omega) (by omega) (by omega) (by omega))) (h5.same (D0 6 (by omega)) (d85 3 (by omega)) (by rw [dlo 1 (by omega) (by omega) (by omega) (by omega) (by omega)]) (d85 4 (by omega)) (fun x q1 q2 => dlo x (by omega) (by omega) (by omega) (by omega) (by omega)) (dlo 86 (by omega) (by omega) (by omega) (by omega) (by omega)) (dlo 87 (by omega) (by omega) (by omega) (by omega) (by omega))) (h6.same (by rw [dlo 40 (by omega) (by omega) (by omega) (by omega) (by omega)]) (d85 6 (by omega)) (dlo 41 (by omega) (by omega) (by omega) (by omega) (by omega)) (dlo 88 (by omega) (by omega) (by omega) (by omega) (by omega))) (h7.same (fun x q1 q2 => dlo x (by omega) (by omega) (by omega) (by omega) (by omega)) (dlo 109 (by omega) (by omega) (by omega) (by omega) (by omega)) (dlo 110 (by omega) (by omega) (by omega) (by omega) (by omega)) (dlo 111 (by omega) (by omega) (by omega) (by omega) (by omega)) (dlo 112 (by omega) (by omega) (by omega) (by omega) (by omega))) ?_ (h9.same (d85 18 (by omega)) (h9.2.same (by rw [dlo 46 (by omega) (by omega) (by omega) (by omega) (by omega)]) (dlo 47 (by omega) (by omega) (by omega) (by omega) (by omega))))
    have cM : ∀ a, 85 < a → C a = M a := fun a ha => rC a (by omega) (by omega)
    refine Or.inr ⟨by rw [D03]; decide, ⟨s, s1, ?_, ?_⟩, ⟨n, n1, ?_, ?_, fun i hi => ?_⟩, fun q hq => ?_, ⟨m, m1, ?_, ?_, ?_, fun k hk => ?_⟩, r, ?_, by omega, ?_, ?_⟩
    · rw [D14 14 (by omega) (by omega), k2 0 (by omega)]; exact s2
    · rw [d7, c85]; exact s3
    · rw [D14 14 (by omega) (by omega), k2 1 (by omega)]; exact n2
    · rw [d8, c85]; exact n3
    · have h := d3 i (by omega)
      rw [D14 15 (by omega) (by omega), D14 16 (by omega) (by omega), h.2.1, h.2.2, cM 90 (by omega), cM 91 (by omega)]
      have k3i := k3 i (by omega)
      rw [show C0 15 i = M 2 i from k3i.1, show C0 16 i = M 3 i from k3i.2.1]
      exact n4 i hi
    · rw [D14 17 (by omega) (by omega), (d3 q hq).1, cM 89 (by omega), show C0 17 q = M 4 q from (k3 q hq).2.2]
      exact h3 q hq
    · rw [D14 14 (by omega) (by omega), k2 2 (by omega)]; exact m2
    · rw [d6, c85]; exact m3
    · rw [dlo 1 (by omega) (by omega) (by omega) (by omega) (by omega), m2, ix_nI (by omega)]; exact Nat.le_refl _
    · obtain ⟨a1, a2, a3, l, l1, l2, l3, l4⟩ := m4 k hk
      obtain ⟨k5, k6⟩ := k4 k (by omega)
      have k5' : ∀ j, j < 4 → C0 (19 + 2 * k) j = M (6 + 2 * k) j := fun j hj => by have := k5 j hj; rw [show 14 + 5 + 2 * k = 19 + 2 * k by omega, show 1 + 5 + 2 * k = 6 + 2 * k by omega] at this; exact this
      have k6' : ∀ i, i < 5 → C0 (20 + 2 * k) i = M (7 + 2 * k) i := fun i hi => by have := k6 i hi; rw [show 14 + 6 + 2 * k = 20 + 2 * k by omega, show 1 + 6 + 2 * k = 7 + 2 * k by omega] at this; exact this
      have d4k := d4 k (by omega)
      unfold KD
      rw [D14 (19 + 2 * k) (by omega) (by omega), D14 (20 + 2 * k) (by omega) (by omega), dlo 92 (by omega) (by omega) (by omega) (by omega) (by omega), k5' 0 (by omega), k5' 1 (by omega), k5' 2 (by omega), k5' 3 (by omega), d4k.1, d4k.2.1, d4k.2.2, cM 93 (by omega), cM 94 (by omega), cM 96 (by omega)]
      exact ⟨a1, a2, a3, l, l1, l2, l3, fun i hi => by rw [k6' i (by omega), d5 _ (by omega), cM 95 (by omega)]; exact l4 i hi⟩
    · rw [D0 6 (by omega), x3, ix_nI (by omega)]; exact r1
    · rw [D14 14 (by omega) (by omega), k2 3 (by omega)]; exact r2
    · rw [d9, c85]; exact r3
