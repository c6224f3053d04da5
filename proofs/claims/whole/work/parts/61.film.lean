/-! 61: film -/
theorem kep0_room {x : Int32} (h : x = -1 ∨ ib x 8) : kep 0 x = x := by
  rcases h with rfl | h
  · decide
  · obtain ⟨k, hk, rfl⟩ := ib_ex h
    rcases (by omega : k = 0 ∨ k = 1 ∨ k = 2 ∨ k = 3 ∨ k = 4 ∨ k = 5 ∨ k = 6 ∨ k = 7) with rfl | rfl | rfl | rfl | rfl | rfl | rfl | rfl <;> decide
theorem CV.lo {h : Nat} {V : Mem} {tl : Tell} {M N : Mem} (c : CV h V tl M) (k : ∀ a, a < 77 → N a = M a) : CV h V tl N := by
  obtain ⟨c1, c2, c3, c4, c5, c6, c7⟩ := c
  have hl : h < 28 := by unfold hOK at c1; omega
  have hm : ix (M h 2) ≤ 4 := by
    have := c4.2.2.1.2
    rw [c3] at this
    exact this
  have hr := ix_lt c5
  refine ⟨c1, by rw [k 45 (by omega)]; exact c2, c3.trans (viewC_keep c1 hm (fun a h2 => k a (by omega))).symm, c4, by rw [k h (by omega)]; exact c5, ?_, fun i hi => by rw [k 47 (by omega)]; exact c7 i hi⟩
  rw [k h (by omega), k _ (by omega), k _ (by omega)]
  exact c6
theorem ClsD.lo {h t : Nat} {V : Mem} {tl : Tell} {M N : Mem} (s : ClsD h V tl t M) (k : ∀ a, a < 77 → N a = M a) : ClsD h V tl t N := by
  obtain ⟨c1, d1, a1, q1⟩ := s
  refine ⟨c1.lo k, fun j hj => ?_, by rw [k 45 (by omega)]; exact a1, ?_⟩
  · rw [k 50 (by omega), k 51 (by omega), k 52 (by omega), k 53 (by omega)]; exact d1 j hj
  · unfold DEq
    rw [k 50 (by omega), k 51 (by omega), k 52 (by omega), k 53 (by omega), k 54 (by omega), k 55 (by omega), k 56 (by omega), k 45 (by omega)]
    exact q1
theorem MO.x112 {V : Mem} {tl : Tell} {M N : Mem} (v : MO V 4 tl M) (k : ∀ a, a ≠ 112 → N a = M a) : MO V 4 tl N := by
  obtain ⟨v1, v2, v3, v4⟩ := v
  refine ⟨v1, ?_, by rw [k 85 (by decide), k 86 (by decide), k 87 (by decide)]; exact v3, ?_⟩
  · unfold MV
    rw [k 85 (by decide), k 89 (by decide), k 90 (by decide), k 91 (by decide), k 92 (by decide), k 93 (by decide), k 94 (by decide), k 95 (by decide), k 96 (by decide)]
    exact v2
  · unfold TB97
    rw [k 85 (by decide), k 97 (by decide)]
    exact v4
theorem DM.x112 {V S : Mem} {M N : Mem} (v : DM V 4 S M) (k : ∀ a, a ≠ 112 → N a = M a) : DM V 4 S N := by
  unfold DM
  rw [k 98 (by decide), k 99 (by decide), k 100 (by decide), k 101 (by decide), k 102 (by decide), k 103 (by decide), k 104 (by decide), k 85 (by decide)]
  exact v
/-- what a film shows in the minute t -/
def filF (V : Mem) (tl : Tell) (g : Int32 → Int32) (a : Int32) (t : Nat) : Int32 := if a = -1 then g (nI t) else dayS V tl (t + 1) 50 (ix a)
theorem film_C {V M C0 : Mem} {tl : Tell} {g : Int32 → Int32} {a : Int32} {s n : Nat} (hn : n ≤ 40) (hs : s < 4) (ha : a = -1 ∨ ib a (vM V)) (gb : ∀ t, 0 ≤ t.toInt → g t = -1 ∨ ib (g t) 8) (g1 : ∀ (N : Mem) (t : Int32), (∀ j, j < 4 → N 1 j = M 1 j) → N 2 = M 2 → N 3 = M 3 → fH_masterIn 1 t N = some (g t, N)) (hC : ∀ x, x < 5 → C0 x = M x) (b0 : C0 (77 + 2 * s) 0 = nI 0) (b1 : C0 (77 + 2 * s) 1 = nI n) : ∀ (c t z : Nat) (C : Mem), t + c = n → c < z → ClsD 1 V tl t C → (∀ x, (x < 45 ∨ 56 < x) → x ≠ 78 + 2 * s → C x = C0 x) → LW C → (∀ i, i < t → C (78 + 2 * s) i = filF V tl g a i) → ∃ C', fN_film_b66 a (nI n) (77 + 2 * s) z (nI t) C = some (nI n, C') ∧ (∀ x, (x < 45 ∨ 56 < x) → x ≠ 78 + 2 * s → C' x = C0 x) ∧ LW C' ∧ ∀ i, i < n → C' (78 + 2 * s) i = filF V tl g a i := by
  intro c
  induction c with
  | zero =>
    intro t z C ht hz cl kc lw hi
    obtain ⟨z, rfl⟩ := Nat.exists_eq_succ_of_ne_zero (show z ≠ 0 by omega)
    have : t = n := by omega
    subst this
    exact ⟨C, by rw [fN_film_b66, if_pos (by rw [n_le (by omega) (by omega)]; omega)], kc, lw, hi⟩
  | succ c ih =>
    intro t z C ht hz cl kc lw hi
    obtain ⟨z, rfl⟩ := Nat.exists_eq_succ_of_ne_zero (show z ≠ 0 by omega)
    have m4 := cl.1.2.2.2.1.2.2.1.2
    obtain ⟨C1, p1, p2, p3, p4, p5⟩ := cl.pass
    have kc1 : ∀ x, (x < 45 ∨ 56 < x) → x ≠ 78 + 2 * s → C1 x = C0 x := fun x h1 h2 => (p3 x h1).trans (kc x h1 h2)
    have next : ∀ v, v = filF V tl g a t → (v = -1 ∨ ib v 8) → ∃ C', fN_film_b111 (fN_film_b66 a (nI n) (77 + 2 * s) z) a (nI n) (77 + 2 * s) (nI t) v (nI t) (77 + 2 * s) C1 = some (nI n, C') ∧ (∀ x, (x < 45 ∨ 56 < x) → x ≠ 78 + 2 * s → C' x = C0 x) ∧ LW C' ∧ ∀ i, i < n → C' (78 + 2 * s) i = filF V tl g a i := by
      intro v hv hb
      unfold fN_film_b111
      rw [fS_put_eq (q := 0) (n := n) (by omega) hn (show t < n by omega) (by rw [kc1 _ (by omega) (by omega)]; exact b0) (by rw [kc1 _ (by omega) (by omega)]; exact b1), kep0_room hb]
      simp only [Option.bind_some, nI_1]
      refine ih (t + 1) z _ (by omega) (by omega) (p2.lo (fun x hx => wr_ne (by omega))) (fun x h1 h2 => by rw [wr_ne h2]; exact kc1 x h1 h2) ((lw.same (by rw [p4]) p5).same (by rw [wr_ne (by omega)]) (wr_ne (by omega))) (fun i hit => ?_)
      by_cases h : i = t
      · subst h; rw [wr_same]; exact hv
      · rw [wr_at h, p3 _ (by omega)]; exact hi i (by omega)
    rw [fN_film_b66, if_neg (by rw [n_le (by omega) (by omega)]; omega), p1]
    simp only [Option.bind_some]
    by_cases h : a = -1
    · rw [if_pos h, g1 C1 (nI t) (fun j _ => by rw [kc1 1 (by omega) (by omega), hC 1 (by omega)]) (by rw [kc1 2 (by omega) (by omega), hC 2 (by omega)]) (by rw [kc1 3 (by omega) (by omega), hC 3 (by omega)])]
      simp only [Option.bind_some]
      exact next _ (by unfold filF; rw [if_pos h]) (gb _ (by rw [nI_t (by omega)]; omega))
    · have hb := ha.resolve_left h
      rw [if_neg h, if_pos (ib_mono hb m4)]
      have q := (p2.2.2.2.1 (ix a) (ix_lt hb)).1
      exact next _ (by unfold filF; rw [if_neg h, q]) (Or.inr (by rw [← q]; exact (dayS_DOK cl.1.2.2.2.1 (t + 1) (ix a) (ix_lt hb)).1))
theorem film_M {V M D0 : Mem} {tl : Tell} {g : Int32 → Int32} {a : Int32} {s n : Nat} (vo : VOK V) (hn : n ≤ 40) (hs : s < 4) (ha : a = -1 ∨ ib a (vM V)) (g2 : ∀ (N : Mem) (t : Int32), N 85 11 = M 85 11 → N 90 = M 90 → N 91 = M 91 → 0 ≤ t.toInt → fM_masterIn t N = some (g t, N)) (h11 : D0 85 11 = M 85 11) (h90 : D0 90 = M 90) (h91 : D0 91 = M 91) : ∀ (c t z : Nat) (D : Mem), t + c = n → c < z → MO V 4 tl D → DM V 4 (dayS V tl t) D → (∀ x, x ≠ 85 → x ≠ 112 → (x < 97 ∨ 104 < x) → D x = D0 x) → (∀ j, (j < 21 ∨ (36 ≤ j ∧ j ≠ 43 ∧ j ≠ 44 ∧ j ≠ 132)) → D 85 j = D0 85 j) → (∀ x, D 112 x = if 40 * s ≤ x ∧ x < 40 * s + t then filF V tl g a (x - 40 * s) else D0 112 x) → ∃ D', fM_film_b50 (nI s) a (nI n) z (nI t) D = some (nI n, D') ∧ (∀ x, x ≠ 85 → x ≠ 112 → (x < 97 ∨ 104 < x) → D' x = D0 x) ∧ (∀ j, (j < 21 ∨ (36 ≤ j ∧ j ≠ 43 ∧ j ≠ 44 ∧ j ≠ 132)) → D' 85 j = D0 85 j) ∧ ∀ x, D' 112 x = if 40 * s ≤ x ∧ x < 40 * s + n then filF V tl g a (x - 40 * s) else D0 112 x := by
  have m4 := vo.2.2.1.2
  intro c
  induction c with
  | zero =>
    intro t z D ht hz mo dm k1 k2 k3
    obtain ⟨z, rfl⟩ := Nat.exists_eq_succ_of_ne_zero (show z ≠ 0 by omega)
    have : t = n := by omega
    subst this
    exact ⟨D, by rw [fM_film_b50, if_pos (by rw [n_le (by omega) (by omega)]; omega)], k1, k2, k3⟩
  | succ c ih =>
    intro t z D ht hz mo dm k1 k2 k3
    obtain ⟨z, rfl⟩ := Nat.exists_eq_succ_of_ne_zero (show z ≠ 0 by omega)
    obtain ⟨D1, p1, p2, p3⟩ := fM_lives_eq mo (dayS_DOK vo t) dm (t := nI t) (by rw [nI_t (by omega)]; omega)
    rw [← dayS_snoc] at p3
    have next : ∀ v, v = filF V tl g a t → ∃ D', fM_film_b93 (fM_film_b50 (nI s) a (nI n) z) (nI s) a (nI n) (nI t) v (40 * nI s + nI t) D1 = some (nI n, D') ∧ (∀ x, x ≠ 85 → x ≠ 112 → (x < 97 ∨ 104 < x) → D' x = D0 x) ∧ (∀ j, (j < 21 ∨ (36 ≤ j ∧ j ≠ 43 ∧ j ≠ 44 ∧ j ≠ 132)) → D' 85 j = D0 85 j) ∧ ∀ x, D' 112 x = if 40 * s ≤ x ∧ x < 40 * s + n then filF V tl g a (x - 40 * s) else D0 112 x := by
      intro v hv
      unfold fM_film_b93
      rw [show (40 : Int32) * nI s + nI t = nI (40 * s + t) by rw [show (40 : Int32) = nI 40 from rfl, pk_mul, nI_add], if_pos (ib_nI (by omega) (by omega)), ix_nI (by omega), nI_1]
      refine ih (t + 1) z _ (by omega) (by omega) ((mo.keep p2).x112 (fun x hx => wr_ne hx)) (p3.x112 (fun x hx => wr_ne hx)) (fun x h1 h2 h3 => by rw [wr_ne h2, p2.1 x h1 (by omega)]; exact k1 x h1 h2 h3) (fun j hj => by rw [wr_ne (by decide), p2.2 j hj]; exact k2 j hj) (fun x => ?_)
      by_cases h : x = 40 * s + t
      · subst h
        rw [wr_same, if_pos (by omega), Nat.add_sub_cancel_left]; exact hv
      · rw [wr_at h, p2.1 112 (by decide) (by decide), k3 x]
        by_cases h5 : 40 * s ≤ x ∧ x < 40 * s + t
        · rw [if_pos h5, if_pos (by omega)]
        · rw [if_neg h5, if_neg (by omega)]
    rw [fM_film_b50, if_neg (by rw [n_le (by omega) (by omega)]; omega), p1]
    simp only [Option.bind_some]
    by_cases h : a = -1
    · rw [if_pos h, g2 D1 (nI t) (by rw [p2.2 11 (by omega), k2 11 (by omega)]; exact h11) (by rw [p2.1 90 (by decide) (by decide), k1 90 (by decide) (by decide) (by decide)]; exact h90) (by rw [p2.1 91 (by decide) (by decide), k1 91 (by decide) (by decide) (by decide)]; exact h91) (by rw [nI_t (by omega)]; omega)]
      simp only [Option.bind_some]
      exact next _ (by unfold filF; rw [if_pos h])
    · have hb := ha.resolve_left h
      have hk := ix_lt hb
      have q := (p3.1 (ix a) hk).1
      rw [show sk 4 (ix a) = ix a by unfold sk; rw [if_pos (by omega)]] at q
      rw [if_neg h, if_pos (ib_mono hb m4)]
      exact next _ (by unfold filF; rw [if_neg h, q])
theorem op_film (b a d : Int32) : Op (fN_film b a d) (fM_film b a d) := by
  intro M hR
  have hRH := hR.2.2.2.2.2.2.1
  obtain ⟨m, m1, m2, m3, m4⟩ := hR.2.2.2.1
  obtain ⟨g, g1, g2, g3⟩ := mst_both hR
  have t0 : (0 : Int32).toInt = 0 := rfl
  have t40 : (40 : Int32).toInt = 40 := rfl
  have hmi : (nI m).toInt = m := nI_t (by omega)
  unfold fN_film
  simp only [fN_w4, m2, Option.bind_some, bz_0]
  by_cases h1 : ib b 4
  · rw [if_neg (nn h1)]
    obtain ⟨s, hs, rfl⟩ := ib_ex h1
    by_cases h2 : a = -1 ∨ ib a m
    · have c1 : ¬ a < -1 := by
        rcases h2 with rfl | h2
        · decide
        · rw [i_lt, m1_t]; have := h2.1; omega
      have c2 : ¬ nI m ≤ a := by
        rcases h2 with rfl | h2
        · rw [i_le, m1_t, hmi]; omega
        · rw [i_le, hmi]; have := h2.2; omega
      rw [if_neg c1, if_neg c2]
      have modbad : ∀ C : Mem, (C 85 17 = nI m) → fM_film (nI s) a d C = fM_film_b20 (nI s) a d C := by
        intro C hC
        unfold fM_film
        rw [fM_s4]
        simp only [Option.bind_some, bz_0]
        rw [if_neg (nn h1)]
        by_cases h : a = -1
        · rw [if_pos h]
        · rw [if_neg h, fM_mm _ _ m1 hC]
          simp only [Option.bind_some, bz_0]
          rw [if_neg (nn (h2.resolve_left h))]
      by_cases h3 : 0 ≤ d.toInt ∧ d.toInt ≤ 40
      · rw [if_neg (by rw [i_lt, t0]; omega), if_pos (by rw [i_le, t40]; omega), if_pos h1, ix_nI (by omega)]
        obtain ⟨n, hn, rfl⟩ : ∃ n, n ≤ 40 ∧ d = nI n := ⟨ix d, by unfold ix; omega, (nI_ix h3.1).symm⟩
        obtain ⟨C0, e1, r1, r2, r3, r4, r5⟩ := fS_become_eq (77 + 2 * s) 0 (nI n) M
        obtain ⟨tl, hv, mo, -⟩ := hR.view
        have vo := mo.1
        have evm : vM (viewC 1 M) = m := by
          show ix (M 1 2) = m
          rw [m2, ix_nI (by omega)]
        have hv0 : HV 1 (viewC 1 M) tl C0 := by
          obtain ⟨v1, v2, v3, v4, v5, v6⟩ := hv
          have hr := ix_lt v4
          have ro : ∀ x, x < 77 → C0 x = M x := fun x hx => r1 x (by omega) (by omega)
          refine ⟨v1, ?_, v3, by rw [ro 1 (by omega)]; exact v4, ?_, v6.same (by rw [ro 46 (by omega)]) (ro 47 (by omega))⟩
          · exact (viewC_keep v1 (by rw [m2, ix_nI (by omega)]; exact m1) (fun x hx => ro x (by omega))).symm
          · rw [ro 1 (by omega), ro _ (by omega), ro _ (by omega)]; exact v5
        obtain ⟨C1, s1, s2, s3, s4⟩ := ClsD.start hv0
        have ha : a = -1 ∨ ib a (vM (viewC 1 M)) := by rw [evm]; exact h2
        obtain ⟨C, f1, f2, f3, f4⟩ := film_C (M := M) (C0 := C0) (tl := tl) (g := g) hn hs ha g3 g1 (fun x hx => r1 x (by omega) (by omega)) r2 r3 n 0 1000 C1 (by omega) (by omega) s2 (fun x h _ => s3 x h) s4 (fun i hi => absurd hi (by omega))
        rw [e1]
        simp only [Option.bind_some]
        rw [s1]
        simp only [Option.bind_some]
        have rC : ∀ x, (x < 45 ∨ 56 < x) → x ≠ 77 + 2 * s → x ≠ 78 + 2 * s → C x = M x := fun x q1 q2 q3 => by rw [f2 x q1 q3, r1 x q2 (by omega)]
        -- the model
        obtain ⟨D0, d1, d2, d3, d4, d5, d6⟩ := sheet_mk (M := M) (C := C) (s := s) (q := 0) (n := n) hs (by omega) hn (fun x hx => rC x (by omega) (by omega) (by omega))
        have rD0 : ∀ x, 85 ≤ x → x ≠ 109 → x ≠ 110 → x ≠ 111 → x ≠ 112 → D0 x = M x := fun x q1 q2 q3 q4 q5 => by rw [d2 x q2 q3 q4 q5, rC x (by omega) (by omega) (by omega)]
        have moD : MO0 (viewC 1 M) 4 tl D0 := by
          refine ⟨vo, ?_, by rw [rD0 85 (by omega) (by omega) (by omega) (by omega) (by omega), rD0 86 (by omega) (by omega) (by omega) (by omega) (by omega), rD0 87 (by omega) (by omega) (by omega) (by omega) (by omega)]; exact mo.2.2⟩
          have mv := mo.2.1
          unfold MV at mv ⊢
          rw [rD0 85 (by omega) (by omega) (by omega) (by omega) (by omega), rD0 89 (by omega) (by omega) (by omega) (by omega) (by omega), rD0 90 (by omega) (by omega) (by omega) (by omega) (by omega), rD0 91 (by omega) (by omega) (by omega) (by omega) (by omega), rD0 92 (by omega) (by omega) (by omega) (by omega) (by omega), rD0 93 (by omega) (by omega) (by omega) (by omega) (by omega), rD0 94 (by omega) (by omega) (by omega) (by omega) (by omega), rD0 95 (by omega) (by omega) (by omega) (by omega) (by omega), rD0 96 (by omega) (by omega) (by omega) (by omega) (by omega)]
          exact mv
        obtain ⟨D1, p1, p2, p3, p4⟩ := fM_startsOff_eq moD
        obtain ⟨D, q1, q2, q3, q4⟩ := film_M (M := M) (D0 := D0) (tl := tl) (g := g) vo hn hs ha g2 (by rw [rD0 85 (by omega) (by omega) (by omega) (by omega) (by omega)]) (rD0 90 (by omega) (by omega) (by omega) (by omega) (by omega)) (rD0 91 (by omega) (by omega) (by omega) (by omega) (by omega)) n 0 1000 D1 (by omega) (by omega) p3 p4 (fun x x1 x2 x3 => p2.1 x x1 x3) p2.2 (fun x => by rw [if_neg (by omega), p2.1 112 (by decide) (by decide)])
        refine ⟨nI n, C, D, f1, ?_, ?_⟩
        · rw [modbad C (by rw [rC 85 (by omega) (by omega) (by omega)]; exact m3)]
          unfold fM_film_b20
          rw [fM_iv (nI n) 0 40 0 40 _ rfl rfl]
          simp only [Option.bind_some, bz_0]
          rw [if_neg (nn h3), show fM_sheet (nI s) 0 (nI n) C = some (1, D0) from d1]
          simp only [Option.bind_some]
          rw [p1]
          simp only [Option.bind_some]
          exact q1
        · -- all else is as it was
          have rD : ∀ x, x ≠ 85 → x ≠ 109 → x ≠ 110 → x ≠ 111 → x ≠ 112 → (x < 97 ∨ 104 < x) → D x = C x := fun x x1 x2 x3 x4 x5 x6 => by rw [q2 x x1 x5 x6, d2 x x2 x3 x4 x5]
          have rD85 : ∀ j, (j < 21 ∨ (36 ≤ j ∧ j ≠ 43 ∧ j ≠ 44 ∧ j ≠ 132)) → D 85 j = M 85 j := fun j hj => by rw [q3 j hj, rD0 85 (by omega) (by omega) (by omega) (by omega) (by omega)]
          have s85 : ∀ x, (x < 45 ∨ 56 < x) → x ≠ 85 → x ≠ 77 + 2 * s → x ≠ 78 + 2 * s → x ≠ 109 → x ≠ 110 → x ≠ 111 → x ≠ 112 → (x < 97 ∨ 104 < x) → D x = M x := fun x x0 x1 x2 x3 x4 x5 x6 x7 x8 => by rw [rD x x1 x4 x5 x6 x7 x8, rC x x0 x2 x3]
          have lwD : LW D := f3.same (by rw [rD 46 (by omega) (by omega) (by omega) (by omega) (by omega) (by omega)]) (rD 47 (by omega) (by omega) (by omega) (by omega) (by omega) (by omega))
          let N : Mem := fun x => if (77 ≤ x ∧ x < 85) ∨ (109 ≤ x ∧ x ≤ 112) then M x else D x
          have hN1 : ∀ x, ((77 ≤ x ∧ x < 85) ∨ (109 ≤ x ∧ x ≤ 112)) → N x = M x := fun x hx => if_pos hx
          have hN2 : ∀ x, ¬ ((77 ≤ x ∧ x < 85) ∨ (109 ≤ x ∧ x ≤ 112)) → N x = D x := fun x hx => if_neg hx
          have hRN : Rel N := by
            refine hR.same ⟨fun x hx => ?_, ⟨?_, ?_⟩, fun j hj => ?_, ?_, fun j hj => ?_⟩ (lwD.same (by rw [hN2 46 (by omega)]) (hN2 47 (by omega)))
            · by_cases z : (77 ≤ x ∧ x < 85) ∨ (109 ≤ x ∧ x ≤ 112)
              · exact hN1 x z
              · rw [hN2 x z]; exact s85 x (by omega) (by omega) (by omega) (by omega) (by omega) (by omega) (by omega) (by omega) (by omega)
            · rw [hN2 0 (by omega), s85 0 (by omega) (by omega) (by omega) (by omega) (by omega) (by omega) (by omega) (by omega) (by omega)]
            · rw [hN2 0 (by omega), s85 0 (by omega) (by omega) (by omega) (by omega) (by omega) (by omega) (by omega) (by omega) (by omega)]
            · rw [hN2 1 (by omega), s85 1 (by omega) (by omega) (by omega) (by omega) (by omega) (by omega) (by omega) (by omega) (by omega)]
            · rw [hN2 40 (by omega), s85 40 (by omega) (by omega) (by omega) (by omega) (by omega) (by omega) (by omega) (by omega) (by omega)]
            · rw [hN2 85 (by omega)]; exact rD85 j (by omega)
          refine hRN.sheets (fun x hx => (hN2 x (by omega)).symm) (fun p hp => ?_)
          by_cases hps : p = s
          · subst hps
            refine Or.inr ⟨0, n, by omega, hn, ?_, ?_, ?_, ?_, ?_, fun i hi => ?_⟩
            · rw [rD _ (by omega) (by omega) (by omega) (by omega) (by omega) (by omega), f2 _ (by omega) (by omega)]; exact r2
            · rw [rD _ (by omega) (by omega) (by omega) (by omega) (by omega) (by omega), f2 _ (by omega) (by omega)]; exact r3
            · rw [q2 109 (by decide) (by decide) (by decide), d3, stS, if_pos rfl]
            · rw [q2 110 (by decide) (by decide) (by decide), d4, stS, if_pos rfl]
            · rw [q2 111 (by decide) (by decide) (by decide), d5, stS, if_pos rfl]
            · rw [q4, if_pos (by omega), Nat.add_sub_cancel_left, rD _ (by omega) (by omega) (by omega) (by omega) (by omega) (by omega), f4 i hi]
          · refine (hRH p hp).same ?_ ?_ ?_ ?_ ?_ (fun i hi => ?_)
            · exact s85 _ (by omega) (by omega) (by omega) (by omega) (by omega) (by omega) (by omega) (by omega) (by omega)
            · exact s85 _ (by omega) (by omega) (by omega) (by omega) (by omega) (by omega) (by omega) (by omega) (by omega)
            · rw [q2 109 (by decide) (by decide) (by decide), d3, stS, if_neg hps]
            · rw [q2 110 (by decide) (by decide) (by decide), d4, stS, if_neg hps]
            · rw [q2 111 (by decide) (by decide) (by decide), d5, stS, if_neg hps]
            · rw [q4, if_neg (by omega), d6, if_neg (by omega)]
      · refine ⟨-2, M, M, ?_, ?_, hR⟩
        · by_cases h : d < 0
          · rw [if_pos h]
          · rw [if_neg h, if_neg (by rw [i_le, t40]; rw [i_lt, t0] at h; omega)]
        · rw [modbad M m3]
          unfold fM_film_b20
          rw [fM_iv d 0 40 0 40 _ rfl rfl]
          simp only [Option.bind_some, bz_0]
          rw [if_pos h3]
    · refine ⟨-2, M, M, ?_, ?_, hR⟩
      · by_cases h : a < -1
        · rw [if_pos h]
        · rw [if_neg h, if_pos]
          rw [i_le, hmi]
          rw [i_lt, m1_t] at h
          by_cases hm1 : a.toInt = -1
          · exact absurd (Or.inl (i_eq.mpr (by rw [m1_t]; exact hm1))) h2
          · have : ¬ ib a m := fun z => h2 (Or.inr z)
            unfold ib at this
            omega
      · unfold fM_film
        rw [fM_s4]
        simp only [Option.bind_some, bz_0]
        rw [if_neg (nn h1), if_neg (fun z => h2 (Or.inl z)), fM_mm _ _ m1 m3]
        simp only [Option.bind_some, bz_0]
        rw [if_pos (fun z => h2 (Or.inr z))]
  · refine ⟨-2, M, M, by rw [if_pos h1], ?_, hR⟩
    unfold fM_film
    rw [fM_s4]
    simp only [Option.bind_some, bz_0]
    rw [if_pos h1]
