/-! 69: the best order: both -/
theorem fM_b23_eq {k : Nat} (hk : k < 4) (w : Int32) : ∀ (c i z : Nat) (D : Mem), i + c = 5 → c < z → (∀ b, b < i → D 105 b = D 95 (5 * k + b)) → ∃ D', fM_best_b23 (nI k) w z (nI i) D = ((f_rO 60 (nI k) 0 0 (wr D' 85 47 (-1))).bind fun M3 => fM_best_b64 (nI k) w 1000 0 M3) ∧ (∀ a, a ≠ 105 → D' a = D a) ∧ ∀ b, b < 5 → D' 105 b = D 95 (5 * k + b) := by
  intro c
  induction c with
  | zero =>
    intro i z D hi hz h
    obtain ⟨z, rfl⟩ := Nat.exists_eq_succ_of_ne_zero (show z ≠ 0 by omega)
    exact ⟨D, by rw [fM_best_b23, if_pos (by rw [show (5 : Int32) = nI 5 from rfl, n_le (by omega) (by omega)]; omega)], fun _ _ => rfl, fun b hb => h b (by omega)⟩
  | succ c ih =>
    intro i z D hi hz h
    obtain ⟨z, rfl⟩ := Nat.exists_eq_succ_of_ne_zero (show z ≠ 0 by omega)
    have e5 : (5 : Int32) * nI k + nI i = nI (5 * k + i) := by rw [show (5 : Int32) = nI 5 from rfl, pk_mul, ← nI_add]
    obtain ⟨D', d1, d2, d3⟩ := ih (i + 1) z (wr D 105 i (D 95 (5 * k + i))) (by omega) (by omega) (fun b hb => by
      rw [wr_ne (show 95 ≠ 105 by decide)]
      by_cases e : b = i
      · rw [e, wr_same]
      · rw [wr_at e]; exact h b (by omega))
    refine ⟨D', ?_, fun a ha => by rw [d2 a ha, wr_ne ha], fun b hb => by rw [d3 b hb, wr_ne (by decide)]⟩
    rw [fM_best_b23, if_neg (by rw [show (5 : Int32) = nI 5 from rfl, n_le (by omega) (by omega)]; omega), e5, if_pos (ib_nI (by omega) (by omega)), if_pos (ib_nI (by omega) (by omega)), ix_nI (by omega), ix_nI (by omega), nI_1, d1]
theorem fM_b64_eq {k : Nat} (hk : k < 4) (w : Int32) (T : Stk) : ∀ (c i z : Nat) (D : Mem), i + c = 5 → c < z → (∀ b, b < 5 → D 105 b = T (5 * k + b)) → (∀ b, b < i → D 95 (5 * k + b) = T (5 * k + b)) → (∀ b, (b < 5 * k ∨ 5 * k + 5 ≤ b) → D 95 b = T b) → ∃ D', fM_best_b64 (nI k) w z (nI i) D = some (if w = 0 then D 85 47 else D 85 46, D') ∧ (∀ a, a ≠ 95 → D' a = D a) ∧ D' 95 = T := by
  intro c
  induction c with
  | zero =>
    intro i z D hi hz h1 h2 h3
    obtain ⟨z, rfl⟩ := Nat.exists_eq_succ_of_ne_zero (show z ≠ 0 by omega)
    refine ⟨D, ?_, fun _ _ => rfl, ?_⟩
    · rw [fM_best_b64, if_pos (by rw [show (5 : Int32) = nI 5 from rfl, n_le (by omega) (by omega)]; omega)]
      by_cases hw : w = 0
      · rw [if_pos hw, if_pos hw]
      · rw [if_neg hw, if_neg hw]
    · funext b
      by_cases hb : b < 5 * k ∨ 5 * k + 5 ≤ b
      · exact h3 b hb
      · have := h2 (b - 5 * k) (by omega)
        rw [show 5 * k + (b - 5 * k) = b by omega] at this
        exact this
  | succ c ih =>
    intro i z D hi hz h1 h2 h3
    obtain ⟨z, rfl⟩ := Nat.exists_eq_succ_of_ne_zero (show z ≠ 0 by omega)
    have e5 : (5 : Int32) * nI k + nI i = nI (5 * k + i) := by rw [show (5 : Int32) = nI 5 from rfl, pk_mul, ← nI_add]
    obtain ⟨D', d1, d2, d3⟩ := ih (i + 1) z (wr D 95 (5 * k + i) (D 105 i)) (by omega) (by omega) (fun b hb => by rw [wr_ne (by decide)]; exact h1 b hb) (fun b hb => by
      by_cases e : b = i
      · rw [e, wr_same]; exact h1 i (by omega)
      · rw [wr_at (by omega)]; exact h2 b (by omega)) (fun b hb => by rw [wr_at (by omega)]; exact h3 b hb)
    refine ⟨D', ?_, fun a ha => by rw [d2 a ha, wr_ne ha], d3⟩
    rw [fM_best_b64, if_neg (by rw [show (5 : Int32) = nI 5 from rfl, n_le (by omega) (by omega)]; omega), e5, if_pos (ib_nI (by omega) (by omega)), if_pos (ib_nI (by omega) (by omega)), ix_nI (by omega), ix_nI (by omega), nI_1, d1, wr_ne (by decide)]
theorem range_getD {n b : Nat} (h : b < n) : (List.range n).getD b 0 = b := by
  rw [List.getD_eq_getElem?_getD, List.getElem?_range h]
  rfl
theorem K58.s {M N : Mem} (k : K58 M N) : Same M N := ⟨fun a h => k a (by omega), ⟨by rw [k 0 (by omega)], by rw [k 0 (by omega)]⟩, fun j _ => by rw [k 1 (by omega)], by rw [k 40 (by omega)], fun j _ => by rw [k 85 (by omega)]⟩
/-- the model's side -/
theorem best_M {V C : Mem} {tl : Tell} {k : Nat} {d q : Int32} (vo : VOK V) (hk : k < vM V) (mo : MO0 V 4 tl C) (w : Int32) (hb : bst (ordF V tl k) (ordG V k) (prm (vL V k)) none = some (d, q)) : ∃ D, fM_best_b23 (nI k) w 1000 0 C = some (if w = 0 then q else d, D) ∧ Same C D ∧ (∀ a, a < 85 → D a = C a) := by
  have m4 := vo.2.2.1.2
  have l5 := (vo.2.2.2 k hk).2.2.1.2
  obtain ⟨D1, a1, a2, a3⟩ := fM_b23_eq (k := k) (by omega) w 5 0 1000 C (by omega) (by omega) (fun b hb => absurd hb (by omega))
  have r : ∀ a, a ≠ 105 → a ≠ 85 → wr D1 85 47 (-1) a = C a := fun a h1 h2 => by rw [wr_ne h2, a2 a h1]
  have r85 : ∀ j, j ≠ 47 → wr D1 85 47 (-1) 85 j = C 85 j := fun j h => by rw [wr_at h, a2 85 (by decide)]
  have r105 : ∀ b, b < 5 → wr D1 85 47 (-1) 105 b = C 95 (5 * k + b) := fun b hb => by rw [wr_ne (by decide)]; exact a3 b hb
  have r47 : wr D1 85 47 (-1) 85 47 = -1 := wr_same
  generalize wr D1 85 47 (-1) = D0 at a1 r r85 r105 r47
  have mv : MV V 4 D0 := by
    have := mo.2.1
    unfold MV at this ⊢
    rw [r85 7 (by omega), r85 11 (by omega), r85 17 (by omega), r85 18 (by omega), r 89 (by omega) (by omega), r 90 (by omega) (by omega), r 91 (by omega) (by omega), r 92 (by omega) (by omega), r 93 (by omega) (by omega), r 94 (by omega) (by omega), r 95 (by omega) (by omega), r 96 (by omega) (by omega)]
    exact this
  have vm : VMo (D0 85 4) tl (D0 86) (D0 87) := by
    rw [r85 4 (by omega), r 86 (by omega) (by omega), r 87 (by omega) (by omega)]
    exact mo.2.2
  have h105 : ∀ i, i < vL V k → D0 105 i = V (8 + k) i := fun i hi => by
    rw [r105 i (by omega)]
    have := (mo.2.1.2.2.2.2.2.2.2 k hk).2 i hi
    unfold sk at this
    rw [if_pos (by omega)] at this
    exact this
  obtain ⟨D2, b1, b2, -, b4⟩ := OTree_all vo hk mv vm h105 (vL V k) 60 (by omega) 0 [] (fun _ => true) 0 D0 none (by omega) rfl (fun b hb => absurd hb (by omega)) (Bit.zero.iff (fun r _ => by simp)) KeepO.rfl' (fun b hb => absurd hb (by omega)) (Or.inl ⟨rfl, r47⟩)
  rw [show (fun s : List Nat => [] ++ s) = id from rfl, List.map_id, show lexQ (vL V k) (vL V k) (fun _ => true) = prm (vL V k) from rfl, hb] at b4
  obtain ⟨D3, c1, c2, c3⟩ := fM_b64_eq (k := k) (by omega) w (C 95) 5 0 1000 D2 (by omega) (by omega) (fun b hb => by rw [b2.1 105 (by omega) (by omega) (by omega)]; exact r105 b hb) (fun b hb => absurd hb (by omega)) (fun b hb => by rw [b2.2.1 b hb, r 95 (by omega) (by omega)])
  have z : ∀ a, a ≠ 85 → (a < 97 ∨ 105 < a) → D3 a = C a := fun a h1 h2 => by
    by_cases e : a = 95
    · rw [e]; exact c3
    · rw [c2 a e, b2.1 a h1 e (by omega), r a (by omega) h1]
  refine ⟨D3, ?_, ⟨fun a h => z a (by omega) (by omega), ⟨by rw [z 0 (by omega) (by omega)], by rw [z 0 (by omega) (by omega)]⟩, fun j _ => by rw [z 1 (by omega) (by omega)], by rw [z 40 (by omega) (by omega)], fun j h => by rw [c2 85 (by decide), b2.2.2 j (by omega), r85 j (by omega)]⟩, fun a ha => z a (by omega) (by omega)⟩
  rw [show fM_best_b23 (nI k) w 1000 0 C = _ from a1, show f_rO 60 (nI k) 0 0 D0 = some D2 from b1, Option.bind_some, show fM_best_b64 (nI k) w 1000 0 D2 = _ from c1]
  rcases b4 with ⟨z1, -⟩ | ⟨d', q', z1, z2, z3, -⟩
  · cases z1
  · cases z1
    rw [z2, z3]
theorem op_best (a w : Int32) : Op (fN_best a w) (fM_best a w) := by
  intro M hR
  obtain ⟨m, m1, m2, m3, m4⟩ := hR.2.2.2.1
  unfold fN_best fM_best
  simp only [m2, fN_w _ m _ (show m < 2147483648 by omega), fN_w2, fM_i2, Option.bind_some, bz_0]
  by_cases g1 : ib a m
  · rw [if_neg (nn g1)]
    by_cases g2 : ib w 2
    · rw [if_neg (nn g2)]
      obtain ⟨k, hk, rfl⟩ := ib_ex g1
      obtain ⟨tl0, hv, -, -⟩ := hR.view
      have vo0 : VOK (viewC 1 M) := hv.2.2.1
      have evm : vM (viewC 1 M) = m := by
        show ix (M 1 2) = m
        rw [m2, ix_nI (by omega)]
      have hkv : k < vM (viewC 1 M) := by rw [evm]; exact hk
      have l5 := (vo0.2.2.2 k hkv).2.2.1.2
      have hki : k < ix (M 1 2) := hkv
      have eL : M (6 + 2 * k) 3 = nI (vL (viewC 1 M) k) := by
        have := (vo0.2.2.2 k hkv).2.2.1.1
        rw [← this]
        unfold viewC
        rw [if_neg (by omega), if_neg (by omega), if_neg (by omega), if_neg (by omega), if_pos (by omega), if_pos hki, show 1 + 5 + 2 * k = 6 + 2 * k by omega]
      have eR : ∀ i, i < vL (viewC 1 M) k → M (7 + 2 * k) i = viewC 1 M (8 + k) i := fun i hi => by
        have hi2 : i < ix (M (1 + 5 + 2 * k) 3) := by rw [show 1 + 5 + 2 * k = 6 + 2 * k by omega, eL, ix_nI (by omega)]; exact hi
        unfold viewC
        rw [if_neg (by omega), if_neg (by omega), if_neg (by omega), if_neg (by omega), if_neg (by omega), show 8 + k - 8 = k by omega, if_pos ⟨hki, hi2⟩, show 1 + 6 + 2 * k = 7 + 2 * k by omega]
      generalize hV : viewC 1 M = V at vo0 hkv l5 eL eR
      obtain ⟨F, f1, f2, f3⟩ := firstOrder_eq (n := vL V k) (by omega) (vL V k) 0 1000 M (by omega) (by omega) (fun b hb => absurd hb (by omega))
      have hRF := hR.same f3.s (hv.2.2.2.2.2.same (by rw [f3 46 (by decide)]) (f3 47 (by decide)))
      have eVF : viewC 1 F = V := by
        rw [viewC_keep (h := 1) (by decide) (by rw [m2, ix_nI (by omega)]; exact m1) (fun a ha => f3 a (by omega))]
        exact hV
      obtain ⟨tl, C0, e1, wd, mo, vo, -, r58⟩ := hRF.would
      rw [eVF] at wd mo vo
      have po := prm_ok (show vL V k < 6 by omega)
      have hN : (prm (vL V k)).length < 1000 := by
        rw [po.1]
        have : ∀ n, n < 6 → [1, 1, 2, 6, 24, 120].getD n 0 < 1000 := by decide
        exact this _ (by omega)
      obtain ⟨C, d, q, c1, c2, sC, lC⟩ := fN_best_b65_eq (M := F) vo hkv rfl (fun i hi => by rw [f3 _ (by omega)]; exact eR i hi) w (prm (vL V k)).length 0 1000 C0 0 0 (V (8 + k)) none (by omega) hN (fun _ b hb => by rw [r58, po.2.1, range_getD hb]; exact f2 b hb) (by rw [rowV_self]; exact wd) (fun b hb => (vo.2.2.2 k hkv).2.2.2 b hb) (Or.inl ⟨rfl, rfl⟩)
      obtain ⟨D, d1, d2, d3⟩ := best_M vo hkv (mo.cl sC) w c2
      refine ⟨if w = 0 then q else d, C, D, ?_, ?_, (hRF.same sC lC).same d2 (lC.same (by rw [d3 46 (by decide)]) (d3 47 (by decide)))⟩
      rotate_left
      · have e17 : C 85 17 = nI m := by rw [sC.2.2.2.2 17 (by omega), f3 85 (by decide)]; exact m3
        rw [fM_mm _ _ m1 e17]
        simp only [Option.bind_some, bz_0]
        rw [if_neg (nn g1), if_neg (nn g2)]
        exact d1
      · rw [if_pos (ib_nI (by omega) (by omega)), ix_nI (by omega), eL]
        unfold fN_firstOrder
        rw [show fN_firstOrder_b4 (nI (vL V k)) 1000 1 0 M = _ from f1, Option.bind_some, e1, Option.bind_some, ← po.1]
        exact c1
    · refine ⟨-2, M, M, by rw [if_pos g2], ?_, hR⟩
      rw [fM_mm _ _ m1 m3]
      simp only [Option.bind_some, bz_0]
      rw [if_neg (nn g1), if_pos g2]
  · refine ⟨-2, M, M, by rw [if_pos g1], ?_, hR⟩
    rw [fM_mm _ _ m1 m3]
    simp only [Option.bind_some, bz_0]
    rw [if_pos g1]
