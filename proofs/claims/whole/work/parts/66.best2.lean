/-! 66: the best order: the class -/
/-- how the class holds the best so far -/
def bSt (t : Nat) (a5 a6 : Int32) (o : Option (Int32 × Int32)) : Prop := (t = 0 ∧ o = none) ∨ (t ≠ 0 ∧ o = some (a5, a6))
theorem fN_best_b65_eq {V M : Mem} {tl : Tell} {k n : Nat} (vo : VOK V) (hk : k < vM V) (hn : vL V k = n) (hM : ∀ i, i < n → M (7 + 2 * k) i = V (8 + k) i) (w : Int32) : ∀ (c t z : Nat) (C : Mem) (a5 a6 : Int32) (x : Stk) (o : Option (Int32 × Int32)), t + c = (prm n).length → c < z → (t < (prm n).length → ∀ b, b < n → C 58 b = nI (((prm n).getD t []).getD b 0)) → Wd27 (rowV V k n x) tl M C → (∀ b, b < n → ib (x b) 8) → bSt t a5 a6 o → ∃ C' d q, fN_best_b65 (nI k) w (nI n) (nI (prm n).length) z a5 a6 (nI t) C = some (if w = 0 then q else d, C') ∧ bst (ordF V tl k) (ordG V k) ((prm n).drop t) o = some (d, q) ∧ Same M C' ∧ LW C' := by
  have l5 := (vo.2.2.2 k hk).2.2.1.2
  have n5 : n ≤ 5 := by rw [← hn]; exact l5
  have po := prm_ok (show n < 6 by omega)
  have hN : 1 ≤ (prm n).length ∧ (prm n).length ≤ 120 := by
    rw [po.1]
    have : ∀ n, n < 6 → 1 ≤ [1, 1, 2, 6, 24, 120].getD n 0 ∧ [1, 1, 2, 6, 24, 120].getD n 0 ≤ 120 := by decide
    exact this n (by omega)
  intro c
  induction c with
  | zero =>
    intro t z C a5 a6 x o ht hz h58 wd hx hb
    obtain ⟨z, rfl⟩ := Nat.exists_eq_succ_of_ne_zero (show z ≠ 0 by omega)
    rcases hb with ⟨b1, -⟩ | ⟨b1, b2⟩
    · omega
    · refine ⟨C, a5, a6, ?_, ?_, wd.same, wd.lw⟩
      · rw [fN_best_b65, if_pos (by rw [n_le (by omega) (by omega)]; omega)]
        by_cases hw : w = 0
        · rw [if_pos hw, if_pos hw]
        · rw [if_neg hw, if_neg hw]
      · rw [List.drop_of_length_le (by omega), b2, bst]
  | succ c ih =>
    intro t z C a5 a6 x o ht hz h58 wd hx hb
    obtain ⟨z, rfl⟩ := Nat.exists_eq_succ_of_ne_zero (show z ≠ 0 by omega)
    obtain ⟨p1, p2, p3⟩ := po.2.2 t (by omega)
    have h58' := h58 (by omega)
    generalize hp : (prm n).getD t [] = p at p1 p2 p3 h58'
    have hdrop : (prm n).drop t = p :: (prm n).drop (t + 1) := by
      rw [List.drop_eq_getElem_cons (by omega)]
      congr 1
      rw [← hp, List.getD_eq_getElem?_getD, List.getElem?_eq_getElem (by omega)]
      rfl
    obtain ⟨C1, d1, d2, d3⟩ := fN_best_b78_eq (M := M) (tl := tl) (p := p) vo hk (by rw [hn]; exact p2) (by rw [hn]; exact hM) (fN_best_b65 (nI k) w (nI n) (nI (prm n).length) z) w (nI (prm n).length) a5 a6 (nI t) (vL V k) 0 1000 C 0 x (by omega) (by omega) (by rw [hn]; exact h58') (by rw [hn]; exact wd) (by rw [hn]; exact hx) (fun b hb => absurd hb (by omega))
    rw [hn] at d1 d2
    have r1 : R58 p C1 := ⟨by omega, fun b hb => by have := p2 b (by omega); omega, fun b hb => by rw [d3]; exact h58' b (by omega)⟩
    obtain ⟨C2, e1, e2, e3, e4⟩ := nextOrder_eq r1 (by rw [p1]; exact p3)
    have w2 := d2.k58 e3
    rw [p1] at e1
    have nx : ∀ (b5 b6 : Int32) (o' : Option (Int32 × Int32)), bSt (t + 1) b5 b6 o' → ∃ C' d q, fN_best_b65 (nI k) w (nI n) (nI (prm n).length) z b5 b6 (nI t + 1) C2 = some (if w = 0 then q else d, C') ∧ bst (ordF V tl k) (ordG V k) ((prm n).drop (t + 1)) o' = some (d, q) ∧ Same M C' ∧ LW C' := by
      intro b5 b6 o' hb'
      rw [nI_1]
      refine ih (t + 1) z C2 b5 b6 _ o' (by omega) (by omega) (fun ht' b hb => ?_) w2 (by rw [← hn]; exact ordY_ib vo hk (by rw [hn]; exact p2)) hb'
      rw [if_pos ht'] at e2
      exact e2.2.2 b (by rw [(po.2.2 (t + 1) ht').1]; exact hb)
    have eF : ordG V k p = digI (ordY V k p) n 0 0 := by unfold ordG; rw [hn]
    rw [fN_best_b65, if_neg (by rw [n_le (by omega) (by omega)]; omega)]
    rw [show fN_best_b78 (fN_best_b65 (nI k) w (nI n) (nI (prm n).length) z) (nI k) w (nI n) (nI (prm n).length) a5 a6 (nI t) 1000 0 0 C = _ from d1]
    unfold fN_best_b175 fN_best_b183
    rw [e1, Option.bind_some, Option.bind_some, ← eF, hdrop]
    rcases hb with ⟨b1, b2⟩ | ⟨b1, b2⟩
    · rw [if_pos (by rw [b1]; rfl), b2, bst]
      exact nx _ _ _ (Or.inr ⟨by omega, rfl⟩)
    · rw [if_neg (by rw [show (0 : Int32) = nI 0 from rfl, n_eq (by omega) (by omega)]; exact b1), b2, bst]
      by_cases hd : a5 ≤ ordF V tl k p
      · rw [if_pos hd, if_pos hd]
        exact nx _ _ _ (Or.inr ⟨by omega, rfl⟩)
      · rw [if_neg hd, if_neg hd]
        exact nx _ _ _ (Or.inr ⟨by omega, rfl⟩)
