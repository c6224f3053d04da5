/-! 49: the house as it would be -/
def stp (q0 q1 j : Nat) (X : Mem) : Mem := wr X q0 j (X q1 j)
def cpr (N q0 q1 : Nat) (X : Mem) : Mem := wrR X q0 (va_cpy (X q1) (X q0) (ix 0) (ix 0) (ix (Int32.ofNat N)))
def mv4 (q0 q1 : Nat) (M : Mem) : Mem := stp q0 q1 3 (stp q0 q1 2 (stp q0 q1 1 (stp q0 q1 0 M)))
theorem fA_become_unf (q0 q1 : Nat) (M : Mem) : fA_become q0 q1 M = some (cpr 5 (q0 + 1) (q1 + 1) (mv4 q0 q1 M)) := by
  unfold fA_become
  rw [if_pos (by decide)]
  rfl
theorem fH_become_unf (q0 q1 : Nat) (M : Mem) : fH_become q0 q1 M = fH_become_b79 q0 q1 1000 0 (cpr 8 (q0 + 3) (q1 + 3) (cpr 8 (q0 + 2) (q1 + 2) (cpr 8 (q0 + 1) (q1 + 1) (mv4 q0 q1 M)))) := by
  unfold fH_become
  rw [if_pos (by decide), if_pos (by decide), if_pos (by decide)]
  rfl
theorem mv4_ne {q0 q1 a : Nat} {M : Mem} (h : a ≠ q0) : mv4 q0 q1 M a = M a := by
  unfold mv4 stp
  rw [wr_ne h, wr_ne h, wr_ne h, wr_ne h]
theorem mv4_at {q0 q1 j : Nat} {M : Mem} (h : q1 ≠ q0) (hj : j < 4) : mv4 q0 q1 M q0 j = M q1 j := by
  unfold mv4 stp
  rw [wr_ne h, wr_ne h, wr_ne h]
  rcases (by omega : j = 0 ∨ j = 1 ∨ j = 2 ∨ j = 3) with rfl | rfl | rfl | rfl
  · rw [wr_at (by decide), wr_at (by decide), wr_at (by decide), wr_same]
  · rw [wr_at (by decide), wr_at (by decide), wr_same]
  · rw [wr_at (by decide), wr_same]
  · rw [wr_same, wr_ne h, wr_ne h, wr_ne h]
theorem cpr_ne {N q0 q1 a : Nat} {X : Mem} (h : a ≠ q0) : cpr N q0 q1 X a = X a := wrR_ne h
theorem cpr_at {N q0 q1 i : Nat} {X : Mem} (hN : N < 2147483648) (hi : i < N) : cpr N q0 q1 X q0 i = X q1 i := by
  unfold cpr
  rw [wrR_same]
  unfold va_cpy
  rw [if_pos (by rw [show ix 0 = 0 from rfl, show ix (Int32.ofNat N) = N from ix_nI hN]; omega), show ix 0 = 0 from rfl, Nat.zero_add, Nat.sub_zero]
/-- a maid taken over -/
def MvA (q0 q1 : Nat) (M N : Mem) : Prop := (∀ a, a ≠ q0 → a ≠ q0 + 1 → N a = M a) ∧ (∀ j, j < 4 → N q0 j = M q1 j) ∧ ∀ i, i < 5 → N (q0 + 1) i = M (q1 + 1) i
theorem fA_become_eq {q0 q1 : Nat} (M : Mem) (h1 : q1 ≠ q0) (h2 : q1 ≠ q0 + 1) (h3 : q1 + 1 ≠ q0) : ∃ N, fA_become q0 q1 M = some N ∧ MvA q0 q1 M N := by
  refine ⟨_, fA_become_unf q0 q1 M, fun a a1 a2 => ?_, fun j hj => ?_, fun i hi => ?_⟩
  · rw [cpr_ne a2, mv4_ne a1]
  · rw [cpr_ne (by omega), mv4_at h1 hj]
  · rw [cpr_at (by omega) hi, mv4_ne h3]
theorem become_b79 {q0 q1 : Nat} (h : q0 + 13 ≤ q1 ∨ q1 + 13 ≤ q0) : ∀ (c k z : Nat) (M : Mem), k + c = 4 → c < z → ∃ N, fH_become_b79 q0 q1 z (nI k) M = some N ∧ (∀ a, (a < q0 + 5 + 2 * k ∨ q0 + 13 ≤ a) → N a = M a) ∧ ∀ p, k ≤ p → p < 4 → (∀ j, j < 4 → N (q0 + 5 + 2 * p) j = M (q1 + 5 + 2 * p) j) ∧ ∀ i, i < 5 → N (q0 + 6 + 2 * p) i = M (q1 + 6 + 2 * p) i := by
  intro c
  induction c with
  | zero =>
    intro k z M hk hz
    obtain ⟨z, rfl⟩ := Nat.exists_eq_succ_of_ne_zero (show z ≠ 0 by omega)
    exact ⟨M, by rw [fH_become_b79, if_pos (by rw [show (4 : Int32) = nI 4 from rfl, n_le (by omega) (by omega)]; omega)], fun _ _ => rfl, fun p h1 h2 => by omega⟩
  | succ c ih =>
    intro k z M hk hz
    obtain ⟨z, rfl⟩ := Nat.exists_eq_succ_of_ne_zero (show z ≠ 0 by omega)
    obtain ⟨N1, e1, a1, a2, a3⟩ := fA_become_eq (q0 := q0 + 5 + 2 * k) (q1 := q1 + 5 + 2 * k) M (by omega) (by omega) (by omega)
    obtain ⟨N, e2, b1, b2⟩ := ih (k + 1) z N1 (by omega) (by omega)
    refine ⟨N, ?_, fun a ha => ?_, fun p h1 h2 => ?_⟩
    · rw [fH_become_b79, if_neg (by rw [show (4 : Int32) = nI 4 from rfl, n_le (by omega) (by omega)]; omega), if_pos (ib_nI (by omega) (by omega)), if_pos (ib_nI (by omega) (by omega)), ix_nI (by omega), e1]
      simp only [Option.bind_some, nI_1]
      exact e2
    · rw [b1 a (by omega), a1 a (by omega) (by omega)]
    · by_cases hp : p = k
      · subst hp
        refine ⟨fun j hj => ?_, fun i hi => ?_⟩
        · rw [b1 _ (by omega), a2 j hj]
        · rw [b1 _ (by omega), show q0 + 6 + 2 * p = q0 + 5 + 2 * p + 1 by omega, a3 i hi, show q1 + 5 + 2 * p + 1 = q1 + 6 + 2 * p by omega]
      · refine ⟨fun j hj => ?_, fun i hi => ?_⟩
        · rw [(b2 p (by omega) h2).1 j hj, a1 _ (by omega) (by omega)]
        · rw [(b2 p (by omega) h2).2 i hi, a1 _ (by omega) (by omega)]
/-- a house taken over -/
def MvH (q0 q1 : Nat) (M N : Mem) : Prop := (∀ a, (a < q0 ∨ a = q0 + 4 ∨ q0 + 13 ≤ a) → N a = M a) ∧ (∀ j, j < 4 → N q0 j = M q1 j) ∧ (∀ i, i < 8 → N (q0 + 1) i = M (q1 + 1) i ∧ N (q0 + 2) i = M (q1 + 2) i ∧ N (q0 + 3) i = M (q1 + 3) i) ∧ ∀ p, p < 4 → (∀ j, j < 4 → N (q0 + 5 + 2 * p) j = M (q1 + 5 + 2 * p) j) ∧ ∀ i, i < 5 → N (q0 + 6 + 2 * p) i = M (q1 + 6 + 2 * p) i
theorem fH_become_eq {q0 q1 : Nat} (M : Mem) (h : q0 + 13 ≤ q1 ∨ q1 + 13 ≤ q0) : ∃ N, fH_become q0 q1 M = some N ∧ MvH q0 q1 M N := by
  obtain ⟨N, e, b1, b2⟩ := become_b79 h 4 0 1000 (cpr 8 (q0 + 3) (q1 + 3) (cpr 8 (q0 + 2) (q1 + 2) (cpr 8 (q0 + 1) (q1 + 1) (mv4 q0 q1 M)))) (by omega) (by omega)
  have r : ∀ a, a ≠ q0 → a ≠ q0 + 1 → a ≠ q0 + 2 → a ≠ q0 + 3 → cpr 8 (q0 + 3) (q1 + 3) (cpr 8 (q0 + 2) (q1 + 2) (cpr 8 (q0 + 1) (q1 + 1) (mv4 q0 q1 M))) a = M a := fun a a1 a2 a3 a4 => by
    rw [cpr_ne a4, cpr_ne a3, cpr_ne a2, mv4_ne a1]
  refine ⟨N, (fH_become_unf q0 q1 M).trans e, fun a ha => ?_, fun j hj => ?_, fun i hi => ⟨?_, ?_, ?_⟩, fun p hp => ⟨fun j hj => ?_, fun i hi => ?_⟩⟩
  · rw [b1 a (by omega), r a (by omega) (by omega) (by omega) (by omega)]
  · rw [b1 _ (by omega), cpr_ne (by omega), cpr_ne (by omega), cpr_ne (by omega), mv4_at (by omega) hj]
  · rw [b1 _ (by omega), cpr_ne (by omega), cpr_ne (by omega), cpr_at (by omega) hi, mv4_ne (by omega)]
  · rw [b1 _ (by omega), cpr_ne (by omega), cpr_at (by omega) hi, cpr_ne (by omega), mv4_ne (by omega)]
  · rw [b1 _ (by omega), cpr_at (by omega) hi, cpr_ne (by omega), cpr_ne (by omega), mv4_ne (by omega)]
  · rw [(b2 p (by omega) hp).1 j hj, r _ (by omega) (by omega) (by omega) (by omega)]
  · rw [(b2 p (by omega) hp).2 i hi, r _ (by omega) (by omega) (by omega) (by omega)]
theorem MvH.view {q0 q1 : Nat} {M N : Mem} (h : MvH q0 q1 M N) (vo : VOK (viewC q1 M)) : viewC q0 N = viewC q1 M := by
  obtain ⟨-, h2, h3, h4⟩ := h
  have n8 : ix (M q1 1) ≤ 8 := vo.2.1.2.1
  have m4 : ix (M q1 2) ≤ 4 := vo.2.2.1.2
  have l5 : ∀ k, k < ix (M q1 2) → ix (M (q1 + 5 + 2 * k) 3) ≤ 5 := fun k hk => by
    have := (vo.2.2.2 k hk).2.2.1.2
    have e : viewC q1 M 7 k = M (q1 + 5 + 2 * k) 3 := by
      unfold viewC
      rw [if_neg (by omega), if_neg (by omega), if_neg (by omega), if_neg (by omega), if_pos (by omega), if_pos hk]
    show ix _ ≤ 5
    rw [← e]
    exact this
  funext a b
  unfold viewC
  rw [h2 1 (by omega), h2 2 (by omega)]
  by_cases a0 : a = 0
  · rw [if_pos a0, if_pos a0]
    by_cases hb : b < 3
    · rw [if_pos hb, if_pos hb, h2 b (by omega)]
    · rw [if_neg hb, if_neg hb]
  rw [if_neg a0, if_neg a0]
  by_cases a1 : a = 1
  · rw [if_pos a1, if_pos a1]
    by_cases hb : b < ix (M q1 1)
    · rw [if_pos hb, if_pos hb, (h3 b (by omega)).1]
    · rw [if_neg hb, if_neg hb]
  rw [if_neg a1, if_neg a1]
  by_cases a2 : a = 2
  · rw [if_pos a2, if_pos a2]
    by_cases hb : b < ix (M q1 1)
    · rw [if_pos hb, if_pos hb, (h3 b (by omega)).2.1]
    · rw [if_neg hb, if_neg hb]
  rw [if_neg a2, if_neg a2]
  by_cases a3 : a = 3
  · rw [if_pos a3, if_pos a3]
    by_cases hb : b < 8
    · rw [if_pos hb, if_pos hb, (h3 b (by omega)).2.2]
    · rw [if_neg hb, if_neg hb]
  rw [if_neg a3, if_neg a3]
  by_cases a8 : a < 8
  · rw [if_pos a8, if_pos a8]
    by_cases hb : b < ix (M q1 2)
    · rw [if_pos hb, if_pos hb, (h4 b (by omega)).1 (a - 4) (by omega)]
    · rw [if_neg hb, if_neg hb]
  rw [if_neg a8, if_neg a8]
  by_cases hk : a - 8 < ix (M q1 2)
  · rw [(h4 (a - 8) (by omega)).1 3 (by omega)]
    by_cases hb : b < ix (M (q1 + 5 + 2 * (a - 8)) 3)
    · rw [if_pos ⟨hk, hb⟩, if_pos ⟨hk, hb⟩, (h4 (a - 8) (by omega)).2 b (by have := l5 _ hk; omega)]
    · rw [if_neg (fun z => hb z.2), if_neg (fun z => hb z.2)]
  · rw [if_neg (fun z => hk z.1), if_neg (fun z => hk z.1)]
/-- the house h seen as V, behind it all the rest as in M -/
def Wd27 (V : Mem) (tl : Tell) (M C : Mem) : Prop := HV 27 V tl C ∧ ∀ a, (a < 27 ∨ (40 ≤ a ∧ a < 45) ∨ 56 < a) → a ≠ 58 → C a = M a
theorem Wd27.run {V M C : Mem} {tl : Tell} {n : Nat} (w : Wd27 V tl M C) (hn : n ≤ 100) : ∃ C', fD_run 27 (nI n) C = some C' ∧ Wd27 V tl M C' ∧ DOK V C' ∧ DEq V (dayS V tl n) C' ∧ KeepD C C' := by
  obtain ⟨C', e1, c1, hv1, k1, d1, q1⟩ := fD_run_eq hn w.1
  exact ⟨C', e1, ⟨hv1, fun a h1 h2 => (k1 a (by omega)).trans (w.2 a h1 h2)⟩, d1, q1, k1⟩
theorem Wd27.same {V M C : Mem} {tl : Tell} (w : Wd27 V tl M C) : Same M C := ⟨fun a h => w.2 a (by omega) (by omega), ⟨by rw [w.2 0 (by omega) (by omega)], by rw [w.2 0 (by omega) (by omega)]⟩, fun j _ => by rw [w.2 1 (by omega) (by omega)], by rw [w.2 40 (by omega) (by omega)], fun j _ => by rw [w.2 85 (by omega) (by omega)]⟩
theorem Wd27.lw {V M C : Mem} {tl : Tell} (w : Wd27 V tl M C) : LW C := w.1.2.2.2.2.2
theorem Rel.would {M : Mem} (hR : Rel M) : ∃ tl C, fH_become 27 1 M = some C ∧ Wd27 (viewC 1 M) tl M C ∧ MO0 (viewC 1 M) 4 tl M ∧ VOK (viewC 1 M) ∧ C 27 3 = M 1 3 ∧ C 58 = M 58 := by
  obtain ⟨tl, hv, mo, -⟩ := hR.view
  obtain ⟨C, e, mh⟩ := fH_become_eq (q0 := 27) (q1 := 1) M (by omega)
  have hr := ix_lt hv.2.2.2.1
  have r3 : C 27 3 = M 1 3 := mh.2.1 3 (by omega)
  have rr : ∀ a, (a < 27 ∨ 40 ≤ a) → C a = M a := fun a ha => mh.1 a (by omega)
  refine ⟨tl, C, e, ⟨⟨by decide, (mh.view hv.2.2.1).symm, hv.2.2.1, by rw [r3]; exact hv.2.2.2.1, ?_, hv.2.2.2.2.2.same (by rw [rr 46 (by omega)]) (rr 47 (by omega))⟩, fun a h1 h2 => rr a (by omega)⟩, mo, hv.2.2.1, r3, rr 58 (by omega)⟩
  rw [r3, rr _ (by omega), rr _ (by omega)]
  exact hv.2.2.2.2.1
