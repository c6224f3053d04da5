/-! 55: which maid to leave at home -/
def lvV (V : Mem) (k : Nat) : Mem := fun a b => if a = 0 then (if b = 2 then nI (vM V - 1) else V 0 b) else if a < 4 then V a b else if a < 8 then (if b < vM V - 1 then V a (sk k b) else 0) else (if a - 8 < vM V - 1 then V (8 + sk k (a - 8)) b else 0)
theorem lvV_f {V : Mem} {k : Nat} (vo : VOK V) : vM (lvV V k) = vM V - 1 ∧ vN (lvV V k) = vN V ∧ vS (lvV V k) = vS V ∧ (∀ a, 4 ≤ a → a < 8 → ∀ b, b < vM V - 1 → lvV V k a b = V a (sk k b)) ∧ ∀ b, b < vM V - 1 → lvV V k (8 + b) = V (8 + sk k b) := by
  have m4 := vo.2.2.1.2
  refine ⟨?_, rfl, rfl, fun a h1 h2 b hb => ?_, fun b hb => ?_⟩
  · show ix (nI (vM V - 1)) = _
    rw [ix_nI (by omega)]
  · unfold lvV
    rw [if_neg (by omega), if_neg (by omega), if_pos (by omega), if_pos hb]
  · funext i
    unfold lvV
    rw [if_neg (by omega), if_neg (by omega), if_neg (by omega), Nat.add_sub_cancel_left, if_pos hb]
theorem lvV_vo {V : Mem} {k : Nat} (vo : VOK V) (hk : k < vM V) : VOK (lvV V k) := by
  obtain ⟨f1, f2, f3, f4, f5⟩ := lvV_f (k := k) vo
  have m4 := vo.2.2.1.2
  have sl : ∀ b, b < vM V - 1 → sk k b < vM V := fun b hb => by unfold sk; split <;> omega
  refine ⟨vo.1, vo.2.1, ⟨?_, by rw [f1]; omega⟩, fun j hj => ?_⟩
  · rw [f1]; rfl
  · rw [f1] at hj
    have h := vo.2.2.2 (sk k j) (sl j hj)
    unfold vL
    rw [f4 5 (by omega) (by omega) j hj, f4 6 (by omega) (by omega) j hj, f4 7 (by omega) (by omega) j hj, f5 j hj]
    exact h
theorem leave_b2 {m : Nat} (hm : m ≤ 4) (hm1 : 1 ≤ m) : ∀ (c i z : Nat) (C : Mem), i + c = m - 1 → c < z → C 27 2 = nI m → ∃ C', fH_leaveOut_b2 27 z (nI i) C = some C' ∧ (∀ a, a ≠ 27 → (a < 32 + 2 * i ∨ 32 + 2 * (m - 1) ≤ a) → C' a = C a) ∧ C' 27 2 = nI (m - 1) ∧ (∀ j, j ≠ 2 → C' 27 j = C 27 j) ∧ ∀ p, i ≤ p → p < m - 1 → (∀ j, j < 4 → C' (32 + 2 * p) j = C (34 + 2 * p) j) ∧ ∀ q, q < 5 → C' (33 + 2 * p) q = C (35 + 2 * p) q := by
  intro c
  induction c with
  | zero =>
    intro i z C hi hz e
    obtain ⟨z, rfl⟩ := Nat.exists_eq_succ_of_ne_zero (show z ≠ 0 by omega)
    refine ⟨wr C 27 2 (nI (m - 1)), ?_, fun a ha _ => wr_ne ha, wr_same, fun j hj => wr_at hj, fun p h1 h2 => by omega⟩
    rw [fH_leaveOut_b2, e, nI_pd (by omega), if_pos (by rw [n_le (by omega) (by omega)]; omega)]
  | succ c ih =>
    intro i z C hi hz e
    obtain ⟨z, rfl⟩ := Nat.exists_eq_succ_of_ne_zero (show z ≠ 0 by omega)
    obtain ⟨C1, e1, a1, a2, a3⟩ := fA_become_eq (q0 := 27 + 5 + 2 * i) (q1 := 27 + 5 + 2 * (i + 1)) C (by omega) (by omega) (by omega)
    obtain ⟨C', d1, d2, d3, d4, d5⟩ := ih (i + 1) z C1 (by omega) (by omega) (by rw [a1 27 (by omega) (by omega)]; exact e)
    refine ⟨C', ?_, fun a ha h => ?_, d3, fun j hj => ?_, fun p h1 h2 => ?_⟩
    · rw [fH_leaveOut_b2, e, nI_pd (by omega), if_neg (by rw [n_le (by omega) (by omega)]; omega), if_pos (ib_nI (by omega) (by omega)), nI_1, if_pos (ib_nI (by omega) (by omega)), ix_nI (by omega), ix_nI (by omega), e1]
      exact d1
    · rw [d2 a ha (by omega), a1 a (by omega) (by omega)]
    · rw [d4 j hj, a1 27 (by omega) (by omega)]
    · by_cases hp : p = i
      · subst hp
        refine ⟨fun j hj => ?_, fun q hq => ?_⟩
        · rw [d2 _ (by omega) (by omega), show 32 + 2 * p = 27 + 5 + 2 * p by omega, a2 j hj, show 27 + 5 + 2 * (p + 1) = 34 + 2 * p by omega]
        · rw [d2 _ (by omega) (by omega), show 33 + 2 * p = 27 + 5 + 2 * p + 1 by omega, a3 q hq, show 27 + 5 + 2 * (p + 1) + 1 = 35 + 2 * p by omega]
      · refine ⟨fun j hj => ?_, fun q hq => ?_⟩
        · rw [(d5 p (by omega) h2).1 j hj, a1 _ (by omega) (by omega)]
        · rw [(d5 p (by omega) h2).2 q hq, a1 _ (by omega) (by omega)]
theorem leave_eq {V M C : Mem} {tl : Tell} {k : Nat} (vo : VOK V) (hk : k < vM V) (wd : Wd27 V tl M C) : ∃ C', fH_leaveOut 27 (nI k) C = some C' ∧ Wd27 (lvV V k) tl M C' := by
  have m4 := vo.2.2.1.2
  have v2 : C 27 2 = nI (vM V) := by
    have : V 0 2 = C 27 2 := by rw [wd.1.2.1]; rfl
    rw [← this]; exact vo.2.2.1.1
  obtain ⟨C', e1, r1, r2, r3, r4⟩ := leave_b2 (m := vM V) m4 (by omega) (vM V - 1 - k) k 1000 C (by omega) (by omega) v2
  refine ⟨C', e1, ⟨⟨by decide, ?_, lvV_vo vo hk, ?_, ?_, wd.lw.same (by rw [r1 46 (by omega) (by omega)]) (r1 47 (by omega) (by omega))⟩, fun a h1 h2 => by
    by_cases ha : a = 27
    · omega
    · rw [r1 a ha (by omega)]; exact wd.2 a h1 h2⟩⟩
  · -- the view
    have hV := wd.1.2.1
    have f := lvV_f (k := k) vo
    have cm : ix (C' 27 2) = vM V - 1 := by rw [r2, ix_nI (by omega)]
    have cmC : ix (C 27 2) = vM V := by rw [v2, ix_nI (by omega)]
    have cn : C' 27 1 = C 27 1 := r3 1 (by decide)
    have row : ∀ p, p < vM V - 1 → (∀ j, j < 4 → C' (32 + 2 * p) j = C (32 + 2 * sk k p) j) ∧ ∀ q, q < 5 → C' (33 + 2 * p) q = C (33 + 2 * sk k p) q := by
      intro p hp
      unfold sk
      by_cases h : p < k
      · rw [if_pos h]
        exact ⟨fun j _ => by rw [r1 _ (by omega) (by omega)], fun q _ => by rw [r1 _ (by omega) (by omega)]⟩
      · rw [if_neg h]
        have := r4 p (by omega) hp
        rw [show 32 + 2 * (p + 1) = 34 + 2 * p by omega, show 33 + 2 * (p + 1) = 35 + 2 * p by omega]
        exact this
    have sl : ∀ b, b < vM V - 1 → sk k b < vM V := fun b hb => by unfold sk; split <;> omega
    have l5 : ∀ b, b < vM V → ix (C (32 + 2 * b) 3) ≤ 5 := fun b hb => by
      rw [wd.cells.2.2 b hb]
      exact (vo.2.2.2 b hb).2.2.1.2
    funext a b
    unfold lvV
    by_cases a0 : a = 0
    · rw [if_pos a0, a0]
      show _ = (if b < 3 then C' 27 b else 0)
      by_cases hb : b = 2
      · rw [if_pos hb, hb, if_pos (by decide), r2]
      · rw [if_neg hb, hV]
        show (if b < 3 then C 27 b else 0) = _
        rw [r3 b hb]
    rw [if_neg a0]
    by_cases a4 : a < 4
    · rw [if_pos a4, hV]
      unfold viewC
      rw [cn, r1 (27 + 1) (by omega) (by omega), r1 (27 + 2) (by omega) (by omega), r1 (27 + 3) (by omega) (by omega), if_neg a0, if_neg a0]
      repeat' split
      all_goals (first | rfl | omega)
    rw [if_neg a4]
    by_cases a8 : a < 8
    · rw [if_pos a8]
      unfold viewC
      rw [if_neg (show ¬ a = 0 by omega), if_neg (show ¬ a = 1 by omega), if_neg (show ¬ a = 2 by omega), if_neg (show ¬ a = 3 by omega), if_pos a8, cm]
      by_cases hb : b < vM V - 1
      · rw [if_pos hb, if_pos hb, (row b hb).1 (a - 4) (by omega), hV]
        unfold viewC
        rw [if_neg (by omega), if_neg (by omega), if_neg (by omega), if_neg (by omega), if_pos a8, cmC, if_pos (sl b hb)]
      · rw [if_neg hb, if_neg hb]
    · rw [if_neg a8]
      unfold viewC
      rw [if_neg (show ¬ a = 0 by omega), if_neg (show ¬ a = 1 by omega), if_neg (show ¬ a = 2 by omega), if_neg (show ¬ a = 3 by omega), if_neg a8, cm]
      by_cases hk2 : a - 8 < vM V - 1
      · rw [if_pos hk2, show 27 + 5 + 2 * (a - 8) = 32 + 2 * (a - 8) by omega, show 27 + 6 + 2 * (a - 8) = 33 + 2 * (a - 8) by omega, (row _ hk2).1 3 (by omega), show V (8 + sk k (a - 8)) b = viewC 27 C (8 + sk k (a - 8)) b from congrFun (congrFun hV _) _]
        unfold viewC
        rw [if_neg (by omega), if_neg (by omega), if_neg (by omega), if_neg (by omega), if_neg (by omega), Nat.add_sub_cancel_left, cmC, show 27 + 5 + 2 * sk k (a - 8) = 32 + 2 * sk k (a - 8) by omega, show 27 + 6 + 2 * sk k (a - 8) = 33 + 2 * sk k (a - 8) by omega]
        by_cases hb : b < ix (C (32 + 2 * sk k (a - 8)) 3)
        · rw [if_pos ⟨sl _ hk2, hb⟩, if_pos ⟨hk2, hb⟩, (row _ hk2).2 b (by have := l5 _ (sl _ hk2); omega)]
        · rw [if_neg (fun w => hb w.2), if_neg (fun w => hb w.2)]
      · rw [if_neg hk2, if_neg (fun w => hk2 w.1)]
  · rw [r3 3 (by decide)]; exact wd.1.2.2.2.1
  · have hr := ix_lt wd.1.2.2.2.1
    rw [r3 3 (by decide), r1 _ (by omega) (by omega), r1 _ (by omega) (by omega)]
    exact wd.1.2.2.2.2.1
/-- the house taken over anew -/
theorem again {V M C : Mem} {tl : Tell} (hv : HV 1 V tl M) (hC : ∀ a, (a < 27 ∨ (40 ≤ a ∧ a < 45) ∨ 56 < a) → a ≠ 58 → C a = M a) (lw : LW C) : ∃ C', fH_become 27 1 C = some C' ∧ Wd27 V tl M C' := by
  obtain ⟨C', e, mh⟩ := fH_become_eq (q0 := 27) (q1 := 1) C (by omega)
  have hm : ix (M 1 2) ≤ 4 := by
    have := hv.2.2.1.2.2.1.2
    rw [hv.2.1] at this
    exact this
  have vC : viewC 1 C = V := by
    rw [hv.2.1]
    have m4 := hm
    have e0 : C 1 = M 1 := hC 1 (by omega) (by omega)
    funext a b
    unfold viewC
    rw [e0, hC (1 + 1) (by omega) (by omega), hC (1 + 2) (by omega) (by omega), hC (1 + 3) (by omega) (by omega)]
    by_cases a8 : a < 8
    · by_cases hb : b < ix (M 1 2)
      · rw [hC (1 + 5 + 2 * b) (by omega) (by omega)]
        repeat' split
        all_goals (first | rfl | omega)
      · repeat' split
        all_goals (first | rfl | omega)
    · by_cases hb : a - 8 < ix (M 1 2)
      · rw [hC (1 + 5 + 2 * (a - 8)) (by omega) (by omega), hC (1 + 6 + 2 * (a - 8)) (by omega) (by omega)]
        repeat' split
        all_goals (first | rfl | omega)
      · rw [if_neg (show ¬ a = 0 by omega), if_neg (show ¬ a = 1 by omega), if_neg (show ¬ a = 2 by omega), if_neg (show ¬ a = 3 by omega), if_neg a8, if_neg (fun w => hb w.1), if_neg (show ¬ a = 0 by omega), if_neg (show ¬ a = 1 by omega), if_neg (show ¬ a = 2 by omega), if_neg (show ¬ a = 3 by omega), if_neg a8, if_neg (fun w => hb w.1)]
  have hr := ix_lt hv.2.2.2.1
  have r3 : C' 27 3 = M 1 3 := by rw [mh.2.1 3 (by omega), hC 1 (by omega) (by omega)]
  have rr : ∀ a, (a < 27 ∨ 40 ≤ a) → C' a = C a := fun a ha => mh.1 a (by omega)
  refine ⟨C', e, ⟨⟨by decide, ?_, hv.2.2.1, by rw [r3]; exact hv.2.2.2.1, ?_, lw.same (by rw [rr 46 (by omega)]) (rr 47 (by omega))⟩, fun a h1 h2 => (rr a (by omega)).trans (hC a h1 h2)⟩⟩
  · rw [mh.view (by rw [vC]; exact hv.2.2.1), vC]
  · rw [r3, rr _ (by omega), rr _ (by omega), hC _ (by omega) (by omega), hC _ (by omega) (by omega)]
    exact hv.2.2.2.2.1
def homF (f : Nat → Int32) : Nat → Nat → Int32 → Int32 → Int32 × Int32
  | 0, _, least, who => (least, who)
  | c + 1, k, least, who => if least ≤ f k then homF f c (k + 1) least who else homF f c (k + 1) (f k) (nI k)
theorem fN_home_b37_eq {V M : Mem} {tl : Tell} (hv : HV 1 V tl M) (w : Int32) : ∀ (c k z : Nat) (C : Mem) (least who : Int32), k + c = vM V → c < z → (∀ a, (a < 27 ∨ (40 ≤ a ∧ a < 45) ∨ 56 < a) → a ≠ 58 → C a = M a) → LW C → ∃ C', fN_home_b37 w z least who (nI k) C = some (if w = 0 then (homF (fun k => dearS (lvV V k) tl) c k least who).2 else (homF (fun k => dearS (lvV V k) tl) c k least who).1, C') ∧ Same M C' ∧ LW C' := by
  have vo := hv.2.2.1
  have m4 := vo.2.2.1.2
  intro c
  induction c with
  | zero =>
    intro k z C least who hk hz hC lw
    obtain ⟨z, rfl⟩ := Nat.exists_eq_succ_of_ne_zero (show z ≠ 0 by omega)
    have e2 : C 1 2 = nI (vM V) := by
      rw [hC 1 (by omega) (by omega)]
      have : V 0 2 = M 1 2 := by rw [hv.2.1]; rfl
      rw [← this]; exact vo.2.2.1.1
    refine ⟨C, ?_, ⟨fun a h => hC a (by omega) (by omega), ⟨by rw [hC 0 (by omega) (by omega)], by rw [hC 0 (by omega) (by omega)]⟩, fun j _ => by rw [hC 1 (by omega) (by omega)], by rw [hC 40 (by omega) (by omega)], fun j _ => by rw [hC 85 (by omega) (by omega)]⟩, lw⟩
    rw [fN_home_b37, e2, if_pos (by rw [n_le (by omega) (by omega)]; omega), homF]
    by_cases hw : w = 0
    · rw [if_pos hw, if_pos hw]
    · rw [if_neg hw, if_neg hw]
  | succ c ih =>
    intro k z C least who hk hz hC lw
    obtain ⟨z, rfl⟩ := Nat.exists_eq_succ_of_ne_zero (show z ≠ 0 by omega)
    have e2 : C 1 2 = nI (vM V) := by
      rw [hC 1 (by omega) (by omega)]
      have : V 0 2 = M 1 2 := by rw [hv.2.1]; rfl
      rw [← this]; exact vo.2.2.1.1
    obtain ⟨C1, c1, w1⟩ := again hv hC lw
    obtain ⟨C2, c2, w2⟩ := leave_eq (k := k) vo (by omega) w1
    obtain ⟨C3, c3, c4, w3, -⟩ := w2.dear
    rw [fN_home_b37, e2, if_neg (by rw [n_le (by omega) (by omega)]; omega), c1]
    simp only [Option.bind_some]
    rw [c2]
    simp only [Option.bind_some]
    rw [c3]
    simp only [Option.bind_some]
    rw [c4]
    simp only [Option.bind_some]
    unfold fN_home_b103
    rw [nI_1, homF]
    by_cases h : least ≤ dearS (lvV V k) tl
    · rw [if_pos h, if_pos h]
      exact ih (k + 1) z C3 _ _ (by omega) (by omega) w3.2 w3.lw
    · rw [if_neg h, if_neg h]
      exact ih (k + 1) z C3 _ _ (by omega) (by omega) w3.2 w3.lw
theorem MV.leave {V D : Mem} {k : Nat} (vo : VOK V) (v : MV V 4 D) (hk : k < vM V) : MV (lvV V k) k (wr D 85 18 (nI k)) := by
  obtain ⟨f1, f2, f3, f4, f5⟩ := lvV_f (k := k) vo
  have m4 := vo.2.2.1.2
  obtain ⟨-, h2, h3, h4, h5, h6, h7, h8⟩ := v
  have sl : ∀ b, b < vM V - 1 → sk k b < vM V := fun b hb => by unfold sk; split <;> omega
  refine ⟨⟨by omega, fun _ => ⟨by rw [f1]; omega, by rw [f1]; omega⟩⟩, ?_, ?_, ?_, ?_, fun i hi => ?_, fun r hr => ?_, fun j hj => ?_⟩
  · rw [wr_at (by decide)]; exact h2
  · rw [wr_at (by decide)]; exact h3
  · rw [wr_at (by decide), h4]
    unfold cntM
    rw [if_neg (by omega), if_pos (by omega), f1, show vM V - 1 + 1 = vM V by omega]
  · rw [wr_same, if_pos (by omega)]
  · rw [wr_ne (by decide), wr_ne (by decide)]; exact h6 i hi
  · rw [wr_ne (by decide)]; exact h7 r hr
  · rw [f1] at hj
    have s4 : sk 4 (sk k j) = sk k j := by
      have := sl j hj
      show (if sk k j < 4 then sk k j else sk k j + 1) = sk k j
      rw [if_pos (by omega)]
    have h9 := h8 (sk k j) (sl j hj)
    rw [s4] at h9
    unfold vL
    rw [wr_ne (by decide), wr_ne (by decide), wr_ne (by decide), wr_ne (by decide), wr_ne (by decide), f4 4 (by omega) (by omega) j hj, f4 5 (by omega) (by omega) j hj, f4 6 (by omega) (by omega) j hj, f4 7 (by omega) (by omega) j hj, f5 j hj]
    exact h9
theorem fM_home_b23_eq {V M0 : Mem} {tl : Tell} (w : Int32) : ∀ (c k z : Nat) (D : Mem) (least who : Int32), k + c = vM V → c < z → MO0 V 4 tl D → KeepL M0 D → ∃ D', fM_home_b23 w z who least (nI k) D = some (if w = 0 then (homF (fun k => dearS (lvV V k) tl) c k least who).2 else (homF (fun k => dearS (lvV V k) tl) c k least who).1, D') ∧ KeepL M0 D' := by
  intro c
  induction c with
  | zero =>
    intro k z D least who hk hz mo kl
    obtain ⟨z, rfl⟩ := Nat.exists_eq_succ_of_ne_zero (show z ≠ 0 by omega)
    have m4 := mo.1.2.2.1.2
    have e := mo.2.1.2.2.2.1
    unfold cntM at e
    rw [if_neg (by omega)] at e
    refine ⟨D, ?_, kl⟩
    rw [fM_home_b23, e, if_pos (by rw [n_le (by omega) (by omega)]; omega), homF]
    by_cases hw : w = 0
    · rw [if_pos hw, if_pos hw]
    · rw [if_neg hw, if_neg hw]
  | succ c ih =>
    intro k z D least who hk hz mo kl
    obtain ⟨z, rfl⟩ := Nat.exists_eq_succ_of_ne_zero (show z ≠ 0 by omega)
    have m4 := mo.1.2.2.1.2
    have e := mo.2.1.2.2.2.1
    have e18 := mo.2.1.2.2.2.2.1
    unfold cntM at e
    rw [if_neg (by omega)] at e e18
    have mo2 : MO0 (lvV V k) k tl (wr D 85 18 (nI k)) := ⟨lvV_vo mo.1 (by omega), mo.2.1.leave mo.1 (by omega), by rw [wr_at (by decide), wr_ne (by decide), wr_ne (by decide)]; exact mo.2.2⟩
    obtain ⟨D1, d1, d2, -⟩ := fM_dear_eq mo2
    have kl1 : KeepL D (wr D1 85 18 (-1)) := by
      refine ⟨fun a h1 h2 => ?_, fun j hj => ?_⟩
      · rw [wr_ne h1, d2.1 a h1 h2, wr_ne h1]
      · by_cases h18 : j = 18
        · rw [h18, wr_same, e18]
        · rw [wr_at h18, d2.2 j hj, wr_at h18]
    rw [fM_home_b23, e, if_neg (by rw [n_le (by omega) (by omega)]; omega), d1]
    simp only [Option.bind_some]
    unfold fM_home_b61
    rw [nI_1, homF]
    by_cases h : least ≤ dearS (lvV V k) tl
    · rw [if_pos h, if_pos h]
      exact ih (k + 1) z _ _ _ (by omega) (by omega) (mo.keepL kl1) (kl.trans kl1)
    · rw [if_neg h, if_neg h]
      exact ih (k + 1) z _ _ _ (by omega) (by omega) (mo.keepL kl1) (kl.trans kl1)
theorem op_home (w : Int32) : Op (fN_home w) (fM_home w) := by
  intro M hR
  unfold fN_home fM_home
  simp only [fN_w2, fM_i2, Option.bind_some, bz_0]
  by_cases g : ib w 2
  · rw [if_neg (nn g)]
    obtain ⟨tl, hv, mo, -⟩ := hR.view
    obtain ⟨C0, e1, cv, hv0, kd, dk, dq⟩ := fD_run_eq (show 100 ≤ 100 by omega) hv
    have e2 := fD_dear_eq dq
    have hC0 : ∀ a, (a < 27 ∨ (40 ≤ a ∧ a < 45) ∨ 56 < a) → a ≠ 58 → C0 a = M a := fun a h _ => kd a (by omega)
    obtain ⟨C, e3, sC, lC⟩ := fN_home_b37_eq hv w (vM (viewC 1 M)) 0 1000 C0 (dearS (viewC 1 M) tl) (-1) (by omega) (by have := mo.1.2.2.1.2; omega) hC0 hv0.2.2.2.2.2
    have moC := mo.cl sC
    obtain ⟨D0, d1, d2, -⟩ := fM_dear_eq moC
    obtain ⟨D, d3, kD⟩ := fM_home_b23_eq (M0 := C) w (vM (viewC 1 M)) 0 1000 D0 (dearS (viewC 1 M) tl) (-1) (by omega) (by have := mo.1.2.2.1.2; omega) (moC.keepL d2) d2
    rw [show fD_run 1 100 M = some C0 from e1]
    simp only [Option.bind_some]
    rw [e2]
    simp only [Option.bind_some]
    refine ⟨_, C, D, e3, ?_, (hR.same sC lC).same kD.s (kD.lw lC)⟩
    rw [if_neg (nn g), d1]
    simp only [Option.bind_some]
    exact d3
  · exact ⟨-2, M, M, by rw [if_pos g], by rw [if_pos g], hR⟩
