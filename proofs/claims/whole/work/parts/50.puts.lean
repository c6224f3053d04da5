/-! 50: one thing changed in the house as it is seen -/
theorem view_maid {h k q : Nat} {x : Int32} {C : Mem} (hk : k < ix (C h 2)) (hq : q < 3) : viewC h (wr C (h + 5 + 2 * k) q x) = wr (viewC h C) (4 + q) k x := by
  funext a b
  unfold viewC
  rw [wr_ne (show h ≠ h + 5 + 2 * k by omega), wr_ne (show h + 1 ≠ h + 5 + 2 * k by omega), wr_ne (show h + 2 ≠ h + 5 + 2 * k by omega), wr_ne (show h + 3 ≠ h + 5 + 2 * k by omega), wr_ne (show h + 6 + 2 * (a - 8) ≠ h + 5 + 2 * k by omega)]
  have e3 : wr C (h + 5 + 2 * k) q x (h + 5 + 2 * (a - 8)) 3 = C (h + 5 + 2 * (a - 8)) 3 := by
    unfold wr
    rw [if_neg (by omega)]
  rw [e3]
  by_cases hab : a = 4 + q ∧ b = k
  · obtain ⟨rfl, rfl⟩ := hab
    rw [wr_same, if_neg (by omega), if_neg (by omega), if_neg (by omega), if_neg (by omega), if_pos (by omega), if_pos hk, Nat.add_sub_cancel_left, wr_same]
  · have e2 : wr (fun a b => if a = 0 then (if b < 3 then C h b else 0) else if a = 1 then (if b < ix (C h 1) then C (h + 1) b else 0) else if a = 2 then (if b < ix (C h 1) then C (h + 2) b else 0) else if a = 3 then (if b < 8 then C (h + 3) b else 0) else if a < 8 then (if b < ix (C h 2) then C (h + 5 + 2 * b) (a - 4) else 0) else if a - 8 < ix (C h 2) ∧ b < ix (C (h + 5 + 2 * (a - 8)) 3) then C (h + 6 + 2 * (a - 8)) b else 0) (4 + q) k x a b = viewC h C a b := by
      unfold wr
      rw [if_neg hab]
      rfl
    rw [e2]
    unfold viewC
    by_cases a8 : a < 8
    · by_cases a4 : a < 4
      · repeat' split
        all_goals (first | rfl | omega)
      · rw [if_neg (show ¬ a = 0 by omega), if_neg (show ¬ a = 1 by omega), if_neg (show ¬ a = 2 by omega), if_neg (show ¬ a = 3 by omega), if_pos a8, if_neg (show ¬ a = 0 by omega), if_neg (show ¬ a = 1 by omega), if_neg (show ¬ a = 2 by omega), if_neg (show ¬ a = 3 by omega), if_pos a8]
        by_cases hb : b < ix (C h 2)
        · rw [if_pos hb, if_pos hb]
          unfold wr
          rw [if_neg (by omega)]
        · rw [if_neg hb, if_neg hb]
    · rw [if_neg (show ¬ a = 0 by omega), if_neg (show ¬ a = 1 by omega), if_neg (show ¬ a = 2 by omega), if_neg (show ¬ a = 3 by omega), if_neg a8, if_neg (show ¬ a = 0 by omega), if_neg (show ¬ a = 1 by omega), if_neg (show ¬ a = 2 by omega), if_neg (show ¬ a = 3 by omega), if_neg a8]
theorem view_stairs {h : Nat} {x : Int32} {C : Mem} : viewC h (wr C h 0 x) = wr (viewC h C) 0 0 x := by
  have e1 : wr C h 0 x h 1 = C h 1 := wr_at (by decide)
  have e2 : wr C h 0 x h 2 = C h 2 := wr_at (by decide)
  funext a b
  by_cases a0 : a = 0
  · subst a0
    show (if b < 3 then wr C h 0 x h b else 0) = wr (viewC h C) 0 0 x 0 b
    by_cases hb : b = 0
    · subst hb
      rw [if_pos (by decide), wr_same, wr_same]
    · rw [wr_at hb, wr_at hb]
      rfl
  · rw [wr_ne a0]
    unfold viewC
    rw [if_neg a0, if_neg a0, e1, e2, wr_ne (show h + 1 ≠ h by omega), wr_ne (show h + 2 ≠ h by omega), wr_ne (show h + 3 ≠ h by omega), wr_ne (show h + 5 + 2 * b ≠ h by omega), wr_ne (show h + 5 + 2 * (a - 8) ≠ h by omega), wr_ne (show h + 6 + 2 * (a - 8) ≠ h by omega)]
theorem view_rule {h : Nat} {x : Int32} {C : Mem} : viewC h (wr C h 3 x) = viewC h C := by
  have e1 : wr C h 3 x h 1 = C h 1 := wr_at (by decide)
  have e2 : wr C h 3 x h 2 = C h 2 := wr_at (by decide)
  funext a b
  unfold viewC
  rw [e1, e2, wr_ne (show h + 1 ≠ h by omega), wr_ne (show h + 2 ≠ h by omega), wr_ne (show h + 3 ≠ h by omega), wr_ne (show h + 5 + 2 * b ≠ h by omega), wr_ne (show h + 5 + 2 * (a - 8) ≠ h by omega), wr_ne (show h + 6 + 2 * (a - 8) ≠ h by omega)]
  by_cases hb : b < 3
  · rw [wr_at (show b ≠ 3 by omega)]
  · rw [if_neg hb, if_neg hb]
theorem view_min {h i : Nat} {x : Int32} {C : Mem} (hi : i < ix (C h 1)) : viewC h (wr C (h + 2) i x) = wr (viewC h C) 2 i x := by
  funext a b
  by_cases hab : a = 2 ∧ b = i
  · obtain ⟨rfl, rfl⟩ := hab
    rw [wr_same]
    unfold viewC
    rw [if_neg (by omega), if_neg (by omega), if_pos rfl, wr_ne (show h ≠ h + 2 by omega), if_pos hi, wr_same]
  · have e : wr (viewC h C) 2 i x a b = viewC h C a b := by
      show (if a = 2 ∧ b = i then x else viewC h C a b) = _
      rw [if_neg hab]
    rw [e]
    unfold viewC
    rw [wr_ne (show h ≠ h + 2 by omega), wr_ne (show h + 1 ≠ h + 2 by omega), wr_ne (show h + 3 ≠ h + 2 by omega), wr_ne (show h + 5 + 2 * b ≠ h + 2 by omega), wr_ne (show h + 5 + 2 * (a - 8) ≠ h + 2 by omega), wr_ne (show h + 6 + 2 * (a - 8) ≠ h + 2 by omega)]
    by_cases a2 : a = 2
    · have hb : b ≠ i := fun z => hab ⟨a2, z⟩
      rw [wr_at hb]
    · rw [if_neg a2, if_neg a2]
theorem view_list {h k i : Nat} {x : Int32} {C : Mem} (hk : k < ix (C h 2)) (hi : i < ix (C (h + 5 + 2 * k) 3)) : viewC h (wr C (h + 6 + 2 * k) i x) = wr (viewC h C) (8 + k) i x := by
  funext a b
  by_cases hab : a = 8 + k ∧ b = i
  · obtain ⟨rfl, rfl⟩ := hab
    rw [wr_same]
    unfold viewC
    rw [if_neg (by omega), if_neg (by omega), if_neg (by omega), if_neg (by omega), if_neg (by omega), Nat.add_sub_cancel_left, wr_ne (show h ≠ h + 6 + 2 * k by omega), wr_ne (show h + 5 + 2 * k ≠ h + 6 + 2 * k by omega), if_pos ⟨hk, hi⟩, wr_same]
  · have e : wr (viewC h C) (8 + k) i x a b = viewC h C a b := by
      show (if a = 8 + k ∧ b = i then x else viewC h C a b) = _
      rw [if_neg hab]
    rw [e]
    unfold viewC
    rw [wr_ne (show h ≠ h + 6 + 2 * k by omega), wr_ne (show h + 1 ≠ h + 6 + 2 * k by omega), wr_ne (show h + 2 ≠ h + 6 + 2 * k by omega), wr_ne (show h + 3 ≠ h + 6 + 2 * k by omega), wr_ne (show h + 5 + 2 * b ≠ h + 6 + 2 * k by omega), wr_ne (show h + 5 + 2 * (a - 8) ≠ h + 6 + 2 * k by omega)]
    by_cases a8 : a < 8
    · repeat' split
      all_goals (first | rfl | omega)
    · by_cases ha : a - 8 = k
      · have hb : b ≠ i := fun z => hab ⟨by omega, z⟩
        rw [ha, wr_at hb]
      · rw [wr_ne (show h + 6 + 2 * (a - 8) ≠ h + 6 + 2 * k by omega)]
/-! it stays a house -/
theorem VOK.maid {V : Mem} {q k : Nat} {x : Int32} (vo : VOK V) (hq : q < 3) (h1 : q = 1 → 0 ≤ x.toInt ∧ x.toInt ≤ 9) (h2 : q = 2 → ib x 8) : VOK (wr V (4 + q) k x) := by
  have e0 : ∀ a b, a ≠ 4 + q → wr V (4 + q) k x a b = V a b := fun a b h => by rw [wr_ne h]
  unfold VOK vS vN vM vL at *
  rw [wr_ne (show 0 ≠ 4 + q by omega), wr_ne (show 2 ≠ 4 + q by omega), wr_ne (show 7 ≠ 4 + q by omega)]
  refine ⟨vo.1, vo.2.1, vo.2.2.1, fun j hj => ?_⟩
  obtain ⟨d1, d2, d3, d4⟩ := vo.2.2.2 j hj
  refine ⟨?_, ?_, d3, fun i hi => by rw [wr_ne (show 8 + j ≠ 4 + q by omega)]; exact d4 i hi⟩
  · unfold wr
    split
    · exact h1 (by omega)
    · exact d1
  · unfold wr
    split
    · exact h2 (by omega)
    · exact d2
theorem VOK.stairs {V : Mem} {s : Nat} (vo : VOK V) (hs : s < 4) : VOK (wr V 0 0 (nI s)) := by
  unfold VOK vS vN vM vL at *
  rw [wr_same, wr_at (show 1 ≠ 0 by decide), wr_at (show 2 ≠ 0 by decide), wr_ne (show 2 ≠ 0 by decide), wr_ne (show 5 ≠ 0 by decide), wr_ne (show 6 ≠ 0 by decide), wr_ne (show 7 ≠ 0 by decide), ix_nI (by omega)]
  exact ⟨⟨rfl, hs⟩, vo.2.1, vo.2.2.1, fun j hj => by
    obtain ⟨d1, d2, d3, d4⟩ := vo.2.2.2 j hj
    exact ⟨d1, d2, d3, fun i hi => by rw [wr_ne (show 8 + j ≠ 0 by omega)]; exact d4 i hi⟩⟩
theorem VOK.list {V : Mem} {k i : Nat} {x : Int32} (vo : VOK V) (hx : ib x 8) : VOK (wr V (8 + k) i x) := by
  unfold VOK vS vN vM vL at *
  rw [wr_ne (show 0 ≠ 8 + k by omega), wr_ne (show 2 ≠ 8 + k by omega), wr_ne (show 5 ≠ 8 + k by omega), wr_ne (show 6 ≠ 8 + k by omega), wr_ne (show 7 ≠ 8 + k by omega)]
  refine ⟨vo.1, vo.2.1, vo.2.2.1, fun j hj => ?_⟩
  obtain ⟨d1, d2, d3, d4⟩ := vo.2.2.2 j hj
  refine ⟨d1, d2, d3, fun p hp => ?_⟩
  unfold wr
  split
  · exact hx
  · exact d4 p hp
/-! the model's rows -/
theorem MV.maid {V D : Mem} {q k : Nat} {x : Int32} (v : MV V 4 D) (hq : q < 3) (hk : k < 4) (m4 : vM V ≤ 4) : MV (wr V (4 + q) k x) 4 (wr D (92 + q) k x) := by
  obtain ⟨-, h2, h3, h4, h5, h6, h7, h8⟩ := v
  have hs : ∀ j, j < vM V → sk 4 j = j := fun j hj => by unfold sk; rw [if_pos (by omega)]
  unfold MV cntM vS vN vM vL at *
  rw [wr_ne (show 85 ≠ 92 + q by omega), wr_ne (show 90 ≠ 92 + q by omega), wr_ne (show 91 ≠ 92 + q by omega), wr_ne (show 89 ≠ 92 + q by omega), wr_ne (show 95 ≠ 92 + q by omega), wr_ne (show 96 ≠ 92 + q by omega), wr_ne (show 0 ≠ 4 + q by omega), wr_ne (show 1 ≠ 4 + q by omega), wr_ne (show 2 ≠ 4 + q by omega), wr_ne (show 3 ≠ 4 + q by omega), wr_ne (show 7 ≠ 4 + q by omega)]
  refine ⟨⟨by omega, fun h => absurd h (by omega)⟩, h2, h3, h4, h5, h6, h7, fun j hj => ?_⟩
  have h9 := h8 j hj
  rw [hs j hj] at h9 ⊢
  obtain ⟨⟨a1, a2, a3, a4⟩, a5⟩ := h9
  refine ⟨⟨?_, ?_, ?_, a4⟩, fun i hi => by rw [wr_ne (show 8 + j ≠ 4 + q by omega)]; exact a5 i hi⟩
  · unfold wr
    by_cases z : q = 0 ∧ j = k
    · rw [if_pos (by omega), if_pos (by omega)]
    · rw [if_neg (by omega), if_neg (by omega)]; exact a1
  · unfold wr
    by_cases z : q = 1 ∧ j = k
    · rw [if_pos (by omega), if_pos (by omega)]
    · rw [if_neg (by omega), if_neg (by omega)]; exact a2
  · unfold wr
    by_cases z : q = 2 ∧ j = k
    · rw [if_pos (by omega), if_pos (by omega)]
    · rw [if_neg (by omega), if_neg (by omega)]; exact a3
theorem MV.stairs {V D : Mem} {s : Nat} (v : MV V 4 D) (hs : s < 4) : MV (wr V 0 0 (nI s)) 4 (wr D 85 7 (nI s)) := by
  obtain ⟨-, h2, h3, h4, h5, h6, h7, h8⟩ := v
  unfold MV cntM vS vN vM vL at *
  rw [wr_same, wr_same, wr_at (show 11 ≠ 7 by decide), wr_at (show 17 ≠ 7 by decide), wr_at (show 18 ≠ 7 by decide), wr_at (show 1 ≠ 0 by decide), wr_at (show 2 ≠ 0 by decide), wr_ne (show 90 ≠ 85 by decide), wr_ne (show 91 ≠ 85 by decide), wr_ne (show 89 ≠ 85 by decide), wr_ne (show 92 ≠ 85 by decide), wr_ne (show 93 ≠ 85 by decide), wr_ne (show 94 ≠ 85 by decide), wr_ne (show 95 ≠ 85 by decide), wr_ne (show 96 ≠ 85 by decide), wr_ne (show 1 ≠ 0 by decide), wr_ne (show 2 ≠ 0 by decide), wr_ne (show 3 ≠ 0 by decide), wr_ne (show 4 ≠ 0 by decide), wr_ne (show 5 ≠ 0 by decide), wr_ne (show 6 ≠ 0 by decide), wr_ne (show 7 ≠ 0 by decide), ix_nI (by omega)]
  exact ⟨⟨by omega, fun h => absurd h (by omega)⟩, rfl, h3, h4, h5, h6, h7, fun j hj => ⟨(h8 j hj).1, fun i hi => by rw [wr_ne (show 8 + j ≠ 0 by omega)]; exact (h8 j hj).2 i hi⟩⟩
theorem MV.list {V D : Mem} {k i : Nat} {x : Int32} (v : MV V 4 D) (hk : k < 4) (m4 : vM V ≤ 4) (hi : i < 5) (l5 : ∀ j, j < vM V → vL V j ≤ 5) : MV (wr V (8 + k) i x) 4 (wr D 95 (5 * k + i) x) := by
  obtain ⟨-, h2, h3, h4, h5, h6, h7, h8⟩ := v
  have hs : ∀ j, j < vM V → sk 4 j = j := fun j hj => by unfold sk; rw [if_pos (by omega)]
  unfold MV cntM vS vN vM vL at *
  rw [wr_ne (show 85 ≠ 95 by decide), wr_ne (show 90 ≠ 95 by decide), wr_ne (show 91 ≠ 95 by decide), wr_ne (show 89 ≠ 95 by decide), wr_ne (show 92 ≠ 95 by decide), wr_ne (show 93 ≠ 95 by decide), wr_ne (show 94 ≠ 95 by decide), wr_ne (show 96 ≠ 95 by decide), wr_ne (show 0 ≠ 8 + k by omega), wr_ne (show 1 ≠ 8 + k by omega), wr_ne (show 2 ≠ 8 + k by omega), wr_ne (show 3 ≠ 8 + k by omega), wr_ne (show 4 ≠ 8 + k by omega), wr_ne (show 5 ≠ 8 + k by omega), wr_ne (show 6 ≠ 8 + k by omega), wr_ne (show 7 ≠ 8 + k by omega)]
  refine ⟨⟨by omega, fun h => absurd h (by omega)⟩, h2, h3, h4, h5, h6, h7, fun j hj => ⟨(h8 j hj).1, fun p hp => ?_⟩⟩
  have h9 := (h8 j hj).2 p hp
  have hl := l5 j hj
  rw [hs j hj] at h9 ⊢
  unfold wr
  by_cases z : j = k ∧ p = i
  · rw [if_pos (by omega), if_pos (by omega)]
  · rw [if_neg (by omega), if_neg (by omega)]; exact h9
theorem HV.put {V C : Mem} {tl : Tell} {k j : Nat} {x : Int32} {V' : Mem} (v : HV 27 V tl C) (hk : 27 ≤ k ∧ k < 40) (h3 : ¬ (k = 27 ∧ j = 3)) (e : viewC 27 (wr C k j x) = V') (vo : VOK V') : HV 27 V' tl (wr C k j x) := by
  obtain ⟨h1, h2, h3', h4, h5, h6⟩ := v
  have er : wr C k j x 27 3 = C 27 3 := if_neg (by omega)
  have hr := ix_lt h4
  refine ⟨h1, e.symm, vo, by rw [er]; exact h4, ?_, h6.same (by rw [wr_ne (by omega)]) (wr_ne (by omega))⟩
  rw [er, wr_ne (by omega), wr_ne (by omega)]
  exact h5
theorem Wd27.put {V M C : Mem} {tl : Tell} {k j : Nat} {x : Int32} {V' : Mem} (w : Wd27 V tl M C) (hk : 27 ≤ k ∧ k < 40) (h3 : ¬ (k = 27 ∧ j = 3)) (e : viewC 27 (wr C k j x) = V') (vo : VOK V') : Wd27 V' tl M (wr C k j x) := ⟨w.1.put hk h3 e vo, fun a h1 h2 => by rw [wr_ne (by omega)]; exact w.2 a h1 h2⟩
/-- how the cells of the house as it would be stand to what is seen -/
theorem Wd27.cells {V M C : Mem} {tl : Tell} (w : Wd27 V tl M C) : ix (C 27 1) = vN V ∧ ix (C 27 2) = vM V ∧ ∀ k, k < vM V → ix (C (32 + 2 * k) 3) = vL V k := by
  obtain ⟨-, h2, h3, -⟩ := w.1
  have a1 : V 0 1 = C 27 1 := by rw [h2]; rfl
  have a2 : V 0 2 = C 27 2 := by rw [h2]; rfl
  refine ⟨by show _ = ix (V 0 1); rw [a1], by show _ = ix (V 0 2); rw [a2], fun k hk => ?_⟩
  have a3 : V 7 k = C (32 + 2 * k) 3 := by
    have hk' : k < ix (C 27 2) := by rw [← a2]; exact hk
    rw [h2]
    unfold viewC
    rw [if_neg (by omega), if_neg (by omega), if_neg (by omega), if_neg (by omega), if_pos (by omega), if_pos hk']
  show _ = ix (V 7 k)
  rw [a3]
theorem Wd27.dear {V M C : Mem} {tl : Tell} (w : Wd27 V tl M C) : ∃ C', fD_run 27 100 C = some C' ∧ fD_dear C' = some (dearS V tl, C') ∧ Wd27 V tl M C' ∧ KeepD C C' := by
  obtain ⟨C', e1, w1, d1, q1, k1⟩ := w.run (show 100 ≤ 100 by omega)
  exact ⟨C', e1, fD_dear_eq q1, w1, k1⟩
