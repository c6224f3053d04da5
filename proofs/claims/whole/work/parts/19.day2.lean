/-! 19: a day depends on what can be seen of its beginning only -/
def DEq (V D E : Mem) : Prop := (∀ k, k < vM V → D 50 k = E 50 k ∧ D 52 k = E 52 k ∧ (0 < (D 52 k).toInt → D 51 k = E 51 k) ∧ D 53 k = E 53 k ∧ D 54 k = E 54 k ∧ D 55 k = E 55 k) ∧ (∀ r, r < 8 → D 56 r = E 56 r) ∧ D 45 13 = E 45 13 ∧ D 45 14 = E 45 14
theorem aimS_bd' {V D : Mem} (vo : VOK V) (dk : DOK V D) {k : Nat} (hk : k < vM V) : aimS V D k = -1 ∨ (0 ≤ (aimS V D k).toInt ∧ (aimS V D k).toInt < 8 ∧ (D 53 k).toInt < (V 7 k).toInt) := by
  rcases aimS_bd vo hk (dk k hk).2.2.2.1 with z | z
  · exact Or.inl z
  · have z1 := z.1
    have z2 := z.2
    exact Or.inr (by omega)
theorem nextS_bd {V D : Mem} (vo : VOK V) (dk : DOK V D) {k : Nat} (hk : k < vM V) : nextS V D k = -1 ∨ (0 ≤ (nextS V D k).toInt ∧ (nextS V D k).toInt < 8) := by
  unfold nextS
  by_cases hz : aimS V D k = -1
  · rw [if_pos hz]; exact Or.inl rfl
  · rw [if_neg hz]
    have h8 := (aimS_bd' vo dk hk).resolve_left hz
    exact nxt_bd _ vo.1.2 _ (of_ib (dk k hk).1).2 _ (by unfold ix; omega)
theorem turnS_DOK {V D : Mem} {tl : Tell} (vo : VOK V) (dk : DOK V D) {k : Nat} (hk : k < vM V) (t mm : Int32) : DOK V (turnS V tl k t mm D) := by
  have e0 : (0 : Int32).toInt = 0 := rfl
  have e1 : (1 : Int32).toInt = 1 := rfl
  have num := (vo.2.2.2 k hk).1
  have dK := dk k hk
  unfold turnS
  by_cases hw : 0 < (D 52 k).toInt
  · rw [if_pos hw]
    by_cases hz : D 52 k - 1 = 0
    · rw [if_pos hz]
      intro j hj
      have d := dk j hj
      rw [wr_ne (show 51 ≠ 50 by decide), wr_ne (show 51 ≠ 52 by decide), wr_ne (show 52 ≠ 50 by decide), wr_ne (show 53 ≠ 50 by decide), wr_ne (show 53 ≠ 52 by decide)]
      by_cases hjk : j = k
      · subst hjk
        rw [wr_same, wr_same, hz]
        exact ⟨d.2.2.1 hw, by decide, fun z => absurd z (by decide), d.2.2.2⟩
      · rw [wr_at hjk, wr_ne (show 50 ≠ 52 by decide), wr_at hjk]
        exact d
    · rw [if_neg hz]
      intro j hj
      have d := dk j hj
      rw [wr_ne (show 51 ≠ 52 by decide), wr_ne (show 50 ≠ 52 by decide), wr_ne (show 53 ≠ 52 by decide)]
      by_cases hjk : j = k
      · subst hjk
        rw [wr_same, t_sub (by omega) (by omega), e1]
        exact ⟨d.1, by omega, fun z => d.2.2.1 hw, d.2.2.2⟩
      · rw [wr_at hjk]
        exact d
  · rw [if_neg hw]
    by_cases hm : D 50 k = mm
    · rw [if_pos hm]
      exact DOK_wr_other (DOK_wr_other dk (by decide)) (by decide)
    · rw [if_neg hm]
      by_cases ha : D 50 k = aimS V D k
      · rw [if_pos ha]
        generalize lessS (D 56 (ix (D 50 k))) (worksS (V 4 k) (V 5 k) (telS tl V D 1 k t 0)) = y
        by_cases hyz : y = 0
        · rw [if_pos hyz]
          intro j hj
          have d := dk j hj
          rw [wr_ne (show 50 ≠ 53 by decide), wr_ne (show 51 ≠ 53 by decide), wr_ne (show 52 ≠ 53 by decide), wr_ne (show 50 ≠ 56 by decide), wr_ne (show 51 ≠ 56 by decide), wr_ne (show 52 ≠ 56 by decide)]
          by_cases hjk : j = k
          · subst hjk
            rw [wr_same]
            have hlt : (D 53 j).toInt < (V 7 j).toInt := by
              rcases aimS_bd' vo dk hk with z | z
              · rw [z] at ha
                have h8 := d.1.1
                rw [ha, m1_t] at h8
                omega
              · exact z.2.2
            have h7 := tI_lt (V 7 j)
            rw [t_add (by omega) (by omega), e1]
            exact ⟨d.1, d.2.1, d.2.2.1, by omega⟩
          · rw [wr_at hjk, wr_ne (show 53 ≠ 56 by decide)]
            exact d
        · rw [if_neg hyz]
          exact DOK_wr_other dk (by decide)
      · rw [if_neg ha]
        by_cases hn : nextS V D k = -1 ∨ (nextS V D k = mm ∧ dareB (V 4 k) (V 5 k) t = false)
        · rw [if_pos hn]
          exact DOK_wr_other dk (by decide)
        · rw [if_neg hn]
          have hnm : ¬ nextS V D k = -1 := fun z => hn (Or.inl z)
          intro j hj
          have d := dk j hj
          rw [wr_ne (show 50 ≠ 51 by decide), wr_ne (show 52 ≠ 51 by decide), wr_ne (show 53 ≠ 51 by decide), wr_ne (show 50 ≠ 52 by decide), wr_ne (show 53 ≠ 52 by decide)]
          by_cases hjk : j = k
          · subst hjk
            rw [wr_same, wr_same]
            have tb := takesS_bd (kind := V 4 j) num ((clS_bd 0 (tl 0 t (D 50 j) (D 56 (ix (D 50 j))) (V 5 j) (nextS V D j) (othS V D j))).2 (by decide))
            exact ⟨d.1, ⟨by unfold telS; omega, by unfold telS; omega⟩, fun _ => (nextS_bd vo dk hk).resolve_left hnm, d.2.2.2⟩
          · rw [wr_at hjk, wr_at hjk, wr_ne (show 51 ≠ 52 by decide)]
            exact d
theorem turnsF_DOK {V : Mem} {tl : Tell} (vo : VOK V) (t mm : Int32) : ∀ (c k : Nat) (D : Mem), k + c ≤ vM V → DOK V D → DOK V (turnsF V tl t mm c k D)
  | 0, _, _, _, d => d
  | c + 1, k, D, h, d => by
    rw [turnsF]
    exact turnsF_DOK vo t mm c (k + 1) _ (by omega) (turnS_DOK vo d (by omega) t mm)
theorem passS_DOK {V D : Mem} {tl : Tell} (vo : VOK V) (t : Int32) (d : DOK V D) : DOK V (passS V tl t D) := by
  have h := turnsF_DOK (tl := tl) vo t (mst (vN V) (V 1) (V 2) t) (vM V) 0 D (by omega) d
  unfold passS
  dsimp only
  split
  · exact DOK_wr_other h (by decide)
  · exact h
theorem dayF_DOK {V : Mem} {tl : Tell} (vo : VOK V) : ∀ (c t : Nat) (D : Mem), DOK V D → DOK V (dayF V tl c t D)
  | 0, _, _, d => d
  | c + 1, t, D, d => by rw [dayF]; exact dayF_DOK vo c (t + 1) _ (passS_DOK vo _ d)
theorem othF_deq {V D E : Mem} (e : DEq V D E) {k : Nat} (hk : k < vM V) : ∀ (c i : Nat) (acc : Int32), i + c ≤ vM V → othF D k c i acc = othF E k c i acc
  | 0, _, _, _ => rfl
  | c + 1, i, acc, h => by
    obtain ⟨a, b, _⟩ := e.1 i (by omega)
    obtain ⟨a2, _⟩ := e.1 k hk
    rw [othF, othF, a, b, a2]
    exact othF_deq e hk c (i + 1) _ (by omega)
theorem turnS_deq {V D E : Mem} {tl : Tell} (e : DEq V D E) (dk : DOK V D) {k : Nat} (hk : k < vM V) (t mm : Int32) : DEq V (turnS V tl k t mm D) (turnS V tl k t mm E) := by
  obtain ⟨k50, k52, k51, k53, k54, k55⟩ := e.1 k hk
  obtain ⟨x1, x2, x3, x4⟩ := e
  have g8 := ix_lt (dk k hk).1
  have k56 : E 56 (ix (E 50 k)) = D 56 (ix (D 50 k)) := by rw [← k50, x2 _ g8]
  have ea : aimS V E k = aimS V D k := by unfold aimS; rw [k53]
  have en : nextS V E k = nextS V D k := by unfold nextS; rw [ea, k50]
  have et : ∀ p b, telS tl V E p k t b = telS tl V D p k t b := fun p b => by
    unfold telS othS
    rw [k56, k50, othF_deq ⟨x1, x2, x3, x4⟩ hk _ _ _ (by omega)]
  have w : ∀ (x j : Nat) (D E : Mem) (v : Int32), x ≠ 51 → x ≠ 52 → DEq V D E → DEq V (wr D x j v) (wr E x j v) := by
    intro x j D E v h1 h2 ⟨y1, y2, y3, y4⟩
    refine ⟨fun k hk => ?_, fun r hr => ?_, ?_, ?_⟩
    · obtain ⟨z1, z2, z3, z4, z5, z6⟩ := y1 k hk
      rw [wr_ne (show 51 ≠ x from h1.symm), wr_ne (show 52 ≠ x from h2.symm), wr_ne (show 51 ≠ x from h1.symm), wr_ne (show 52 ≠ x from h2.symm)]
      unfold wr
      rw [z1, z4, z5, z6]
      exact ⟨rfl, z2, z3, rfl, rfl, rfl⟩
    · unfold wr; rw [y2 r hr]
    · unfold wr; rw [y3]
    · unfold wr; rw [y4]
  unfold turnS
  rw [← k52, ← k50] at *
  rw [ea, en, k56]
  simp only [et]
  by_cases h1 : 0 < (D 52 k).toInt
  · rw [if_pos h1, if_pos h1]
    by_cases h2 : D 52 k - 1 = 0
    · rw [if_pos h2, if_pos h2, h2, k51 h1]
      apply w 50 k _ _ _ (by decide) (by decide)
      refine ⟨fun j hj => ?_, fun r hr => ?_, ?_, ?_⟩
      · obtain ⟨z1, z2, z3, z4, z5, z6⟩ := x1 j hj
        unfold wr
        by_cases hjk : j = k
        · subst hjk; simp [z1, z4, z5, z6]
        · simp [hjk, z1, z4, z5, z6, z2]
          rw [← z2]; exact z3
      · unfold wr; simp [x2 r hr]
      · unfold wr; simp [x3]
      · unfold wr; simp [x4]
    · rw [if_neg h2, if_neg h2]
      refine ⟨fun j hj => ?_, fun r hr => ?_, ?_, ?_⟩
      · obtain ⟨z1, z2, z3, z4, z5, z6⟩ := x1 j hj
        unfold wr
        by_cases hjk : j = k
        · subst hjk; simp [z1, z4, z5, z6]
          exact fun _ => k51 h1
        · simp [hjk, z1, z4, z5, z6, z2]
          rw [← z2]; exact z3
      · unfold wr; simp [x2 r hr]
      · unfold wr; simp [x3]
      · unfold wr; simp [x4]
  · rw [if_neg h1, if_neg h1]
    by_cases h2 : D 50 k = mm
    · rw [if_pos h2, if_pos h2, ← k54, ← x3]
      exact w 45 13 _ _ _ (by decide) (by decide) (w 54 k _ _ _ (by decide) (by decide) ⟨x1, x2, x3, x4⟩)
    · rw [if_neg h2, if_neg h2]
      by_cases h3 : D 50 k = aimS V D k
      · rw [if_pos h3, if_pos h3]
        split
        · rw [← k53]
          exact w 53 k _ _ _ (by decide) (by decide) (w 56 _ _ _ _ (by decide) (by decide) ⟨x1, x2, x3, x4⟩)
        · exact w 56 _ _ _ _ (by decide) (by decide) ⟨x1, x2, x3, x4⟩
      · rw [if_neg h3, if_neg h3]
        split
        · rw [← k55]
          exact w 55 k _ _ _ (by decide) (by decide) ⟨x1, x2, x3, x4⟩
        · refine ⟨fun j hj => ?_, fun r hr => ?_, ?_, ?_⟩
          · obtain ⟨z1, z2, z3, z4, z5, z6⟩ := x1 j hj
            unfold wr
            by_cases hjk : j = k
            · subst hjk; simp [z1, z4, z5, z6]
            · simp [hjk, z1, z4, z5, z6, z2]
              rw [← z2]; exact z3
          · unfold wr; simp [x2 r hr]
          · unfold wr; simp [x3]
          · unfold wr; simp [x4]
theorem turnsF_deq {V : Mem} {tl : Tell} (vo : VOK V) (t mm : Int32) : ∀ (c k : Nat) (D E : Mem), k + c ≤ vM V → DEq V D E → DOK V D → DEq V (turnsF V tl t mm c k D) (turnsF V tl t mm c k E)
  | 0, _, _, _, _, e, _ => e
  | c + 1, k, D, E, h, e, d => by
    rw [turnsF, turnsF]
    exact turnsF_deq vo t mm c (k + 1) _ _ (by omega) (turnS_deq e d (by omega) t mm) (turnS_DOK vo d (by omega) t mm)
theorem doneS_deq {V D E : Mem} (vo : VOK V) (e : DEq V D E) : doneS V D = doneS V E := by
  have : doneS V D = true ↔ doneS V E = true := by
    rw [doneS_iff, doneS_iff]
    constructor
    · intro h k hk i hi
      rw [← e.2.1 _ (ix_lt ((vo.2.2.2 k hk).2.2.2 i hi))]; exact h k hk i hi
    · intro h k hk i hi
      rw [e.2.1 _ (ix_lt ((vo.2.2.2 k hk).2.2.2 i hi))]; exact h k hk i hi
  by_cases h : doneS V D = true
  · rw [h, this.mp h]
  · rw [Bool.eq_false_iff.mpr h, Bool.eq_false_iff.mpr (fun z => h (this.mpr z))]
theorem passS_deq {V D E : Mem} {tl : Tell} (vo : VOK V) (t : Int32) (e : DEq V D E) (d : DOK V D) : DEq V (passS V tl t D) (passS V tl t E) := by
  have h := turnsF_deq (tl := tl) vo t (mst (vN V) (V 1) (V 2) t) (vM V) 0 D E (by omega) e d
  unfold passS
  dsimp only
  rw [doneS_deq vo h, h.2.2.2]
  split
  · obtain ⟨x1, x2, x3, x4⟩ := h
    refine ⟨fun j hj => ?_, fun r hr => ?_, ?_, ?_⟩
    · rw [wr_ne (by decide), wr_ne (by decide), wr_ne (by decide), wr_ne (by decide), wr_ne (by decide), wr_ne (by decide), wr_ne (by decide), wr_ne (by decide), wr_ne (by decide), wr_ne (by decide), wr_ne (by decide), wr_ne (by decide)]
      exact x1 j hj
    · rw [wr_ne (by decide), wr_ne (by decide)]; exact x2 r hr
    · rw [wr_at (by decide), wr_at (by decide)]; exact x3
    · rw [wr_same, wr_same]
  · exact h
theorem dayF_deq {V : Mem} {tl : Tell} (vo : VOK V) : ∀ (c t : Nat) (D E : Mem), DEq V D E → DOK V D → DEq V (dayF V tl c t D) (dayF V tl c t E)
  | 0, _, _, _, e, _ => e
  | c + 1, t, D, E, e, d => by rw [dayF, dayF]; exact dayF_deq vo c (t + 1) _ _ (passS_deq vo _ e d) (passS_DOK vo _ d)
theorem DEq.trans {V D E F : Mem} (a : DEq V D E) (b : DEq V E F) : DEq V D F := by
  obtain ⟨a1, a2, a3, a4⟩ := a
  obtain ⟨b1, b2, b3, b4⟩ := b
  refine ⟨fun k hk => ?_, fun r hr => (a2 r hr).trans (b2 r hr), a3.trans b3, a4.trans b4⟩
  obtain ⟨z1, z2, z3, z4, z5, z6⟩ := a1 k hk
  obtain ⟨y1, y2, y3, y4, y5, y6⟩ := b1 k hk
  exact ⟨z1.trans y1, z2.trans y2, fun h => (z3 h).trans (y3 (z2 ▸ h)), z4.trans y4, z5.trans y5, z6.trans y6⟩
theorem DEq.symm {V D E : Mem} (a : DEq V D E) : DEq V E D := by
  obtain ⟨a1, a2, a3, a4⟩ := a
  refine ⟨fun k hk => ?_, fun r hr => (a2 r hr).symm, a3.symm, a4.symm⟩
  obtain ⟨z1, z2, z3, z4, z5, z6⟩ := a1 k hk
  exact ⟨z1.symm, z2.symm, fun h => (z3 (z2 ▸ h)).symm, z4.symm, z5.symm, z6.symm⟩
theorem DEq.ofEqD {V D E : Mem} (e : EqD D E) : DEq V D E := by
  refine ⟨fun k hk => ?_, fun r hr => ?_, ?_, ?_⟩
  · rw [e 50 (by decide) (by decide), e 51 (by decide) (by decide), e 52 (by decide) (by decide), e 53 (by decide) (by decide), e 54 (by decide) (by decide), e 55 (by decide) (by decide)]
    exact ⟨rfl, rfl, fun _ => rfl, rfl, rfl, rfl⟩
  · rw [e 56 (by decide) (by decide)]
  · rw [e 45 (by decide) (by decide)]
  · rw [e 45 (by decide) (by decide)]
/-- how the day begins -/
def startS (V : Mem) : Mem := fun a b => if a = 50 then V 6 b else if a = 56 then V 3 b else if a = 45 ∧ b = 14 then -1 else 0
/-- the day up to the minute n -/
def dayS (V : Mem) (tl : Tell) (n : Nat) : Mem := dayF V tl n 0 (startS V)
theorem startS_start (V : Mem) : Start V (startS V) := ⟨fun _ _ => ⟨rfl, rfl, rfl, rfl, rfl⟩, fun _ _ => rfl, rfl, rfl⟩
theorem Start.deq {V D E : Mem} (a : Start V D) (b : Start V E) : DEq V D E := by
  refine ⟨fun k hk => ?_, fun r hr => by rw [a.2.1 r hr, b.2.1 r hr], by rw [a.2.2.1, b.2.2.1], by rw [a.2.2.2, b.2.2.2]⟩
  obtain ⟨z1, z2, z3, z4, z5⟩ := a.1 k hk
  obtain ⟨y1, y2, y3, y4, y5⟩ := b.1 k hk
  rw [z1, z2, z3, z4, z5, y1, y2, y3, y4, y5]
  exact ⟨rfl, rfl, fun h => absurd h (by decide), rfl, rfl, rfl⟩
theorem dayS_DOK {V : Mem} {tl : Tell} (vo : VOK V) (n : Nat) : DOK V (dayS V tl n) := dayF_DOK vo n 0 _ (DOK.start vo (startS_start V))
theorem passS_row {V D : Mem} {tl : Tell} {t : Int32} {a : Nat} (ha : a ≠ 45 ∧ (a < 50 ∨ 56 < a)) : passS V tl t D a = D a := by
  unfold passS
  split
  · rw [wr_ne ha.1, turnsF_row ha]
  · rw [turnsF_row ha]
theorem dayF_row {V : Mem} {tl : Tell} {a : Nat} (ha : a ≠ 45 ∧ (a < 50 ∨ 56 < a)) : ∀ (c t : Nat) (D : Mem), dayF V tl c t D a = D a
  | 0, _, _ => rfl
  | c + 1, t, D => by rw [dayF, dayF_row ha c (t + 1), passS_row ha]
theorem fD_run_eq {h : Nat} {V : Mem} {tl : Tell} {M : Mem} {n : Nat} (hn : n ≤ 100) (hv : HV h V tl M) : ∃ M', fD_run h (nI n) M = some M' ∧ CV h V tl M' ∧ HV h V tl M' ∧ KeepD M M' ∧ DOK V M' ∧ DEq V (dayS V tl n) M' := by
  obtain ⟨M1, e1, c1, s1, a1, l1, k1⟩ := fD_start_eq hv
  have vo := c1.2.2.2.1
  have d1 := DOK.start vo s1
  obtain ⟨M2, e2, q2, c2, d2⟩ := fD_run_b7_eq hn n 0 1000 M1 M1 (by omega) (by omega) c1 d1 a1 (fun a _ _ => rfl)
  unfold fD_run
  rw [e1]
  simp only [Option.bind_some]
  rw [show (0 : Int32) = nI 0 from rfl, e2]
  have r : ∀ a, a ≠ 45 → (a < 48 ∨ 56 < a) → M2 a = M1 a := fun a x1 x2 => by
    rw [q2 a (by omega) (by omega)]
    exact dayF_row ⟨x1, by omega⟩ n 0 M1
  have k2 : KeepD M M2 := fun a ha => by rw [r a (by omega) (by omega)]; exact k1 a ha
  have lw : LW M2 := by
    intro s hs he i hi
    rw [r 46 (by decide) (by decide)] at he
    rw [r 47 (by decide) (by decide)]
    exact l1 s hs he i hi
  exact ⟨M2, rfl, c2, hv.keep k2 lw, k2, d2, (dayF_deq vo n 0 _ _ ((startS_start V).deq s1) (DOK.start vo (startS_start V))).trans (DEq.ofEqD q2)⟩
