/-! 53: rounds that are drawn -/
def rnd (z : Int32) : Int32 := z * 1103515245 + 12345
def mnt (y : Int32) : Int32 := (((y.toUInt32 >>> ((9 : Int32).toUInt32 &&& Int32.toUInt32 31)).toInt32) - ((y.toUInt32 >>> ((9 : Int32).toUInt32 &&& Int32.toUInt32 31)).toInt32) / 50 * 50) + 1
def zat : Nat → Int32 → Int32
  | 0, z => z
  | i + 1, z => rnd (zat i z)
theorem shr_pos (y : Int32) : 0 ≤ ((y.toUInt32 >>> ((9 : Int32).toUInt32 &&& Int32.toUInt32 31)).toInt32).toInt := by
  rw [show ((9 : Int32).toUInt32 &&& Int32.toUInt32 31) = 9 from by decide]
  have h : (y.toUInt32 >>> 9).toNat < 8388608 := by
    rw [UInt32.toNat_shiftRight]
    have h1 := y.toUInt32.toNat_lt
    rw [show (9 : UInt32).toNat % 32 = 9 from rfl, Nat.shiftRight_eq_div_pow]
    have : y.toUInt32.toNat / 2 ^ 9 < 2 ^ 32 / 2 ^ 9 := Nat.div_lt_of_lt_mul (by omega)
    omega
  show 0 ≤ (y.toUInt32 >>> 9).toBitVec.toInt
  have h2 : (y.toUInt32 >>> 9).toBitVec.toNat < 8388608 := h
  rw [BitVec.toInt_eq_toNat_of_lt (by omega)]
  omega
theorem mnt_bd (y : Int32) : 1 ≤ (mnt y).toInt ∧ (mnt y).toInt ≤ 50 := by
  have e1 : (1 : Int32).toInt = 1 := rfl
  have e50 : (50 : Int32).toInt = 50 := rfl
  have := rem_bd (t := (y.toUInt32 >>> ((9 : Int32).toUInt32 &&& Int32.toUInt32 31)).toInt32) (R := 50) (by decide) (shr_pos y)
  unfold mnt
  rw [t_add (by omega) (by omega), e1]
  omega
/-- the house with minutes that are drawn -/
def drw (V : Mem) (n : Nat) (z : Int32) : Mem := fun a b => if a = 2 ∧ b < n then mnt (zat (b + 1) z) else V a b
theorem drw_ne {V : Mem} {n a : Nat} {z : Int32} (h : a ≠ 2) : drw V n z a = V a := by
  funext b
  unfold drw
  rw [if_neg (fun w => h w.1)]
theorem drw_0 {V : Mem} {z : Int32} : drw V 0 z = V := by
  funext a b
  unfold drw
  rw [if_neg (by omega)]
theorem drw_s {V : Mem} {i : Nat} {z : Int32} : wr (drw V i z) 2 i (mnt (zat (i + 1) z)) = drw V (i + 1) z := by
  funext a b
  unfold wr drw
  by_cases h : a = 2 ∧ b = i
  · rw [if_pos h, if_pos (by omega), h.2]
  · rw [if_neg h]
    by_cases h2 : a = 2 ∧ b < i
    · rw [if_pos h2, if_pos (by omega)]
    · rw [if_neg h2, if_neg (by omega)]
theorem drw_vn {V : Mem} {i : Nat} {z : Int32} : vN (drw V i z) = vN V ∧ vM (drw V i z) = vM V := by
  unfold vN vM
  rw [drw_ne (by decide)]
  exact ⟨rfl, rfl⟩
theorem drw_vo {V : Mem} {i : Nat} {z : Int32} (vo : VOK V) : VOK (drw V i z) := by
  unfold VOK vS vN vM vL at *
  rw [drw_ne (show 0 ≠ 2 by decide), drw_ne (show 5 ≠ 2 by decide), drw_ne (show 6 ≠ 2 by decide), drw_ne (show 7 ≠ 2 by decide)]
  refine ⟨vo.1, ⟨vo.2.1.1, vo.2.1.2.1, fun j hj => ?_⟩, vo.2.2.1, fun k hk => ?_⟩
  · unfold drw
    split
    · exact mnt_bd _
    · exact vo.2.1.2.2 j hj
  · obtain ⟨d1, d2, d3, d4⟩ := vo.2.2.2 k hk
    exact ⟨d1, d2, d3, fun p hp => by rw [drw_ne (show 8 + k ≠ 2 by omega)]; exact d4 p hp⟩
theorem drw_drw {V : Mem} {n : Nat} {y z : Int32} : drw (drw V n y) n z = drw V n z := by
  funext a b
  unfold drw
  by_cases h : a = 2 ∧ b < n
  · rw [if_pos h, if_pos h]
  · rw [if_neg h, if_neg h, if_neg h]
theorem fH_draw_b4_eq {V M : Mem} {tl : Tell} {s : Int32} (vo : VOK V) : ∀ (c i z : Nat) (C : Mem), i + c = vN V → c < z → Wd27 (drw V i s) tl M C → ∃ C', fH_draw_b4 27 z (zat i s) (nI i) C = some C' ∧ Wd27 (drw V (vN V) s) tl M C' := by
  have n8 := vo.2.1.2.1
  intro c
  induction c with
  | zero =>
    intro i z C hi hz wd
    obtain ⟨z, rfl⟩ := Nat.exists_eq_succ_of_ne_zero (show z ≠ 0 by omega)
    have hin : i = vN V := by omega
    have h1 := wd.1.2.2.1.2.1.1
    have e1 : C 27 1 = nI (vN V) := by
      have : drw V i s 0 1 = C 27 1 := by rw [wd.1.2.1]; rfl
      rw [← this, h1, drw_vn.1]
    rw [hin] at wd
    refine ⟨C, ?_, wd⟩
    rw [fH_draw_b4, e1, if_pos (by rw [n_le (by omega) (by omega)]; omega)]
  | succ c ih =>
    intro i z C hi hz wd
    obtain ⟨z, rfl⟩ := Nat.exists_eq_succ_of_ne_zero (show z ≠ 0 by omega)
    have h1 := wd.1.2.2.1.2.1.1
    have e1 : C 27 1 = nI (vN V) := by
      have : drw V i s 0 1 = C 27 1 := by rw [wd.1.2.1]; rfl
      rw [← this, h1, drw_vn.1]
    have w2 : Wd27 (drw V (i + 1) s) tl M (wr C 29 i (mnt (zat (i + 1) s))) := by
      refine wd.put (by omega) (by omega) ?_ (drw_vo vo)
      have := view_min (h := 27) (i := i) (x := mnt (zat (i + 1) s)) (C := C) (by rw [e1, ix_nI (by omega)]; omega)
      rw [show 27 + 2 = 29 from rfl] at this
      rw [this, ← wd.1.2.1, drw_s]
    obtain ⟨C', d1, d2⟩ := ih (i + 1) z _ (by omega) (by omega) w2
    refine ⟨C', ?_, d2⟩
    rw [fH_draw_b4, e1, if_neg (by rw [n_le (by omega) (by omega)]; omega), if_pos (ib_nI (by omega) (by omega)), ix_nI (by omega), nI_1]
    exact d1
theorem fH_draw_eq {V M C : Mem} {tl : Tell} (s : Int32) (vo : VOK V) (wd : Wd27 V tl M C) : ∃ C', fH_draw 27 s C = some C' ∧ Wd27 (drw V (vN V) s) tl M C' :=
  fH_draw_b4_eq vo (vN V) 0 1000 C (by omega) (by have := vo.2.1.2.1; omega) (by rw [drw_0]; exact wd)
/-! the model draws -/
def KeepE (M N : Mem) : Prop := (∀ a, a ≠ 85 → a ≠ 106 → (a < 97 ∨ 104 < a) → N a = M a) ∧ ∀ j, (j < 21 ∨ (36 ≤ j ∧ j ≠ 43 ∧ j ≠ 44 ∧ j ≠ 132)) → N 85 j = M 85 j
theorem KeepE.s {M N : Mem} (k : KeepE M N) : Same M N := ⟨fun a h => k.1 a (by omega) (by omega) (by omega), ⟨by rw [k.1 0 (by omega) (by omega) (by omega)], by rw [k.1 0 (by omega) (by omega) (by omega)]⟩, fun j _ => by rw [k.1 1 (by omega) (by omega) (by omega)], by rw [k.1 40 (by omega) (by omega) (by omega)], fun j h => k.2 j (by omega)⟩
theorem KeepE.lw {M N : Mem} (k : KeepE M N) (h : LW M) : LW N := h.same (by rw [k.1 46 (by omega) (by omega) (by omega)]) (k.1 47 (by omega) (by omega) (by omega))
theorem fM_draws_b63_eq {n : Nat} (hn : n ≤ 8) (v : Int32) : ∀ (c i z : Nat) (D : Mem), i + c = n → c < z → D 85 11 = nI n → ∃ D', fM_draws_b63 v z (nI i) D = some (v, D') ∧ (∀ a, a ≠ 91 → D' a = D a) ∧ ∀ b, D' 91 b = if i ≤ b ∧ b < n then D 106 b else D 91 b := by
  intro c
  induction c with
  | zero =>
    intro i z D hi hz h11
    obtain ⟨z, rfl⟩ := Nat.exists_eq_succ_of_ne_zero (show z ≠ 0 by omega)
    exact ⟨D, by rw [fM_draws_b63, h11, if_pos (by rw [n_le (by omega) (by omega)]; omega)], fun _ _ => rfl, fun b => by rw [if_neg (by omega)]⟩
  | succ c ih =>
    intro i z D hi hz h11
    obtain ⟨z, rfl⟩ := Nat.exists_eq_succ_of_ne_zero (show z ≠ 0 by omega)
    obtain ⟨D', d1, d2, d3⟩ := ih (i + 1) z (wr D 91 i (D 106 i)) (by omega) (by omega) (by rw [wr_ne (by decide)]; exact h11)
    refine ⟨D', ?_, fun a ha => by rw [d2 a ha, wr_ne ha], fun b => ?_⟩
    · rw [fM_draws_b63, h11, if_neg (by rw [n_le (by omega) (by omega)]; omega), if_pos (ib_nI (by omega) (by omega)), if_pos (ib_nI (by omega) (by omega)), ix_nI (by omega), nI_1]
      exact d1
    · rw [d3 b, wr_ne (show 106 ≠ 91 by decide)]
      by_cases hb : b = i
      · subst hb
        rw [if_neg (by omega), wr_same, if_pos (by omega)]
      · rw [wr_at hb]
        by_cases h2 : i + 1 ≤ b ∧ b < n
        · rw [if_pos h2, if_pos (by omega)]
        · rw [if_neg h2, if_neg (by omega)]
theorem fM_draws_b4_eq {V M0 : Mem} {tl : Tell} {s : Int32} (mo : MO0 V 4 tl M0) : ∀ (c i z : Nat) (D : Mem), i + c = vN V → c < z → (∀ a, a ≠ 91 → a ≠ 106 → D a = M0 a) → (∀ b, D 91 b = if b < i then mnt (zat (b + 1) s) else M0 91 b) → (∀ b, b < i → D 106 b = M0 91 b) → ∃ D', fM_draws_b4 z (zat i s) (nI i) D = some (dearS (drw V (vN V) s) tl, D') ∧ KeepE M0 D' ∧ DM (drw V (vN V) s) 4 (dayS (drw V (vN V) s) tl 100) D' ∧ ∀ j, vM V ≤ j → j < 4 → D' 102 j = 0 := by
  have vo := mo.1
  have n8 := vo.2.1.2.1
  have h11 := mo.2.1.2.2.1
  intro c
  induction c with
  | zero =>
    intro i z D hi hz k1 k2 k3
    obtain ⟨z, rfl⟩ := Nat.exists_eq_succ_of_ne_zero (show z ≠ 0 by omega)
    have hin : i = vN V := by omega
    subst hin
    have d11 : D 85 11 = nI (vN V) := by rw [k1 85 (by decide) (by decide)]; exact h11
    have mo2 : MO0 (drw V (vN V) s) 4 tl D := by
      refine ⟨drw_vo vo, ?_, by rw [k1 85 (by decide) (by decide), k1 86 (by decide) (by decide), k1 87 (by decide) (by decide)]; exact mo.2.2⟩
      have mv := mo.2.1
      unfold MV cntM vS vN vM vL at mv ⊢
      rw [drw_ne (show 0 ≠ 2 by decide), drw_ne (show 1 ≠ 2 by decide), drw_ne (show 3 ≠ 2 by decide), drw_ne (show 4 ≠ 2 by decide), drw_ne (show 5 ≠ 2 by decide), drw_ne (show 6 ≠ 2 by decide), drw_ne (show 7 ≠ 2 by decide), k1 85 (by decide) (by decide), k1 89 (by decide) (by decide), k1 90 (by decide) (by decide), k1 92 (by decide) (by decide), k1 93 (by decide) (by decide), k1 94 (by decide) (by decide), k1 95 (by decide) (by decide), k1 96 (by decide) (by decide)]
      obtain ⟨m1, m2, m3, m4, m5, m6, m7, m8⟩ := mv
      refine ⟨m1, m2, m3, m4, m5, fun j hj => ⟨(m6 j hj).1, ?_⟩, m7, fun k hk => ⟨(m8 k hk).1, fun p hp => by rw [drw_ne (show 8 + k ≠ 2 by omega)]; exact (m8 k hk).2 p hp⟩⟩
      rw [k2 j]
      unfold drw
      rw [if_pos hj, if_pos ⟨rfl, hj⟩]
    obtain ⟨E, e1, e2, e3⟩ := fM_dear_eq mo2
    obtain ⟨E', z1, z2⟩ := fM_livesAll_z (show 100 ≤ 100 by omega) mo2
    have zE : ∀ j, vM V ≤ j → j < 4 → E 102 j = 0 := by
      have e1' := e1
      unfold fM_dear at e1'
      rw [show fM_livesAll 100 D = fM_livesAll (nI 100) D from rfl, z1] at e1'
      simp only [Option.bind_some, fM_leftAll_eq] at e1'
      have : E' = E := by
        have := congrArg (Option.map (fun q : Int32 × Mem => q.2)) e1'
        simpa using this
      intro j h1 h2
      rw [← this]
      exact z2 j (by unfold cntM; rw [if_neg (by omega), drw_vn.2]; exact h1) h2
    obtain ⟨D', d1, d2, d3⟩ := fM_draws_b63_eq n8 (dearS (drw V (vN V) s) tl) (vN V) 0 1000 E (by omega) (by omega) (by rw [e2.2 11 (by omega)]; exact d11)
    refine ⟨D', ?_, ⟨fun a a1 a2 a3 => ?_, fun j hj => ?_⟩, ?_, fun j h1 h2 => ?_⟩
    · rw [fM_draws_b4, d11, if_pos (by rw [n_le (by omega) (by omega)]; omega), e1]
      simp only [Option.bind_some]
      exact d1
    · by_cases h91 : a = 91
      · subst h91
        funext b
        rw [d3 b, e2.1 106 (by decide) (by decide), e2.1 91 (by decide) (by decide)]
        by_cases hb : 0 ≤ b ∧ b < vN V
        · rw [if_pos hb, k3 b hb.2]
        · rw [if_neg hb, k2 b, if_neg (by omega)]
      · rw [d2 a h91, e2.1 a a1 a3, k1 a h91 a2]
    · rw [d2 85 (by decide), e2.2 j hj, k1 85 (by decide) (by decide)]
    · unfold DM at e3 ⊢
      rw [d2 98 (by decide), d2 99 (by decide), d2 100 (by decide), d2 101 (by decide), d2 102 (by decide), d2 103 (by decide), d2 104 (by decide), d2 85 (by decide)]
      exact e3
    · rw [d2 102 (by decide)]; exact zE j h1 h2
  | succ c ih =>
    intro i z D hi hz k1 k2 k3
    obtain ⟨z, rfl⟩ := Nat.exists_eq_succ_of_ne_zero (show z ≠ 0 by omega)
    have d11 : D 85 11 = nI (vN V) := by rw [k1 85 (by decide) (by decide)]; exact h11
    have g8 : ib (nI i) 8 := ib_nI (by omega) (by omega)
    rw [fM_draws_b4, d11, if_neg (by rw [n_le (by omega) (by omega)]; omega), if_pos g8, if_pos g8, if_pos g8, ix_nI (by omega), nI_1]
    refine ih (i + 1) z _ (by omega) (by omega) (fun a a1 a2 => by rw [wr_ne a1, wr_ne a2, k1 a a1 a2]) (fun b => ?_) (fun b hb => ?_)
    · by_cases hbi : b = i
      · subst hbi
        rw [wr_same, if_pos (by omega)]
        rfl
      · rw [wr_at hbi, wr_ne (show 91 ≠ 106 by decide), k2 b]
        by_cases h : b < i
        · rw [if_pos h, if_pos (by omega)]
        · rw [if_neg h, if_neg (by omega)]
    · rw [wr_ne (show 106 ≠ 91 by decide)]
      by_cases hbi : b = i
      · subst hbi
        rw [wr_same, k2 b, if_neg (by omega)]
      · rw [wr_at hbi]; exact k3 b (by omega)
theorem fM_draws_eq {V M0 : Mem} {tl : Tell} (s : Int32) (mo : MO0 V 4 tl M0) : ∃ D', fM_draws s M0 = some (dearS (drw V (vN V) s) tl, D') ∧ KeepE M0 D' ∧ DM (drw V (vN V) s) 4 (dayS (drw V (vN V) s) tl 100) D' ∧ ∀ j, vM V ≤ j → j < 4 → D' 102 j = 0 :=
  fM_draws_b4_eq mo (vN V) 0 1000 M0 (by omega) (by have := mo.1.2.1.2.1; omega) (fun _ _ _ => rfl) (fun b => by rw [if_neg (by omega)]) (fun b hb => absurd hb (by omega))
theorem op_drawn (s : Int32) : Op (fN_drawn s) (fM_drawn s) := by
  intro M hR
  obtain ⟨tl, C0, e1, wd, mo, vo, -, -⟩ := hR.would
  obtain ⟨C1, e2, w1⟩ := fH_draw_eq s vo wd
  obtain ⟨C2, e3, e4, w2, -⟩ := w1.dear
  obtain ⟨D, d1, d2, -, -⟩ := fM_draws_eq s (mo.cl w2.same)
  unfold fN_drawn fM_drawn
  rw [e1]
  simp only [Option.bind_some]
  rw [e2]
  simp only [Option.bind_some]
  rw [e3]
  simp only [Option.bind_some]
  rw [e4]
  refine ⟨_, C2, D, rfl, ?_, (hR.same w2.same w2.lw).same d2.s (d2.lw w2.lw)⟩
  rw [d1]
  rfl
