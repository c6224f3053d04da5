/-! 54: in n seeds; which maid to leave at home -/
def anyF (S : Mem) : Nat → Nat → Bool
  | 0, _ => false
  | c + 1, i => decide (0 < (S 54 i).toInt) || anyF S c (i + 1)
theorem anySeen_eq {h : Nat} {V S C : Mem} {tl : Tell} (cv : CV h V tl C) (e : DEq V S C) : fD_isAnySeen C = some (bz (anyF S (vM V) 0 = true), C) := by
  have F := cv.f
  have m4 := cv.2.2.2.1.2.2.1.2
  have t0 : (0 : Int32).toInt = 0 := rfl
  have loop : ∀ (c i z : Nat), i + c = vM V → c < z → fD_isAnySeen_b2 z (nI i) C = some (bz (anyF S c i = true), C) := by
    intro c
    induction c with
    | zero =>
      intro i z hi hz
      obtain ⟨z, rfl⟩ := Nat.exists_eq_succ_of_ne_zero (show z ≠ 0 by omega)
      rw [fD_isAnySeen_b2, if_pos F.2.1, F.1, F.2.2.2.2.1, if_pos (by rw [n_le (by omega) (by omega)]; omega)]
      rfl
    | succ c ih =>
      intro i z hi hz
      obtain ⟨z, rfl⟩ := Nat.exists_eq_succ_of_ne_zero (show z ≠ 0 by omega)
      rw [fD_isAnySeen_b2, if_pos F.2.1, F.1, F.2.2.2.2.1, if_neg (by rw [n_le (by omega) (by omega)]; omega), if_pos (ib_nI (by omega) (by omega)), ix_nI (by omega), nI_1, ih (i + 1) z (by omega) (by omega), ← (e.1 i (by omega)).2.2.2.2.1, anyF]
      by_cases h : (S 54 i).toInt ≤ 0
      · rw [if_pos (show S 54 i ≤ 0 by rw [i_le, t0]; exact h), decide_eq_false (show ¬ 0 < (S 54 i).toInt by omega), Bool.false_or]
      · rw [if_neg (show ¬ S 54 i ≤ 0 by rw [i_le, t0]; exact h), decide_eq_true (show 0 < (S 54 i).toInt by omega), Bool.true_or]
        rfl
  exact loop (vM V) 0 1000 (by omega) (by omega)
theorem seen_sum {S D : Mem} {m : Nat} (hm : m ≤ 4) (h1 : ∀ k, k < m → D 102 k = S 54 k) (h2 : ∀ k, m ≤ k → k < 4 → D 102 k = 0) (h3 : ∀ k, k < m → 0 ≤ (S 54 k).toInt ∧ (S 54 k).toInt ≤ 100) : (D 102 0 + D 102 1 + D 102 2 + D 102 3 = 0) ↔ anyF S m 0 = false := by
  have t0 : (0 : Int32).toInt = 0 := rfl
  have b : ∀ k, k < 4 → 0 ≤ (D 102 k).toInt ∧ (D 102 k).toInt ≤ 100 ∧ (k < m → (D 102 k).toInt = (S 54 k).toInt) ∧ (m ≤ k → (D 102 k).toInt = 0) := by
    intro k hk
    by_cases hkm : k < m
    · rw [h1 k hkm]
      exact ⟨(h3 k hkm).1, (h3 k hkm).2, fun _ => rfl, fun z => by omega⟩
    · rw [h2 k (by omega) hk, t0]
      exact ⟨by omega, by omega, fun z => by omega, fun _ => rfl⟩
  have b0 := b 0 (by omega)
  have b1 := b 1 (by omega)
  have b2 := b 2 (by omega)
  have b3 := b 3 (by omega)
  have s1 : (D 102 0 + D 102 1).toInt = (D 102 0).toInt + (D 102 1).toInt := t_add (by omega) (by omega)
  have s2 : (D 102 0 + D 102 1 + D 102 2).toInt = (D 102 0).toInt + (D 102 1).toInt + (D 102 2).toInt := by rw [t_add (by omega) (by omega), s1]
  have s3 : (D 102 0 + D 102 1 + D 102 2 + D 102 3).toInt = (D 102 0).toInt + (D 102 1).toInt + (D 102 2).toInt + (D 102 3).toInt := by rw [t_add (by omega) (by omega), s2]
  rw [i_eq, s3, t0]
  have key : ∀ (c i : Nat), anyF S c i = false ↔ ∀ k, i ≤ k → k < i + c → (S 54 k).toInt ≤ 0 := by
    intro c
    induction c with
    | zero => intro i; exact ⟨fun _ k h1 h2 => by omega, fun _ => rfl⟩
    | succ c ih =>
      intro i
      rw [anyF, Bool.or_eq_false_iff, decide_eq_false_iff_not, ih (i + 1)]
      constructor
      · rintro ⟨p, q⟩ k k1 k2
        by_cases hk : k = i
        · subst hk; omega
        · exact q k (by omega) (by omega)
      · intro q
        exact ⟨by have := q i (by omega) (by omega); omega, fun k k1 k2 => q k (by omega) (by omega)⟩
  rw [key]
  constructor
  · intro z k k1 k2
    rcases (by omega : k = 0 ∨ k = 1 ∨ k = 2 ∨ k = 3) with rfl | rfl | rfl | rfl <;> omega
  · intro z
    have y : ∀ k, k < 4 → (D 102 k).toInt = 0 := by
      intro k hk
      have bk := b k hk
      by_cases hkm : k < m
      · have := z k (by omega) (by omega); omega
      · omega
    have := y 0 (by omega)
    have := y 1 (by omega)
    have := y 2 (by omega)
    have := y 3 (by omega)
    omega
/-- how many of the seeds -/
def cntF (f : Nat → Bool) : Nat → Nat → Nat → Nat
  | 0, _, u => u
  | c + 1, k, u => cntF f c (k + 1) (if f k = true then u else u + 1)
theorem cntF_le {f : Nat → Bool} : ∀ (c k u : Nat), cntF f c k u ≤ u + c
  | 0, _, _ => Nat.le_refl _
  | c + 1, k, u => by
    rw [cntF]
    by_cases h : f k = true
    · rw [if_pos h]
      have := cntF_le (f := f) c (k + 1) u
      omega
    · rw [if_neg h]
      have := cntF_le (f := f) c (k + 1) (u + 1)
      omega
theorem low_z (a b p : Int32) (M : Mem) : ∀ (z : Nat) (d : Int32), fN_inLowestTerms_b2 a b p z d M = (fN_inLowestTerms_b2 a b p z d zM).map (fun q => (q.1, M)) := by
  intro z
  induction z with
  | zero => intro d; rfl
  | succ z ih =>
    intro d
    rw [fN_inLowestTerms_b2, fN_inLowestTerms_b2]
    unfold fN_inLowestTerms_b28 fN_inLowestTerms_b31
    rw [ih (d + -1)]
    repeat' split
    all_goals first | rfl | simp_all
theorem gcd_z (a p : Int32) (u : Int64) (M : Mem) : ∀ (z : Nat) (x y : Int64), fM_chance_b101 a p u z x y M = (fM_chance_b101 a p u z x y zM).map (fun q => (q.1, M)) := by
  intro z
  induction z with
  | zero => intro x y; rfl
  | succ z ih =>
    intro x y
    rw [fM_chance_b101, fM_chance_b101]
    rw [ih]
    repeat' split
    all_goals first | rfl | simp_all
def tchk (n u p : Nat) : Bool := decide ((fN_inLowestTerms_b2 (nI u) (nI n) (nI p) 1000 (nI n) zM).map (fun q => q.1.toInt64) = (fM_chance_b101 (nI n) (nI p) (Int64.ofNat u) 1000 (Int64.ofNat u) ((nI n).toInt64) zM).map (fun q => q.1)) && (fN_inLowestTerms_b2 (nI u) (nI n) (nI p) 1000 (nI n) zM).isSome
theorem terms_all : (List.range 21).all (fun n => n == 0 || (List.range (n + 1)).all (fun u => tchk n u 0 && tchk n u 1)) = true := by decide +kernel
theorem terms_ok {n u p : Nat} (hn : n < 21) (hn1 : 1 ≤ n) (hu : u ≤ n) (hp : p < 2) : ((fN_inLowestTerms_b2 (nI u) (nI n) (nI p) 1000 (nI n) zM).map (fun q => q.1.toInt64) = (fM_chance_b101 (nI n) (nI p) (Int64.ofNat u) 1000 (Int64.ofNat u) ((nI n).toInt64) zM).map (fun q => q.1)) ∧ (fN_inLowestTerms_b2 (nI u) (nI n) (nI p) 1000 (nI n) zM).isSome = true := by
  have h := List.all_eq_true.mp terms_all n (List.mem_range.mpr hn)
  rw [Bool.or_eq_true] at h
  have h2 := h.resolve_left (by simp; omega)
  have h3 := List.all_eq_true.mp h2 u (List.mem_range.mpr (by omega))
  rw [Bool.and_eq_true] at h3
  have h4 : tchk n u p = true := by
    rcases (by omega : p = 0 ∨ p = 1) with rfl | rfl
    · exact h3.1
    · exact h3.2
  unfold tchk at h4
  rw [Bool.and_eq_true, decide_eq_true_eq] at h4
  exact h4
theorem terms_eq {n u p : Nat} (hn : n < 21) (hn1 : 1 ≤ n) (hu : u ≤ n) (hp : p < 2) (M N : Mem) : ∃ v, (fN_inLowestTerms (nI u) (nI n) (nI p) M).bind (fun w3 => some ((w3.1.toInt64), w3.2)) = some (v, M) ∧ fM_chance_b101 (nI n) (nI p) (Int64.ofNat u) 1000 (Int64.ofNat u) ((nI n).toInt64) N = some (v, N) := by
  obtain ⟨t1, t2⟩ := terms_ok hn hn1 hu hp
  unfold fN_inLowestTerms
  rw [low_z, gcd_z]
  cases h : fN_inLowestTerms_b2 (nI u) (nI n) (nI p) 1000 (nI n) zM with
  | none => rw [h] at t2; cases t2
  | some q =>
    rw [h] at t1
    cases h2 : fM_chance_b101 (nI n) (nI p) (Int64.ofNat u) 1000 (Int64.ofNat u) ((nI n).toInt64) zM with
    | none => rw [h2] at t1; cases t1
    | some r =>
      rw [h2] at t1
      simp only [Option.map_some, Option.some.injEq] at t1
      exact ⟨q.1.toInt64, rfl, by rw [t1]; rfl⟩
def uns (V : Mem) (tl : Tell) (s : Int32) (k : Nat) : Bool := anyF (dayS (drw V (vN V) (s + nI k)) tl 100) (vM V) 0
theorem fN_chance_b40_eq {V M : Mem} {tl : Tell} {n p : Nat} {s : Int32} (vo : VOK V) (hn : n < 21) : ∀ (c k z u : Nat) (W C : Mem), k + c = n → c < z → u ≤ k → VOK W → (∀ y, drw W (vN W) y = drw V (vN V) y) → Wd27 W tl M C → ∃ C', fN_chance_b40 s (nI n) (nI p) z (nI u) (nI k) C = (fN_inLowestTerms (nI (cntF (uns V tl s) c k u)) (nI n) (nI p) C').bind (fun w3 => some ((w3.1.toInt64), w3.2)) ∧ Same M C' ∧ LW C' := by
  intro c
  induction c with
  | zero =>
    intro k z u W C hk hz hu wo dw wd
    obtain ⟨z, rfl⟩ := Nat.exists_eq_succ_of_ne_zero (show z ≠ 0 by omega)
    refine ⟨C, ?_, wd.same, wd.lw⟩
    rw [fN_chance_b40, if_pos (by rw [n_le (by omega) (by omega)]; omega), cntF]
  | succ c ih =>
    intro k z u W C hk hz hu wo dw wd
    obtain ⟨z, rfl⟩ := Nat.exists_eq_succ_of_ne_zero (show z ≠ 0 by omega)
    obtain ⟨C1, e1, w1⟩ := fH_draw_eq (s + nI k) wo wd
    rw [dw] at w1
    obtain ⟨C2, e2, cv, hv2, kd, dk, dq⟩ := fD_run_eq (show 100 ≤ 100 by omega) w1.1
    have w2 : Wd27 (drw V (vN V) (s + nI k)) tl M C2 := ⟨hv2, fun a h1 h2 => (kd a (by omega)).trans (w1.2 a h1 h2)⟩
    have e3 := anySeen_eq cv dq
    rw [drw_vn.2] at e3
    rw [fN_chance_b40, if_neg (by rw [n_le (by omega) (by omega)]; omega), e1]
    simp only [Option.bind_some]
    rw [show fD_run 27 100 C1 = some C2 from e2]
    simp only [Option.bind_some]
    rw [e3]
    simp only [Option.bind_some, bz_0]
    unfold fN_chance_b83
    rw [nI_1, nI_1, cntF]
    have dw2 : ∀ y, drw (drw V (vN V) (s + nI k)) (vN (drw V (vN V) (s + nI k))) y = drw V (vN V) y := fun y => by rw [drw_vn.1, drw_drw]
    by_cases h : anyF (dayS (drw V (vN V) (s + nI k)) tl 100) (vM V) 0 = true
    · rw [if_neg (nn h), if_pos (show uns V tl s k = true from h)]
      exact ih (k + 1) z u _ C2 (by omega) (by omega) (by omega) (drw_vo vo) dw2 w2
    · rw [if_pos h, if_neg (show ¬ uns V tl s k = true from h)]
      exact ih (k + 1) z (u + 1) _ C2 (by omega) (by omega) (by omega) (drw_vo vo) dw2 w2
theorem fM_chance_b32_eq {V M0 : Mem} {tl : Tell} {n p : Nat} {s : Int32} (hn : n < 21) : ∀ (c k z u : Nat) (D : Mem), k + c = n → c < z → u ≤ k → MO0 V 4 tl D → KeepE M0 D → ∃ D', fM_chance_b32 s (nI n) (nI p) z (Int64.ofNat u) (nI k) D = fM_chance_b101 (nI n) (nI p) (Int64.ofNat (cntF (uns V tl s) c k u)) 1000 (Int64.ofNat (cntF (uns V tl s) c k u)) ((nI n).toInt64) D' ∧ KeepE M0 D' := by
  intro c
  induction c with
  | zero =>
    intro k z u D hk hz hu mo ke
    obtain ⟨z, rfl⟩ := Nat.exists_eq_succ_of_ne_zero (show z ≠ 0 by omega)
    exact ⟨D, by rw [fM_chance_b32, if_pos (by rw [n_le (by omega) (by omega)]; omega), cntF], ke⟩
  | succ c ih =>
    intro k z u D hk hz hu mo ke
    obtain ⟨z, rfl⟩ := Nat.exists_eq_succ_of_ne_zero (show z ≠ 0 by omega)
    obtain ⟨D1, d1, d2, d3, d4⟩ := fM_draws_eq (s + nI k) mo
    have vo := mo.1
    have m4 := vo.2.2.1.2
    have mo1 : MO0 V 4 tl D1 := mo.cl d2.s
    have ke1 : KeepE M0 D1 := ⟨fun a a1 a2 a3 => (d2.1 a a1 a2 a3).trans (ke.1 a a1 a2 a3), fun j hj => (d2.2 j hj).trans (ke.2 j hj)⟩
    have sum := seen_sum (S := dayS (drw V (vN V) (s + nI k)) tl 100) (D := D1) m4 (fun j hj => by
      have := (d3.1 j (by rw [drw_vn.2]; exact hj)).2.2.2.2.1
      rw [this]
      unfold sk
      rw [if_pos (by omega)]) d4 (fun j hj => by
      have := dayF_54 (V := drw V (vN V) (s + nI k)) (tl := tl) (j := j) 100 0 (startS (drw V (vN V) (s + nI k))) (by show 0 ≤ (0 : Int32).toInt; decide) (by show (0 : Int32).toInt + 100 ≤ 1000; decide)
      exact ⟨this.1, by have h := this.2; rw [show startS (drw V (vN V) (s + nI k)) 54 j = 0 from rfl, show (0 : Int32).toInt = 0 from rfl] at h; unfold dayS; omega⟩)
    rw [fM_chance_b32, if_neg (by rw [n_le (by omega) (by omega)]; omega), d1]
    simp only [Option.bind_some]
    rw [if_pos (show ib 0 4 by decide), if_pos (show ib 1 4 by decide), if_pos (show ib 2 4 by decide), if_pos (show ib 3 4 by decide), show ix 0 = 0 from rfl, show ix 1 = 1 from rfl, show ix 2 = 2 from rfl, show ix 3 = 3 from rfl]
    unfold fM_chance_b84
    rw [nI_1, cntF]
    by_cases h : anyF (dayS (drw V (vN V) (s + nI k)) tl 100) (vM V) 0 = true
    · rw [if_neg (fun z => by rw [sum.mp z] at h; cases h), if_pos (show uns V tl s k = true from h), Int64.add_zero]
      exact ih (k + 1) z u D1 (by omega) (by omega) (by omega) mo1 ke1
    · rw [if_pos (sum.mpr (by simpa using h)), if_neg (show ¬ uns V tl s k = true from h), show Int64.ofNat u + 1 = Int64.ofNat (u + 1) from (Int64.ofNat_add u 1).symm]
      exact ih (k + 1) z (u + 1) D1 (by omega) (by omega) (by omega) mo1 ke1
/-- as Op, where a long is answered -/
def OpL (c m : Mem → Option (Int64 × Mem)) : Prop := ∀ M, Rel M → ∃ v M1 M2, c M = some (v, M1) ∧ m M1 = some (v, M2) ∧ Rel M2
theorem op_chance (s a p : Int32) : OpL (fN_chance s a p) (fM_chance s a p) := by
  intro M hR
  have t1 : (1 : Int32).toInt = 1 := rfl
  have t20 : (20 : Int32).toInt = 20 := rfl
  unfold fN_chance fM_chance fN_chance_b19 fM_chance_b22
  simp only [fN_w2, fM_i2, fM_iv a 1 20 1 20 _ rfl rfl, Option.bind_some, bz_0]
  by_cases h1 : 1 ≤ a.toInt ∧ a.toInt ≤ 20
  · rw [if_neg (by rw [i_lt, t1]; omega), if_neg (by rw [i_lt, t20]; omega)]
    by_cases h2 : ib p 2
    · rw [if_neg (nn h2)]
      obtain ⟨tl, C0, e1, wd, mo, vo, -, -⟩ := hR.would
      obtain ⟨n, hn, rfl⟩ : ∃ n, n < 21 ∧ a = nI n := ⟨ix a, by unfold ix; omega, (nI_ix (by omega)).symm⟩
      obtain ⟨q, hq, rfl⟩ := ib_ex h2
      have hn1 : 1 ≤ n := by have := h1.1; rw [nI_t (by omega)] at this; omega
      obtain ⟨C, c1, sC, lC⟩ := fN_chance_b40_eq (V := viewC 1 M) (p := q) (s := s) vo hn n 0 1000 0 (viewC 1 M) C0 (by omega) (by omega) (by omega) vo (fun _ => rfl) wd
      obtain ⟨D, d1, kD⟩ := fM_chance_b32_eq (M0 := C) (V := viewC 1 M) (p := q) (s := s) hn n 0 1000 0 C (by omega) (by omega) (by omega) (mo.cl sC) ⟨fun _ _ _ _ => rfl, fun _ _ => rfl⟩
      obtain ⟨v, v1, v2⟩ := terms_eq (n := n) (u := cntF (uns (viewC 1 M) tl s) n 0 0) (p := q) hn hn1 (by have := cntF_le (f := uns (viewC 1 M) tl s) n 0 0; omega) hq C D
      rw [e1]
      simp only [Option.bind_some]
      refine ⟨v, C, D, ?_, ?_, (hR.same sC lC).same kD.s (kD.lw lC)⟩
      · exact c1.trans v1
      · rw [if_neg (nn h1), if_neg (nn h2)]
        exact d1.trans v2
    · exact ⟨_, M, M, by rw [if_pos h2], by rw [if_neg (nn h1), if_pos h2], hR⟩
  · refine ⟨_, M, M, ?_, by rw [if_pos h1], hR⟩
    by_cases h3 : a < 1
    · rw [if_pos h3]
    · rw [if_neg h3, if_pos (by rw [i_lt, t20]; rw [i_lt, t1] at h3; omega)]
