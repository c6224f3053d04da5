/-! 15: the class's day is the morning as it is said in 14 -/
/-- a text of the class means tl -/
def VCl (g : Nat) (tl : Tell) (C E : Nat → Int32) : Prop := ∀ (N : Mem) (p : Nat), N (g + 1) = C → N (g + 2) = E → p < 3 → ∃ N', fG_value g (nI p) N = some (tl p (N 48 0) (N 48 1) (N 48 2) (N 48 3) (N 48 4) (N 48 5), N') ∧ ∀ a, a ≠ 49 → N' a = N a
/-- M holds the house of base h as the day's, seen as V, its rule means tl, its ways are laid -/
def CV (h : Nat) (V : Mem) (tl : Tell) (M : Mem) : Prop := hOK h ∧ M 45 0 = nI h ∧ V = viewC h M ∧ VOK V ∧ ib (M h 3) 6 ∧ VCl (59 + 3 * ix (M h 3)) tl (M (60 + 3 * ix (M h 3))) (M (61 + 3 * ix (M h 3))) ∧ ∀ i, i < 64 → M 47 i = nxt (vS V) (i / 8) (i % 8)
def KeepC (M N : Mem) : Prop := (∀ a, a ≠ 45 → (a < 48 ∨ 56 < a) → N a = M a) ∧ N 45 0 = M 45 0
theorem viewC_keep {h : Nat} {M N : Mem} (hh : hOK h) (hm : ix (M h 2) ≤ 4) (k : ∀ a, a < 45 → N a = M a) : viewC h N = viewC h M := by
  have hl : h < 28 := by unfold hOK at hh; omega
  have e0 : N h = M h := k h (by omega)
  have e1 : N (h + 1) = M (h + 1) := k _ (by omega)
  have e2 : N (h + 2) = M (h + 2) := k _ (by omega)
  have e3 : N (h + 3) = M (h + 3) := k _ (by omega)
  have e5 : ∀ b, b < ix (M h 2) → N (h + 5 + 2 * b) = M (h + 5 + 2 * b) := fun b hb => k _ (by omega)
  have e6 : ∀ b, b < ix (M h 2) → N (h + 6 + 2 * b) = M (h + 6 + 2 * b) := fun b hb => k _ (by omega)
  funext a b
  unfold viewC
  simp only [e0, e1, e2, e3]
  split
  · rfl
  · split
    · rfl
    · split
      · rfl
      · split
        · rfl
        · split
          · split
            · rename_i hb; rw [e5 b hb]
            · rfl
          · by_cases hc : a - 8 < ix (M h 2)
            · rw [e5 _ hc, e6 _ hc]
            · rw [if_neg (fun z => hc z.1), if_neg (fun z => hc z.1)]
theorem CV.keep {h : Nat} {V : Mem} {tl : Tell} {M N : Mem} (c : CV h V tl M) (k : KeepC M N) : CV h V tl N := by
  obtain ⟨c1, c2, c3, c4, c5, c6, c7⟩ := c
  have hl : h < 28 := by unfold hOK at c1; omega
  have hm : ix (M h 2) ≤ 4 := by
    have := c4.2.2.1.2
    rw [c3] at this
    exact this
  have e0 : N h = M h := k.1 h (hN45 c1) (by omega)
  refine ⟨c1, k.2.trans c2, c3.trans (viewC_keep c1 hm (fun a h2 => k.1 a (by omega) (Or.inl (by omega)))).symm, c4, by rw [e0]; exact c5, ?_, fun i hi => by rw [k.1 47 (by decide) (by decide)]; exact c7 i hi⟩
  rw [e0, k.1 _ (by omega) (by omega), k.1 _ (by omega) (by omega)]
  exact c6
theorem KeepC.trans {M N O : Mem} (a : KeepC M N) (b : KeepC N O) : KeepC M O := ⟨fun x h1 h2 => (b.1 x h1 h2).trans (a.1 x h1 h2), b.2.trans a.2⟩
theorem KeepC.rfl' {M : Mem} : KeepC M M := ⟨fun _ _ _ => rfl, rfl⟩
theorem KeepC.put {M : Mem} {k j : Nat} {v : Int32} (h : (48 ≤ k ∧ k ≤ 56) ∨ (k = 45 ∧ j ≠ 0)) : KeepC M (wr M k j v) := by
  refine ⟨fun a h1 h2 => wr_ne (by omega), ?_⟩
  unfold wr
  rw [if_neg (by omega)]
/-- what V says, read off M -/
theorem CV.f {h : Nat} {V : Mem} {tl : Tell} {M : Mem} (c : CV h V tl M) : ix (M 45 0) = h ∧ hOK (ix (M 45 0)) ∧ M h 0 = V 0 0 ∧ M h 1 = nI (vN V) ∧ M h 2 = nI (vM V) ∧ (∀ i, i < vN V → M (h + 1) i = V 1 i ∧ M (h + 2) i = V 2 i) ∧ (∀ r, r < 8 → M (h + 3) r = V 3 r) ∧ ∀ k, k < vM V → (M (h + 5 + 2 * k) 0 = V 4 k ∧ M (h + 5 + 2 * k) 1 = V 5 k ∧ M (h + 5 + 2 * k) 2 = V 6 k ∧ M (h + 5 + 2 * k) 3 = V 7 k) ∧ ∀ i, i < vL V k → M (h + 6 + 2 * k) i = V (8 + k) i := by
  obtain ⟨c1, c2, c3, c4, -⟩ := c
  have hi : ix (M 45 0) = h := by rw [c2]; exact ix_nI (by unfold hOK at c1; omega)
  have a0 : V 0 0 = M h 0 := by rw [c3]; rfl
  have a1 : V 0 1 = M h 1 := by rw [c3]; rfl
  have a2 : V 0 2 = M h 2 := by rw [c3]; rfl
  have b1 := c4.2.1.1
  have b2 := c4.2.2.1.1
  have f4 : ∀ k, k < vM V → (M (h + 5 + 2 * k) 0 = V 4 k ∧ M (h + 5 + 2 * k) 1 = V 5 k ∧ M (h + 5 + 2 * k) 2 = V 6 k ∧ M (h + 5 + 2 * k) 3 = V 7 k) := by
    intro k hk
    have hk' : k < ix (M h 2) := by rw [← a2]; exact hk
    have z0 : viewC h M 4 k = if k < ix (M h 2) then M (h + 5 + 2 * k) 0 else 0 := rfl
    have z1 : viewC h M 5 k = if k < ix (M h 2) then M (h + 5 + 2 * k) 1 else 0 := rfl
    have z2 : viewC h M 6 k = if k < ix (M h 2) then M (h + 5 + 2 * k) 2 else 0 := rfl
    have z3 : viewC h M 7 k = if k < ix (M h 2) then M (h + 5 + 2 * k) 3 else 0 := rfl
    rw [if_pos hk'] at z0 z1 z2 z3
    rw [← c3] at z0 z1 z2 z3
    exact ⟨z0.symm, z1.symm, z2.symm, z3.symm⟩
  refine ⟨hi, hi ▸ c1, a0.symm, a1.symm.trans b1, a2.symm.trans b2, fun i hi2 => ?_, fun r hr => ?_, fun k hk => ⟨f4 k hk, fun i hi2 => ?_⟩⟩
  · have hi' : i < ix (M h 1) := by rw [← a1]; exact hi2
    have z0 : viewC h M 1 i = if i < ix (M h 1) then M (h + 1) i else 0 := rfl
    have z1 : viewC h M 2 i = if i < ix (M h 1) then M (h + 2) i else 0 := rfl
    rw [if_pos hi', ← c3] at z0 z1
    exact ⟨z0.symm, z1.symm⟩
  · have z0 : viewC h M 3 r = if r < 8 then M (h + 3) r else 0 := rfl
    rw [if_pos hr, ← c3] at z0
    exact z0.symm
  · have hk' : k < ix (M h 2) := by rw [← a2]; exact hk
    have hi' : i < ix (M (h + 5 + 2 * k) 3) := by rw [(f4 k hk).2.2.2]; exact hi2
    have k4 := c4.2.2.1.2
    rw [c3]
    unfold viewC
    simp only [show ¬ 8 + k = 0 by omega, show ¬ 8 + k = 1 by omega, show ¬ 8 + k = 2 by omega, show ¬ 8 + k = 3 by omega, show ¬ 8 + k < 8 by omega, if_false, show 8 + k - 8 = k by omega]
    rw [if_pos ⟨hk', hi'⟩]
theorem fD_othersWith_eq {h : Nat} {V : Mem} {tl : Tell} {M : Mem} (c : CV h V tl M) {k : Nat} (hk : k < vM V) : ∀ (cn i : Nat) (acc : Int32) (z : Nat), i + cn = vM V → cn < z → fD_othersWith_b4 (nI k) z acc (nI i) M = some (othF M k cn i acc, M) := by
  have F := c.f
  have m4 := c.2.2.2.1.2.2.1.2
  intro cn
  induction cn with
  | zero =>
    intro i acc z hi hz
    obtain ⟨z, rfl⟩ := Nat.exists_eq_succ_of_ne_zero (show z ≠ 0 by omega)
    rw [fD_othersWith_b4, if_pos F.2.1, F.1, F.2.2.2.2.1, if_pos (by rw [n_le (by omega) (by omega)]; omega)]
    rfl
  | succ cn ih =>
    intro i acc z hi hz
    obtain ⟨z, rfl⟩ := Nat.exists_eq_succ_of_ne_zero (show z ≠ 0 by omega)
    have gi : ib (nI i) 4 := ib_nI (by omega) (by omega)
    have gk : ib (nI k) 4 := ib_nI (by omega) (by omega)
    have ei : ix (nI i) = i := ix_nI (by omega)
    have ek : ix (nI k) = k := ix_nI (by omega)
    rw [fD_othersWith_b4, if_pos F.2.1, F.1, F.2.2.2.2.1, if_neg (by rw [n_le (by omega) (by omega)]; omega)]
    simp only [if_pos gi, if_pos gk, ei, ek, fD_othersWith_b47, nI_1]
    rw [othF]
    by_cases h1 : i = k
    · rw [if_pos ((n_eq (by omega) (by omega)).mpr h1), if_neg (fun z => z.1 h1)]
      exact ih (i + 1) acc z (by omega) (by omega)
    · rw [if_neg (fun z => h1 ((n_eq (by omega) (by omega)).mp z))]
      by_cases h2 : M 52 i = 0
      · rw [if_pos h2]
        by_cases h3 : M 50 i = M 50 k
        · rw [if_pos h3, if_pos ⟨h1, h2, h3⟩]
          exact ih (i + 1) _ z (by omega) (by omega)
        · rw [if_neg h3, if_neg (fun z => h3 z.2.2)]
          exact ih (i + 1) _ z (by omega) (by omega)
      · rw [if_neg h2, if_neg (fun z => h2 z.2.1)]
        exact ih (i + 1) _ z (by omega) (by omega)
theorem othF_congr {D N : Mem} {k : Nat} (h50 : N 50 = D 50) (h52 : N 52 = D 52) : ∀ (c i : Nat) (acc : Int32), othF N k c i acc = othF D k c i acc
  | 0, _, _ => rfl
  | c + 1, i, acc => by rw [othF, othF, h50, h52]; exact othF_congr h50 h52 c (i + 1) _
theorem fD_tells_eq {h : Nat} {V : Mem} {tl : Tell} {M : Mem} (c : CV h V tl M) (dk : DOK V M) {k p : Nat} (hk : k < vM V) (hp : p < 3) (t b : Int32) : ∃ M', fD_tells (nI p) (nI k) t b M = some (telS tl V M p k t b, M') ∧ ∀ a, a ≠ 48 → a ≠ 49 → M' a = M a := by
  have F := c.f
  have m4 := c.2.2.2.1.2.2.1.2
  have gk : ib (nI k) 4 := ib_nI (by omega) (by omega)
  have ek : ix (nI k) = k := ix_nI (by omega)
  have g8 := (dk k hk).1
  have i0 : ix (0 : Int32) = 0 := rfl
  have i1 : ix (1 : Int32) = 1 := rfl
  have i2 : ix (2 : Int32) = 2 := rfl
  have i3 : ix (3 : Int32) = 3 := rfl
  have i4 : ix (4 : Int32) = 4 := rfl
  have i5 : ix (5 : Int32) = 5 := rfl
  have hl : h < 28 := by have := c.1; unfold hOK at this; omega
  unfold fD_tells
  simp only [if_pos (show ib 0 6 by decide), if_pos (show ib 1 6 by decide), if_pos (show ib 2 6 by decide), if_pos (show ib 3 6 by decide), if_pos (show ib 4 6 by decide), if_pos (show ib 5 6 by decide), if_pos gk, ek, i0, i1, i2, i3, i4, i5]
  have r1 : ∀ (N : Mem) (j a : Nat) (v : Int32), a ≠ 48 → wr N 48 j v a = N a := fun N j a v ha => wr_ne ha
  simp only [r1 _ _ 50 _ (by decide), r1 _ _ 56 _ (by decide), r1 _ _ 45 _ (by decide), F.1, r1 _ _ (h + 5 + 2 * k) _ (by omega), (F.2.2.2.2.2.2.2 k hk).1.2.1]
  rw [if_pos g8, if_pos (F.1 ▸ F.2.1)]
  generalize hN : wr (wr (wr (wr (wr M 48 0 t) 48 1 (M 50 k)) 48 2 (M 56 (ix (M 50 k)))) 48 3 (V 5 k)) 48 4 b = N
  have n0 : N 48 0 = t := by rw [← hN]; simp [wr]
  have n1 : N 48 1 = M 50 k := by rw [← hN]; simp [wr]
  have n2 : N 48 2 = M 56 (ix (M 50 k)) := by rw [← hN]; simp [wr]
  have n3 : N 48 3 = V 5 k := by rw [← hN]; simp [wr]
  have n4 : N 48 4 = b := by rw [← hN]; simp [wr]
  have nr : ∀ a, a ≠ 48 → N a = M a := fun a ha => by rw [← hN, wr_ne ha, wr_ne ha, wr_ne ha, wr_ne ha, wr_ne ha]
  have cN : CV h V tl N := c.keep ⟨fun a h1 h2 => nr a (by omega), by rw [nr 45 (by decide)]⟩
  have eo : fD_othersWith (nI k) N = some (othS V M k, N) := by
    unfold fD_othersWith
    have := fD_othersWith_eq cN hk (vM V) 0 0 1000 (by omega) (by omega)
    rw [show (0 : Int32) = nI 0 from rfl] at this ⊢
    rw [this, othF_congr (nr 50 (by decide)) (nr 52 (by decide))]
    rfl
  rw [eo]
  simp only [Option.bind_some, r1 _ _ 45 _ (by decide), nr 45 (by decide), F.1, r1 _ _ h _ (by omega), nr h (by omega)]
  rw [if_pos (F.1 ▸ F.2.1), if_pos c.2.2.2.2.1]
  have hr6 := ix_lt c.2.2.2.2.1
  generalize hO : wr N 48 5 (othS V M k) = O
  have o5 : O 48 5 = othS V M k := by rw [← hO]; exact wr_same
  have oj : ∀ j, j ≠ 5 → O 48 j = N 48 j := fun j hj => by rw [← hO]; exact wr_at hj
  have orr : ∀ a, a ≠ 48 → O a = M a := fun a ha => by rw [← hO, wr_ne ha]; exact nr a ha
  obtain ⟨N', e', k'⟩ := c.2.2.2.2.2.1 O p (by rw [show 59 + 3 * ix (M h 3) + 1 = 60 + 3 * ix (M h 3) by omega]; exact orr _ (by omega)) (by rw [show 59 + 3 * ix (M h 3) + 2 = 61 + 3 * ix (M h 3) by omega]; exact orr _ (by omega)) hp
  rw [oj 0 (by decide), oj 1 (by decide), oj 2 (by decide), oj 3 (by decide), oj 4 (by decide), o5, n0, n1, n2, n3, n4] at e'
  rw [e']
  refine ⟨N', ?_, fun a h1 h2 => by rw [k' a h2, orr a h1]⟩
  simp only [Option.bind_some]
  unfold telS clS
  by_cases hp2 : p = 2
  · rw [if_pos (by rw [hp2]; rfl), if_pos hp2]
  · rw [if_neg (by rw [show (2 : Int32) = nI 2 from rfl, n_eq (by omega) (by omega)]; exact hp2), if_neg hp2]
