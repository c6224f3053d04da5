/-! 18: how a day begins in the class -/
theorem wr_self (M : Mem) (k j : Nat) : wr M k j (M k j) = M := by
  funext a b
  unfold wr
  split
  · rename_i h; rw [h.1, h.2]
  · rfl
theorem wr_wr (M : Mem) (k j : Nat) (v w : Int32) : wr (wr M k j v) k j w = wr M k j w := by
  funext a b
  unfold wr
  split
  · rfl
  · rfl
/-- x has the bits of the rooms r with P r -/
def Bit (x : Int32) (P : Nat → Prop) : Prop := ∃ n, n < 256 ∧ x = nI n ∧ ∀ r, r < 8 → (((x >>> (nI r &&& 31)) &&& 1 = 0) ↔ ¬ P r)
theorem bit_fin : ∀ n, n < 256 → ∀ q, q < 8 → (nI n ||| (1 <<< (nI q &&& 31))) = nI (n ||| 1 <<< q) ∧ (n ||| 1 <<< q) < 256 ∧ ∀ r, r < 8 → (((nI (n ||| 1 <<< q) >>> (nI r &&& 31)) &&& 1 = 0) ↔ (((nI n >>> (nI r &&& 31)) &&& 1 = 0) ∧ q ≠ r)) := by decide +kernel
theorem Bit.or {x : Int32} {P : Nat → Prop} (h : Bit x P) {q : Nat} (hq : q < 8) : Bit (x ||| (1 <<< (nI q &&& 31))) (fun r => P r ∨ q = r) := by
  obtain ⟨n, h1, rfl, h3⟩ := h
  obtain ⟨f1, f2, f3⟩ := bit_fin n h1 q hq
  refine ⟨n ||| 1 <<< q, f2, f1, fun r hr => ?_⟩
  rw [f1, f3 r hr, h3 r hr, not_or]
theorem Bit.iff {x : Int32} {P Q : Nat → Prop} (h : Bit x P) (e : ∀ r, r < 8 → (P r ↔ Q r)) : Bit x Q := by
  obtain ⟨n, h1, h2, h3⟩ := h
  exact ⟨n, h1, h2, fun r hr => by rw [h3 r hr, e r hr]⟩
theorem Bit.zero : Bit 0 (fun _ => False) := ⟨0, by decide, rfl, by decide +kernel⟩
/-- the rooms on the lists of the first k maids -/
def OnL (V : Mem) (k : Nat) (r : Nat) : Prop := ∃ j, j < k ∧ ∃ i, i < vL V j ∧ ix (V (8 + j) i) = r
theorem fD_start_b116_eq {h : Nat} {V : Mem} {tl : Tell} {N : Mem} (cv : CV h V tl N) {k : Nat} (hk : k < vM V) (k54 : Int32 → Mem → Option Mem) : ∀ (c i z : Nat) (x : Int32), i + c = vL V k → c < z → Bit x (fun r => OnL V k r ∨ ∃ j, j < i ∧ ix (V (8 + k) j) = r) → ∃ x', fD_start_b116 k54 (nI k) (h + 5 + 2 * k) z (nI i) (wr N 45 12 x) = k54 (nI (k + 1)) (wr N 45 12 x') ∧ Bit x' (OnL V (k + 1)) := by
  have F := cv.f
  have vo := cv.2.2.2.1
  have m4 := vo.2.2.1.2
  have K := F.2.2.2.2.2.2.2 k hk
  have VK := vo.2.2.2 k hk
  have l5 := VK.2.2.1.2
  have hl : h < 28 := by have := cv.1; unfold hOK at this; omega
  intro c
  induction c with
  | zero =>
    intro i z x hi hz hb
    obtain ⟨z, rfl⟩ := Nat.exists_eq_succ_of_ne_zero (show z ≠ 0 by omega)
    rw [fD_start_b116, wr_ne (show h + 5 + 2 * k ≠ 45 by omega), K.1.2.2.2, VK.2.2.1.1, if_pos (by rw [n_le (by omega) (by omega)]; omega), nI_1]
    refine ⟨x, rfl, hb.iff (fun r _ => ?_)⟩
    have hi : i = vL V k := by omega
    subst hi
    constructor
    · rintro (⟨j, h1, h2⟩ | ⟨j, h1, h2⟩)
      · exact ⟨j, by omega, h2⟩
      · exact ⟨k, by omega, j, h1, h2⟩
    · rintro ⟨j, h1, i, h2, h3⟩
      by_cases hj : j = k
      · subst hj; exact Or.inr ⟨i, h2, h3⟩
      · exact Or.inl ⟨j, by omega, i, h2, h3⟩
  | succ c ih =>
    intro i z x hi hz hb
    obtain ⟨z, rfl⟩ := Nat.exists_eq_succ_of_ne_zero (show z ≠ 0 by omega)
    have g8 := VK.2.2.2 i (by omega)
    rw [fD_start_b116, wr_ne (show h + 5 + 2 * k ≠ 45 by omega), K.1.2.2.2, VK.2.2.1.1, if_neg (by rw [n_le (by omega) (by omega)]; omega), if_pos (ib_nI (by omega) (by omega)), ix_nI (by omega), wr_same, wr_wr, wr_ne (show h + 5 + 2 * k + 1 ≠ 45 by omega), show h + 5 + 2 * k + 1 = h + 6 + 2 * k by omega, K.2 i (by omega), nI_1]
    refine ih (i + 1) z _ (by omega) (by omega) ?_
    rw [(of_ib g8).1]
    refine (hb.or (of_ib g8).2).iff (fun r _ => ?_)
    constructor
    · rintro ((h1 | ⟨j, h1, h2⟩) | h1)
      · exact Or.inl h1
      · exact Or.inr ⟨j, by omega, h2⟩
      · exact Or.inr ⟨i, by omega, h1⟩
    · rintro (h1 | ⟨j, h1, h2⟩)
      · exact Or.inl (Or.inl h1)
      · by_cases hj : j = i
        · subst hj; exact Or.inr h2
        · exact Or.inl (Or.inr ⟨j, by omega, h2⟩)
theorem fD_start_b54_eq {h : Nat} {V : Mem} {tl : Tell} : ∀ (c k z : Nat) (N : Mem), k + c = vM V → c < z → CV h V tl N → (∀ j, j < k → N 50 j = V 6 j ∧ N 52 j = 0 ∧ N 53 j = 0 ∧ N 54 j = 0 ∧ N 55 j = 0) → Bit (N 45 12) (OnL V k) → ∃ N', fD_start_b54 z (nI k) N = some N' ∧ CV h V tl N' ∧ KeepC N N' ∧ (∀ j, j < vM V → N' 50 j = V 6 j ∧ N' 52 j = 0 ∧ N' 53 j = 0 ∧ N' 54 j = 0 ∧ N' 55 j = 0) ∧ Bit (N' 45 12) (OnL V (vM V)) ∧ N' 56 = N 56 ∧ N' 45 13 = N 45 13 ∧ N' 45 14 = N 45 14 := by
  intro c
  induction c with
  | zero =>
    intro k z N hk hz cv st hb
    obtain ⟨z, rfl⟩ := Nat.exists_eq_succ_of_ne_zero (show z ≠ 0 by omega)
    have F := cv.f
    have m4 := cv.2.2.2.1.2.2.1.2
    have : k = vM V := by omega
    subst this
    rw [fD_start_b54, if_pos F.2.1, F.1, F.2.2.2.2.1, if_pos (by rw [n_le (by omega) (by omega)]; omega)]
    exact ⟨N, rfl, cv, KeepC.rfl', st, hb, rfl, rfl, rfl⟩
  | succ c ih =>
    intro k z N hk hz cv st hb
    obtain ⟨z, rfl⟩ := Nat.exists_eq_succ_of_ne_zero (show z ≠ 0 by omega)
    have F := cv.f
    have m4 := cv.2.2.2.1.2.2.1.2
    have K := F.2.2.2.2.2.2.2 k (by omega)
    have gk : ib (nI k) 4 := ib_nI (by omega) (by omega)
    have ek : ix (nI k) = k := ix_nI (by omega)
    have hl : h < 28 := by have := cv.1; unfold hOK at this; omega
    rw [fD_start_b54, if_pos F.2.1, F.1, F.2.2.2.2.1, if_neg (by rw [n_le (by omega) (by omega)]; omega), if_pos cv.1, if_pos gk, if_pos gk, if_pos gk, if_pos gk, if_pos gk, if_pos gk, ek, K.1.2.2.1]
    generalize hN : wr (wr (wr (wr (wr N 50 k (V 6 k)) 52 k 0) 53 k 0) 54 k 0) 55 k 0 = N1
    have k1 : KeepC N N1 := by
      rw [← hN]
      exact ((((KeepC.put (Or.inl (by decide))).trans (KeepC.put (Or.inl (by decide)))).trans (KeepC.put (Or.inl (by decide)))).trans (KeepC.put (Or.inl (by decide)))).trans (KeepC.put (Or.inl (by decide)))
    have c1 := cv.keep k1
    have r45 : N1 45 = N 45 := by rw [← hN, wr_ne (by decide), wr_ne (by decide), wr_ne (by decide), wr_ne (by decide), wr_ne (by decide)]
    have r56 : N1 56 = N 56 := by rw [← hN, wr_ne (by decide), wr_ne (by decide), wr_ne (by decide), wr_ne (by decide), wr_ne (by decide)]
    have st1 : ∀ j, j < k + 1 → N1 50 j = V 6 j ∧ N1 52 j = 0 ∧ N1 53 j = 0 ∧ N1 54 j = 0 ∧ N1 55 j = 0 := by
      intro j hj
      rw [← hN]
      by_cases hjk : j = k
      · subst hjk; simp [wr]
      · have := st j (by omega)
        simp [wr, hjk]
        exact this
    obtain ⟨x', e1, b1⟩ := fD_start_b116_eq c1 (show k < vM V by omega) (fD_start_b54 z) (vL V k) 0 1000 (N1 45 12) (by omega) (by have := (cv.2.2.2.1.2.2.2 k (by omega)).2.2.1.2; omega) (by rw [r45]; exact hb.iff (fun r _ => ⟨Or.inl, fun w => w.elim id (fun ⟨j, a, _⟩ => absurd a (by omega))⟩))
    rw [wr_self] at e1
    rw [show (0 : Int32) = nI 0 from rfl, e1]
    have k2 : KeepC N1 (wr N1 45 12 x') := KeepC.put (Or.inr ⟨rfl, by decide⟩)
    obtain ⟨N', e2, c2, k3, s2, b2, r1, r2, r3⟩ := ih (k + 1) z (wr N1 45 12 x') (by omega) (by omega) (c1.keep k2) (fun j hj => by
      rw [wr_ne (by decide), wr_ne (by decide), wr_ne (by decide), wr_ne (by decide), wr_ne (by decide)]; exact st1 j hj) (by rw [wr_same]; exact b1)
    refine ⟨N', e2, c2, (k1.trans k2).trans k3, s2, b2, ?_, ?_, ?_⟩
    · rw [r1, wr_ne (by decide), r56]
    · rw [r2, wr_at (by decide), r45]
    · rw [r3, wr_at (by decide), r45]
theorem DOK.start {V D : Mem} (vo : VOK V) (s : Start V D) : DOK V D := by
  intro k hk
  obtain ⟨a, b, c, _⟩ := s.1 k hk
  have v := vo.2.2.2 k hk
  rw [a, b, c]
  refine ⟨v.2.1, by decide, fun z => absurd z (by decide), by decide, ?_⟩
  rw [v.2.2.1.1, nI_t (by have := v.2.2.1.2; omega)]
  show (0 : Int) ≤ _
  omega
/-- the house of base h is V, with the rule tl, and the ways' table is right: a day can begin -/
def HV (h : Nat) (V : Mem) (tl : Tell) (M : Mem) : Prop := hOK h ∧ V = viewC h M ∧ VOK V ∧ ib (M h 3) 6 ∧ VCl (59 + 3 * ix (M h 3)) tl (M (60 + 3 * ix (M h 3))) (M (61 + 3 * ix (M h 3))) ∧ LW M
/-- what a day leaves alone -/
def KeepD (M N : Mem) : Prop := ∀ a, (a < 45 ∨ 56 < a) → N a = M a
theorem KeepD.trans {M N O : Mem} (a : KeepD M N) (b : KeepD N O) : KeepD M O := fun x h => (b x h).trans (a x h)
theorem KeepC.d {M N : Mem} (k : KeepC M N) : KeepD M N := fun a h => k.1 a (by omega) (by omega)
theorem HV.keep {h : Nat} {V : Mem} {tl : Tell} {M N : Mem} (c : HV h V tl M) (k : KeepD M N) (lw : LW N) : HV h V tl N := by
  obtain ⟨c1, c2, c3, c4, c5, -⟩ := c
  have hl : h < 28 := by unfold hOK at c1; omega
  have hm : ix (M h 2) ≤ 4 := by
    have := c3.2.2.1.2
    rw [c2] at this
    exact this
  have e0 : N h = M h := k h (by omega)
  have hr := ix_lt c4
  refine ⟨c1, c2.trans (viewC_keep c1 hm (fun a h => k a (by omega))).symm, c3, by rw [e0]; exact c4, ?_, lw⟩
  rw [e0, k _ (by omega), k _ (by omega)]
  exact c5
theorem fD_start_eq {h : Nat} {V : Mem} {tl : Tell} {M : Mem} (hv : HV h V tl M) : ∃ M', fD_start h M = some M' ∧ CV h V tl M' ∧ Start V M' ∧ AskOK V (M' 45 12) ∧ LW M' ∧ KeepD M M' := by
  obtain ⟨h1, h2, h3, h4, h5, h6⟩ := hv
  have hl : h < 28 := by unfold hOK at h1; omega
  have hm : ix (M h 2) ≤ 4 := by
    have := h3.2.2.1.2
    rw [h2] at this
    exact this
  have hr := ix_lt h4
  have eh : ix (nI h) = h := ix_nI (by omega)
  have s0 : M h 0 = nI (vS V) := by
    have := h3.1.1
    rw [← this, h2]; rfl
  unfold fD_start
  rw [wr_same, eh, if_pos h1, wr_ne (show h ≠ 45 by omega), s0]
  have lw1 : LW (wr M 45 0 (nI h)) := by
    intro s hs he i hi
    rw [wr_ne (show 46 ≠ 45 by decide)] at he
    rw [wr_ne (show 47 ≠ 45 by decide)]
    exact h6 s hs he i hi
  rw [fY_lay_eq h3.1.2 lw1]
  simp only [Option.bind_some]
  generalize hM2 : layM (vS V) (wr M 45 0 (nI h)) = M2
  have lw2 : LW M2 := hM2 ▸ layM_LW h3.1.2
  have r2 : ∀ a, a ≠ 46 → a ≠ 47 → M2 a = wr M 45 0 (nI h) a := by
    intro a x1 x2
    rw [← hM2]
    funext b
    unfold layM
    rw [if_neg (fun z => x1 z.1), if_neg (fun z => x2 z.1)]
  have a45 : M2 45 0 = nI h := by rw [r2 45 (by decide) (by decide), wr_same]
  have k2 : KeepD M M2 := fun a ha => by rw [r2 a (by omega) (by omega), wr_ne (by omega)]
  have cv2 : CV h V tl M2 := by
    refine ⟨h1, a45, h2.trans (viewC_keep h1 hm (fun a ha => k2 a (by omega))).symm, h3, by rw [k2 h (by omega)]; exact h4, ?_, ?_⟩
    · rw [k2 h (by omega), k2 _ (by omega), k2 _ (by omega)]; exact h5
    · intro i hi
      rw [← hM2]
      unfold layM
      rw [if_neg (by omega), if_pos ⟨rfl, hi⟩]
  rw [a45, eh, if_pos h1, if_pos (by decide)]
  generalize hM3 : wr (wr (wr (wrR M2 56 (va_cpy (M2 (h + 3)) (M2 56) (ix 0) (ix 0) (ix 8))) 45 12 0) 45 13 0) 45 14 (-1) = M3
  have k3 : KeepC M2 M3 := by
    rw [← hM3]
    refine KeepC.trans (KeepC.trans (KeepC.trans ?_ (KeepC.put (Or.inr ⟨rfl, by decide⟩))) (KeepC.put (Or.inr ⟨rfl, by decide⟩))) (KeepC.put (Or.inr ⟨rfl, by decide⟩))
    refine ⟨fun a x1 x2 => ?_, ?_⟩
    · unfold wrR; rw [if_neg (by omega)]
    · unfold wrR; rw [if_neg (by decide)]
  have F := cv2.f
  have e56 : ∀ r, r < 8 → M3 56 r = V 3 r := by
    intro r hr
    rw [← hM3, wr_ne (by decide), wr_ne (by decide), wr_ne (by decide)]
    unfold wrR va_cpy
    rw [if_pos rfl, show ix 0 = 0 from rfl, show ix 8 = 8 from rfl, if_pos (by omega), ← F.2.2.2.2.2.2.1 r hr]
    congr 1
    omega
  have e12 : M3 45 12 = 0 := by rw [← hM3]; simp [wr]
  have e13 : M3 45 13 = 0 := by rw [← hM3]; simp [wr]
  have e14 : M3 45 14 = -1 := by rw [← hM3]; simp [wr]
  have z4 := h3.2.2.1.2
  obtain ⟨N', q1, q2, q3, q4, q5, q6, q7, q8⟩ := fD_start_b54_eq (vM V) 0 1000 M3 (by omega) (by omega) (cv2.keep k3) (fun j hj => absurd hj (by omega)) (by rw [e12]; exact Bit.zero.iff (fun r _ => ⟨False.elim, fun ⟨j, hj, _⟩ => absurd hj (by omega)⟩))
  refine ⟨N', q1, q2, ⟨q4, fun r hr => by rw [q6]; exact e56 r hr, by rw [q7]; exact e13, by rw [q8]; exact e14⟩, ?_, ?_, (k2.trans k3.d).trans q3.d⟩
  · obtain ⟨n, _, _, b⟩ := q5
    exact b
  · have k4 := k3.trans q3
    intro s hs he i hi
    rw [k4.1 46 (by decide) (by decide)] at he
    rw [k4.1 47 (by decide) (by decide)]
    exact lw2 s hs he i hi
