/-! 39: a text of the class and a text of the model say the same -/
/-- what the model reads at t, on whatever state -/
def TXm (t : Nat) (C E : Stk) (U W : Nat → Int32) : Prop := ∃ (n : Nat) (T : Stk), n ≤ 160 ∧ W t = nI n ∧ (∀ i, i < n → U (160 * t + i) = T i) ∧ ∀ (N : Mem) (p : Nat), N 87 t = nI n → (∀ i, i < n → N 86 (160 * t + i) = T i) → p < 3 → ∃ N', fM_read (nI t) (nI p) N = some (tlC C E p (N 85 21) (N 85 22) (N 85 23) (N 85 24) (N 85 25) (N 85 26), N') ∧ KeepR N N' ∧ N' 85 34 = 0
def TX (t : Nat) (M : Mem) : Prop := WFc (M (60 + 3 * t)) (M (61 + 3 * t)) ∧ TXm t (M (60 + 3 * t)) (M (61 + 3 * t)) (M 86) (M 87)
theorem TX.vmo {t : Nat} {M : Mem} (h : TX t M) : VMo (nI t) (tlC (M (60 + 3 * t)) (M (61 + 3 * t))) (M 86) (M 87) := by
  obtain ⟨-, n, T, h1, h2, h3, h4⟩ := h
  intro N p e1 e2 hp
  obtain ⟨N', q1, q2, -⟩ := h4 N p (by rw [e2]; exact h2) (fun i hi => by rw [e1]; exact h3 i hi) hp
  exact ⟨N', q1, q2⟩
/-- a state of the model with given names -/
def Zt (n t : Nat) (T nm : Stk) : Mem := fun a b => if a = 87 then nI n else if a = 86 then T (b - 160 * t) else nm (b - 21)
/-- how texts are read, told without the model's state -/
theorem read_text {n t g : Nat} {T : Stk} {M : Mem} (hB : ∀ i, i < n → 0 ≤ (T i).toInt) (hg : 59 ≤ g) (ht : t < 6) (hM : TC n T M) : ∃ x M', fR_read g M = some (x, M') ∧ M' 40 1 = 0 ∧ (∀ a, a ≠ 40 → a ≠ 42 → a ≠ 43 → a ≠ g + 1 → a ≠ g + 2 → M' a = M a) ∧ ((x = -1 ∧ WFc (M' (g + 1)) (M' (g + 2)) ∧ ∀ (N : Mem) (p : Nat), N 87 t = nI n → (∀ i, i < n → N 86 (160 * t + i) = T i) → p < 3 → ∃ N', fM_read (nI t) (nI p) N = some (tlC (M' (g + 1)) (M' (g + 2)) p (N 85 21) (N 85 22) (N 85 23) (N 85 24) (N 85 25) (N 85 26), N') ∧ KeepR N N' ∧ N' 85 34 = 0) ∨ (∃ f, f ≤ n ∧ x = nI f ∧ M' (g + 1) = M (g + 1) ∧ M' (g + 2) = M (g + 2) ∧ ∀ (N : Mem) (p : Nat), N 87 t = nI n → (∀ i, i < n → N 86 (160 * t + i) = T i) → p < 3 → ∃ v N', fM_read (nI t) (nI p) N = some (v, N') ∧ KeepR N N' ∧ N' 85 34 = 1 ∧ N' 85 35 = nI f)) := by
  have hn := hM.2.1
  have Z7 : ∀ nm : Stk, Zt n t T nm 87 t = nI n := fun nm => by unfold Zt; rw [if_pos rfl]
  have Z6 : ∀ (nm : Stk) (i : Nat), i < n → Zt n t T nm 86 (160 * t + i) = T i := fun nm i hi => by
    unfold Zt
    rw [if_neg (by decide), if_pos rfl, Nat.add_sub_cancel_left]
  have Zn : ∀ (nm : Stk) (j : Nat), nmN (Zt n t T nm) j = nm j := fun nm j => by
    unfold nmN Zt
    rw [if_neg (by decide), if_neg (by decide), Nat.add_sub_cancel_left]
  obtain ⟨x, M', v, N', e1, e2, e3, e4, e5, e6⟩ := read_lock (p := 0) (N := Zt n t T (fun _ => 0)) hB hg ht (by omega) hM (Z7 (fun _ => 0)) (Z6 (fun _ => 0))
  have any : ∀ (N : Mem) (p : Nat), N 87 t = nI n → (∀ i, i < n → N 86 (160 * t + i) = T i) → p < 3 → ∃ v N', fM_read (nI t) (nI p) N = some (v, N') ∧ KeepR N N' ∧ ((x = -1 ∧ N' 85 34 = 0 ∧ ∃ v0 v1 v2 w1 w2 w3, (M' (g + 2) 0 = nI w1 ∧ M' (g + 2) 1 = nI w2 ∧ M' (g + 2) 2 = nI w3) ∧ (w1 ≤ w2 ∧ w2 ≤ w3 ∧ w3 ≤ 160) ∧ (Ev (nmN N) (M' (g + 1)) 0 w1 v0 ∧ Ev (nmN N) (M' (g + 1)) w1 w2 v1 ∧ Ev (nmN N) (M' (g + 1)) w2 w3 v2) ∧ v = (if p = 0 then v0 else if p = 1 then v1 else v2)) ∨ ∃ f, f ≤ n ∧ x = nI f ∧ N' 85 34 = 1 ∧ N' 85 35 = nI f ∧ M' (g + 1) = M (g + 1) ∧ M' (g + 2) = M (g + 2)) := by
    intro N p h1 h2 hp
    obtain ⟨x2, M2, v2, N2, y1, y2, y3, y4, y5, y6⟩ := read_lock (p := p) (N := N) hB hg ht hp hM h1 h2
    rw [e1] at y1
    cases y1
    exact ⟨v2, N2, y2, y3, y6⟩
  refine ⟨x, M', e1, e4, e5, ?_⟩
  rcases e6 with ⟨hx, -, -⟩ | ⟨f, hf, hx, -, -, g1, g2⟩
  · refine Or.inl ⟨hx, ?_⟩
    have good : ∀ (N : Mem) (p : Nat), N 87 t = nI n → (∀ i, i < n → N 86 (160 * t + i) = T i) → p < 3 → ∃ N', fM_read (nI t) (nI p) N = some (tlC (M' (g + 1)) (M' (g + 2)) p (N 85 21) (N 85 22) (N 85 23) (N 85 24) (N 85 25) (N 85 26), N') ∧ KeepR N N' ∧ N' 85 34 = 0 := by
      intro N p h1 h2 hp
      obtain ⟨v, N', y1, y2, y3⟩ := any N p h1 h2 hp
      rcases y3 with ⟨-, z1, v0, v1, v2, w1, w2, w3, ⟨a1, a2, a3⟩, ⟨b1, b2, b3⟩, ⟨c1, c2, c3⟩, hv⟩ | ⟨f, z1, z2, -⟩
      · refine ⟨N', ?_, y2, z1⟩
        rw [y1, hv]
        have k : ∀ u, Ev (nmN N) (M' (g + 1)) (bgn (M' (g + 2)) p) (ix (M' (g + 2) p)) u → tlC (M' (g + 1)) (M' (g + 2)) p (N 85 21) (N 85 22) (N 85 23) (N 85 24) (N 85 25) (N 85 26) = u := fun u e => tlC_eq e
        have i1 : ix (M' (g + 2) 0) = w1 := by rw [a1, ix_nI (by omega)]
        have i2 : ix (M' (g + 2) 1) = w2 := by rw [a2, ix_nI (by omega)]
        have i3 : ix (M' (g + 2) 2) = w3 := by rw [a3, ix_nI (by omega)]
        rcases (by omega : p = 0 ∨ p = 1 ∨ p = 2) with rfl | rfl | rfl
        · rw [k v0 (by rw [i1]; exact c1), if_pos rfl]
        · rw [k v1 (by rw [i2, bgn, if_neg (by decide), i1]; exact c2), if_neg (by decide), if_pos rfl]
        · rw [k v2 (by rw [i3, bgn, if_neg (by decide), i2]; exact c3), if_neg (by decide), if_neg (by decide)]
      · exact absurd (hx.symm.trans z2) (nI_m1 (show f < 2147483648 by omega)).symm
    refine ⟨?_, good⟩
    have wf : ∀ nm, ∃ v0 v1 v2 w1 w2 w3, (M' (g + 2) 0 = nI w1 ∧ M' (g + 2) 1 = nI w2 ∧ M' (g + 2) 2 = nI w3) ∧ (w1 ≤ w2 ∧ w2 ≤ w3 ∧ w3 ≤ 160) ∧ (Ev nm (M' (g + 1)) 0 w1 v0 ∧ Ev nm (M' (g + 1)) w1 w2 v1 ∧ Ev nm (M' (g + 1)) w2 w3 v2) := by
      intro nm
      obtain ⟨v, N', y1, y2, y3⟩ := any (Zt n t T nm) 0 (Z7 nm) (Z6 nm) (by omega)
      rcases y3 with ⟨-, z1, v0, v1, v2, w1, w2, w3, a, b, ⟨c1, c2, c3⟩, hv⟩ | ⟨f, z1, z2, -⟩
      · exact ⟨v0, v1, v2, w1, w2, w3, a, b, c1.nm (fun j _ => (Zn nm j).symm), c2.nm (fun j _ => (Zn nm j).symm), c3.nm (fun j _ => (Zn nm j).symm)⟩
      · exact absurd (hx.symm.trans z2) (nI_m1 (show f < 2147483648 by omega)).symm
    constructor
    · intro p hp
      obtain ⟨v0, v1, v2, w1, w2, w3, ⟨a1, a2, a3⟩, ⟨b1, b2, b3⟩, -⟩ := wf (fun _ => 0)
      rcases (by omega : p = 0 ∨ p = 1 ∨ p = 2) with rfl | rfl | rfl
      · rw [a1, ix_nI (by omega)]; exact ⟨rfl, Nat.zero_le _, by omega⟩
      · rw [a2, ix_nI (by omega), bgn, if_neg (by decide), a1, ix_nI (by omega)]; exact ⟨rfl, b1, by omega⟩
      · rw [a3, ix_nI (by omega), bgn, if_neg (by decide), a2, ix_nI (by omega)]; exact ⟨rfl, b2, by omega⟩
    · intro nm p hp
      obtain ⟨v0, v1, v2, w1, w2, w3, ⟨a1, a2, a3⟩, ⟨b1, b2, b3⟩, c1, c2, c3⟩ := wf nm
      rcases (by omega : p = 0 ∨ p = 1 ∨ p = 2) with rfl | rfl | rfl
      · rw [a1, ix_nI (by omega)]; exact ⟨v0, c1⟩
      · rw [a2, ix_nI (by omega), bgn, if_neg (by decide), a1, ix_nI (by omega)]; exact ⟨v1, c2⟩
      · rw [a3, ix_nI (by omega), bgn, if_neg (by decide), a2, ix_nI (by omega)]; exact ⟨v2, c3⟩
  · refine Or.inr ⟨f, hf, hx, g1, g2, fun N p h1 h2 hp => ?_⟩
    obtain ⟨v, N', y1, y2, y3⟩ := any N p h1 h2 hp
    rcases y3 with ⟨z1, -⟩ | ⟨f2, z1, z2, z3, z4, -⟩
    · exact absurd (z1.symm.trans hx) (nI_m1 (show f < 2147483648 by omega)).symm
    · rw [hx, n_eq (by omega) (by omega)] at z2
      subst z2
      exact ⟨v, N', y1, y2, z3, z4⟩
