/-! 70: how it begins -/
def tx0 : Stk := fun i => [115, 116, 101, 112, 115, 32, 49, 32, 59, 32, 100, 111, 101, 115, 32, 49, 32, 43, 32, 109, 97, 105, 100, 115, 32, 59, 32, 99, 111, 115, 116, 115, 32, 49, 32, 59].getD i 32
/-- the class when all of it is made -/
def S0 : Mem := fun a b =>
  if a = 0 then (if b = 6 then 1 else 0)
  else if a = 1 ∨ a = 14 ∨ a = 27 then (if b = 0 then 3 else 0)
  else if a = 4 ∨ a = 17 ∨ a = 30 then (if b < 8 then 9 else 0)
  else if a = 40 then (if b = 4 then 13 else if b = 6 then -1 else 0)
  else if a = 45 then (if b = 0 then 1 else if b = 14 then -1 else 0)
  else if a = 46 then (if b = 1 then -1 else 0)
  else if a = 77 ∨ a = 79 ∨ a = 81 ∨ a = 83 then (if b = 0 then -1 else 0)
  else 0
/-- and n bytes on the tape -/
def adN (n : Nat) : Mem := fun a b => if a = 41 ∧ b < n then tx0 b else if a = 40 ∧ b = 1 then nI n else S0 a b
theorem adN_step {n : Nat} (h : n < 160) : fR_add (tx0 n) (adN n) = some (1, adN (n + 1)) := by
  have e : adN n 40 1 = nI n := by unfold adN; rw [if_neg (by omega), if_pos ⟨rfl, rfl⟩]
  unfold fR_add
  rw [e, if_pos (by rw [show (160 : Int32) = nI 160 from rfl, n_lt (by omega) (by omega)]; exact h), if_pos (ib_nI (by omega) (by omega)), ix_nI (by omega), wr_ne (show 40 ≠ 41 by decide), e, nI_1]
  congr 2
  funext a b
  unfold wr adN
  by_cases h1 : a = 40 ∧ b = 1
  · rw [if_pos h1, if_neg (by omega), if_pos h1]
  · rw [if_neg h1, if_neg h1, if_neg h1]
    by_cases h2 : a = 41 ∧ b = n
    · rw [if_pos h2, if_pos (by omega), h2.2]
    · rw [if_neg h2]
      by_cases h3 : a = 41 ∧ b < n
      · rw [if_pos h3, if_pos (by omega)]
      · rw [if_neg h3, if_neg (by omega)]
theorem adN_TC {n : Nat} (h : n ≤ 160) : TC n tx0 (adN n) := ⟨by unfold adN; rw [if_neg (by omega), if_pos ⟨rfl, rfl⟩], h, fun i hi => by unfold adN; rw [if_pos ⟨rfl, hi⟩]⟩
theorem red_36 : ((fR_read 59 (adN 36)).map (fun q => (q.1, (List.range 160).map (q.2 60), (List.range 3).map (q.2 61)))) = ((fR_read 59 (adN 40)).map (fun q => (q.1, (List.range 160).map (q.2 60), (List.range 3).map (q.2 61)))) ∧ (fR_read 59 (adN 36)).map (fun q => q.1) = some (-1) := by decide +kernel
theorem tx0_pos (n : Nat) : 0 ≤ (tx0 n).toInt := by
  by_cases h : n < 36
  · have : ∀ n, n < 36 → 0 ≤ (tx0 n).toInt := by decide
    exact this n h
  · unfold tx0
    rw [List.getD_eq_getElem?_getD, List.getElem?_eq_none (by simp; omega)]
    decide
theorem rng_at {f g : Stk} : ∀ (n : Nat), (List.range n).map f = (List.range n).map g → ∀ i, i < n → f i = g i := fun n h i hi => by
  have := congrArg (fun l => l[i]?) h
  simp only [List.getElem?_map, List.getElem?_range hi, Option.map_some, Option.some.injEq] at this
  exact this
theorem TXm.same {t : Nat} {C E C' E' : Stk} {U W U' W' : Nat → Int32} (h : TXm t C E U W) (hC : ∀ p a b c d e f, p < 3 → tlC C' E' p a b c d e f = tlC C E p a b c d e f) (hU : ∀ i, i < 160 → U' (160 * t + i) = U (160 * t + i)) (hW : W' t = W t) : TXm t C' E' U' W' := by
  obtain ⟨n, T, h1, h2, h3, h4⟩ := h
  refine ⟨n, T, h1, hW.trans h2, fun i hi => (hU i (by omega)).trans (h3 i hi), fun N p e1 e2 hp => ?_⟩
  obtain ⟨N', q1, q2, q3⟩ := h4 N p e1 e2 hp
  exact ⟨N', by rw [hC p _ _ _ _ _ _ hp]; exact q1, q2, q3⟩
theorem tlC_same {C E C' E' : Stk} (w : WFc C E) (h1 : ∀ i, i < 160 → C' i = C i) (h2 : ∀ i, i < 3 → E' i = E i) : ∀ p a b c d e f, p < 3 → tlC C' E' p a b c d e f = tlC C E p a b c d e f := by
  intro p a b c d e f hp
  have hb : bgn E' p = bgn E p := by
    unfold bgn
    by_cases h0 : p = 0
    · rw [if_pos h0, if_pos h0]
    · rw [if_neg h0, if_neg h0, h2 _ (by omega)]
  obtain ⟨v, ev⟩ := w.2 (fun j => if j = 0 then a else if j = 1 then b else if j = 2 then c else if j = 3 then d else if j = 4 then e else f) p hp
  obtain ⟨-, g1, g2⟩ := w.1 p hp
  have e1 := tlC_eq ev
  have ev2 := ev.congr (D := C') g1 (fun i _ hi => h1 i (by omega))
  rw [← hb, ← h2 p hp] at ev2
  have e2 := tlC_eq ev2
  exact e2.trans e1.symm
/-- the class behind its making -/
theorem start_C : ∃ M, fR_read 59 (adN 36) = some (-1, M) ∧ M 40 1 = 0 ∧ (∀ a, a ≠ 40 → a ≠ 42 → a ≠ 43 → a ≠ 60 → a ≠ 61 → M a = adN 36 a) ∧ WFc (M 60) (M 61) ∧ ∀ (U W : Stk), W 0 = nI 40 → (∀ i, i < 40 → U i = tx0 i) → TXm 0 (M 60) (M 61) U W := by
  obtain ⟨x, M, e1, e2, e3, e4⟩ := read_text (g := 59) (t := 0) (fun i _ => tx0_pos i) (by omega) (by omega) (adN_TC (n := 36) (by omega))
  obtain ⟨y, L, f1, f2, f3, f4⟩ := read_text (g := 59) (t := 0) (fun i _ => tx0_pos i) (by omega) (by omega) (adN_TC (n := 40) (by omega))
  obtain ⟨r1, r2⟩ := red_36
  rw [e1, f1] at r1
  rw [e1] at r2
  simp only [Option.map_some, Option.some.injEq, Prod.mk.injEq] at r1 r2
  obtain ⟨k1, k2, k3⟩ := r1
  subst r2
  subst k1
  have bad : ∀ f n : Nat, f ≤ n → n < 1000 → (-1 : Int32) = nI f → False := fun f n h1 h2 h3 => by
    have := congrArg Int32.toInt h3
    rw [nI_t (by omega), m1_t] at this
    omega
  rcases e4 with ⟨-, e5, -⟩ | ⟨f, a1, a2, -⟩
  · rcases f4 with ⟨-, f5, f6⟩ | ⟨f, a1, a2, -⟩
    · refine ⟨M, e1, e2, e3, e5, fun U W hW hU => ?_⟩
      have t40 : TXm 0 (L 60) (L 61) U W := ⟨40, tx0, by omega, hW, fun i hi => by rw [Nat.mul_zero, Nat.zero_add]; exact hU i hi, fun N p h1 h2 hp => f6 N p h1 h2 hp⟩
      exact t40.same (tlC_same f5 (fun i hi => rng_at 160 k2 i hi) (fun i hi => rng_at 3 k3 i hi)) (fun _ _ => rfl) rfl
    · exact (bad f 40 a1 (by omega) a2).elim
  · exact (bad f 36 a1 (by omega) a2).elim
/-- the model, when it is made, behind what the class has made -/
def mdl (M : Mem) : Mem := fun a b =>
  if a < 85 then M a b
  else if a = 85 then (if b = 3 then 1 else if b = 7 then 3 else if b = 18 then -1 else if b = 51 then -1 else 0)
  else if a = 86 then (if b < 40 then tx0 b else 0)
  else if a = 87 then (if b = 0 then 40 else 0)
  else if a = 89 then (if b < 8 then 9 else 0)
  else 0
theorem start_rel : ∃ M, fR_read 59 (adN 36) = some (-1, M) ∧ Rel (mdl M) := by
  obtain ⟨M, e1, e2, e3, e4, e5⟩ := start_C
  have r : ∀ a, a < 85 → mdl M a = M a := fun a h => by funext b; unfold mdl; rw [if_pos h]
  have s : ∀ a, a < 85 → a ≠ 40 → a ≠ 41 → a ≠ 42 → a ≠ 43 → a ≠ 60 → a ≠ 61 → mdl M a = S0 a := fun a h h0 h1 h2 h3 h4 h5 => by
    rw [r a h, e3 a h0 h2 h3 h4 h5]
    funext b
    unfold adN
    rw [if_neg (fun z => h1 z.1), if_neg (fun z => h0 z.1)]
  have q : ∀ a b, 85 ≤ a → mdl M a b = mdl (fun _ _ => 0) a b := fun a b h => by
    have n : ¬ a < 85 := by omega
    unfold mdl
    rw [if_neg n, if_neg n]
  have u : ∀ a b, a < 85 → a ≠ 40 → a ≠ 41 → a ≠ 42 → a ≠ 43 → a ≠ 60 → a ≠ 61 → mdl M a b = S0 a b := fun a b h h0 h1 h2 h3 h4 h5 => by rw [s a h h0 h1 h2 h3 h4 h5]
  refine ⟨M, e1, hR_intro ⟨3, by omega, ?_, ?_⟩ ⟨0, by omega, ?_, ?_, fun i hi => absurd hi (by omega)⟩ (fun r hr => ?_) ⟨0, by omega, ?_, ?_, fun i hi => absurd hi (by omega)⟩ ⟨1, 0, by omega, by omega, ?_, ?_, by omega, ?_, ?_, fun t ht => ?_⟩ ⟨0, by omega, ?_, ?_, fun i hi => absurd hi (by omega)⟩ (fun s hs => Or.inl ⟨?_, ?_⟩) (Or.inl ⟨?_, ?_⟩) ⟨?_, ?_⟩⟩
  · rw [u 1 0 (by omega) (by omega) (by omega) (by omega) (by omega) (by omega) (by omega)]; rfl
  · rw [q 85 7 (by omega)]; rfl
  · rw [u 1 1 (by omega) (by omega) (by omega) (by omega) (by omega) (by omega) (by omega)]; rfl
  · rw [q 85 11 (by omega)]; rfl
  · rw [u 4 r (by omega) (by omega) (by omega) (by omega) (by omega) (by omega) (by omega), q 89 r (by omega)]
    have : ∀ r, r < 8 → ib (S0 4 r) 100 ∧ mdl (fun _ _ => 0) 89 r = S0 4 r := by decide
    exact this r hr
  · rw [u 1 2 (by omega) (by omega) (by omega) (by omega) (by omega) (by omega) (by omega)]; rfl
  · rw [q 85 17 (by omega)]; rfl
  · rw [u 0 6 (by omega) (by omega) (by omega) (by omega) (by omega) (by omega) (by omega)]; rfl
  · rw [q 85 3 (by omega)]; rfl
  · rw [u 1 3 (by omega) (by omega) (by omega) (by omega) (by omega) (by omega) (by omega)]; rfl
  · rw [q 85 4 (by omega)]; rfl
  · have : t = 0 := by omega
    subst this
    unfold TX
    rw [Nat.mul_zero, Nat.add_zero, Nat.add_zero, r 60 (by omega), r 61 (by omega)]
    refine ⟨e4, e5 _ _ ?_ (fun i hi => ?_)⟩
    · rw [q 87 0 (by omega)]; rfl
    · unfold mdl
      rw [if_neg (by omega), if_neg (by omega), if_pos rfl, if_pos hi]
  · rw [r 40 (by omega), e2]; rfl
  · rw [q 85 6 (by omega)]; rfl
  · rw [u _ 0 (by omega) (by omega) (by omega) (by omega) (by omega) (by omega) (by omega)]
    have : ∀ s, s < 4 → S0 (77 + 2 * s) 0 = -1 := by decide
    exact this s hs
  · rw [q 109 s (by omega)]; rfl
  · rw [u 0 3 (by omega) (by omega) (by omega) (by omega) (by omega) (by omega) (by omega)]; rfl
  · rw [q 85 51 (by omega)]; rfl
  · rw [q 85 18 (by omega)]; rfl
  · intro s hs e
    rw [u 46 1 (by omega) (by omega) (by omega) (by omega) (by omega) (by omega) (by omega)] at e
    have : ∀ s, s < 4 → S0 46 1 ≠ nI s := by decide
    exact absurd e (this s (by omega))
