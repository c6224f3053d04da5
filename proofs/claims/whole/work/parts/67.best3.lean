/-! 67: the best order: the model -/
/-- what the model leaves alone while it tries the list of maid k -/
def KeepO (k : Nat) (M N : Mem) : Prop := (∀ a, a ≠ 85 → a ≠ 95 → (a < 97 ∨ 104 < a) → N a = M a) ∧ (∀ b, (b < 5 * k ∨ 5 * k + 5 ≤ b) → N 95 b = M 95 b) ∧ ∀ j, (j < 21 ∨ (36 ≤ j ∧ j ≠ 43 ∧ j ≠ 44 ∧ j ≠ 46 ∧ j ≠ 47 ∧ j ≠ 132)) → N 85 j = M 85 j
theorem KeepO.trans {k : Nat} {M N O : Mem} (a : KeepO k M N) (b : KeepO k N O) : KeepO k M O := ⟨fun x h1 h2 h3 => (b.1 x h1 h2 h3).trans (a.1 x h1 h2 h3), fun x h => (b.2.1 x h).trans (a.2.1 x h), fun j h => (b.2.2 j h).trans (a.2.2 j h)⟩
theorem KeepO.rfl' {k : Nat} {M : Mem} : KeepO k M M := ⟨fun _ _ _ _ => rfl, fun _ _ => rfl, fun _ _ => rfl⟩
theorem KeepL.o {k : Nat} {M N : Mem} (a : KeepL M N) : KeepO k M N := ⟨fun x h1 _ h3 => a.1 x h1 h3, fun b _ => by rw [a.1 95 (by omega) (by omega)], fun j h => a.2 j (by omega)⟩
theorem KeepO.put {k j : Nat} {M : Mem} {v : Int32} (h : j < 5) : KeepO k M (wr M 95 (5 * k + j) v) := ⟨fun x _ h2 _ => wr_ne h2, fun b hb => wr_at (by omega), fun j _ => by rw [wr_ne (by decide)]⟩
theorem KeepO.fld {k j : Nat} {M : Mem} {v : Int32} (h : j = 46 ∨ j = 47) : KeepO k M (wr M 85 j v) := ⟨fun x h1 _ _ => wr_ne h1, fun b hb => by rw [wr_ne (by decide)], fun i hi => wr_at (by omega)⟩
/-- how the model holds the best so far -/
def oSt (o : Option (Int32 × Int32)) (D : Mem) : Prop := (o = none ∧ D 85 47 = -1) ∨ ∃ d q, o = some (d, q) ∧ D 85 46 = d ∧ D 85 47 = q ∧ q ≠ -1
theorem oSt.same {o : Option (Int32 × Int32)} {D E : Mem} (h : oSt o D) (a : E 85 46 = D 85 46) (b : E 85 47 = D 85 47) : oSt o E := by
  unfold oSt at h ⊢
  rw [a, b]
  exact h
theorem MV.row {V D0 D : Mem} {k : Nat} {x : Stk} (v : MV V 4 D0) (hk : k < vM V) (m4 : vM V ≤ 4) (l5 : ∀ j, j < vM V → vL V j ≤ 5) (ko : KeepO k D0 D) (h : ∀ b, b < vL V k → D 95 (5 * k + b) = x b) : MV (rowV V k (vL V k) x) 4 D := by
  obtain ⟨-, h2, h3, h4, h5, h6, h7, h8⟩ := v
  have hs : ∀ j, j < vM V → sk 4 j = j := fun j hj => by unfold sk; rw [if_pos (by omega)]
  unfold MV cntM
  rw [rowV_M, rowV_N, show vS (rowV V k (vL V k) x) = vS V from by show ix (rowV V k (vL V k) x 0 0) = _; rw [rowV_low (by decide)], rowV_low (show 1 < 8 by decide), rowV_low (show 2 < 8 by decide), rowV_low (show 3 < 8 by decide), rowV_low (show 4 < 8 by decide), rowV_low (show 5 < 8 by decide), rowV_low (show 6 < 8 by decide), rowV_low (show 7 < 8 by decide)]
  rw [ko.2.2 7 (by omega), ko.2.2 11 (by omega), ko.2.2 17 (by omega), ko.2.2 18 (by omega), ko.1 89 (by omega) (by omega) (by omega), ko.1 90 (by omega) (by omega) (by omega), ko.1 91 (by omega) (by omega) (by omega), ko.1 92 (by omega) (by omega) (by omega), ko.1 93 (by omega) (by omega) (by omega), ko.1 94 (by omega) (by omega) (by omega), ko.1 96 (by omega) (by omega) (by omega)]
  refine ⟨⟨by omega, fun h => absurd h (by omega)⟩, h2, h3, h4, h5, h6, h7, fun j hj => ⟨(h8 j hj).1, fun p hp => ?_⟩⟩
  rw [rowV_L] at hp
  have h9 := (h8 j hj).2 p hp
  have hl := l5 j hj
  have hlk := l5 k hk
  rw [hs j hj] at h9 ⊢
  unfold rowV
  by_cases z : j = k
  · subst z
    rw [if_pos ⟨rfl, hp⟩]
    exact h p hp
  · rw [if_neg (fun e => z (by omega)), ko.2.1 _ (by omega)]
    exact h9
theorem fM_b51_eq {n k : Nat} {y : Stk} (hk : k < 4) (hn : n ≤ 5) (rc : Int32 → Int32 → Int32 → Mem → Option Mem) : ∀ (c i z : Nat) (D : Mem) (acc : Int32), i + c = n → c < z → (∀ b, b < n → D 95 (5 * k + b) = y b) → D 85 47 = acc → fM_orders_b51 rc (nI k) (nI n) z (nI i) D = some (wr D 85 47 (digI y c i acc)) := by
  intro c
  induction c with
  | zero =>
    intro i z D acc hi hz h he
    obtain ⟨z, rfl⟩ := Nat.exists_eq_succ_of_ne_zero (show z ≠ 0 by omega)
    rw [fM_orders_b51, if_pos (by rw [n_le (by omega) (by omega)]; omega), digI, ← he, wr_self]
  | succ c ih =>
    intro i z D acc hi hz h he
    obtain ⟨z, rfl⟩ := Nat.exists_eq_succ_of_ne_zero (show z ≠ 0 by omega)
    have e5 : (5 : Int32) * nI k + nI i = nI (5 * k + i) := by rw [show (5 : Int32) = nI 5 from rfl, pk_mul, ← nI_add]
    rw [fM_orders_b51, if_neg (by rw [n_le (by omega) (by omega)]; omega), e5, if_pos (ib_nI (by omega) (by omega)), ix_nI (by omega), h i (by omega), he, nI_1, ih (i + 1) z _ (10 * acc + y i + 1) (by omega) (by omega) (fun b hb => by rw [wr_ne (by decide)]; exact h b hb) wr_same, wr_wr, digI, Int32.mul_comm]
/-- one order of the model -/
theorem fM_leaf {V D0 D : Mem} {tl : Tell} {k : Nat} {p : List Nat} {o : Option (Int32 × Int32)} (vo : VOK V) (hk : k < vM V) (mv : MV V 4 D0) (vm : VMo (D0 85 4) tl (D0 86) (D0 87)) (ko : KeepO k D0 D) (hp : ∀ b, b < vL V k → p.getD b 0 < vL V k) (h : ∀ b, b < vL V k → D 95 (5 * k + b) = ordY V k p b) (ho : oSt o D) (rc : Int32 → Int32 → Int32 → Mem → Option Mem) (x : Int32) : ∃ D', fM_orders rc (nI k) (nI (vL V k)) x D = some D' ∧ KeepO k D0 D' ∧ D' 95 = D 95 ∧ oSt (bst (ordF V tl k) (ordG V k) [p] o) D' := by
  have l5 := (vo.2.2.2 k hk).2.2.1.2
  have m4 := vo.2.2.1.2
  have e96 : D 96 k = nI (vL V k) := by
    rw [ko.1 96 (by omega) (by omega) (by omega)]
    have := ((mv.2.2.2.2.2.2.2 k hk).1).2.2.2
    unfold sk at this
    rw [if_pos (by omega)] at this
    rw [this]
    exact (vo.2.2.2 k hk).2.2.1.1
  have mo : MO0 (rowV V k (vL V k) (ordY V k p)) 4 tl D := ⟨VOK.row vo (ordY_ib vo hk hp), mv.row hk m4 (fun j hj => (vo.2.2.2 j hj).2.2.1.2) ko h, by rw [ko.2.2 4 (by omega), ko.1 86 (by omega) (by omega) (by omega), ko.1 87 (by omega) (by omega) (by omega)]; exact vm⟩
  obtain ⟨D1, d1, kl, -⟩ := fM_dear_eq mo
  have e95 : D1 95 = D 95 := kl.1 95 (by omega) (by omega)
  have e46 : D1 85 46 = D 85 46 := kl.2 46 (by omega)
  have e47 : D1 85 47 = D 85 47 := kl.2 47 (by omega)
  have k1 : KeepO k D0 D1 := ko.trans kl.o
  have take : ∃ D', fM_orders_b37 rc (nI k) (nI (vL V k)) (ordF V tl k p) D1 = some D' ∧ KeepO k D0 D' ∧ D' 95 = D 95 ∧ oSt (some (ordF V tl k p, ordG V k p)) D' := by
    refine ⟨wr (wr (wr D1 85 46 (ordF V tl k p)) 85 47 0) 85 47 (ordG V k p), ?_, (k1.trans (KeepO.fld (Or.inl rfl))).trans ((KeepO.fld (Or.inr rfl)).trans (KeepO.fld (Or.inr rfl))), by rw [wr_ne (by decide), wr_ne (by decide), wr_ne (by decide)]; exact e95, Or.inr ⟨_, _, rfl, by rw [wr_at (by decide), wr_at (by decide), wr_same], wr_same, ordG_ne vo hk hp⟩⟩
    unfold fM_orders_b37
    exact fM_b51_eq (by omega) l5 rc (vL V k) 0 1000 _ 0 (by omega) (by omega) (fun b hb => by rw [wr_ne (by decide), wr_ne (by decide), e95]; exact h b hb) wr_same
  unfold fM_orders
  rw [if_pos (ib_nI (by omega) (by omega)), ix_nI (by omega), e96, if_pos rfl, d1, Option.bind_some]
  show ∃ D', (if D1 85 47 = -1 then fM_orders_b37 rc (nI k) (nI (vL V k)) (ordF V tl k p) D1 else if D1 85 46 ≤ ordF V tl k p then some D1 else fM_orders_b37 rc (nI k) (nI (vL V k)) (ordF V tl k p) D1) = some D' ∧ KeepO k D0 D' ∧ D' 95 = D 95 ∧ oSt (bst (ordF V tl k) (ordG V k) [p] o) D'
  rw [e46, e47]
  rcases ho with ⟨o1, o2⟩ | ⟨d, q, o1, o2, o3, o4⟩
  · rw [if_pos o2, o1, bst, bst]
    exact take
  · rw [if_neg (by rw [o3]; exact o4), o1, o2, bst]
    by_cases hd : d ≤ ordF V tl k p
    · rw [if_pos hd, if_pos hd, bst]
      exact ⟨D1, rfl, k1, e95, Or.inr ⟨d, q, rfl, by rw [e46]; exact o2, by rw [e47]; exact o3, o4⟩⟩
    · rw [if_neg hd, if_neg hd, bst]
      exact take
