/-! 65: the best order of a list -/
/-- V with the first n of the list of maid k as x -/
def rowV (V : Mem) (k n : Nat) (x : Stk) : Mem := fun a b => if a = 8 + k ∧ b < n then x b else V a b
theorem rowV_low {V : Mem} {k n a : Nat} {x : Stk} (h : a < 8) : rowV V k n x a = V a := by
  funext b
  unfold rowV
  rw [if_neg (by omega)]
theorem rowV_self (V : Mem) (k n : Nat) : rowV V k n (V (8 + k)) = V := by
  funext a b
  unfold rowV
  by_cases h : a = 8 + k ∧ b < n
  · rw [if_pos h, h.1]
  · rw [if_neg h]
theorem rowV_wr {V : Mem} {k n i : Nat} {x : Stk} {v : Int32} (h : i < n) : wr (rowV V k n x) (8 + k) i v = rowV V k n (stS x i v) := by
  funext a b
  unfold wr rowV stS
  by_cases h1 : a = 8 + k ∧ b = i
  · rw [if_pos h1, if_pos ⟨h1.1, by omega⟩, if_pos h1.2]
  · rw [if_neg h1]
    by_cases h2 : a = 8 + k ∧ b < n
    · rw [if_pos h2, if_pos h2, if_neg (fun e => h1 ⟨h2.1, e⟩)]
    · rw [if_neg h2, if_neg h2]
theorem rowV_eq {V : Mem} {k n : Nat} {x y : Stk} (h : ∀ b, b < n → x b = y b) : rowV V k n x = rowV V k n y := by
  funext a b
  unfold rowV
  by_cases h2 : a = 8 + k ∧ b < n
  · rw [if_pos h2, if_pos h2, h b h2.2]
  · rw [if_neg h2, if_neg h2]
theorem rowV_M (V : Mem) (k n : Nat) (x : Stk) : vM (rowV V k n x) = vM V := by
  show ix (rowV V k n x 0 2) = _; rw [rowV_low (by decide)]
theorem rowV_N (V : Mem) (k n : Nat) (x : Stk) : vN (rowV V k n x) = vN V := by
  show ix (rowV V k n x 0 1) = _; rw [rowV_low (by decide)]
theorem rowV_L (V : Mem) (k n : Nat) (x : Stk) (j : Nat) : vL (rowV V k n x) j = vL V j := by
  show ix (rowV V k n x 7 j) = _; rw [rowV_low (by decide)]
theorem VOK.row {V : Mem} {k n : Nat} {x : Stk} (vo : VOK V) (h : ∀ b, b < n → ib (x b) 8) : VOK (rowV V k n x) := by
  unfold VOK
  rw [rowV_M, rowV_N, show vS (rowV V k n x) = vS V from by show ix (rowV V k n x 0 0) = _; rw [rowV_low (by decide)], rowV_low (show 0 < 8 by decide), rowV_low (show 2 < 8 by decide), rowV_low (show 5 < 8 by decide), rowV_low (show 6 < 8 by decide), rowV_low (show 7 < 8 by decide)]
  refine ⟨vo.1, vo.2.1, vo.2.2.1, fun j hj => ?_⟩
  rw [rowV_L]
  obtain ⟨a, b, c, d⟩ := vo.2.2.2 j hj
  refine ⟨a, b, c, fun i hi => ?_⟩
  unfold rowV
  by_cases h2 : 8 + j = 8 + k ∧ i < n
  · rw [if_pos h2]; exact h i h2.2
  · rw [if_neg h2]; exact d i hi
theorem Wd27.k58 {V M C D : Mem} {tl : Tell} (w : Wd27 V tl M C) (k : K58 C D) : Wd27 V tl M D := by
  obtain ⟨⟨c1, c2, c3, c4, c5, c6⟩, c7⟩ := w
  have e27 : D 27 = C 27 := k 27 (by decide)
  have hr := ix_lt c4
  refine ⟨⟨c1, ?_, c3, by rw [e27]; exact c4, by rw [e27, k _ (by omega), k _ (by omega)]; exact c5, c6.same (by rw [k 46 (by decide)]) (k 47 (by decide))⟩, fun a h1 h2 => (k a h2).trans (c7 a h1 h2)⟩
  rw [viewC_keep c1 (by rw [c2] at c3; exact c3.2.2.1.2) (fun a ha => k a (by omega))]
  exact c2
/-- the rooms of an order, as digits -/
def digI (y : Stk) : Nat → Nat → Int32 → Int32
  | 0, _, acc => acc
  | c + 1, i, acc => digI y c (i + 1) (acc * 10 + y i + 1)
theorem digI_eq {y z : Stk} : ∀ (c i : Nat) (acc : Int32), (∀ b, b < i + c → y b = z b) → digI y c i acc = digI z c i acc
  | 0, _, _, _ => rfl
  | c + 1, i, acc, h => by
    rw [digI, digI, h i (by omega)]
    exact digI_eq c (i + 1) _ (fun b hb => h b (by omega))
theorem digI_lt {y : Stk} {n : Nat} (h : ∀ b, b < n → ib (y b) 8) (hn : n ≤ 5) : ∀ (c i m : Nat), i + c = n → m < 10 ^ i → ∃ r, digI y c i (nI m) = nI r ∧ r < 10 ^ n
  | 0, i, m, e, hm => ⟨m, rfl, by rw [← e]; exact hm⟩
  | c + 1, i, m, e, hm => by
    obtain ⟨q, hq, eq⟩ := ib_ex (h i (by omega))
    rw [digI, eq, show (10 : Int32) = nI 10 from rfl, pk_mul, nI_add, nI_1]
    refine digI_lt h hn c (i + 1) _ (by omega) ?_
    rw [Nat.pow_succ]
    omega
/-- what order p of the list of maid k costs, and its digits -/
def ordY (V : Mem) (k : Nat) (p : List Nat) : Stk := fun b => V (8 + k) (p.getD b 0)
def ordF (V : Mem) (tl : Tell) (k : Nat) (p : List Nat) : Int32 := dearS (rowV V k (vL V k) (ordY V k p)) tl
def ordG (V : Mem) (k : Nat) (p : List Nat) : Int32 := digI (ordY V k p) (vL V k) 0 0
/-- the best of orders: its shillings and its digits -/
def bst (f g : List Nat → Int32) : List (List Nat) → Option (Int32 × Int32) → Option (Int32 × Int32)
  | [], o => o
  | p :: ps, none => bst f g ps (some (f p, g p))
  | p :: ps, some (d, q) => if d ≤ f p then bst f g ps (some (d, q)) else bst f g ps (some (f p, g p))
theorem bst_app (f g : List Nat → Int32) : ∀ (a b : List (List Nat)) (o : Option (Int32 × Int32)), bst f g (a ++ b) o = bst f g b (bst f g a o)
  | [], _, _ => rfl
  | p :: ps, b, none => by
    rw [List.cons_append, bst, bst]; exact bst_app f g ps b _
  | p :: ps, b, some (d, q) => by
    rw [List.cons_append, bst, bst]
    by_cases h : d ≤ f p
    · rw [if_pos h, if_pos h]; exact bst_app f g ps b _
    · rw [if_neg h, if_neg h]; exact bst_app f g ps b _
theorem ordY_ib {V : Mem} {k : Nat} {p : List Nat} (vo : VOK V) (hk : k < vM V) (hp : ∀ b, b < vL V k → p.getD b 0 < vL V k) : ∀ b, b < vL V k → ib (ordY V k p b) 8 := fun b hb => (vo.2.2.2 k hk).2.2.2 _ (hp b hb)
theorem ordG_ne {V : Mem} {k : Nat} {p : List Nat} (vo : VOK V) (hk : k < vM V) (hp : ∀ b, b < vL V k → p.getD b 0 < vL V k) : ordG V k p ≠ -1 := by
  have l5 := (vo.2.2.2 k hk).2.2.1.2
  obtain ⟨r, e, h⟩ := digI_lt (ordY_ib vo hk hp) l5 (vL V k) 0 0 (by omega) (by decide)
  unfold ordG
  rw [show (0 : Int32) = nI 0 from rfl, e]
  have : 10 ^ vL V k ≤ 10 ^ 5 := Nat.pow_le_pow_right (by decide) l5
  have h2 : r < 100000 := by omega
  intro z
  have z := congrArg Int32.toInt z
  rw [nI_t (by omega), m1_t] at z
  omega
/-- one order of the class -/
theorem fN_best_b78_eq {V M : Mem} {tl : Tell} {k : Nat} {p : List Nat} (vo : VOK V) (hk : k < vM V) (hp : ∀ b, b < vL V k → p.getD b 0 < vL V k) (hM : ∀ i, i < vL V k → M (7 + 2 * k) i = V (8 + k) i) (k65 : Int32 → Int32 → Int32 → Mem → Option (Int32 × Mem)) (w N a5 a6 a7 : Int32) : ∀ (c i z : Nat) (C : Mem) (acc : Int32) (x : Stk), i + c = vL V k → c < z → (∀ b, b < vL V k → C 58 b = nI (p.getD b 0)) → Wd27 (rowV V k (vL V k) x) tl M C → (∀ b, b < vL V k → ib (x b) 8) → (∀ b, b < i → x b = ordY V k p b) → ∃ C', fN_best_b78 k65 (nI k) w (nI (vL V k)) N a5 a6 a7 z acc (nI i) C = (if a7 = 0 then fN_best_b175 k65 (nI k) w (nI (vL V k)) N a7 (digI (ordY V k p) c i acc) (ordF V tl k p) C' else if a5 ≤ ordF V tl k p then fN_best_b183 k65 (nI k) w (nI (vL V k)) N a5 a6 a7 C' else fN_best_b175 k65 (nI k) w (nI (vL V k)) N a7 (digI (ordY V k p) c i acc) (ordF V tl k p) C') ∧ Wd27 (rowV V k (vL V k) (ordY V k p)) tl M C' ∧ C' 58 = C 58 := by
  have l5 := (vo.2.2.2 k hk).2.2.1.2
  have m4 := vo.2.2.1.2
  intro c
  induction c with
  | zero =>
    intro i z C acc x hi hz h58 wd hx he
    obtain ⟨z, rfl⟩ := Nat.exists_eq_succ_of_ne_zero (show z ≠ 0 by omega)
    rw [rowV_eq (fun b hb => he b (by omega))] at wd
    obtain ⟨C', d1, d2, w2, kd⟩ := wd.dear
    refine ⟨C', ?_, w2, kd 58 (by omega)⟩
    rw [fN_best_b78, if_pos (by rw [n_le (by omega) (by omega)]; omega), d1, Option.bind_some, d2, Option.bind_some]
    rfl
  | succ c ih =>
    intro i z C acc x hi hz h58 wd hx he
    obtain ⟨z, rfl⟩ := Nat.exists_eq_succ_of_ne_zero (show z ≠ 0 by omega)
    have hc := wd.cells
    have hpi := hp i (by omega)
    have ei : M (7 + 2 * k) (p.getD i 0) = ordY V k p i := hM _ hpi
    have w2 : Wd27 (rowV V k (vL V k) (stS x i (ordY V k p i))) tl M (wr C (33 + 2 * k) i (ordY V k p i)) := by
      refine wd.put (by omega) (by omega) ?_ (VOK.row vo (fun b hb => ?_))
      · have := view_list (h := 27) (k := k) (i := i) (x := ordY V k p i) (C := C) (by rw [hc.2.1, rowV_M]; exact hk) (by rw [show 27 + 5 + 2 * k = 32 + 2 * k by omega, hc.2.2 k (by rw [rowV_M]; exact hk), rowV_L]; omega)
        rw [show 27 + 6 + 2 * k = 33 + 2 * k by omega] at this
        rw [this, ← wd.1.2.1, rowV_wr (by omega)]
      · unfold stS
        split
        · exact ordY_ib vo hk hp i (by omega)
        · exact hx b hb
    obtain ⟨C', d1, d2, d3⟩ := ih (i + 1) z (wr C (33 + 2 * k) i (ordY V k p i)) (acc * 10 + ordY V k p i + 1) _ (by omega) (by omega) (fun b hb => by rw [wr_ne (by omega)]; exact h58 b hb) w2 (fun b hb => by
      unfold stS
      split
      · exact ordY_ib vo hk hp i (by omega)
      · exact hx b hb) (fun b hb => by
      unfold stS
      split
      · rename_i e; rw [e]
      · exact he b (by omega))
    refine ⟨C', ?_, d2, by rw [d3, wr_ne (by omega)]⟩
    have g4 : ib (nI k) 4 := ib_nI (by omega) (by omega)
    have g5 : ib (nI i) 5 := ib_nI (by omega) (by omega)
    have eC : C (7 + 2 * k) = M (7 + 2 * k) := wd.2 _ (by omega) (by omega)
    rw [fN_best_b78, if_neg (by rw [n_le (by omega) (by omega)]; omega), if_pos g4, if_pos g5, ix_nI (by omega), ix_nI (by omega), h58 i (by omega), if_pos (ib_nI (by omega) (by omega)), if_pos g4, if_pos g5, ix_nI (by omega), nI_1, show 6 + 2 * k + 1 = 7 + 2 * k by omega, show 32 + 2 * k + 1 = 33 + 2 * k by omega, eC, ei, d1, digI]
