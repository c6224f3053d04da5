/-! 68: the best order: the tree of the model -/
/-- what the tree does at depth e, with c more to lay -/
def OTree (V : Mem) (tl : Tell) (k : Nat) (D0 : Mem) (c : Nat) (d : Nat) : Prop := ∀ (e : Nat) (pre : List Nat) (P : Nat → Bool) (x : Int32) (D : Mem) (o : Option (Int32 × Int32)), e + c = vL V k → pre.length = e → (∀ b, b < e → pre.getD b 0 < vL V k) → Bit x (fun r => P r = false) → KeepO k D0 D → (∀ b, b < e → D 95 (5 * k + b) = ordY V k pre b) → oSt o D → ∃ D', f_rO d (nI k) (nI e) x D = some D' ∧ KeepO k D0 D' ∧ (∀ b, b < e → D' 95 (5 * k + b) = ordY V k pre b) ∧ oSt (bst (ordF V tl k) (ordG V k) ((lexQ (vL V k) c P).map (fun s => pre ++ s)) o) D'
theorem getD_app_l {a b : List Nat} {i : Nat} (h : i < a.length) : (a ++ b).getD i 0 = a.getD i 0 := by
  rw [List.getD_eq_getElem?_getD, List.getD_eq_getElem?_getD, List.getElem?_append_left h]
theorem getD_app_1 {a : List Nat} {x : Nat} : (a ++ [x]).getD a.length 0 = x := by
  rw [List.getD_eq_getElem?_getD, List.getElem?_concat_length]
  rfl
theorem bitP {x : Int32} {P : Nat → Bool} (h : Bit x (fun r => P r = false)) {r : Nat} (hr : r < 8) : ((x >>> (nI r &&& 31)) &&& 1 = 0) ↔ P r = true := by
  obtain ⟨n, -, -, q⟩ := h
  rw [q r hr]
  show ¬ (P r = false) ↔ P r = true
  cases P r <;> simp
theorem fM_b93_eq {V D0 : Mem} {tl : Tell} {k c d e : Nat} (vo : VOK V) (hk : k < vM V) (h105 : ∀ i, i < vL V k → D0 105 i = V (8 + k) i) (ih : OTree V tl k D0 c d) (he : e + (c + 1) = vL V k) {pre : List Nat} (hl : pre.length = e) (hp : ∀ b, b < e → pre.getD b 0 < vL V k) {P : Nat → Bool} {x : Int32} (hx : Bit x (fun r => P r = false)) : ∀ (m r z : Nat) (D : Mem) (o : Option (Int32 × Int32)), r + m = vL V k → m < z → KeepO k D0 D → (∀ b, b < e → D 95 (5 * k + b) = ordY V k pre b) → oSt o D → ∃ D', fM_orders_b93 (f_rO d) (nI k) (nI e) x (nI (vL V k)) z (nI r) D = some D' ∧ KeepO k D0 D' ∧ (∀ b, b < e → D' 95 (5 * k + b) = ordY V k pre b) ∧ oSt (bst (ordF V tl k) (ordG V k) (((List.range' r m).flatMap (fun y => if P y then (lexQ (vL V k) c (fun r => P r && r != y)).map (fun p => y :: p) else [])).map (fun s => pre ++ s)) o) D' := by
  have l5 := (vo.2.2.2 k hk).2.2.1.2
  have m4 := vo.2.2.1.2
  intro m
  induction m with
  | zero =>
    intro r z D o hr hz ko hd ho
    obtain ⟨z, rfl⟩ := Nat.exists_eq_succ_of_ne_zero (show z ≠ 0 by omega)
    exact ⟨D, by rw [fM_orders_b93, if_pos (by rw [n_le (by omega) (by omega)]; omega)], ko, hd, ho⟩
  | succ m ihm =>
    intro r z D o hr hz ko hd ho
    obtain ⟨z, rfl⟩ := Nat.exists_eq_succ_of_ne_zero (show z ≠ 0 by omega)
    rw [fM_orders_b93, if_neg (by rw [n_le (by omega) (by omega)]; omega), List.range'_succ, List.flatMap_cons, List.map_append, bst_app]
    unfold fM_orders_b140
    rw [nI_1]
    cases hP : P r with
    | false =>
      rw [if_neg (by rw [bitP hx (by omega), hP]; decide), if_neg (by decide), List.map_nil, bst, nI_1]
      exact ihm (r + 1) z D o (by omega) (by omega) ko hd ho
    | true =>
      have e5 : (5 : Int32) * nI k + nI e = nI (5 * k + e) := by rw [show (5 : Int32) = nI 5 from rfl, pk_mul, ← nI_add]
      have er : D 105 r = V (8 + k) r := by rw [ko.1 105 (by omega) (by omega) (by omega)]; exact h105 r (by omega)
      have hg : ∀ b, b < e + 1 → (pre ++ [r]).getD b 0 = if b = e then r else pre.getD b 0 := fun b hb => by
        by_cases hbe : b = e
        · rw [if_pos hbe, hbe, ← hl]; exact getD_app_1
        · rw [if_neg hbe]; exact getD_app_l (by omega)
      obtain ⟨D2, d1, d2, d3, d4⟩ := ih (e + 1) (pre ++ [r]) (fun i => P i && i != r) (x ||| (1 <<< (nI r &&& 31))) (wr D 95 (5 * k + e) (V (8 + k) r)) o (by omega) (by rw [List.length_append, hl]; rfl) (fun b hb => by
        rw [hg b hb]
        split
        · omega
        · exact hp b (by omega)) ((hx.or (q := r) (by omega)).iff (fun i hi => by
          by_cases e1 : r = i
          · subst e1; simp
          · cases P i <;> simp [e1, Ne.symm e1])) (ko.trans (KeepO.put (by omega))) (fun b hb => by
        unfold ordY
        rw [hg b hb]
        by_cases hbe : b = e
        · rw [if_pos hbe, hbe, wr_same]
        · rw [if_neg hbe, wr_at (by omega)]; exact hd b (by omega)) (ho.same (by rw [wr_ne (by decide)]) (by rw [wr_ne (by decide)]))
      have hd2 : ∀ b, b < e → D2 95 (5 * k + b) = ordY V k pre b := fun b hb => by
        rw [d3 b (by omega)]
        unfold ordY
        rw [hg b (by omega), if_neg (by omega)]
      obtain ⟨D', q1, q2, q3, q4⟩ := ihm (r + 1) z D2 _ (by omega) (by omega) d2 hd2 d4
      refine ⟨D', ?_, q2, q3, ?_⟩
      · rw [if_pos ((bitP hx (by omega)).2 hP), if_pos (ib_nI (by omega) (by omega)), e5, if_pos (ib_nI (by omega) (by omega)), ix_nI (by omega), ix_nI (by omega), er, nI_1, d1, Option.bind_some]
        exact q1
      · rw [if_pos rfl, List.map_map]
        rw [show ((fun s => pre ++ s) ∘ fun p => r :: p) = (fun s => (pre ++ [r]) ++ s) from by funext s; simp]
        exact q4
theorem OTree_all {V D0 : Mem} {tl : Tell} {k : Nat} (vo : VOK V) (hk : k < vM V) (mv : MV V 4 D0) (vm : VMo (D0 85 4) tl (D0 86) (D0 87)) (h105 : ∀ i, i < vL V k → D0 105 i = V (8 + k) i) : ∀ (c d : Nat), c < d → OTree V tl k D0 c d := by
  have l5 := (vo.2.2.2 k hk).2.2.1.2
  have m4 := vo.2.2.1.2
  intro c
  induction c with
  | zero =>
    intro d hd e pre P x D o he hl hp hx ko h95 ho
    obtain ⟨d, rfl⟩ := Nat.exists_eq_succ_of_ne_zero (show d ≠ 0 by omega)
    have : e = vL V k := by omega
    subst this
    obtain ⟨D', d1, d2, d3, d4⟩ := fM_leaf vo hk mv vm ko hp h95 ho (f_rO d) x
    refine ⟨D', by rw [f_rO]; exact d1, d2, fun b hb => by rw [d3]; exact h95 b hb, ?_⟩
    rw [lexQ, List.map_cons, List.map_nil, List.append_nil]
    exact d4
  | succ c ih =>
    intro d hd e pre P x D o he hl hp hx ko h95 ho
    obtain ⟨d, rfl⟩ := Nat.exists_eq_succ_of_ne_zero (show d ≠ 0 by omega)
    have e96 : D 96 k = nI (vL V k) := by
      rw [ko.1 96 (by omega) (by omega) (by omega)]
      have := ((mv.2.2.2.2.2.2.2 k hk).1).2.2.2
      unfold sk at this
      rw [if_pos (by omega)] at this
      rw [this]
      exact (vo.2.2.2 k hk).2.2.1.1
    obtain ⟨D', d1, d2, d3, d4⟩ := fM_b93_eq (tl := tl) vo hk h105 (ih d (by omega)) he hl hp hx (vL V k) 0 1000 D o (by omega) (by omega) ko h95 ho
    refine ⟨D', ?_, d2, d3, by rw [lexQ]; exact d4⟩
    rw [f_rO]
    unfold fM_orders
    rw [if_pos (ib_nI (by omega) (by omega)), ix_nI (by omega), e96, if_neg (by rw [n_eq (by omega) (by omega)]; omega)]
    exact d1
