/-! 64: orders, one behind the other -/
def swp (l : List Nat) (i j : Nat) : Option (List Nat) := if i < l.length ∧ j < l.length then some ((l.set i (l.getD j 0)).set j (l.getD i 0)) else none
def nxRev : Nat → Nat → Nat → List Nat → Option (List Nat)
  | 0, _, _, _ => none
  | z + 1, lo, hi, l => if hi ≤ lo then some l else (swp l lo hi).bind (nxRev z (lo + 1) (hi - 1))
def nxFin (i j : Nat) (l : List Nat) : Option (List Nat) := (swp l i j).bind (nxRev 10 (i + 1) (l.length - 1))
def nxJ : Nat → Nat → Nat → List Nat → Option (List Nat)
  | 0, _, _, _ => none
  | z + 1, i, j, l => if j ≤ i then nxFin i j l else if i < l.length ∧ j < l.length then (if l.getD i 0 ≤ l.getD j 0 then nxFin i j l else nxJ z i (j - 1) l) else none
def nxI : Nat → List Nat → Option (List Nat)
  | 0, l => some l
  | q + 1, l => if q + 1 < l.length then (if l.getD q 0 ≤ l.getD (q + 1) 0 then nxJ 10 q (l.length - 1) l else nxI q l) else none
def R58 (l : List Nat) (C : Mem) : Prop := l.length ≤ 5 ∧ (∀ b, b < l.length → l.getD b 0 < 5) ∧ ∀ b, b < l.length → C 58 b = nI (l.getD b 0)
def K58 (C D : Mem) : Prop := ∀ a, a ≠ 58 → D a = C a
theorem K58.trans {C D E : Mem} (a : K58 C D) (b : K58 D E) : K58 C E := fun x h => (b x h).trans (a x h)
theorem getD_set {l : List Nat} {i b v : Nat} (hi : i < l.length) : (l.set i v).getD b 0 = if b = i then v else l.getD b 0 := by
  rw [List.getD_eq_getElem?_getD, List.getD_eq_getElem?_getD]
  by_cases h : b = i
  · subst h; rw [if_pos rfl, List.getElem?_set_self hi]; rfl
  · rw [if_neg h, List.getElem?_set_ne (fun z => h z.symm)]
theorem swap_eq {l l' : List Nat} {i j : Nat} {C : Mem} (r : R58 l C) (h : swp l i j = some l') : ∃ D, fN_swapPlaces (nI i) (nI j) C = some D ∧ R58 l' D ∧ K58 C D ∧ l'.length = l.length := by
  unfold swp at h
  by_cases hc : i < l.length ∧ j < l.length
  · rw [if_pos hc] at h
    cases h
    obtain ⟨r1, r2, r3⟩ := r
    have gi : ib (nI i) 5 := ib_nI (by omega) (by omega)
    have gj : ib (nI j) 5 := ib_nI (by omega) (by omega)
    have hl : ((l.set i (l.getD j 0)).set j (l.getD i 0)).length = l.length := by rw [List.length_set, List.length_set]
    have hg : ∀ b, ((l.set i (l.getD j 0)).set j (l.getD i 0)).getD b 0 = if b = j then l.getD i 0 else if b = i then l.getD j 0 else l.getD b 0 := fun b => by
      rw [getD_set (by rw [List.length_set]; exact hc.2), getD_set hc.1]
    refine ⟨wr (wr C 58 i (C 58 j)) 58 j (C 58 i), ?_, ⟨by rw [hl]; exact r1, fun b hb => ?_, fun b hb => ?_⟩, fun a ha => ?_, hl⟩
    · unfold fN_swapPlaces
      rw [if_pos gi, if_pos gj, if_pos gi, if_pos gj, ix_nI (by omega), ix_nI (by omega)]
    · rw [hl] at hb
      rw [hg]
      split
      · exact r2 i hc.1
      · split
        · exact r2 j hc.2
        · exact r2 b hb
    · rw [hl] at hb
      rw [hg]
      unfold wr
      by_cases h1 : b = j
      · rw [if_pos ⟨rfl, h1⟩, if_pos h1]; exact r3 i hc.1
      · rw [if_neg (fun z => h1 z.2), if_neg h1]
        by_cases h2 : b = i
        · rw [if_pos ⟨rfl, h2⟩, if_pos h2]; exact r3 j hc.2
        · rw [if_neg (fun z => h2 z.2), if_neg h2]; exact r3 b hb
    · rw [wr_ne ha, wr_ne ha]
  · rw [if_neg hc] at h; cases h
theorem rev_eq : ∀ (z Z lo hi : Nat) (l l' : List Nat) (C : Mem), R58 l C → z ≤ Z → lo < 100 → hi < 100 → nxRev z lo hi l = some l' → ∃ D, fN_nextOrder_b82 Z (nI lo) (nI hi) C = some D ∧ R58 l' D ∧ K58 C D ∧ l'.length = l.length
  | 0, _, _, _, _, _, _, _, _, _, _, h => by cases h
  | z + 1, 0, _, _, _, _, _, _, h, _, _, _ => absurd h (by omega)
  | z + 1, Z + 1, lo, hi, l, l', C, r, hz, h1, h2, h => by
    rw [nxRev] at h
    by_cases hc : hi ≤ lo
    · rw [if_pos hc] at h
      cases h
      exact ⟨C, by rw [fN_nextOrder_b82, if_pos (by rw [n_le (by omega) (by omega)]; exact hc)], r, fun _ _ => rfl, rfl⟩
    · rw [if_neg hc] at h
      cases hs : swp l lo hi with
      | none => rw [hs] at h; cases h
      | some l1 =>
        rw [hs, Option.bind_some] at h
        obtain ⟨D1, d1, d2, d3, d4⟩ := swap_eq r hs
        have hlen : lo < l.length ∧ hi < l.length := by
          unfold swp at hs
          by_cases hq : lo < l.length ∧ hi < l.length
          · exact hq
          · rw [if_neg hq] at hs; cases hs
        obtain ⟨D, e1, e2, e3, e4⟩ := rev_eq z Z (lo + 1) (hi - 1) l1 l' D1 d2 (by omega) (by have := r.1; omega) (by omega) h
        refine ⟨D, ?_, e2, d3.trans e3, e4.trans d4⟩
        rw [fN_nextOrder_b82, if_neg (by rw [n_le (by omega) (by omega)]; exact hc), d1, Option.bind_some, nI_1, nI_pdm (by omega)]
        exact e1
theorem fin_eq {l l' : List Nat} {i j n : Nat} {C : Mem} (r : R58 l C) (hn : l.length = n) (hn1 : 1 ≤ n) (hi : i < 50) (h : nxFin i j l = some l') : ∃ D, fN_nextOrder_b66 (nI n) (nI i) (nI j) C = some D ∧ R58 l' D ∧ K58 C D ∧ l'.length = n := by
  unfold nxFin at h
  cases hs : swp l i j with
  | none => rw [hs] at h; cases h
  | some l1 =>
    rw [hs, Option.bind_some] at h
    obtain ⟨D1, d1, d2, d3, d4⟩ := swap_eq r hs
    obtain ⟨D, e1, e2, e3, e4⟩ := rev_eq 10 1000 (i + 1) (l.length - 1) l1 l' D1 d2 (by omega) (by omega) (by have := r.1; omega) h
    refine ⟨D, ?_, e2, d3.trans e3, by omega⟩
    unfold fN_nextOrder_b66
    rw [d1, Option.bind_some, nI_1, nI_pd hn1, ← hn]
    exact e1
theorem j_eq {n : Nat} (hn1 : 1 ≤ n) : ∀ (z Z i j : Nat) (l l' : List Nat) (C : Mem), R58 l C → l.length = n → z ≤ Z → i < 50 → j < 50 → nxJ z i j l = some l' → ∃ D, fN_nextOrder_b40 (nI n) (nI i) Z (nI j) C = some D ∧ R58 l' D ∧ K58 C D ∧ l'.length = n
  | 0, _, _, _, _, _, _, _, _, _, _, _, h => by cases h
  | z + 1, 0, _, _, _, _, _, _, _, h, _, _, _ => absurd h (by omega)
  | z + 1, Z + 1, i, j, l, l', C, r, hn, hz, h1, h2, h => by
    rw [nxJ] at h
    rw [fN_nextOrder_b40]
    by_cases hc : j ≤ i
    · rw [if_pos hc] at h
      rw [if_pos (by rw [n_le (by omega) (by omega)]; exact hc)]
      exact fin_eq r hn hn1 h1 h
    · rw [if_neg hc] at h
      rw [if_neg (by rw [n_le (by omega) (by omega)]; exact hc)]
      by_cases hq : i < l.length ∧ j < l.length
      · have r1 := r.1
        have bi := r.2.1 i hq.1
        have bj := r.2.1 j hq.2
        rw [if_pos hq] at h
        rw [if_pos (ib_nI (by omega) (by omega)), if_pos (ib_nI (by omega) (by omega)), ix_nI (by omega), ix_nI (by omega), r.2.2 i hq.1, r.2.2 j hq.2]
        by_cases hle : l.getD i 0 ≤ l.getD j 0
        · rw [if_pos hle] at h
          rw [if_pos (by rw [n_le (by omega) (by omega)]; exact hle)]
          exact fin_eq r hn hn1 h1 h
        · rw [if_neg hle] at h
          rw [if_neg (by rw [n_le (by omega) (by omega)]; exact hle), nI_pdm (by omega)]
          exact j_eq hn1 z Z i (j - 1) l l' C r hn (by omega) h1 (by omega) h
      · rw [if_neg hq] at h; cases h
theorem i_eq' {n : Nat} (hn1 : 1 ≤ n) : ∀ (q Z : Nat) (l l' : List Nat) (C : Mem), R58 l C → l.length = n → q < Z → q < n → nxI q l = some l' → ∃ D, fN_nextOrder_b4 (nI n) Z (nI q - 1) C = some D ∧ R58 l' D ∧ K58 C D ∧ l'.length = n
  | 0, 0, _, _, _, _, _, h, _, _ => absurd h (by omega)
  | 0, Z + 1, l, l', C, r, hn, hz, hq, h => by
    rw [nxI] at h
    cases h
    refine ⟨C, ?_, r, fun _ _ => rfl, hn⟩
    rw [fN_nextOrder_b4, if_pos (by decide)]
    unfold fN_nextOrder_b31
    rw [if_neg (by decide)]
  | q + 1, 0, _, _, _, _, _, h, _, _ => absurd h (by omega)
  | q + 1, Z + 1, l, l', C, r, hn, hz, hq, h => by
    have r1 := r.1
    rw [nxI] at h
    have hql : q + 1 < l.length := by omega
    rw [if_pos hql] at h
    have b1 := r.2.1 q (by omega)
    have b2 := r.2.1 (q + 1) hql
    rw [nI_pd (by omega), Nat.add_sub_cancel, fN_nextOrder_b4, if_neg (by rw [i_lt, show (0 : Int32).toInt = 0 from rfl, nI_t (by omega)]; omega), if_pos (ib_nI (by omega) (by omega)), nI_1, if_pos (ib_nI (by omega) (by omega)), ix_nI (by omega), ix_nI (by omega), r.2.2 q (by omega), r.2.2 (q + 1) hql]
    by_cases hle : l.getD q 0 ≤ l.getD (q + 1) 0
    · rw [if_pos hle] at h
      rw [if_pos (by rw [n_le (by omega) (by omega)]; exact hle)]
      unfold fN_nextOrder_b31
      rw [if_pos (by rw [show (0 : Int32) = nI 0 from rfl, n_le (by omega) (by omega)]; omega), nI_pd hn1, ← hn]
      have := j_eq (n := n) hn1 10 1000 q (l.length - 1) l l' C r hn (by omega) (by omega) (by omega) h
      rw [← hn] at this
      exact this
    · rw [if_neg hle] at h
      rw [if_neg (by rw [n_le (by omega) (by omega)]; exact hle), show nI q + (-1) = nI q - 1 from (Int32.sub_eq_add_neg _ _).symm]
      exact i_eq' hn1 q Z l l' C r hn (by omega) (by omega) h
theorem nextOrder_eq {l l' : List Nat} {C : Mem} (r : R58 l C) (h : nxI (l.length - 1) l = some l') : ∃ D, fN_nextOrder (nI l.length) C = some D ∧ R58 l' D ∧ K58 C D ∧ l'.length = l.length := by
  unfold fN_nextOrder
  by_cases h0 : l.length = 0
  · rw [h0] at h ⊢
    rw [show 0 - 1 = 0 from rfl, nxI] at h
    cases h
    refine ⟨C, ?_, r, fun _ _ => rfl, h0⟩
    show fN_nextOrder_b4 (nI 0) (999 + 1) (nI 0 - 2) C = some C
    rw [fN_nextOrder_b4, if_pos (by decide)]
    unfold fN_nextOrder_b31
    rw [if_neg (by decide)]
  · have e : nI l.length - 2 = nI (l.length - 1) - 1 := by
      rw [← nI_pd (show 1 ≤ l.length by omega), Int32.sub_eq_add_neg, Int32.sub_eq_add_neg, Int32.sub_eq_add_neg (nI l.length), Int32.add_assoc]
      rfl
    rw [e]
    exact i_eq' (n := l.length) (by omega) (l.length - 1) 1000 l l' C r rfl (by have := r.1; omega) (by omega) h
/-- all orders of what P leaves, the first ahead -/
def lexQ (n : Nat) : Nat → (Nat → Bool) → List (List Nat)
  | 0, _ => [[]]
  | c + 1, P => (List.range' 0 n).flatMap (fun x => if P x then (lexQ n c (fun r => P r && r != x)).map (fun p => x :: p) else [])
def prm (n : Nat) : List (List Nat) := lexQ n n (fun _ => true)
theorem prm_dec : (List.range 6).all (fun n => (prm n).length == [1, 1, 2, 6, 24, 120].getD n 0 && (prm n).getD 0 [] == List.range n && (List.range (prm n).length).all (fun t => ((prm n).getD t []).length == n && ((prm n).getD t []).all (fun x => x < n) && (nxI (n - 1) ((prm n).getD t []) == some (if t + 1 < (prm n).length then (prm n).getD (t + 1) [] else (prm n).getD t [])))) = true := by decide +kernel
theorem getD_mem {l : List Nat} {b : Nat} (h : b < l.length) : l.getD b 0 ∈ l := by
  rw [List.getD_eq_getElem?_getD, List.getElem?_eq_getElem h]
  exact List.getElem_mem h
theorem prm_ok {n : Nat} (hn : n < 6) : (prm n).length = [1, 1, 2, 6, 24, 120].getD n 0 ∧ (prm n).getD 0 [] = List.range n ∧ ∀ t, t < (prm n).length → ((prm n).getD t []).length = n ∧ (∀ b, b < n → ((prm n).getD t []).getD b 0 < n) ∧ nxI (n - 1) ((prm n).getD t []) = some (if t + 1 < (prm n).length then (prm n).getD (t + 1) [] else (prm n).getD t []) := by
  have h := prm_dec
  rw [List.all_eq_true] at h
  have h := h n (List.mem_range.2 hn)
  rw [Bool.and_eq_true, Bool.and_eq_true] at h
  refine ⟨eq_of_beq h.1.1, eq_of_beq h.1.2, fun t ht => ?_⟩
  have h2 := h.2
  rw [List.all_eq_true] at h2
  have h3 := h2 t (List.mem_range.2 ht)
  rw [Bool.and_eq_true, Bool.and_eq_true] at h3
  have hl : ((prm n).getD t []).length = n := eq_of_beq h3.1.1
  refine ⟨hl, fun b hb => ?_, eq_of_beq h3.2⟩
  have h4 := h3.1.2
  rw [List.all_eq_true] at h4
  have h5 := h4 (((prm n).getD t []).getD b 0) (getD_mem (by omega))
  exact of_decide_eq_true h5
/-- the first order -/
theorem firstOrder_eq {n : Nat} (hn : n < 6) : ∀ (c i z : Nat) (M : Mem), i + c = n → c < z → (∀ b, b < i → M 58 b = nI b) → ∃ D, fN_firstOrder_b4 (nI n) z (nI ([1, 1, 2, 6, 24, 120].getD i 0)) (nI i) M = some (nI ([1, 1, 2, 6, 24, 120].getD n 0), D) ∧ (∀ b, b < n → D 58 b = nI b) ∧ K58 M D := by
  intro c
  induction c with
  | zero =>
    intro i z M hi hz h
    obtain ⟨z, rfl⟩ := Nat.exists_eq_succ_of_ne_zero (show z ≠ 0 by omega)
    have : i = n := by omega
    subst this
    exact ⟨M, by rw [fN_firstOrder_b4, if_pos (by rw [n_le (by omega) (by omega)]; omega)], h, fun _ _ => rfl⟩
  | succ c ih =>
    intro i z M hi hz h
    obtain ⟨z, rfl⟩ := Nat.exists_eq_succ_of_ne_zero (show z ≠ 0 by omega)
    obtain ⟨D, d1, d2, d3⟩ := ih (i + 1) z (wr M 58 i (nI i)) (by omega) (by omega) (fun b hb => by
      by_cases e : b = i
      · rw [e, wr_same]
      · rw [wr_at e]; exact h b (by omega))
    refine ⟨D, ?_, d2, fun a ha => by rw [d3 a ha, wr_ne ha]⟩
    have hs : nI ([1, 1, 2, 6, 24, 120].getD i 0) * (nI i + 1) = nI ([1, 1, 2, 6, 24, 120].getD (i + 1) 0) := by
      have : ∀ i, i < 5 → nI ([1, 1, 2, 6, 24, 120].getD i 0) * (nI i + 1) = nI ([1, 1, 2, 6, 24, 120].getD (i + 1) 0) := by decide
      exact this i (by omega)
    rw [fN_firstOrder_b4, if_neg (by rw [n_le (by omega) (by omega)]; omega), if_pos (ib_nI (by omega) (by omega)), ix_nI (by omega), hs, nI_1]
    exact d1
