/-! 47: the master, counts, kinds -/
/-- both know where he is -/
theorem mst_both {M : Mem} (hR : Rel M) : ∃ g : Int32 → Int32, (∀ (N : Mem) (t : Int32), (∀ j, j < 4 → N 1 j = M 1 j) → N 2 = M 2 → N 3 = M 3 → fH_masterIn 1 t N = some (g t, N)) ∧ (∀ (N : Mem) (t : Int32), N 85 11 = M 85 11 → N 90 = M 90 → N 91 = M 91 → 0 ≤ t.toInt → fM_masterIn t N = some (g t, N)) ∧ ∀ t, 0 ≤ t.toInt → g t = -1 ∨ ib (g t) 8 := by
  obtain ⟨n, n1, n2, n3, n4⟩ := hR.2.1
  have ok : okMin n (M 91) := ⟨n1, fun i hi => by rw [(n4 i hi).2.2.2]; exact (n4 i hi).2.2.1⟩
  refine ⟨mst n (M 2) (M 3), fun N t a b c => ?_, fun N t a b c h => ?_, fun t ht => ?_⟩
  · have := fH_masterIn_eq (h := 1) (n := n) (M := N) t (by rw [a 1 (by omega)]; exact n2) n1
    rw [this, show N (1 + 1) = M 2 from b, show N (1 + 2) = M 3 from c]
  · rw [fM_masterIn_eq t h (by rw [a]; exact n3) (by rw [c]; exact ok), b, c]
    rw [mst_congr (r' := M 2) (m' := M 3) t (fun j hj => ⟨(n4 j hj).2.1, (n4 j hj).2.2.2⟩)]
  · unfold mst
    by_cases hs : 0 < sumF (M 3) n 0 0
    · rw [if_pos hs]
      have key : ∀ (c i : Nat) (l : Int32), i + c ≤ n → scanF (M 2) (M 3) c i l = -1 ∨ ib (scanF (M 2) (M 3) c i l) 8 := by
        intro c
        induction c with
        | zero => intro i l _; exact Or.inl rfl
        | succ c ih =>
          intro i l h
          rw [scanF]
          by_cases hm : M 3 i ≤ l
          · rw [if_pos hm]; exact ih (i + 1) _ (by omega)
          · rw [if_neg hm]; exact Or.inr (n4 i (by omega)).1
      exact key n 0 _ (by omega)
    · rw [if_neg hs]; exact Or.inl rfl
theorem op_master (a : Int32) : Op (fN_master a) (fM_master a) := by
  intro M hR
  obtain ⟨g, g1, g2, -⟩ := mst_both hR
  unfold fN_master fM_master
  simp only [fN_w100, fM_i100, Option.bind_some, bz_0]
  by_cases h : ib a 100
  · rw [if_neg (nn h), g1 M a (fun _ _ => rfl) rfl rfl]
    refine ⟨g a, M, M, rfl, ?_, hR⟩
    rw [if_neg (nn h), g2 M a rfl rfl rfl h.1]
    rfl
  · exact ⟨-2, M, M, by rw [if_pos h], by rw [if_pos h], hR⟩
theorem free_both {M : Mem} {g : Int32 → Int32} (g1 : ∀ t, fH_masterIn 1 t M = some (g t, M)) (g2 : ∀ t, 0 ≤ t.toInt → fM_masterIn t M = some (g t, M)) (a : Int32) (t : Nat) : ∀ (c i z z' : Nat), t + i + c = 100 → c < z → c < z' → ∃ v, fN_free_b23 a (nI t) z (nI (t + i)) M = some (v, M) ∧ fM_free_b24 a (nI t) z' (nI i) M = some (v, M) := by
  intro c
  induction c with
  | zero =>
    intro i z z' h hz hz'
    obtain ⟨z, rfl⟩ := Nat.exists_eq_succ_of_ne_zero (show z ≠ 0 by omega)
    obtain ⟨z', rfl⟩ := Nat.exists_eq_succ_of_ne_zero (show z' ≠ 0 by omega)
    refine ⟨nI i, ?_, ?_⟩
    · rw [fN_free_b23, if_pos (by rw [show (100 : Int32) = nI 100 from rfl, n_le (by omega) (by omega)]; omega), fN_free_b47, nI_subm (by omega), Nat.add_sub_cancel_left]
    · rw [fM_free_b24, nI_add, if_pos (by rw [show (100 : Int32) = nI 100 from rfl, n_le (by omega) (by omega)]; omega), fM_free_b49]
  | succ c ih =>
    intro i z z' h hz hz'
    obtain ⟨z, rfl⟩ := Nat.exists_eq_succ_of_ne_zero (show z ≠ 0 by omega)
    obtain ⟨z', rfl⟩ := Nat.exists_eq_succ_of_ne_zero (show z' ≠ 0 by omega)
    rw [fN_free_b23, if_neg (by rw [show (100 : Int32) = nI 100 from rfl, n_le (by omega) (by omega)]; omega), g1, fM_free_b24, nI_add, if_neg (by rw [show (100 : Int32) = nI 100 from rfl, n_le (by omega) (by omega)]; omega), g2 _ (by rw [nI_t (by omega)]; omega)]
    simp only [Option.bind_some]
    by_cases he : g (nI (t + i)) = a
    · rw [if_pos he, if_pos he, fN_free_b47, fM_free_b49, nI_subm (by omega), Nat.add_sub_cancel_left]
      exact ⟨_, rfl, rfl⟩
    · rw [if_neg he, if_neg he, nI_1, nI_1]
      exact ih (i + 1) z z' (by omega) (by omega) (by omega)
theorem op_free (a b : Int32) : Op (fN_free a b) (fM_free a b) := by
  intro M hR
  obtain ⟨g, g1, g2, -⟩ := mst_both hR
  unfold fN_free fM_free
  simp only [fN_w8, fN_w100, fM_r8, fM_i100, Option.bind_some, bz_0]
  by_cases h1 : ib a 8
  · rw [if_neg (nn h1)]
    by_cases h2 : ib b 100
    · rw [if_neg (nn h2)]
      obtain ⟨t, ht, rfl⟩ := ib_ex h2
      obtain ⟨v, e1, e2⟩ := free_both (fun t => g1 M t (fun _ _ => rfl) rfl rfl) (fun t h => g2 M t rfl rfl rfl h) a t (100 - t) 0 1000 1000 (by omega) (by omega) (by omega)
      rw [Nat.add_zero] at e1
      rw [e1]
      refine ⟨v, M, M, rfl, ?_, hR⟩
      rw [if_neg (nn h1), if_neg (nn h2), show (0 : Int32) = nI 0 from rfl, e2]
    · exact ⟨-2, M, M, by rw [if_pos h2], by rw [if_neg (nn h1), if_pos h2], hR⟩
  · exact ⟨-2, M, M, by rw [if_pos h1], by rw [if_pos h1], hR⟩
/-- the most and its first minute, on from t -/
def lonF (g : Int32 → Int32) (a : Int32) : Nat → Nat → Int32 → Int32 → Int32 → Int32 × Int32
  | 0, _, most, first, _ => (most, first)
  | c + 1, t, most, first, run =>
    let r := if g (nI t) = a then 0 else run + 1
    if r ≤ most then lonF g a c (t + 1) most first r else lonF g a c (t + 1) r (nI t - r + 1) r
theorem fN_lon_eq {M : Mem} {g : Int32 → Int32} (g1 : ∀ t, fH_masterIn 1 t M = some (g t, M)) (a w : Int32) : ∀ (c t z : Nat) (most first run : Int32), t + c = 100 → c < z → fN_longestFree_b11 a w z most first run (nI t) M = some (if w = 0 then (lonF g a c t most first run).1 else (lonF g a c t most first run).2, M) := by
  intro c
  induction c with
  | zero =>
    intro t z most first run h hz
    obtain ⟨z, rfl⟩ := Nat.exists_eq_succ_of_ne_zero (show z ≠ 0 by omega)
    rw [fN_longestFree_b11, if_pos (by rw [show (100 : Int32) = nI 100 from rfl, n_le (by omega) (by omega)]; omega), lonF]
    by_cases hw : w = 0
    · rw [if_pos hw, if_pos hw]
    · rw [if_neg hw, if_neg hw]
  | succ c ih =>
    intro t z most first run h hz
    obtain ⟨z, rfl⟩ := Nat.exists_eq_succ_of_ne_zero (show z ≠ 0 by omega)
    rw [fN_longestFree_b11, if_neg (by rw [show (100 : Int32) = nI 100 from rfl, n_le (by omega) (by omega)]; omega), g1]
    simp only [Option.bind_some]
    unfold fN_longestFree_b39 fN_longestFree_b59
    rw [lonF, nI_1]
    by_cases he : g (nI t) = a
    · rw [if_pos he, if_pos he]
      by_cases hl : (0 : Int32) ≤ most
      · rw [if_pos hl, if_pos hl]; exact ih (t + 1) z _ _ _ (by omega) (by omega)
      · rw [if_neg hl, if_neg hl]; exact ih (t + 1) z _ _ _ (by omega) (by omega)
    · rw [if_neg he, if_neg he]
      by_cases hl : run + 1 ≤ most
      · rw [if_pos hl, if_pos hl]; exact ih (t + 1) z _ _ _ (by omega) (by omega)
      · rw [if_neg hl, if_neg hl]; exact ih (t + 1) z _ _ _ (by omega) (by omega)
theorem fM_lon_eq {M : Mem} {g : Int32 → Int32} (g2 : ∀ (x : Int32) t, 0 ≤ t.toInt → fM_masterIn t (wr M 85 20 x) = some (g t, wr M 85 20 x)) (a : Int32) : ∀ (c t z : Nat) (most first run : Int32), t + c = 100 → c < z → fM_longestOf_b12 a z most run (nI t) (wr M 85 20 first) = some ((lonF g a c t most first run).1, wr M 85 20 (lonF g a c t most first run).2) := by
  intro c
  induction c with
  | zero =>
    intro t z most first run h hz
    obtain ⟨z, rfl⟩ := Nat.exists_eq_succ_of_ne_zero (show z ≠ 0 by omega)
    rw [fM_longestOf_b12, if_pos (by rw [show (100 : Int32) = nI 100 from rfl, n_le (by omega) (by omega)]; omega), lonF]
  | succ c ih =>
    intro t z most first run h hz
    obtain ⟨z, rfl⟩ := Nat.exists_eq_succ_of_ne_zero (show z ≠ 0 by omega)
    rw [fM_longestOf_b12, if_neg (by rw [show (100 : Int32) = nI 100 from rfl, n_le (by omega) (by omega)]; omega), g2 _ _ (by rw [nI_t (by omega)]; omega)]
    simp only [Option.bind_some]
    unfold fM_longestOf_b36 fM_longestOf_b54
    rw [lonF, nI_1, wr_wr, wr_wr]
    by_cases he : g (nI t) = a
    · rw [if_pos he, if_pos he]
      by_cases hl : (0 : Int32) ≤ most
      · rw [if_pos hl, if_pos hl]; exact ih (t + 1) z _ _ _ (by omega) (by omega)
      · rw [if_neg hl, if_neg hl]; exact ih (t + 1) z _ _ _ (by omega) (by omega)
    · rw [if_neg he, if_neg he]
      by_cases hl : run + 1 ≤ most
      · rw [if_pos hl, if_pos hl]; exact ih (t + 1) z _ _ _ (by omega) (by omega)
      · rw [if_neg hl, if_neg hl]; exact ih (t + 1) z _ _ _ (by omega) (by omega)
theorem Same.p20 {M : Mem} {x : Int32} : Same M (wr M 85 20 x) := ⟨fun a h => wr_ne (by omega), ⟨by rw [wr_ne (by decide)], by rw [wr_ne (by decide)]⟩, fun j _ => by rw [wr_ne (by decide)], by rw [wr_ne (by decide)], fun j _ => wr_at (by omega)⟩
theorem lon_both {M : Mem} (hR : Rel M) : ∃ L : Int32 → Int32 × Int32, (∀ a w, fN_longestFree a w M = some (if w = 0 then (L a).1 else (L a).2, M)) ∧ ∀ a x, fM_longestOf a (wr M 85 20 x) = some ((L a).1, wr M 85 20 (L a).2) := by
  obtain ⟨g, g1, g2, -⟩ := mst_both hR
  refine ⟨fun a => lonF g a 100 0 0 (-1) 0, fun a w => ?_, fun a x => ?_⟩
  · exact fN_lon_eq (fun t => g1 M t (fun _ _ => rfl) rfl rfl) a w 100 0 1000 0 (-1) 0 (by omega) (by omega)
  · unfold fM_longestOf
    rw [wr_wr]
    exact fM_lon_eq (fun x t h => g2 _ t (by rw [wr_at (by decide)]) (by rw [wr_ne (by decide)]) (by rw [wr_ne (by decide)]) h) a 100 0 1000 0 (-1) 0 (by omega) (by omega)
theorem Rel.p20 {M : Mem} (hR : Rel M) (x : Int32) : Rel (wr M 85 20 x) := hR.same Same.p20 (hR.2.2.2.2.2.2.2.2.2.same (by rw [wr_ne (by decide)]) (wr_ne (by decide)))
theorem op_longest (a w : Int32) : Op (fN_longest a w) (fM_longest a w) := by
  intro M hR
  obtain ⟨L, l1, l2⟩ := lon_both hR
  unfold fN_longest fM_longest
  simp only [fN_w8, fN_w2, fM_r8, fM_i2, Option.bind_some, bz_0]
  by_cases h1 : ib a 8
  · rw [if_neg (nn h1)]
    by_cases h2 : ib w 2
    · rw [if_neg (nn h2), l1]
      have e := l2 a (M 85 20)
      rw [wr_self] at e
      refine ⟨_, M, _, rfl, ?_, hR.p20 (L a).2⟩
      rw [if_neg (nn h1), if_neg (nn h2), e]
      simp only [Option.bind_some]
      rw [wr_same]
      by_cases hw : w = 0
      · rw [if_pos hw, if_pos hw]
      · rw [if_neg hw, if_neg hw]
    · exact ⟨-2, M, M, by rw [if_pos h2], by rw [if_neg (nn h1), if_pos h2], hR⟩
  · exact ⟨-2, M, M, by rw [if_pos h1], by rw [if_pos h1], hR⟩
theorem or_sh0 (x y : Int32) : x ||| ((0 : Int32) <<< y) = x := by
  have : (0 : Int32) <<< y = 0 := by
    apply Int32.toBitVec_inj.mp
    simp
  rw [this, Int32.or_zero]
theorem op_never (k : Int32) : Op (fN_never k) (fM_never k) := by
  intro M hR
  obtain ⟨L, l1, l2⟩ := lon_both hR
  have loop : ∀ (c r z z' : Nat) (s x : Int32), r + c = 8 → c < z → c < z' → ∃ v y, fN_never_b17 k z s (nI r) M = some (v, M) ∧ fM_never_b19 k z' s (nI r) (wr M 85 20 x) = some (v, wr M 85 20 y) := by
    intro c
    induction c with
    | zero =>
      intro r z z' s x h hz hz'
      obtain ⟨z, rfl⟩ := Nat.exists_eq_succ_of_ne_zero (show z ≠ 0 by omega)
      obtain ⟨z', rfl⟩ := Nat.exists_eq_succ_of_ne_zero (show z' ≠ 0 by omega)
      refine ⟨s, x, ?_, ?_⟩
      · rw [fN_never_b17, if_pos (by rw [show (8 : Int32) = nI 8 from rfl, n_le (by omega) (by omega)]; omega)]
      · rw [fM_never_b19, if_pos (by rw [show (8 : Int32) = nI 8 from rfl, n_le (by omega) (by omega)]; omega)]
    | succ c ih =>
      intro r z z' s x h hz hz'
      obtain ⟨z, rfl⟩ := Nat.exists_eq_succ_of_ne_zero (show z ≠ 0 by omega)
      obtain ⟨z', rfl⟩ := Nat.exists_eq_succ_of_ne_zero (show z' ≠ 0 by omega)
      rw [fN_never_b17, if_neg (by rw [show (8 : Int32) = nI 8 from rfl, n_le (by omega) (by omega)]; omega), l1, if_pos rfl, fM_never_b19, if_neg (by rw [show (8 : Int32) = nI 8 from rfl, n_le (by omega) (by omega)]; omega), l2]
      simp only [Option.bind_some]
      unfold fN_never_b39 fM_never_b40
      rw [nI_1]
      by_cases hk : k ≤ (L (nI r)).1
      · rw [if_pos hk, if_pos hk, or_sh0]
        exact ih (r + 1) z z' s _ (by omega) (by omega) (by omega)
      · rw [if_neg hk, if_neg hk]
        exact ih (r + 1) z z' _ _ (by omega) (by omega) (by omega)
  unfold fN_never fM_never
  simp only [fM_i101, Option.bind_some, bz_0]
  have t0 : (0 : Int32).toInt = 0 := rfl
  have t100 : (100 : Int32).toInt = 100 := rfl
  by_cases h1 : ib k 101
  · obtain ⟨v, y, e1, e2⟩ := loop 8 0 1000 1000 0 (M 85 20) (by omega) (by omega) (by omega)
    rw [wr_self] at e2
    rw [if_neg (by rw [i_lt, t0]; have := h1.1; omega), if_pos (by rw [i_le, t100]; have := h1.2; omega)]
    refine ⟨v, M, wr M 85 20 y, e1, ?_, hR.p20 y⟩
    rw [if_neg (nn h1)]
    exact e2
  · refine ⟨-2, M, M, ?_, by rw [if_pos h1], hR⟩
    by_cases h2 : k < 0
    · rw [if_pos h2]
    · rw [if_neg h2, if_neg (by intro z; rw [i_le, t100] at z; rw [i_lt, t0] at h2; exact h1 ⟨by omega, by omega⟩)]
theorem fM_count_b89_eq (M : Mem) : fM_count_b89 1000 0 0 M = some (sumF (M 89) 8 0 0, M) := by
  have loop : ∀ (c k z : Nat) (acc : Int32), k + c = 8 → c < z → fM_count_b89 z acc (nI k) M = some (sumF (M 89) c k acc, M) := by
    intro c
    induction c with
    | zero =>
      intro k z acc hk hz
      obtain ⟨z, rfl⟩ := Nat.exists_eq_succ_of_ne_zero (show z ≠ 0 by omega)
      rw [fM_count_b89, if_pos (by rw [show (8 : Int32) = nI 8 from rfl, n_le (by omega) (by omega)]; omega), sumF]
    | succ c ih =>
      intro k z acc hk hz
      obtain ⟨z, rfl⟩ := Nat.exists_eq_succ_of_ne_zero (show z ≠ 0 by omega)
      rw [fM_count_b89, if_neg (by rw [show (8 : Int32) = nI 8 from rfl, n_le (by omega) (by omega)]; omega), if_pos (ib_nI (by omega) (by omega)), ix_nI (by omega), nI_1, sumF]
      exact ih (k + 1) z _ (by omega) (by omega)
  exact loop 8 0 1000 0 (by omega) (by omega)
theorem op_count (w : Int32) : Op (fN_count w) (fM_count w) := by
  intro M hR
  obtain ⟨⟨s, s1, s2, s3⟩, ⟨n, n1, n2, n3, n4⟩, h3, ⟨m, m1, m2, m3, m4⟩, ⟨c, r, c1, c2, c3, c4, r1, r2, r3, ct⟩, ⟨p, p1, p2, p3, p4⟩, h7, h8, h9⟩ := id hR
  unfold fM_count
  simp only [fM_i7, Option.bind_some, bz_0]
  by_cases g : ib w 7
  · obtain ⟨q, hq, rfl⟩ := ib_ex g
    rcases (by omega : q = 0 ∨ q = 1 ∨ q = 2 ∨ q = 3 ∨ q = 4 ∨ q = 5 ∨ q = 6) with rfl | rfl | rfl | rfl | rfl | rfl | rfl
    · exact ⟨M 1 2, M, M, rfl, by rw [if_neg (nn g), if_neg (by decide), if_pos (show nI 0 = 0 from rfl), m2, m3], hR⟩
    · exact ⟨M 1 1, M, M, rfl, by rw [if_neg (nn g), if_neg (by decide), if_neg (show ¬ nI 1 = 0 by decide), if_pos (show nI 1 = 1 from rfl), n2, n3], hR⟩
    · exact ⟨M 1 0, M, M, rfl, by rw [if_neg (nn g), if_neg (by decide), if_neg (show ¬ nI 2 = 0 by decide), if_neg (show ¬ nI 2 = 1 by decide), if_pos (show nI 2 = 2 from rfl), s2, s3], hR⟩
    · exact ⟨M 0 6, M, M, rfl, by rw [if_neg (nn g), if_neg (by decide), if_neg (show ¬ nI 3 = 0 by decide), if_neg (show ¬ nI 3 = 1 by decide), if_neg (show ¬ nI 3 = 2 by decide), if_pos (show nI 3 = 3 from rfl), c3, c4], hR⟩
    · exact ⟨M 40 1, M, M, rfl, by rw [if_neg (nn g), if_neg (by decide), if_neg (show ¬ nI 4 = 0 by decide), if_neg (show ¬ nI 4 = 1 by decide), if_neg (show ¬ nI 4 = 2 by decide), if_neg (show ¬ nI 4 = 3 by decide), if_pos (show nI 4 = 4 from rfl), p2, p3], hR⟩
    · exact ⟨M 1 3, M, M, rfl, by rw [if_neg (nn g), if_neg (by decide), if_neg (show ¬ nI 5 = 0 by decide), if_neg (show ¬ nI 5 = 1 by decide), if_neg (show ¬ nI 5 = 2 by decide), if_neg (show ¬ nI 5 = 3 by decide), if_neg (show ¬ nI 5 = 4 by decide), r2, r3], hR⟩
    · refine ⟨sumF (M 4) 8 0 0, M, M, ?_, ?_, hR⟩
      · have e : fN_count (nI 6) M = (fN_sum 4 M).bind fun w7 => some (w7.1, w7.2) := rfl
        rw [e, fN_sum_eq]
        rfl
      · rw [if_neg (nn g), if_pos (by decide), fM_count_b89_eq, sumF_congr (g := M 89) (g' := M 4) 8 0 0 (fun j _ h => (h3 j (by omega)).2)]
  · have ne : ∀ k : Nat, k < 7 → w ≠ nI k := fun k hk z => g (by rw [z]; exact ib_nI hk (by omega))
    refine ⟨-2, M, M, ?_, by rw [if_pos g], hR⟩
    unfold fN_count
    rw [if_neg (show ¬ w = 0 from ne 0 (by omega)), if_neg (show ¬ w = 1 from ne 1 (by omega)), if_neg (show ¬ w = 2 from ne 2 (by omega)), if_neg (show ¬ w = 3 from ne 3 (by omega)), if_neg (show ¬ w = 4 from ne 4 (by omega)), if_neg (show ¬ w = 5 from ne 5 (by omega)), if_neg (show ¬ w = 6 from ne 6 (by omega))]
/-- whether one of kind x is of kind k -/
def tkB (x k : Nat) : Bool := x == k || (k == 0 && x < 6) || (x == 3 && k == 1) || (x == 4 && k == 2)
theorem kind_C : ∀ x, x < 6 → ∀ k, k < 6 → ∀ M : Mem, fA_isOfKind_b7 (nI k) 1000 (nI x) 0 M = some (if tkB x k = true then 1 else 0, M) := by
  intro x hx k hk M
  rcases (by omega : x = 0 ∨ x = 1 ∨ x = 2 ∨ x = 3 ∨ x = 4 ∨ x = 5) with rfl | rfl | rfl | rfl | rfl | rfl <;> rcases (by omega : k = 0 ∨ k = 1 ∨ k = 2 ∨ k = 3 ∨ k = 4 ∨ k = 5) with rfl | rfl | rfl | rfl | rfl | rfl <;> rfl
theorem kind_M : ∀ x, x < 6 → ∀ k, k < 6 → ∀ (a : Int32) (M : Mem), fM_taken_b33 a (nI k) 1000 (nI x) M = if tkB x k = true then (if ib a 4 then some (M 93 (ix a), M) else none) else some (-13, M) := by
  intro x hx k hk a M
  rcases (by omega : x = 0 ∨ x = 1 ∨ x = 2 ∨ x = 3 ∨ x = 4 ∨ x = 5) with rfl | rfl | rfl | rfl | rfl | rfl <;> rcases (by omega : k = 0 ∨ k = 1 ∨ k = 2 ∨ k = 3 ∨ k = 4 ∨ k = 5) with rfl | rfl | rfl | rfl | rfl | rfl <;> rfl
theorem op_taken (a k : Int32) : Op (fN_taken a k) (fM_taken a k) := by
  intro M hR
  obtain ⟨m, m1, m2, m3, m4⟩ := hR.2.2.2.1
  unfold fN_taken fM_taken fA_isOfKind
  simp only [fN_w6, fM_i6, m2, fN_w _ m _ (show m < 2147483648 by omega), Option.bind_some, bz_0]
  by_cases g1 : ib k 6
  · rw [if_neg (nn g1)]
    by_cases g2 : ib a m
    · rw [if_neg (nn g2), if_pos (ib_mono g2 m1)]
      obtain ⟨q, hq, rfl⟩ := ib_ex g2
      obtain ⟨y, hy, rfl⟩ := ib_ex g1
      rw [ix_nI (by omega)]
      obtain ⟨⟨d1, d1'⟩, ⟨d2, d2'⟩, -⟩ := m4 q hq
      obtain ⟨x, hx, ex⟩ := ib_ex d1
      rw [ex, kind_C x hx y hy]
      simp only [Option.bind_some]
      have e := kind_M x hx y hy (nI q) M
      by_cases ht : tkB x y = true
      · rw [if_pos ht] at e
        rw [if_pos ht, if_neg (by decide), if_pos (ib_mono g2 m1)]
        refine ⟨_, M, M, rfl, ?_, hR⟩
        rw [if_neg (nn g1), fM_mm _ _ m1 m3]
        simp only [Option.bind_some, bz_0]
        rw [if_neg (nn g2), if_pos (ib_mono g2 m1), d1', ex, e, if_pos (ib_mono g2 m1), ix_nI (by omega), d2']
      · rw [if_neg ht] at e
        rw [if_neg ht, if_pos rfl]
        refine ⟨_, M, M, rfl, ?_, hR⟩
        rw [if_neg (nn g1), fM_mm _ _ m1 m3]
        simp only [Option.bind_some, bz_0]
        rw [if_neg (nn g2), if_pos (ib_mono g2 m1), d1', ex, e]
    · refine ⟨-11, M, M, by rw [if_pos g2], ?_, hR⟩
      rw [if_neg (nn g1), fM_mm _ _ m1 m3]
      simp only [Option.bind_some, bz_0]
      rw [if_pos g2]
  · exact ⟨-2, M, M, by rw [if_pos g1], by rw [if_pos g1], hR⟩
