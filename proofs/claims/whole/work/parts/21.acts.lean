/-! 21: a maid's turn in the model -/
theorem wr_comm {M : Mem} {k j q i : Nat} {v w : Int32} (h : k ≠ q) : wr (wr M k j v) q i w = wr (wr M q i w) k j v := by
  funext a b
  unfold wr
  by_cases h1 : a = q ∧ b = i
  · rw [if_pos h1, if_neg (by omega), if_pos h1]
  · rw [if_neg h1, if_neg h1]
theorem sk_inj {a i k : Nat} : sk a i = sk a k ↔ i = k := by
  unfold sk
  constructor
  · intro h
    split at h <;> split at h <;> omega
  · intro h; rw [h]
theorem DM.put {V D M : Mem} {a : Nat} (d : DM V a D M) {x y : Nat} (h : (x = 50 ∧ y = 98) ∨ (x = 53 ∧ y = 101) ∨ (x = 54 ∧ y = 102) ∨ (x = 55 ∧ y = 103)) (k : Nat) (v : Int32) : DM V a (wr D x k v) (wr M y (sk a k) v) := by
  obtain ⟨d1, d2, d3, d4⟩ := d
  refine ⟨fun j hj => ?_, fun r hr => ?_, ?_, ?_⟩
  · obtain ⟨z1, z2, z3, z4, z5, z6⟩ := d1 j hj
    unfold wr
    simp only [sk_inj]
    rcases h with ⟨rfl, rfl⟩ | ⟨rfl, rfl⟩ | ⟨rfl, rfl⟩ | ⟨rfl, rfl⟩ <;> by_cases hjk : j = k <;> simp [hjk] <;> simp_all
  · rw [wr_ne (show 56 ≠ x by omega), wr_ne (show 104 ≠ y by omega)]; exact d2 r hr
  · rw [wr_ne (show 45 ≠ x by omega), wr_ne (show 85 ≠ y by omega)]; exact d3
  · rw [wr_ne (show 45 ≠ x by omega), wr_ne (show 85 ≠ y by omega)]; exact d4
theorem DM.put52 {V D M : Mem} {a : Nat} (d : DM V a D M) {k : Nat} {v : Int32} (h : 0 < v.toInt → D 51 k = M 100 (sk a k)) : DM V a (wr D 52 k v) (wr M 99 (sk a k) v) := by
  obtain ⟨d1, d2, d3, d4⟩ := d
  refine ⟨fun j hj => ?_, fun r hr => ?_, ?_, ?_⟩
  · obtain ⟨z1, z2, z3, z4, z5, z6⟩ := d1 j hj
    rw [wr_ne (show 50 ≠ 52 by decide), wr_ne (show 51 ≠ 52 by decide), wr_ne (show 53 ≠ 52 by decide), wr_ne (show 54 ≠ 52 by decide), wr_ne (show 55 ≠ 52 by decide), wr_ne (show 98 ≠ 99 by decide), wr_ne (show 100 ≠ 99 by decide), wr_ne (show 101 ≠ 99 by decide), wr_ne (show 102 ≠ 99 by decide), wr_ne (show 103 ≠ 99 by decide)]
    by_cases hjk : j = k
    · subst hjk
      rw [wr_same, wr_same]
      exact ⟨z1, rfl, h, z4, z5, z6⟩
    · rw [wr_at hjk, wr_at (fun w => hjk (sk_inj.mp w))]
      exact ⟨z1, z2, z3, z4, z5, z6⟩
  · rw [wr_ne (show 56 ≠ 52 by decide), wr_ne (show 104 ≠ 99 by decide)]; exact d2 r hr
  · rw [wr_ne (show 45 ≠ 52 by decide), wr_ne (show 85 ≠ 99 by decide)]; exact d3
  · rw [wr_ne (show 45 ≠ 52 by decide), wr_ne (show 85 ≠ 99 by decide)]; exact d4
theorem DM.put51 {V D M : Mem} {a : Nat} (d : DM V a D M) (k : Nat) (v : Int32) : DM V a (wr D 51 k v) (wr M 100 (sk a k) v) := by
  obtain ⟨d1, d2, d3, d4⟩ := d
  refine ⟨fun j hj => ?_, fun r hr => ?_, ?_, ?_⟩
  · obtain ⟨z1, z2, z3, z4, z5, z6⟩ := d1 j hj
    rw [wr_ne (show 50 ≠ 51 by decide), wr_ne (show 52 ≠ 51 by decide), wr_ne (show 53 ≠ 51 by decide), wr_ne (show 54 ≠ 51 by decide), wr_ne (show 55 ≠ 51 by decide), wr_ne (show 98 ≠ 100 by decide), wr_ne (show 99 ≠ 100 by decide), wr_ne (show 101 ≠ 100 by decide), wr_ne (show 102 ≠ 100 by decide), wr_ne (show 103 ≠ 100 by decide)]
    by_cases hjk : j = k
    · subst hjk
      rw [wr_same, wr_same]
      exact ⟨z1, z2, fun _ => rfl, z4, z5, z6⟩
    · rw [wr_at hjk, wr_at (fun w => hjk (sk_inj.mp w))]
      exact ⟨z1, z2, z3, z4, z5, z6⟩
  · rw [wr_ne (show 56 ≠ 51 by decide), wr_ne (show 104 ≠ 100 by decide)]; exact d2 r hr
  · rw [wr_ne (show 45 ≠ 51 by decide), wr_ne (show 85 ≠ 100 by decide)]; exact d3
  · rw [wr_ne (show 45 ≠ 51 by decide), wr_ne (show 85 ≠ 100 by decide)]; exact d4
theorem DM.put56 {V D M : Mem} {a : Nat} (d : DM V a D M) (q : Nat) (v : Int32) : DM V a (wr D 56 q v) (wr M 104 q v) := by
  obtain ⟨d1, d2, d3, d4⟩ := d
  refine ⟨fun j hj => ?_, fun r hr => ?_, ?_, ?_⟩
  · rw [wr_ne (show 50 ≠ 56 by decide), wr_ne (show 51 ≠ 56 by decide), wr_ne (show 52 ≠ 56 by decide), wr_ne (show 53 ≠ 56 by decide), wr_ne (show 54 ≠ 56 by decide), wr_ne (show 55 ≠ 56 by decide), wr_ne (show 98 ≠ 104 by decide), wr_ne (show 99 ≠ 104 by decide), wr_ne (show 100 ≠ 104 by decide), wr_ne (show 101 ≠ 104 by decide), wr_ne (show 102 ≠ 104 by decide), wr_ne (show 103 ≠ 104 by decide)]
    exact d1 j hj
  · unfold wr
    rw [d2 r hr]
    simp
  · rw [wr_ne (show 45 ≠ 56 by decide), wr_ne (show 85 ≠ 104 by decide)]; exact d3
  · rw [wr_ne (show 45 ≠ 56 by decide), wr_ne (show 85 ≠ 104 by decide)]; exact d4
theorem DM.put45 {V D M : Mem} {a : Nat} (d : DM V a D M) {i j : Nat} (h : (i = 13 ∧ j = 43) ∨ (i = 14 ∧ j = 44)) (v : Int32) : DM V a (wr D 45 i v) (wr M 85 j v) := by
  obtain ⟨d1, d2, d3, d4⟩ := d
  refine ⟨fun j hj => ?_, fun r hr => ?_, ?_, ?_⟩
  · rw [wr_ne (show 50 ≠ 45 by decide), wr_ne (show 51 ≠ 45 by decide), wr_ne (show 52 ≠ 45 by decide), wr_ne (show 53 ≠ 45 by decide), wr_ne (show 54 ≠ 45 by decide), wr_ne (show 55 ≠ 45 by decide), wr_ne (show 98 ≠ 85 by decide), wr_ne (show 99 ≠ 85 by decide), wr_ne (show 100 ≠ 85 by decide), wr_ne (show 101 ≠ 85 by decide), wr_ne (show 102 ≠ 85 by decide), wr_ne (show 103 ≠ 85 by decide)]
    exact d1 j hj
  · rw [wr_ne (show 56 ≠ 45 by decide), wr_ne (show 104 ≠ 85 by decide)]; exact d2 r hr
  · unfold wr
    rcases h with ⟨rfl, rfl⟩ | ⟨rfl, rfl⟩ <;> simp [d3]
  · unfold wr
    rcases h with ⟨rfl, rfl⟩ | ⟨rfl, rfl⟩ <;> simp [d4]
theorem fM_takesOf_eq {s : Nat} {v : Int32} {M : Mem} (hs : s < 4) (hv : 1 ≤ v.toInt ∧ v.toInt ≤ 9) : fM_takesOf (nI s) v M = some (takesS (M 92 s) (M 93 s) v, M) := by
  have gs : ib (nI s) 4 := ib_nI hs (by omega)
  have es : ix (nI s) = s := ix_nI (by omega)
  have e1 : (1 : Int32).toInt = 1 := rfl
  have e2 : (2 : Int32).toInt = 2 := rfl
  have ea : (v + 1).toInt = v.toInt + 1 := by rw [t_add (by omega) (by omega), e1]
  have em : (2 * (v + 1)).toInt = 2 * (v.toInt + 1) := by rw [t_mul (by rw [e2]; omega) (by rw [e2]; omega), ea, e2]
  have em2 : (2 * v).toInt = 2 * v.toInt := by rw [t_mul (by rw [e2]; omega) (by rw [e2]; omega), e2]
  have big : ∀ x : Int32, 1 ≤ x.toInt → fM_takesOf_b66 x M = some (x, M) := fun x hx => by
    unfold fM_takesOf_b66
    rw [if_pos (by rw [i_le, e1]; exact hx)]
  have sm : ∀ x : Int32, fM_takesOf_b66 x M = some (if 1 < x then x else 1, M) := fun x => by
    unfold fM_takesOf_b66
    simp only [i_le, i_lt, e1]
    by_cases h : 1 < x.toInt
    · rw [if_pos h, if_pos (by omega)]
    · rw [if_neg h]
      by_cases h2 : 1 ≤ x.toInt
      · rw [if_pos h2, show x = 1 from i_eq.mpr (by rw [e1]; omega)]
      · rw [if_neg h2]
  unfold fM_takesOf takesS
  simp only [if_pos gs, es, fM_takesOf_b17, sm (v - M 93 s / 3), big (v + 1) (by omega), big (2 * (v + 1)) (by omega), big (2 * v) (by omega), big v hv.1]
  by_cases h1 : M 92 s = 1
  · rw [if_pos h1, if_pos (Or.inl h1)]
  · by_cases h3 : M 92 s = 3
    · rw [if_neg h1, if_pos h3, if_pos (Or.inr h3)]
    · rw [if_neg h1, if_neg h3, if_neg (show ¬ (M 92 s = 1 ∨ M 92 s = 3) from fun z => z.elim h1 h3)]
      by_cases h2 : M 92 s = 2
      · rw [if_pos h2, if_pos h2]
      · rw [if_neg h2, if_neg h2]
        by_cases h4 : M 92 s = 4
        · rw [if_pos h4, if_pos h4]
        · rw [if_neg h4, if_neg h4]
          by_cases h5 : M 92 s = 5
          · rw [if_pos h5, if_pos h5]
          · rw [if_neg h5, if_neg h5]
theorem fM_worksOf_eq {s : Nat} {v : Int32} {M : Mem} (hs : s < 4) (hv : 1 ≤ v.toInt ∧ v.toInt ≤ 9) (hn : 0 ≤ (M 93 s).toInt ∧ (M 93 s).toInt ≤ 9) : fM_worksOf (nI s) v M = some (worksS (M 92 s) (M 93 s) v, M) := by
  have gs : ib (nI s) 4 := ib_nI hs (by omega)
  have es : ix (nI s) = s := ix_nI (by omega)
  have e1 : (1 : Int32).toInt = 1 := rfl
  have ea : (v + 1).toInt = v.toInt + 1 := by rw [t_add (by omega) (by omega), e1]
  have eb : (v + M 93 s).toInt = v.toInt + (M 93 s).toInt := t_add (by omega) (by omega)
  have big : ∀ x : Int32, 1 ≤ x.toInt → fM_worksOf_b51 x M = some (x, M) := fun x hx => by
    unfold fM_worksOf_b51
    rw [if_pos (by rw [i_le, e1]; exact hx)]
  have sm : ∀ x : Int32, fM_worksOf_b51 x M = some (if 1 < x then x else 1, M) := fun x => by
    unfold fM_worksOf_b51
    simp only [i_le, i_lt, e1]
    by_cases h : 1 < x.toInt
    · rw [if_pos h, if_pos (by omega)]
    · rw [if_neg h]
      by_cases h2 : 1 ≤ x.toInt
      · rw [if_pos h2, show x = 1 from i_eq.mpr (by rw [e1]; omega)]
      · rw [if_neg h2]
  unfold fM_worksOf worksS
  simp only [if_pos gs, es, fM_worksOf_b17, sm (v / 2), big (v + 1) (by omega), big (v + M 93 s) (by omega), big v hv.1]
  by_cases h1 : M 92 s = 1
  · rw [if_pos h1, if_pos (Or.inl h1)]
  · by_cases h3 : M 92 s = 3
    · rw [if_neg h1, if_pos h3, if_pos (Or.inr h3)]
    · rw [if_neg h1, if_neg h3, if_neg (show ¬ (M 92 s = 1 ∨ M 92 s = 3) from fun z => z.elim h1 h3)]
      by_cases h4 : M 92 s = 4
      · rw [if_pos h4, if_pos h4]
      · rw [if_neg h4, if_neg h4]
        by_cases h5 : M 92 s = 5
        · rw [if_pos h5, if_pos h5]
        · rw [if_neg h5, if_neg h5]
theorem fM_aimOf_eq {V : Mem} {a : Nat} {M D : Mem} (vo : VOK V) (v : MV V a M) (dk : DOK V D) (dm : DM V a D M) {k : Nat} (hk : k < vM V) : fM_aimOf (nI (sk a k)) M = some (aimS V D k, M) := by
  have m4 := vo.2.2.1.2
  have S := sk_lt v.1 m4 hk
  have gk : ib (nI (sk a k)) 4 := ib_nI S.2.1 (by omega)
  have ek : ix (nI (sk a k)) = sk a k := ix_nI (by omega)
  obtain ⟨d50, d52, d51, d53, d54, d55⟩ := dm.1 k hk
  have C := v.2.2.2.2.2.2.2 k hk
  have l5 := (vo.2.2.2 k hk).2.2.1
  have p0 := (dk k hk).2.2.2
  unfold fM_aimOf aimS
  simp only [if_pos gk, ek, ← d53, C.1.2.2.2, i_le]
  by_cases h : (D 53 k).toInt < (V 7 k).toInt
  · rw [if_neg (by omega), if_pos h]
    have e53 := nI_ix p0.1
    have h5 : ix (D 53 k) < vL V k := by unfold vL ix; omega
    have e : (5 : Int32) * nI (sk a k) + D 53 k = nI (5 * sk a k + ix (D 53 k)) := by
      rw [show (5 : Int32) = nI 5 from rfl, pk_mul, ← nI_add, e53]
    rw [e, if_pos (ib_nI (by omega) (by omega)), ix_nI (by omega), C.2 _ h5]
  · rw [if_pos (by omega), if_neg h]
