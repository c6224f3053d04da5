/-! 44: told, set -/
theorem ib_ex {a : Int32} {m : Nat} (h : ib a m) : ∃ k, k < m ∧ a = nI k := ⟨ix a, ix_lt h, (of_ib h).1⟩
theorem sub_ib {w : Int32} {c N : Nat} (hc : c + N < 2147483648) : ib (w - nI c) N ↔ (c : Int) ≤ w.toInt ∧ w.toInt < (c : Int) + N := by
  have ec : (nI c).toInt = c := nI_t (by omega)
  constructor
  · intro h
    have h1 := h.1
    have h2 := h.2
    have e : w = (w - nI c) + nI c := (Int32.sub_add_cancel w (nI c)).symm
    have : w.toInt = (w - nI c).toInt + c := by
      rw [← ec, ← t_add (by omega) (by omega), ← e]
    omega
  · intro h
    have : (w - nI c).toInt = w.toInt - c := by rw [t_sub (by omega) (by omega), ec]
    unfold ib
    omega
theorem toldN_1 {M : Mem} (a : Int32) : fN_told a 1 M = some (if ib a 8 then M 4 (ix a) else -2, M) := by
  unfold fN_told
  rw [if_neg (by decide), if_pos rfl]
  simp only [fN_w8, Option.bind_some, bz_0]
  by_cases g : ib a 8
  · rw [if_neg (nn g), if_pos g, if_pos (ib_mono g (by omega))]
  · rw [if_pos g, if_neg g]
theorem isOf_1 {M : Mem} (a : Int32) : fM_isOf 1 a M = some (bz (ib a 8), M) := by
  unfold fM_isOf fM_isOf_b43
  rw [if_neg (by decide), if_pos rfl]
  simp only [fM_r8, Option.bind_some, bz_0]
  by_cases g : ib a 8
  · rw [if_neg (nn g), bz, if_pos g]
  · rw [if_pos g, bz, if_neg g]
theorem toldM_1 {M : Mem} (a : Int32) : fM_told a 1 M = some (if ib a 8 then M 89 (ix a) else -2, M) := by
  unfold fM_told
  rw [show fM_in ((1 : Int32).toInt64) (0 : Int64) (7 : Int64) M = some (1, M) from rfl]
  simp only [Option.bind_some]
  unfold fM_told_b26
  rw [if_neg (by decide), isOf_1 a]
  simp only [Option.bind_some, bz_0]
  by_cases g : ib a 8
  · rw [if_neg (nn g), if_pos g, if_neg (by decide), if_neg (by decide), if_pos trivial, if_pos (ib_mono g (by omega))]
  · rw [if_pos g, if_neg g]
theorem toldN_2 {M : Mem} {n : Nat} (hn : n ≤ 8) (en : M 1 1 = nI n) (a : Int32) : fN_told a 2 M = some (if ib a n then M 2 (ix a) else -2, M) := by
  unfold fN_told
  rw [if_neg (by decide), if_neg (by decide), if_pos rfl]
  simp only [en, fN_w _ n _ (show n < 2147483648 by omega), Option.bind_some, bz_0]
  by_cases g : ib a n
  · rw [if_neg (nn g), if_pos g, if_pos (ib_mono g (by omega))]
  · rw [if_pos g, if_neg g]
theorem isOf_2 {M : Mem} {n : Nat} (hn : n ≤ 8) (en : M 85 11 = nI n) (a : Int32) : fM_isOf 2 a M = some (bz (ib a n), M) := by
  unfold fM_isOf fM_isOf_b43
  rw [if_neg (by decide), if_neg (by decide), if_neg (by decide)]
  simp only [fM_ss _ _ hn en, Option.bind_some, bz_0]
  by_cases g : ib a n
  · rw [if_neg (nn g), bz, if_pos g]
  · rw [if_pos g, bz, if_neg g]
theorem toldM_2 {M : Mem} {n : Nat} (hn : n ≤ 8) (en : M 85 11 = nI n) (a : Int32) : fM_told a 2 M = some (if ib a n then M 90 (ix a) else -2, M) := by
  unfold fM_told
  rw [show fM_in ((2 : Int32).toInt64) (0 : Int64) (7 : Int64) M = some (1, M) from rfl]
  simp only [Option.bind_some]
  unfold fM_told_b26
  rw [if_neg (by decide), isOf_2 hn en a]
  simp only [Option.bind_some, bz_0]
  by_cases g : ib a n
  · rw [if_neg (nn g), if_pos g, if_neg (by decide), if_neg (by decide), if_neg (by decide), if_pos trivial, if_pos (ib_mono g (by omega))]
  · rw [if_pos g, if_neg g]
theorem toldN_3 {M : Mem} {n : Nat} (hn : n ≤ 8) (en : M 1 1 = nI n) (a : Int32) : fN_told a 3 M = some (if ib a n then M 3 (ix a) else -2, M) := by
  unfold fN_told
  rw [if_neg (by decide), if_neg (by decide), if_neg (by decide), if_pos rfl]
  simp only [en, fN_w _ n _ (show n < 2147483648 by omega), Option.bind_some, bz_0]
  by_cases g : ib a n
  · rw [if_neg (nn g), if_pos g, if_pos (ib_mono g (by omega))]
  · rw [if_pos g, if_neg g]
theorem isOf_3 {M : Mem} {n : Nat} (hn : n ≤ 8) (en : M 85 11 = nI n) (a : Int32) : fM_isOf 3 a M = some (bz (ib a n), M) := by
  unfold fM_isOf fM_isOf_b43
  rw [if_neg (by decide), if_neg (by decide), if_neg (by decide)]
  simp only [fM_ss _ _ hn en, Option.bind_some, bz_0]
  by_cases g : ib a n
  · rw [if_neg (nn g), bz, if_pos g]
  · rw [if_pos g, bz, if_neg g]
theorem toldM_3 {M : Mem} {n : Nat} (hn : n ≤ 8) (en : M 85 11 = nI n) (a : Int32) : fM_told a 3 M = some (if ib a n then M 91 (ix a) else -2, M) := by
  unfold fM_told
  rw [show fM_in ((3 : Int32).toInt64) (0 : Int64) (7 : Int64) M = some (1, M) from rfl]
  simp only [Option.bind_some]
  unfold fM_told_b26
  rw [if_neg (by decide), isOf_3 hn en a]
  simp only [Option.bind_some, bz_0]
  by_cases g : ib a n
  · rw [if_neg (nn g), if_pos g, if_neg (by decide), if_neg (by decide), if_neg (by decide), if_neg (by decide), if_pos (ib_mono g (by omega))]
  · rw [if_pos g, if_neg g]
theorem toldN_4 {M : Mem} {m : Nat} (hm : m ≤ 4) (em : M 1 2 = nI m) (a : Int32) : fN_told a 4 M = some (if ib a m then M (6 + 2 * ix a) 1 else -2, M) := by
  unfold fN_told
  rw [if_neg (by decide), if_neg (by decide), if_neg (by decide), if_neg (by decide), em, fN_w _ m _ (by omega)]
  simp only [Option.bind_some, bz_0]
  by_cases g : ib a m
  · rw [if_neg (nn g), if_pos g, if_pos (ib_mono g (by omega))]
    unfold fN_toldOfMaid
    rw [if_pos rfl]
    rfl
  · rw [if_pos g, if_neg g]
theorem isOf_4 {M : Mem} {m : Nat} (hm : m ≤ 4) (em : M 85 17 = nI m) (a : Int32) : fM_isOf 4 a M = some (bz (ib a m), M) := by
  unfold fM_isOf fM_isOf_b43
  rw [if_neg (by decide), if_neg (by decide), if_pos (by decide)]
  simp only [fM_mm _ _ hm em, Option.bind_some, bz_0]
  by_cases g : ib a m
  · rw [if_neg (nn g), bz, if_pos g]
  · rw [if_pos g, bz, if_neg g]
theorem toldM_4 {M : Mem} {m : Nat} (hm : m ≤ 4) (em : M 85 17 = nI m) (a : Int32) : fM_told a 4 M = some (if ib a m then M 93 (ix a) else -2, M) := by
  unfold fM_told
  rw [show fM_in ((4 : Int32).toInt64) (0 : Int64) (7 : Int64) M = some (1, M) from rfl]
  simp only [Option.bind_some]
  unfold fM_told_b26
  rw [if_neg (by decide), isOf_4 hm em a]
  simp only [Option.bind_some, bz_0]
  by_cases g : ib a m
  · rw [if_neg (nn g), if_pos g, if_pos (by decide), if_neg (by decide), if_pos trivial, if_pos (ib_mono g (by omega))]
  · rw [if_pos g, if_neg g]
theorem toldN_5 {M : Mem} {m : Nat} (hm : m ≤ 4) (em : M 1 2 = nI m) (a : Int32) : fN_told a 5 M = some (if ib a m then M (6 + 2 * ix a) 2 else -2, M) := by
  unfold fN_told
  rw [if_neg (by decide), if_neg (by decide), if_neg (by decide), if_neg (by decide), em, fN_w _ m _ (by omega)]
  simp only [Option.bind_some, bz_0]
  by_cases g : ib a m
  · rw [if_neg (nn g), if_pos g, if_pos (ib_mono g (by omega))]
    unfold fN_toldOfMaid
    rw [if_neg (by decide), if_pos rfl]
    rfl
  · rw [if_pos g, if_neg g]
theorem isOf_5 {M : Mem} {m : Nat} (hm : m ≤ 4) (em : M 85 17 = nI m) (a : Int32) : fM_isOf 5 a M = some (bz (ib a m), M) := by
  unfold fM_isOf fM_isOf_b43
  rw [if_neg (by decide), if_neg (by decide), if_pos (by decide)]
  simp only [fM_mm _ _ hm em, Option.bind_some, bz_0]
  by_cases g : ib a m
  · rw [if_neg (nn g), bz, if_pos g]
  · rw [if_pos g, bz, if_neg g]
theorem toldM_5 {M : Mem} {m : Nat} (hm : m ≤ 4) (em : M 85 17 = nI m) (a : Int32) : fM_told a 5 M = some (if ib a m then M 94 (ix a) else -2, M) := by
  unfold fM_told
  rw [show fM_in ((5 : Int32).toInt64) (0 : Int64) (7 : Int64) M = some (1, M) from rfl]
  simp only [Option.bind_some]
  unfold fM_told_b26
  rw [if_neg (by decide), isOf_5 hm em a]
  simp only [Option.bind_some, bz_0]
  by_cases g : ib a m
  · rw [if_neg (nn g), if_pos g, if_pos (by decide), if_neg (by decide), if_neg (by decide), if_pos trivial, if_pos (ib_mono g (by omega))]
  · rw [if_pos g, if_neg g]
theorem toldN_6 {M : Mem} {m : Nat} (hm : m ≤ 4) (em : M 1 2 = nI m) (a : Int32) : fN_told a 6 M = some (if ib a m then M (6 + 2 * ix a) 0 else -2, M) := by
  unfold fN_told
  rw [if_neg (by decide), if_neg (by decide), if_neg (by decide), if_neg (by decide), em, fN_w _ m _ (by omega)]
  simp only [Option.bind_some, bz_0]
  by_cases g : ib a m
  · rw [if_neg (nn g), if_pos g, if_pos (ib_mono g (by omega))]
    unfold fN_toldOfMaid
    rw [if_neg (by decide), if_neg (by decide), if_pos rfl]
    rfl
  · rw [if_pos g, if_neg g]
theorem isOf_6 {M : Mem} {m : Nat} (hm : m ≤ 4) (em : M 85 17 = nI m) (a : Int32) : fM_isOf 6 a M = some (bz (ib a m), M) := by
  unfold fM_isOf fM_isOf_b43
  rw [if_neg (by decide), if_neg (by decide), if_pos (by decide)]
  simp only [fM_mm _ _ hm em, Option.bind_some, bz_0]
  by_cases g : ib a m
  · rw [if_neg (nn g), bz, if_pos g]
  · rw [if_pos g, bz, if_neg g]
theorem toldM_6 {M : Mem} {m : Nat} (hm : m ≤ 4) (em : M 85 17 = nI m) (a : Int32) : fM_told a 6 M = some (if ib a m then M 92 (ix a) else -2, M) := by
  unfold fM_told
  rw [show fM_in ((6 : Int32).toInt64) (0 : Int64) (7 : Int64) M = some (1, M) from rfl]
  simp only [Option.bind_some]
  unfold fM_told_b26
  rw [if_neg (by decide), isOf_6 hm em a]
  simp only [Option.bind_some, bz_0]
  by_cases g : ib a m
  · rw [if_neg (nn g), if_pos g, if_pos (by decide), if_neg (by decide), if_neg (by decide), if_neg (by decide), if_pos trivial, if_pos (ib_mono g (by omega))]
  · rw [if_pos g, if_neg g]
theorem toldN_7 {M : Mem} {m : Nat} (hm : m ≤ 4) (em : M 1 2 = nI m) (a : Int32) : fN_told a 7 M = some (if ib a m then M (6 + 2 * ix a) 3 else -2, M) := by
  unfold fN_told
  rw [if_neg (by decide), if_neg (by decide), if_neg (by decide), if_neg (by decide), em, fN_w _ m _ (by omega)]
  simp only [Option.bind_some, bz_0]
  by_cases g : ib a m
  · rw [if_neg (nn g), if_pos g, if_pos (ib_mono g (by omega))]
    unfold fN_toldOfMaid
    rw [if_neg (by decide), if_neg (by decide), if_neg (by decide), if_pos rfl]
    rfl
  · rw [if_pos g, if_neg g]
theorem isOf_7 {M : Mem} {m : Nat} (hm : m ≤ 4) (em : M 85 17 = nI m) (a : Int32) : fM_isOf 7 a M = some (bz (ib a m), M) := by
  unfold fM_isOf fM_isOf_b43
  rw [if_neg (by decide), if_neg (by decide), if_pos (by decide)]
  simp only [fM_mm _ _ hm em, Option.bind_some, bz_0]
  by_cases g : ib a m
  · rw [if_neg (nn g), bz, if_pos g]
  · rw [if_pos g, bz, if_neg g]
theorem toldM_7 {M : Mem} {m : Nat} (hm : m ≤ 4) (em : M 85 17 = nI m) (a : Int32) : fM_told a 7 M = some (if ib a m then M 96 (ix a) else -2, M) := by
  unfold fM_told
  rw [show fM_in ((7 : Int32).toInt64) (0 : Int64) (7 : Int64) M = some (1, M) from rfl]
  simp only [Option.bind_some]
  unfold fM_told_b26
  rw [if_neg (by decide), isOf_7 hm em a]
  simp only [Option.bind_some, bz_0]
  by_cases g : ib a m
  · rw [if_neg (nn g), if_pos g, if_pos (by decide), if_neg (by decide), if_neg (by decide), if_neg (by decide), if_neg (by decide), if_pos (ib_mono g (by omega))]
  · rw [if_pos g, if_neg g]
theorem toldN_l {M : Mem} {m : Nat} (hm : m ≤ 4) (em : M 1 2 = nI m) (a w : Int32) (hw : ¬ ib w 8) : fN_told a w M = (if ib a m then (if ib (w - 10) 5 then (fA_roomListed (6 + 2 * ix a) (w - 10) M).bind fun w6 => some (w6.1, w6.2) else some (-2, M)) else some (-2, M)) := by
  have ne : ∀ k : Nat, k < 8 → w ≠ nI k := fun k hk z => hw (by rw [z]; exact ib_nI hk (by omega))
  unfold fN_told
  rw [if_neg (show ¬ w = 0 from ne 0 (by omega)), if_neg (show ¬ w = 1 from ne 1 (by omega)), if_neg (show ¬ w = 2 from ne 2 (by omega)), if_neg (show ¬ w = 3 from ne 3 (by omega)), em, fN_w _ m _ (by omega)]
  simp only [Option.bind_some, bz_0]
  by_cases g : ib a m
  · rw [if_neg (nn g), if_pos g, if_pos (ib_mono g (by omega))]
    unfold fN_toldOfMaid
    rw [if_neg (show ¬ w = 4 from ne 4 (by omega)), if_neg (show ¬ w = 5 from ne 5 (by omega)), if_neg (show ¬ w = 6 from ne 6 (by omega)), if_neg (show ¬ w = 7 from ne 7 (by omega)), fN_w5]
    simp only [Option.bind_some, bz_0]
    by_cases g5 : ib (w - 10) 5
    · rw [if_neg (nn g5), if_pos g5]
      cases fA_roomListed (6 + 2 * ix a) (w - 10) M with
      | none => rfl
      | some q => rfl
    · rw [if_pos g5, if_neg g5]
      rfl
  · rw [if_pos g, if_neg g]
theorem toldM_l {M : Mem} {m : Nat} (hm : m ≤ 4) (em : M 85 17 = nI m) (a w : Int32) (hw : ¬ ib w 8) (h96 : ∀ k, k < m → ∃ l, l ≤ 5 ∧ M 96 k = nI l) : fM_told a w M = (if ib a m then (if ib (w - 10) 5 then some (if (w - 10).toInt < (M 96 (ix a)).toInt then M 95 (5 * ix a + ix (w - 10)) else -1, M) else some (-2, M)) else some (-2, M)) := by
  have ne : ∀ k : Nat, k < 8 → w ≠ nI k := fun k hk z => hw (by rw [z]; exact ib_nI hk (by omega))
  have h5 : ib (w - 10) 5 ↔ 10 ≤ w.toInt ∧ w.toInt ≤ 14 := by
    rw [show (10 : Int32) = nI 10 from rfl, sub_ib (by omega)]; omega
  unfold fM_told
  simp only [fM_i8, Option.bind_some, bz_0]
  rw [if_pos hw, fM_iv w 10 14 10 14 _ rfl rfl]
  simp only [Option.bind_some, bz_0]
  by_cases g5 : ib (w - 10) 5
  · have g5' := h5.mp g5
    rw [if_neg (nn g5')]
    unfold fM_told_b26 fM_isOf fM_isOf_b43
    rw [if_neg (show ¬ w = 0 from ne 0 (by omega)), if_neg (show ¬ w = 1 from ne 1 (by omega)), if_pos (by rw [i_le, show (4 : Int32).toInt = 4 from rfl]; omega), fM_mm _ _ hm em]
    simp only [Option.bind_some, bz_0]
    by_cases g : ib a m
    · obtain ⟨k, hk, rfl⟩ := ib_ex g
      rw [if_neg (nn g), if_pos g, if_pos g5]
      simp only [Option.bind_some]
      rw [if_neg (by decide), if_pos (by rw [i_le, show (4 : Int32).toInt = 4 from rfl]; omega), if_pos (by rw [i_le, show (8 : Int32).toInt = 8 from rfl]; omega), if_pos (ib_mono g (by omega)), ix_nI (by omega)]
      obtain ⟨l, l1, l2⟩ := h96 k hk
      rw [l2, nI_t (by omega)]
      by_cases hl : (w - 10).toInt < l
      · rw [if_neg (by rw [i_le, nI_t (by omega)]; omega), if_pos hl]
        obtain ⟨i, hi, ei⟩ := ib_ex g5
        have e : (5 : Int32) * nI k + w - 10 = nI (5 * k + i) := by
          rw [Int32.sub_eq_add_neg, Int32.add_assoc, ← Int32.sub_eq_add_neg, ei, show (5 : Int32) = nI 5 from rfl, pk_mul, nI_add]
        rw [e, if_pos (ib_nI (by omega) (by omega)), ix_nI (by omega), ei, ix_nI (by omega)]
      · rw [if_pos (by rw [i_le, nI_t (by omega)]; omega), if_neg hl]
    · rw [if_pos g, if_neg g]
      rfl
  · rw [if_pos (fun z => g5 (h5.mpr z))]
    by_cases g : ib a m
    · rw [if_pos g, if_neg g5]
    · rw [if_neg g]
theorem told_both {M : Mem} (hR : Rel M) (a w : Int32) : ∃ v, fN_told a w M = some (v, M) ∧ fM_told a w M = some (v, M) := by
  obtain ⟨⟨s, s1, s2, s3⟩, ⟨n, n1, n2, n3, n4⟩, h3, ⟨m, m1, m2, m3, m4⟩, h5, h6, h7, h8, h9⟩ := hR
  by_cases hw : ib w 8
  · obtain ⟨q, hq, rfl⟩ := ib_ex hw
    rcases (by omega : q = 0 ∨ q = 1 ∨ q = 2 ∨ q = 3 ∨ q = 4 ∨ q = 5 ∨ q = 6 ∨ q = 7) with rfl | rfl | rfl | rfl | rfl | rfl | rfl | rfl
    · refine ⟨M 1 0, rfl, ?_⟩
      unfold fM_told
      rw [show fM_in ((nI 0).toInt64) (0 : Int64) (7 : Int64) M = some (1, M) from rfl]
      simp only [Option.bind_some]
      unfold fM_told_b26 fM_isOf fM_isOf_b43
      rw [if_neg (by decide), if_pos (show nI 0 = 0 from rfl)]
      simp only [Option.bind_some]
      rw [if_neg (show ¬ (1 : Int32) = 0 by decide), if_neg (show ¬ (4 : Int32) ≤ nI 0 by decide), if_pos (show nI 0 = 0 from rfl), s2, s3]
    · refine ⟨_, toldN_1 a, (toldM_1 a).trans ?_⟩
      by_cases g : ib a 8
      · rw [if_pos g, if_pos g, (h3 _ (ix_lt g)).2]
      · rw [if_neg g, if_neg g]
    · refine ⟨_, toldN_2 n1 n2 a, (toldM_2 n1 n3 a).trans ?_⟩
      by_cases g : ib a n
      · rw [if_pos g, if_pos g, (n4 _ (ix_lt g)).2.1]
      · rw [if_neg g, if_neg g]
    · refine ⟨_, toldN_3 n1 n2 a, (toldM_3 n1 n3 a).trans ?_⟩
      by_cases g : ib a n
      · rw [if_pos g, if_pos g, (n4 _ (ix_lt g)).2.2.2]
      · rw [if_neg g, if_neg g]
    · refine ⟨_, toldN_4 m1 m2 a, (toldM_4 m1 m3 a).trans ?_⟩
      by_cases g : ib a m
      · rw [if_pos g, if_pos g, (m4 _ (ix_lt g)).2.1.2]
      · rw [if_neg g, if_neg g]
    · refine ⟨_, toldN_5 m1 m2 a, (toldM_5 m1 m3 a).trans ?_⟩
      by_cases g : ib a m
      · rw [if_pos g, if_pos g, (m4 _ (ix_lt g)).2.2.1.2]
      · rw [if_neg g, if_neg g]
    · refine ⟨_, toldN_6 m1 m2 a, (toldM_6 m1 m3 a).trans ?_⟩
      by_cases g : ib a m
      · rw [if_pos g, if_pos g, (m4 _ (ix_lt g)).1.2]
      · rw [if_neg g, if_neg g]
    · refine ⟨_, toldN_7 m1 m2 a, (toldM_7 m1 m3 a).trans ?_⟩
      by_cases g : ib a m
      · obtain ⟨l, l1, l2, l3, l4⟩ := (m4 _ (ix_lt g)).2.2.2
        rw [if_pos g, if_pos g, l2, l3]
      · rw [if_neg g, if_neg g]
  · rw [toldN_l m1 m2 a w hw, toldM_l m1 m3 a w hw (fun k hk => by obtain ⟨l, l1, l2, l3, l4⟩ := (m4 k hk).2.2.2; exact ⟨l, l1, l3⟩)]
    by_cases g : ib a m
    · rw [if_pos g, if_pos g]
      by_cases g5 : ib (w - 10) 5
      · rw [if_pos g5, if_pos g5]
        obtain ⟨k, hk, rfl⟩ := ib_ex g
        rw [ix_nI (by omega)]
        obtain ⟨l, l1, l2, l3, l4⟩ := (m4 k hk).2.2.2
        rw [fA_roomListed_eq _ _ _ (by rw [l2, nI_t (by omega)]; omega) g5.1]
        refine ⟨_, rfl, ?_⟩
        rw [l2, l3]
        by_cases hl : (w - 10).toInt < (nI l).toInt
        · rw [if_pos hl, if_pos hl]
          obtain ⟨i, hi, ei⟩ := ib_ex g5
          rw [ei, nI_t (by omega), nI_t (by omega)] at hl
          rw [ei, ix_nI (by omega), (l4 i (by omega)).2, show 6 + 2 * k + 1 = 7 + 2 * k by omega]
        · rw [if_neg hl, if_neg hl]
      · rw [if_neg g5, if_neg g5]
        exact ⟨_, rfl, rfl⟩
    · rw [if_neg g, if_neg g]
      exact ⟨_, rfl, rfl⟩
theorem op_told (a w : Int32) : Op (fN_told a w) (fM_told a w) := by
  intro M hR
  obtain ⟨v, e1, e2⟩ := told_both hR a w
  exact ⟨v, M, M, e1, e2, hR⟩
