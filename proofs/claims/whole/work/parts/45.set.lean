/-! 45: set -/
theorem set_0 (a v : Int32) : Op (fN_set 0 a v) (fM_set 0 a v) := by
  intro M hR
  obtain ⟨⟨s, s1, s2, s3⟩, ⟨n, n1, n2, n3, n4⟩, h3, ⟨m, m1, m2, m3, m4⟩, h5, h6, h7, h8, h9⟩ := hR
  have h1 : RS M := ⟨s, s1, s2, s3⟩
  have h2 : RTY M := ⟨n, n1, n2, n3, n4⟩
  have h4 : RM M := ⟨m, m1, m2, m3, m4⟩
  have hR := hR_intro h1 h2 h3 h4 h5 h6 h7 h8 h9
  have e1 : ([0, 0, 0, 1, 0, 0] : List Int32).getD (ix 0) 0 = 0 := rfl
  have e2 : ([3, 99, 7, 50, 9, 7] : List Int32).getD (ix 0) 0 = 3 := rfl
  have t1 : (0 : Int32).toInt = 0 := rfl
  have t2 : (3 : Int32).toInt = 3 := rfl
  unfold fN_set fN_set_b57 fM_set fM_set_b36 fM_set_b82
  simp only [fN_w6, fM_i6, Option.bind_some, bz_0, e1, e2]
  rw [if_neg (nn (show ib 0 6 by decide)), if_pos (show ib 0 6 by decide), if_pos (show ib 0 6 by decide)]
  have eo : fM_isOf 0 a M = some (1, M) := rfl
  by_cases g2 : 0 ≤ v.toInt ∧ v.toInt ≤ 3
  · rw [if_neg (by rw [i_lt, t1]; omega), if_pos (by rw [i_le, t2]; omega), show fN_told a 0 M = some (M 1 0, M) from rfl]
    simp only [Option.bind_some]
    rw [if_neg (by rw [s2]; intro z; have := nI_t (show s < 2147483648 by omega); rw [z] at this; exact absurd this (by rw [show (-2 : Int32).toInt = -2 from rfl]; omega))]
    rw [show fH_put 1 0 a v M = some (wr M 1 0 v) from rfl]
    simp only [Option.bind_some]
    refine ⟨M 1 0, wr M 1 0 v, wr (wr M 1 0 v) 85 7 v, rfl, ?_, ?_⟩
    · rw [if_neg (nn (show ib 0 6 by decide)), show fM_isOf 0 a (wr M 1 0 v) = some (1, wr M 1 0 v) from rfl]
      simp only [Option.bind_some]
      rw [if_neg (by decide), if_neg (by decide), fM_iv v 0 3 0 3 _ rfl rfl, if_pos trivial]
      simp only [Option.bind_some, bz_0]
      rw [if_neg (nn g2)]
      have et : fM_told a 0 (wr M 1 0 v) = some (M 1 0, wr M 1 0 v) := by
        unfold fM_told
        rw [show fM_in ((0 : Int32).toInt64) (0 : Int64) (7 : Int64) (wr M 1 0 v) = some (1, wr M 1 0 v) from rfl]
        simp only [Option.bind_some]
        unfold fM_told_b26
        rw [if_neg (by decide), show fM_isOf 0 a (wr M 1 0 v) = some (1, wr M 1 0 v) from rfl]
        simp only [Option.bind_some]
        rw [if_neg (by decide), if_neg (by decide), if_pos trivial, wr_ne (by decide), s2, s3]
      rw [et]
      rfl
    · have hv : v = nI (ix v) := (nI_ix g2.1).symm
      refine hR_intro ⟨ix v, by unfold ix; omega, by simp [wr]; exact hv, by simp [wr]; exact hv⟩ ((h2.put (by omega)).put (by omega)) ((h3.put (by omega)).put (by omega)) ((h4.put (by omega)).put (by omega)) ((h5.put (by omega)).put (by omega)) ((h6.put (by omega)).put (by omega)) ((h7.put (by omega)).put (by omega)) ((h8.put (by omega)).put (by omega)) ((h9.put (by omega)).put (by omega))
  · refine ⟨-2, M, M, ?_, ?_, hR⟩
    · by_cases g3 : v.toInt < 0
      · rw [if_pos (by rw [i_lt, t1]; exact g3)]
      · rw [if_neg (by rw [i_lt, t1]; exact g3), if_neg (by rw [i_le, t2]; omega)]
    · rw [if_neg (nn (show ib 0 6 by decide)), eo]
      simp only [Option.bind_some]
      rw [if_neg (by decide), if_neg (by decide), fM_iv v 0 3 0 3 _ rfl rfl, if_pos trivial]
      simp only [Option.bind_some, bz_0]
      rw [if_pos g2]
theorem set_1 (a v : Int32) : Op (fN_set 1 a v) (fM_set 1 a v) := by
  intro M hR
  obtain ⟨⟨s, s1, s2, s3⟩, ⟨n, n1, n2, n3, n4⟩, h3, ⟨m, m1, m2, m3, m4⟩, h5, h6, h7, h8, h9⟩ := hR
  have h1 : RS M := ⟨s, s1, s2, s3⟩
  have h2 : RTY M := ⟨n, n1, n2, n3, n4⟩
  have h4 : RM M := ⟨m, m1, m2, m3, m4⟩
  have hR := hR_intro h1 h2 h3 h4 h5 h6 h7 h8 h9
  have e1 : ([0, 0, 0, 1, 0, 0] : List Int32).getD (ix 1) 0 = 0 := rfl
  have e2 : ([3, 99, 7, 50, 9, 7] : List Int32).getD (ix 1) 0 = 99 := rfl
  have t1 : (0 : Int32).toInt = 0 := rfl
  have t2 : (99 : Int32).toInt = 99 := rfl
  unfold fN_set fN_set_b57 fM_set fM_set_b36 fM_set_b82
  simp only [fN_w6, fM_i6, Option.bind_some, bz_0, e1, e2]
  rw [if_neg (nn (show ib 1 6 by decide)), if_pos (show ib 1 6 by decide), if_pos (show ib 1 6 by decide)]
  by_cases g2 : 0 ≤ v.toInt ∧ v.toInt ≤ 99
  · rw [if_neg (by rw [i_lt, t1]; omega), if_pos (by rw [i_le, t2]; omega), toldN_1 a]
    simp only [Option.bind_some]
    by_cases g1 : ib a 8
    · rw [if_pos g1]
      obtain ⟨k, hk, rfl⟩ := ib_ex g1
      rw [ix_nI (by omega), if_neg (by intro z; have hb := (h3 k hk).1; rw [z] at hb; exact absurd hb (by decide))]
      have ep : fH_put 1 1 (nI k) v M = some (wr M 4 k v) := by
        unfold fH_put
        rw [if_neg (by decide), if_pos rfl, fN_w8]
        simp only [Option.bind_some, bz_0]
        rw [if_neg (nn (ib_mono g1 (by omega))), if_pos (ib_mono g1 (by omega)), ix_nI (by omega)]
      rw [ep]
      simp only [Option.bind_some]
      refine ⟨M 4 k, wr M 4 k v, wr (wr M 4 k v) 89 k v, rfl, ?_, ?_⟩
      · rw [if_neg (nn (show ib 1 6 by decide)), isOf_1 (nI k)]
        simp only [Option.bind_some, bz_0]
        rw [if_neg (nn g1), if_neg (show ¬ (1 : Int32) = 3 by decide), if_neg (show ¬ (1 : Int32) = 0 by decide), if_pos trivial, fM_iv v 0 99 0 99 _ rfl rfl]
        simp only [Option.bind_some, bz_0]
        rw [if_neg (nn g2), toldM_1 (nI k), if_pos g1]
        simp only [Option.bind_some]
        rw [ix_nI (by omega), wr_ne (by omega), (h3 k hk).2]
        have el : fM_lays 1 (nI k) v (wr M 4 k v) = some (wr (wr M 4 k v) 89 k v) := by
          unfold fM_lays
          rw [if_neg (by decide), if_pos rfl, if_pos (ib_mono g1 (by omega)), ix_nI (by omega)]
        rw [el]
        rfl
      · refine hR_intro ((h1.put (by omega)).put (by omega)) ((h2.put (by omega)).put (by omega)) ?_ ((h4.put (by omega)).put (by omega)) ((h5.put (by omega)).put (by omega)) ((h6.put (by omega)).put (by omega)) ((h7.put (by omega)).put (by omega)) ((h8.put (by omega)).put (by omega)) ((h9.put (by omega)).put (by omega))
        intro r hr
        by_cases hrk : r = k
        · subst hrk; simp [wr]; have := g2.1; have := g2.2; omega
        · simp [wr, hrk]; exact h3 r hr
    · rw [if_neg g1, if_pos (show (-2 : Int32) = -2 from rfl)]
      refine ⟨-2, M, M, rfl, ?_, hR⟩
      rw [if_neg (nn (show ib 1 6 by decide)), isOf_1 a]
      simp only [Option.bind_some, bz_0]
      rw [if_pos g1]
  · refine ⟨-2, M, M, ?_, ?_, hR⟩
    · by_cases g3 : v.toInt < 0
      · rw [if_pos (by rw [i_lt, t1]; exact g3)]
      · rw [if_neg (by rw [i_lt, t1]; exact g3), if_neg (by rw [i_le, t2]; omega)]
    · rw [if_neg (nn (show ib 1 6 by decide)), isOf_1 a]
      simp only [Option.bind_some, bz_0]
      by_cases g1 : ib a 8
      · rw [if_neg (nn g1), if_neg (show ¬ (1 : Int32) = 3 by decide), if_neg (show ¬ (1 : Int32) = 0 by decide), if_pos trivial, fM_iv v 0 99 0 99 _ rfl rfl]
        simp only [Option.bind_some, bz_0]
        rw [if_pos g2]
      · rw [if_pos g1]
theorem set_2 (a v : Int32) : Op (fN_set 2 a v) (fM_set 2 a v) := by
  intro M hR
  obtain ⟨⟨s, s1, s2, s3⟩, ⟨n, n1, n2, n3, n4⟩, h3, ⟨m, m1, m2, m3, m4⟩, h5, h6, h7, h8, h9⟩ := hR
  have h1 : RS M := ⟨s, s1, s2, s3⟩
  have h2 : RTY M := ⟨n, n1, n2, n3, n4⟩
  have h4 : RM M := ⟨m, m1, m2, m3, m4⟩
  have hR := hR_intro h1 h2 h3 h4 h5 h6 h7 h8 h9
  have e1 : ([0, 0, 0, 1, 0, 0] : List Int32).getD (ix 2) 0 = 0 := rfl
  have e2 : ([3, 99, 7, 50, 9, 7] : List Int32).getD (ix 2) 0 = 7 := rfl
  have t1 : (0 : Int32).toInt = 0 := rfl
  have t2 : (7 : Int32).toInt = 7 := rfl
  unfold fN_set fN_set_b57 fM_set fM_set_b36 fM_set_b82
  simp only [fN_w6, fM_i6, Option.bind_some, bz_0, e1, e2]
  rw [if_neg (nn (show ib 2 6 by decide)), if_pos (show ib 2 6 by decide), if_pos (show ib 2 6 by decide)]
  by_cases g2 : 0 ≤ v.toInt ∧ v.toInt ≤ 7
  · rw [if_neg (by rw [i_lt, t1]; omega), if_pos (by rw [i_le, t2]; omega), toldN_2 n1 n2 a]
    simp only [Option.bind_some]
    by_cases g1 : ib a n
    · rw [if_pos g1]
      obtain ⟨k, hk, rfl⟩ := ib_ex g1
      rw [ix_nI (by omega), if_neg (by intro z; have hb := (n4 k hk).1; rw [z] at hb; exact absurd hb (by decide))]
      have ep : fH_put 1 2 (nI k) v M = some (wr M 2 k v) := by
        unfold fH_put
        unfold fH_put_b36
        rw [if_neg (by decide), if_neg (by decide), if_pos rfl, fN_w8]
        simp only [Option.bind_some, bz_0]
        rw [if_neg (nn (ib_mono g1 (by omega))), if_pos (ib_mono g1 (by omega)), ix_nI (by omega)]
      rw [ep]
      simp only [Option.bind_some]
      refine ⟨M 2 k, wr M 2 k v, wr (wr M 2 k v) 90 k v, rfl, ?_, ?_⟩
      · rw [if_neg (nn (show ib 2 6 by decide)), isOf_2 n1 (show wr M 2 k v 85 11 = nI n by rw [wr_ne (by decide)]; exact n3) (nI k)]
        simp only [Option.bind_some, bz_0]
        rw [if_neg (nn g1), if_neg (show ¬ (2 : Int32) = 3 by decide), if_neg (show ¬ (2 : Int32) = 0 by decide), if_neg (show ¬ (2 : Int32) = 1 by decide), if_neg (show ¬ (2 : Int32) = 3 by decide), if_neg (show ¬ (2 : Int32) = 4 by decide), fM_iv v 0 7 0 7 _ rfl rfl]
        simp only [Option.bind_some, bz_0]
        rw [if_neg (nn g2), toldM_2 n1 (show wr M 2 k v 85 11 = nI n by rw [wr_ne (by decide)]; exact n3) (nI k), if_pos g1]
        simp only [Option.bind_some]
        rw [ix_nI (by omega), wr_ne (by omega), (n4 k hk).2.1]
        have el : fM_lays 2 (nI k) v (wr M 2 k v) = some (wr (wr M 2 k v) 90 k v) := by
          unfold fM_lays
          rw [if_neg (by decide), if_neg (by decide), if_pos rfl, if_pos (ib_mono g1 (by omega)), ix_nI (by omega)]
        rw [el]
        rfl
      · refine hR_intro ((h1.put (by omega)).put (by omega)) ?_ ((h3.put (by omega)).put (by omega)) ((h4.put (by omega)).put (by omega)) ((h5.put (by omega)).put (by omega)) ((h6.put (by omega)).put (by omega)) ((h7.put (by omega)).put (by omega)) ((h8.put (by omega)).put (by omega)) ((h9.put (by omega)).put (by omega))
        refine ⟨n, n1, by simp [wr]; exact n2, by simp [wr]; exact n3, fun i hi => ?_⟩
        by_cases hrk : i = k
        · subst hrk; simp [wr]; exact ⟨⟨g2.1, by have := g2.2; show v.toInt < 8; omega⟩, (n4 i hi).2.2⟩
        · simp [wr, hrk]; exact n4 i hi
    · rw [if_neg g1, if_pos (show (-2 : Int32) = -2 from rfl)]
      refine ⟨-2, M, M, rfl, ?_, hR⟩
      rw [if_neg (nn (show ib 2 6 by decide)), isOf_2 n1 n3 a]
      simp only [Option.bind_some, bz_0]
      rw [if_pos g1]
  · refine ⟨-2, M, M, ?_, ?_, hR⟩
    · by_cases g3 : v.toInt < 0
      · rw [if_pos (by rw [i_lt, t1]; exact g3)]
      · rw [if_neg (by rw [i_lt, t1]; exact g3), if_neg (by rw [i_le, t2]; omega)]
    · rw [if_neg (nn (show ib 2 6 by decide)), isOf_2 n1 n3 a]
      simp only [Option.bind_some, bz_0]
      by_cases g1 : ib a n
      · rw [if_neg (nn g1), if_neg (show ¬ (2 : Int32) = 3 by decide), if_neg (show ¬ (2 : Int32) = 0 by decide), if_neg (show ¬ (2 : Int32) = 1 by decide), if_neg (show ¬ (2 : Int32) = 3 by decide), if_neg (show ¬ (2 : Int32) = 4 by decide), fM_iv v 0 7 0 7 _ rfl rfl]
        simp only [Option.bind_some, bz_0]
        rw [if_pos g2]
      · rw [if_pos g1]
theorem set_3 (a v : Int32) : Op (fN_set 3 a v) (fM_set 3 a v) := by
  intro M hR
  obtain ⟨⟨s, s1, s2, s3⟩, ⟨n, n1, n2, n3, n4⟩, h3, ⟨m, m1, m2, m3, m4⟩, h5, h6, h7, h8, h9⟩ := hR
  have h1 : RS M := ⟨s, s1, s2, s3⟩
  have h2 : RTY M := ⟨n, n1, n2, n3, n4⟩
  have h4 : RM M := ⟨m, m1, m2, m3, m4⟩
  have hR := hR_intro h1 h2 h3 h4 h5 h6 h7 h8 h9
  have e1 : ([0, 0, 0, 1, 0, 0] : List Int32).getD (ix 3) 0 = 1 := rfl
  have e2 : ([3, 99, 7, 50, 9, 7] : List Int32).getD (ix 3) 0 = 50 := rfl
  have t1 : (1 : Int32).toInt = 1 := rfl
  have t2 : (50 : Int32).toInt = 50 := rfl
  unfold fN_set fN_set_b57 fM_set fM_set_b36 fM_set_b82
  simp only [fN_w6, fM_i6, Option.bind_some, bz_0, e1, e2]
  rw [if_neg (nn (show ib 3 6 by decide)), if_pos (show ib 3 6 by decide), if_pos (show ib 3 6 by decide)]
  by_cases g2 : 1 ≤ v.toInt ∧ v.toInt ≤ 50
  · rw [if_neg (by rw [i_lt, t1]; omega), if_pos (by rw [i_le, t2]; omega), toldN_3 n1 n2 a]
    simp only [Option.bind_some]
    by_cases g1 : ib a n
    · rw [if_pos g1]
      obtain ⟨k, hk, rfl⟩ := ib_ex g1
      rw [ix_nI (by omega), if_neg (by intro z; have hb := (n4 k hk).2.2.1; rw [z, show (-2 : Int32).toInt = -2 from rfl] at hb; omega)]
      have ep : fH_put 1 3 (nI k) v M = some (wr M 3 k v) := by
        unfold fH_put
        unfold fH_put_b36 fH_put_b60
        rw [if_neg (by decide), if_neg (by decide), if_neg (by decide), if_pos rfl, fN_w8]
        simp only [Option.bind_some, bz_0]
        rw [if_neg (nn (ib_mono g1 (by omega))), if_pos (ib_mono g1 (by omega)), ix_nI (by omega)]
      rw [ep]
      simp only [Option.bind_some]
      refine ⟨M 3 k, wr M 3 k v, wr (wr M 3 k v) 91 k v, rfl, ?_, ?_⟩
      · rw [if_neg (nn (show ib 3 6 by decide)), isOf_3 n1 (show wr M 3 k v 85 11 = nI n by rw [wr_ne (by decide)]; exact n3) (nI k)]
        simp only [Option.bind_some, bz_0]
        rw [if_neg (nn g1), if_pos trivial, if_neg (show ¬ (3 : Int32) = 0 by decide), if_neg (show ¬ (3 : Int32) = 1 by decide), if_pos trivial, fM_iv v 1 50 1 50 _ rfl rfl]
        simp only [Option.bind_some, bz_0]
        rw [if_neg (nn g2), toldM_3 n1 (show wr M 3 k v 85 11 = nI n by rw [wr_ne (by decide)]; exact n3) (nI k), if_pos g1]
        simp only [Option.bind_some]
        rw [ix_nI (by omega), wr_ne (by omega), (n4 k hk).2.2.2]
        have el : fM_lays 3 (nI k) v (wr M 3 k v) = some (wr (wr M 3 k v) 91 k v) := by
          unfold fM_lays
          rw [if_neg (by decide), if_neg (by decide), if_neg (by decide), if_pos rfl, if_pos (ib_mono g1 (by omega)), ix_nI (by omega)]
        rw [el]
        rfl
      · refine hR_intro ((h1.put (by omega)).put (by omega)) ?_ ((h3.put (by omega)).put (by omega)) ((h4.put (by omega)).put (by omega)) ((h5.put (by omega)).put (by omega)) ((h6.put (by omega)).put (by omega)) ((h7.put (by omega)).put (by omega)) ((h8.put (by omega)).put (by omega)) ((h9.put (by omega)).put (by omega))
        refine ⟨n, n1, by simp [wr]; exact n2, by simp [wr]; exact n3, fun i hi => ?_⟩
        by_cases hrk : i = k
        · subst hrk; simp [wr]; exact ⟨(n4 i hi).1, (n4 i hi).2.1, g2⟩
        · simp [wr, hrk]; exact n4 i hi
    · rw [if_neg g1, if_pos (show (-2 : Int32) = -2 from rfl)]
      refine ⟨-2, M, M, rfl, ?_, hR⟩
      rw [if_neg (nn (show ib 3 6 by decide)), isOf_3 n1 n3 a]
      simp only [Option.bind_some, bz_0]
      rw [if_pos g1]
  · refine ⟨-2, M, M, ?_, ?_, hR⟩
    · by_cases g3 : v.toInt < 1
      · rw [if_pos (by rw [i_lt, t1]; exact g3)]
      · rw [if_neg (by rw [i_lt, t1]; exact g3), if_neg (by rw [i_le, t2]; omega)]
    · rw [if_neg (nn (show ib 3 6 by decide)), isOf_3 n1 n3 a]
      simp only [Option.bind_some, bz_0]
      by_cases g1 : ib a n
      · rw [if_neg (nn g1), if_pos trivial, if_neg (show ¬ (3 : Int32) = 0 by decide), if_neg (show ¬ (3 : Int32) = 1 by decide), if_pos trivial, fM_iv v 1 50 1 50 _ rfl rfl]
        simp only [Option.bind_some, bz_0]
        rw [if_pos g2]
      · rw [if_pos g1]
theorem set_4 (a v : Int32) : Op (fN_set 4 a v) (fM_set 4 a v) := by
  intro M hR
  obtain ⟨⟨s, s1, s2, s3⟩, ⟨n, n1, n2, n3, n4⟩, h3, ⟨m, m1, m2, m3, m4⟩, h5, h6, h7, h8, h9⟩ := hR
  have h1 : RS M := ⟨s, s1, s2, s3⟩
  have h2 : RTY M := ⟨n, n1, n2, n3, n4⟩
  have h4 : RM M := ⟨m, m1, m2, m3, m4⟩
  have hR := hR_intro h1 h2 h3 h4 h5 h6 h7 h8 h9
  have e1 : ([0, 0, 0, 1, 0, 0] : List Int32).getD (ix 4) 0 = 0 := rfl
  have e2 : ([3, 99, 7, 50, 9, 7] : List Int32).getD (ix 4) 0 = 9 := rfl
  have t1 : (0 : Int32).toInt = 0 := rfl
  have t2 : (9 : Int32).toInt = 9 := rfl
  unfold fN_set fN_set_b57 fM_set fM_set_b36 fM_set_b82
  simp only [fN_w6, fM_i6, Option.bind_some, bz_0, e1, e2]
  rw [if_neg (nn (show ib 4 6 by decide)), if_pos (show ib 4 6 by decide), if_pos (show ib 4 6 by decide)]
  by_cases g2 : 0 ≤ v.toInt ∧ v.toInt ≤ 9
  · rw [if_neg (by rw [i_lt, t1]; omega), if_pos (by rw [i_le, t2]; omega), toldN_4 m1 m2 a]
    simp only [Option.bind_some]
    by_cases g1 : ib a m
    · rw [if_pos g1]
      obtain ⟨k, hk, rfl⟩ := ib_ex g1
      rw [ix_nI (by omega), if_neg (by intro z; have hb := (m4 k hk).2.1.1; rw [z] at hb; exact absurd hb (by decide))]
      have ep : fH_put 1 4 (nI k) v M = some (wr M (6 + 2 * k) 1 v) := by
        unfold fH_put
        unfold fH_put_b36 fH_put_b60 fH_put_b84
        rw [if_neg (by decide), if_neg (by decide), if_neg (by decide), if_neg (by decide), if_pos rfl, fN_w4]
        simp only [Option.bind_some, bz_0]
        rw [if_neg (nn (ib_mono g1 (by omega))), if_pos (ib_mono g1 (by omega)), ix_nI (by omega)]
      rw [ep]
      simp only [Option.bind_some]
      refine ⟨M (6 + 2 * k) 1, wr M (6 + 2 * k) 1 v, wr (wr M (6 + 2 * k) 1 v) 93 k v, rfl, ?_, ?_⟩
      · rw [if_neg (nn (show ib 4 6 by decide)), isOf_4 m1 (show wr M (6 + 2 * k) 1 v 85 17 = nI m by rw [wr_ne (by omega)]; exact m3) (nI k)]
        simp only [Option.bind_some, bz_0]
        rw [if_neg (nn g1), if_neg (show ¬ (4 : Int32) = 3 by decide), if_neg (show ¬ (4 : Int32) = 0 by decide), if_neg (show ¬ (4 : Int32) = 1 by decide), if_neg (show ¬ (4 : Int32) = 3 by decide), if_pos trivial, fM_iv v 0 9 0 9 _ rfl rfl]
        simp only [Option.bind_some, bz_0]
        rw [if_neg (nn g2), toldM_4 m1 (show wr M (6 + 2 * k) 1 v 85 17 = nI m by rw [wr_ne (by omega)]; exact m3) (nI k), if_pos g1]
        simp only [Option.bind_some]
        rw [ix_nI (by omega), wr_ne (by omega), (m4 k hk).2.1.2]
        have el : fM_lays 4 (nI k) v (wr M (6 + 2 * k) 1 v) = some (wr (wr M (6 + 2 * k) 1 v) 93 k v) := by
          unfold fM_lays
          rw [if_neg (by decide), if_neg (by decide), if_neg (by decide), if_neg (by decide), if_pos rfl, if_pos (ib_mono g1 (by omega)), ix_nI (by omega)]
        rw [el]
        rfl
      · refine hR_intro ((h1.put (by omega)).put (by omega)) ((h2.put (by omega)).put (by omega)) ((h3.put (by omega)).put (by omega)) ?_ ((h5.put (by omega)).put (by omega)) ((h6.put (by omega)).put (by omega)) ((h7.put (by omega)).put (by omega)) ((h8.put (by omega)).put (by omega)) ((h9.put (by omega)).put (by omega))
        refine ⟨m, m1, by rw [wr_ne (by omega), wr_ne (by omega)]; exact m2, by rw [wr_ne (by omega), wr_ne (by omega)]; exact m3, fun i hi => ?_⟩
        by_cases hrk : i = k
        · subst hrk
          obtain ⟨d1, d2, d3, d4⟩ := m4 i hi
          unfold MD
          rw [wr_ne (show 6 + 2 * i ≠ 93 by omega), wr_stS, wr_ne (show 7 + 2 * i ≠ 93 by omega), wr_ne (show 7 + 2 * i ≠ 6 + 2 * i by omega), wr_ne (show 92 ≠ 93 by decide), wr_ne (show 92 ≠ 6 + 2 * i by omega), wr_same, wr_ne (show 94 ≠ 93 by decide), wr_ne (show 94 ≠ 6 + 2 * i by omega), wr_ne (show 95 ≠ 93 by decide), wr_ne (show 95 ≠ 6 + 2 * i by omega), wr_ne (show 96 ≠ 93 by decide), wr_ne (show 96 ≠ 6 + 2 * i by omega)]
          unfold stS
          rw [if_neg (by decide), if_pos rfl, if_neg (by decide), if_neg (by decide)]
          exact ⟨d1, ⟨⟨g2.1, by have := g2.2; omega⟩, rfl⟩, d3, d4⟩
        · exact (m4 i hi).at (by rw [wr_ne (by omega), wr_ne (by omega)]) (by rw [wr_ne (by omega), wr_ne (by omega)]) (by rw [wr_ne (by omega), wr_ne (by omega)]) (by rw [wr_at (by omega), wr_ne (by omega)]) (by rw [wr_ne (by omega), wr_ne (by omega)]) (fun j hj => by rw [wr_ne (by omega), wr_ne (by omega)]) (by rw [wr_ne (by omega), wr_ne (by omega)])
    · rw [if_neg g1, if_pos (show (-2 : Int32) = -2 from rfl)]
      refine ⟨-2, M, M, rfl, ?_, hR⟩
      rw [if_neg (nn (show ib 4 6 by decide)), isOf_4 m1 m3 a]
      simp only [Option.bind_some, bz_0]
      rw [if_pos g1]
  · refine ⟨-2, M, M, ?_, ?_, hR⟩
    · by_cases g3 : v.toInt < 0
      · rw [if_pos (by rw [i_lt, t1]; exact g3)]
      · rw [if_neg (by rw [i_lt, t1]; exact g3), if_neg (by rw [i_le, t2]; omega)]
    · rw [if_neg (nn (show ib 4 6 by decide)), isOf_4 m1 m3 a]
      simp only [Option.bind_some, bz_0]
      by_cases g1 : ib a m
      · rw [if_neg (nn g1), if_neg (show ¬ (4 : Int32) = 3 by decide), if_neg (show ¬ (4 : Int32) = 0 by decide), if_neg (show ¬ (4 : Int32) = 1 by decide), if_neg (show ¬ (4 : Int32) = 3 by decide), if_pos trivial, fM_iv v 0 9 0 9 _ rfl rfl]
        simp only [Option.bind_some, bz_0]
        rw [if_pos g2]
      · rw [if_pos g1]
theorem set_5 (a v : Int32) : Op (fN_set 5 a v) (fM_set 5 a v) := by
  intro M hR
  obtain ⟨⟨s, s1, s2, s3⟩, ⟨n, n1, n2, n3, n4⟩, h3, ⟨m, m1, m2, m3, m4⟩, h5, h6, h7, h8, h9⟩ := hR
  have h1 : RS M := ⟨s, s1, s2, s3⟩
  have h2 : RTY M := ⟨n, n1, n2, n3, n4⟩
  have h4 : RM M := ⟨m, m1, m2, m3, m4⟩
  have hR := hR_intro h1 h2 h3 h4 h5 h6 h7 h8 h9
  have e1 : ([0, 0, 0, 1, 0, 0] : List Int32).getD (ix 5) 0 = 0 := rfl
  have e2 : ([3, 99, 7, 50, 9, 7] : List Int32).getD (ix 5) 0 = 7 := rfl
  have t1 : (0 : Int32).toInt = 0 := rfl
  have t2 : (7 : Int32).toInt = 7 := rfl
  unfold fN_set fN_set_b57 fM_set fM_set_b36 fM_set_b82
  simp only [fN_w6, fM_i6, Option.bind_some, bz_0, e1, e2]
  rw [if_neg (nn (show ib 5 6 by decide)), if_pos (show ib 5 6 by decide), if_pos (show ib 5 6 by decide)]
  by_cases g2 : 0 ≤ v.toInt ∧ v.toInt ≤ 7
  · rw [if_neg (by rw [i_lt, t1]; omega), if_pos (by rw [i_le, t2]; omega), toldN_5 m1 m2 a]
    simp only [Option.bind_some]
    by_cases g1 : ib a m
    · rw [if_pos g1]
      obtain ⟨k, hk, rfl⟩ := ib_ex g1
      rw [ix_nI (by omega), if_neg (by intro z; have hb := (m4 k hk).2.2.1.1; rw [z] at hb; exact absurd hb (by decide))]
      have ep : fH_put 1 5 (nI k) v M = some (wr M (6 + 2 * k) 2 v) := by
        unfold fH_put
        unfold fH_put_b36 fH_put_b60 fH_put_b84 fH_put_b110
        rw [if_neg (by decide), if_neg (by decide), if_neg (by decide), if_neg (by decide), if_neg (by decide), if_pos rfl, fN_w4]
        simp only [Option.bind_some, bz_0]
        rw [if_neg (nn (ib_mono g1 (by omega))), if_pos (ib_mono g1 (by omega)), ix_nI (by omega)]
      rw [ep]
      simp only [Option.bind_some]
      refine ⟨M (6 + 2 * k) 2, wr M (6 + 2 * k) 2 v, wr (wr M (6 + 2 * k) 2 v) 94 k v, rfl, ?_, ?_⟩
      · rw [if_neg (nn (show ib 5 6 by decide)), isOf_5 m1 (show wr M (6 + 2 * k) 2 v 85 17 = nI m by rw [wr_ne (by omega)]; exact m3) (nI k)]
        simp only [Option.bind_some, bz_0]
        rw [if_neg (nn g1), if_neg (show ¬ (5 : Int32) = 3 by decide), if_neg (show ¬ (5 : Int32) = 0 by decide), if_neg (show ¬ (5 : Int32) = 1 by decide), if_neg (show ¬ (5 : Int32) = 3 by decide), if_neg (show ¬ (5 : Int32) = 4 by decide), fM_iv v 0 7 0 7 _ rfl rfl]
        simp only [Option.bind_some, bz_0]
        rw [if_neg (nn g2), toldM_5 m1 (show wr M (6 + 2 * k) 2 v 85 17 = nI m by rw [wr_ne (by omega)]; exact m3) (nI k), if_pos g1]
        simp only [Option.bind_some]
        rw [ix_nI (by omega), wr_ne (by omega), (m4 k hk).2.2.1.2]
        have el : fM_lays 5 (nI k) v (wr M (6 + 2 * k) 2 v) = some (wr (wr M (6 + 2 * k) 2 v) 94 k v) := by
          unfold fM_lays
          rw [if_neg (by decide), if_neg (by decide), if_neg (by decide), if_neg (by decide), if_neg (by decide), if_pos (ib_mono g1 (by omega)), ix_nI (by omega)]
        rw [el]
        rfl
      · refine hR_intro ((h1.put (by omega)).put (by omega)) ((h2.put (by omega)).put (by omega)) ((h3.put (by omega)).put (by omega)) ?_ ((h5.put (by omega)).put (by omega)) ((h6.put (by omega)).put (by omega)) ((h7.put (by omega)).put (by omega)) ((h8.put (by omega)).put (by omega)) ((h9.put (by omega)).put (by omega))
        refine ⟨m, m1, by rw [wr_ne (by omega), wr_ne (by omega)]; exact m2, by rw [wr_ne (by omega), wr_ne (by omega)]; exact m3, fun i hi => ?_⟩
        by_cases hrk : i = k
        · subst hrk
          obtain ⟨d1, d2, d3, d4⟩ := m4 i hi
          unfold MD
          rw [wr_ne (show 6 + 2 * i ≠ 94 by omega), wr_stS, wr_ne (show 7 + 2 * i ≠ 94 by omega), wr_ne (show 7 + 2 * i ≠ 6 + 2 * i by omega), wr_ne (show 92 ≠ 94 by decide), wr_ne (show 92 ≠ 6 + 2 * i by omega), wr_ne (show 93 ≠ 94 by decide), wr_ne (show 93 ≠ 6 + 2 * i by omega), wr_same, wr_ne (show 95 ≠ 94 by decide), wr_ne (show 95 ≠ 6 + 2 * i by omega), wr_ne (show 96 ≠ 94 by decide), wr_ne (show 96 ≠ 6 + 2 * i by omega)]
          unfold stS
          rw [if_neg (by decide), if_neg (by decide), if_pos rfl, if_neg (by decide)]
          exact ⟨d1, d2, ⟨⟨g2.1, by have := g2.2; omega⟩, rfl⟩, d4⟩
        · exact (m4 i hi).at (by rw [wr_ne (by omega), wr_ne (by omega)]) (by rw [wr_ne (by omega), wr_ne (by omega)]) (by rw [wr_ne (by omega), wr_ne (by omega)]) (by rw [wr_ne (by omega), wr_ne (by omega)]) (by rw [wr_at (by omega), wr_ne (by omega)]) (fun j hj => by rw [wr_ne (by omega), wr_ne (by omega)]) (by rw [wr_ne (by omega), wr_ne (by omega)])
    · rw [if_neg g1, if_pos (show (-2 : Int32) = -2 from rfl)]
      refine ⟨-2, M, M, rfl, ?_, hR⟩
      rw [if_neg (nn (show ib 5 6 by decide)), isOf_5 m1 m3 a]
      simp only [Option.bind_some, bz_0]
      rw [if_pos g1]
  · refine ⟨-2, M, M, ?_, ?_, hR⟩
    · by_cases g3 : v.toInt < 0
      · rw [if_pos (by rw [i_lt, t1]; exact g3)]
      · rw [if_neg (by rw [i_lt, t1]; exact g3), if_neg (by rw [i_le, t2]; omega)]
    · rw [if_neg (nn (show ib 5 6 by decide)), isOf_5 m1 m3 a]
      simp only [Option.bind_some, bz_0]
      by_cases g1 : ib a m
      · rw [if_neg (nn g1), if_neg (show ¬ (5 : Int32) = 3 by decide), if_neg (show ¬ (5 : Int32) = 0 by decide), if_neg (show ¬ (5 : Int32) = 1 by decide), if_neg (show ¬ (5 : Int32) = 3 by decide), if_neg (show ¬ (5 : Int32) = 4 by decide), fM_iv v 0 7 0 7 _ rfl rfl]
        simp only [Option.bind_some, bz_0]
        rw [if_pos g2]
      · rw [if_pos g1]
theorem op_set (w a v : Int32) : Op (fN_set w a v) (fM_set w a v) := by
  by_cases h : ib w 6
  · obtain ⟨q, hq, rfl⟩ := ib_ex h
    rcases (by omega : q = 0 ∨ q = 1 ∨ q = 2 ∨ q = 3 ∨ q = 4 ∨ q = 5) with rfl | rfl | rfl | rfl | rfl | rfl
    · exact set_0 a v
    · exact set_1 a v
    · exact set_2 a v
    · exact set_3 a v
    · exact set_4 a v
    · exact set_5 a v
  · intro M hR
    unfold fN_set fM_set
    simp only [fN_w6, fM_i6, Option.bind_some, bz_0]
    exact ⟨-2, M, M, by rw [if_pos h], by rw [if_pos h], hR⟩
