/-! 42: guards; the simple calls -/
theorem nn {p : Prop} (h : p) : ¬ ¬ p := fun z => z h
theorem fN_w (a : Int32) (N : Nat) (M : Mem) (h : N < 2147483648) : fN_within a (nI N) M = some (bz (ib a N), M) := by
  rw [fN_within_eq]
  exact congrArg (fun x => some (x, M)) (bz_iff (by rw [nI_t h]))
theorem fN_w2 (a : Int32) (M : Mem) : fN_within a 2 M = some (bz (ib a 2), M) := fN_w a 2 M (by omega)
theorem fN_w3 (a : Int32) (M : Mem) : fN_within a 3 M = some (bz (ib a 3), M) := fN_w a 3 M (by omega)
theorem fN_w4 (a : Int32) (M : Mem) : fN_within a 4 M = some (bz (ib a 4), M) := fN_w a 4 M (by omega)
theorem fN_w5 (a : Int32) (M : Mem) : fN_within a 5 M = some (bz (ib a 5), M) := fN_w a 5 M (by omega)
theorem fN_w6 (a : Int32) (M : Mem) : fN_within a 6 M = some (bz (ib a 6), M) := fN_w a 6 M (by omega)
theorem fN_w8 (a : Int32) (M : Mem) : fN_within a 8 M = some (bz (ib a 8), M) := fN_w a 8 M (by omega)
theorem fN_w10 (a : Int32) (M : Mem) : fN_within a 10 M = some (bz (ib a 10), M) := fN_w a 10 M (by omega)
theorem fN_w100 (a : Int32) (M : Mem) : fN_within a 100 M = some (bz (ib a 100), M) := fN_w a 100 M (by omega)
theorem fN_w256 (a : Int32) (M : Mem) : fN_within a 256 M = some (bz (ib a 256), M) := fN_w a 256 M (by omega)
theorem fM_ib (a : Int32) (x y : Int64) (N : Nat) (M : Mem) (hx : x.toInt = 0) (hy : y.toInt + 1 = N) : fM_in a.toInt64 x y M = some (bz (ib a N), M) := by
  rw [fM_in_eq]
  exact congrArg (fun x => some (x, M)) (bz_iff (by rw [t64, hx]; unfold ib; omega))
theorem fM_i2 (a : Int32) (M : Mem) : fM_in a.toInt64 (0 : Int64) (1 : Int64) M = some (bz (ib a 2), M) := fM_ib a 0 1 2 M rfl rfl
theorem fM_i3 (a : Int32) (M : Mem) : fM_in a.toInt64 (0 : Int64) (2 : Int64) M = some (bz (ib a 3), M) := fM_ib a 0 2 3 M rfl rfl
theorem fM_i4 (a : Int32) (M : Mem) : fM_in a.toInt64 (0 : Int64) (3 : Int64) M = some (bz (ib a 4), M) := fM_ib a 0 3 4 M rfl rfl
theorem fM_i5 (a : Int32) (M : Mem) : fM_in a.toInt64 (0 : Int64) (4 : Int64) M = some (bz (ib a 5), M) := fM_ib a 0 4 5 M rfl rfl
theorem fM_i6 (a : Int32) (M : Mem) : fM_in a.toInt64 (0 : Int64) (5 : Int64) M = some (bz (ib a 6), M) := fM_ib a 0 5 6 M rfl rfl
theorem fM_i7 (a : Int32) (M : Mem) : fM_in a.toInt64 (0 : Int64) (6 : Int64) M = some (bz (ib a 7), M) := fM_ib a 0 6 7 M rfl rfl
theorem fM_i8 (a : Int32) (M : Mem) : fM_in a.toInt64 (0 : Int64) (7 : Int64) M = some (bz (ib a 8), M) := fM_ib a 0 7 8 M rfl rfl
theorem fM_i10 (a : Int32) (M : Mem) : fM_in a.toInt64 (0 : Int64) (9 : Int64) M = some (bz (ib a 10), M) := fM_ib a 0 9 10 M rfl rfl
theorem fM_i100 (a : Int32) (M : Mem) : fM_in a.toInt64 (0 : Int64) (99 : Int64) M = some (bz (ib a 100), M) := fM_ib a 0 99 100 M rfl rfl
theorem fM_i101 (a : Int32) (M : Mem) : fM_in a.toInt64 (0 : Int64) (100 : Int64) M = some (bz (ib a 101), M) := fM_ib a 0 100 101 M rfl rfl
theorem fM_i256 (a : Int32) (M : Mem) : fM_in a.toInt64 (0 : Int64) (255 : Int64) M = some (bz (ib a 256), M) := fM_ib a 0 255 256 M rfl rfl
theorem fM_iv (a : Int32) (x y : Int64) (lo hi : Int) (M : Mem) (hx : x.toInt = lo) (hy : y.toInt = hi) : fM_in a.toInt64 x y M = some (bz (lo ≤ a.toInt ∧ a.toInt ≤ hi), M) := by
  rw [fM_in_eq]
  exact congrArg (fun x => some (x, M)) (bz_iff (by rw [t64, hx, hy]))
theorem fM_r8 (a : Int32) (M : Mem) : fM_isRoom a M = some (bz (ib a 8), M) := fM_isRoom_eq a M
theorem fM_s4 (a : Int32) (M : Mem) : fM_isSheet a M = some (bz (ib a 4), M) := fM_isSheet_eq a M
theorem fM_mm {m : Nat} (a : Int32) (M : Mem) (hm : m ≤ 4) (h : M 85 17 = nI m) : fM_isMaid a M = some (bz (ib a m), M) := by
  rw [fM_isMaid_eq a M (by rw [h, nI_t (by omega)]; omega)]
  exact congrArg (fun x => some (x, M)) (bz_iff (by rw [h, nI_t (by omega)]))
theorem fM_ss {n : Nat} (a : Int32) (M : Mem) (hm : n ≤ 8) (h : M 85 11 = nI n) : fM_isStay a M = some (bz (ib a n), M) := by
  rw [fM_isStay_eq a M (by rw [h, nI_t (by omega)]; omega)]
  exact congrArg (fun x => some (x, M)) (bz_iff (by rw [h, nI_t (by omega)]))
theorem ib_mono {a : Int32} {m n : Nat} (h : ib a m) (e : m ≤ n) : ib a n := ⟨h.1, by have := h.2; omega⟩
theorem op_stay (a b : Int32) : Op (fN_stay a b) (fM_stay a b) := by
  intro M hR
  obtain ⟨h1, ⟨n, n1, n2, n3, n4⟩, h3, h4, h5, h6, h7, h8, h9⟩ := hR
  have hR : Rel M := ⟨h1, ⟨n, n1, n2, n3, n4⟩, h3, h4, h5, h6, h7, h8, h9⟩
  have e1 : ([0, 0, 0, 1, 0, 0] : List Int32).getD (ix 3) 0 = 1 := rfl
  have e50 : ([3, 99, 7, 50, 9, 7] : List Int32).getD (ix 3) 0 = 50 := rfl
  have t1 : (1 : Int32).toInt = 1 := rfl
  have t50 : (50 : Int32).toInt = 50 := rfl
  unfold fN_stay fM_stay
  simp only [fN_w8, fM_r8, fM_iv b 1 50 1 50 _ rfl rfl, Option.bind_some, bz_0, e1, e50, if_pos (show ib 3 6 by decide)]
  by_cases g1 : ib a 8
  · rw [if_neg (nn g1)]
    by_cases g2 : 1 ≤ b.toInt ∧ b.toInt ≤ 50
    · rw [if_neg (by rw [i_lt, t1]; omega), if_pos (by rw [i_le, t50]; omega), n2]
      by_cases g3 : n = 8
      · subst g3
        refine ⟨-4, M, M, ?_, ?_, hR⟩
        · rw [if_neg (by decide)]
        · rw [if_neg (nn g1), if_neg (nn g2), n3, if_pos (by decide)]
      · rw [if_pos (by rw [show (8 : Int32) = nI 8 from rfl, n_lt (by omega) (by omega)]; omega), if_pos (ib_nI (by omega) (by omega)), ix_nI (by omega), wr_ne (show 1 ≠ 2 by decide), n2, if_pos (ib_nI (by omega) (by omega)), ix_nI (by omega), wr_ne (show 1 ≠ 3 by decide), wr_ne (show 1 ≠ 2 by decide), n2, nI_1, wr_same]
        have q3 : (wr (wr (wr M 2 n a) 3 n b) 1 1 (nI (n + 1))) 85 11 = nI n := by rw [wr_ne (by decide), wr_ne (by decide), wr_ne (by decide)]; exact n3
        refine ⟨nI (n + 1), _, wr (wr (wr (wr (wr (wr M 2 n a) 3 n b) 1 1 (nI (n + 1))) 90 n a) 91 n b) 85 11 (nI (n + 1)), rfl, ?_, ?_⟩
        · rw [if_neg (nn g1), if_neg (nn g2), q3, if_neg (by rw [show (8 : Int32) = nI 8 from rfl, n_eq (by omega) (by omega)]; omega), if_pos (ib_nI (by omega) (by omega)), ix_nI (by omega), wr_ne (show 85 ≠ 90 by decide), q3, if_pos (ib_nI (by omega) (by omega)), ix_nI (by omega), wr_ne (show 85 ≠ 91 by decide), wr_ne (show 85 ≠ 90 by decide), q3, nI_1, wr_same]
        · refine ⟨((((((h1.put (by omega)).put (by omega)).put (by omega)).put (by omega)).put (by omega)).put (by omega)), ⟨n + 1, by omega, ?_, ?_, fun i hi => ?_⟩, ((((((h3.put (by omega)).put (by omega)).put (by omega)).put (by omega)).put (by omega)).put (by omega)), ((((((h4.put (by omega)).put (by omega)).put (by omega)).put (by omega)).put (by omega)).put (by omega)), ((((((h5.put (by omega)).put (by omega)).put (by omega)).put (by omega)).put (by omega)).put (by omega)), ((((((h6.put (by omega)).put (by omega)).put (by omega)).put (by omega)).put (by omega)).put (by omega)), ((((((h7.put (by omega)).put (by omega)).put (by omega)).put (by omega)).put (by omega)).put (by omega)), ((((((h8.put (by omega)).put (by omega)).put (by omega)).put (by omega)).put (by omega)).put (by omega)), ((((((h9.put (by omega)).put (by omega)).put (by omega)).put (by omega)).put (by omega)).put (by omega))⟩
          · simp [wr]
          · simp [wr]
          · by_cases hin : i = n
            · subst hin
              simp [wr]
              exact ⟨g1, g2⟩
            · simp [wr, hin]
              exact n4 i (by omega)
    · refine ⟨-2, M, M, ?_, ?_, hR⟩
      · by_cases g4 : b.toInt < 1
        · rw [if_pos (by rw [i_lt, t1]; exact g4)]
        · rw [if_neg (by rw [i_lt, t1]; exact g4), if_neg (by rw [i_le, t50]; omega)]
      · rw [if_neg (nn g1), if_pos g2]
  · exact ⟨-2, M, M, by rw [if_pos g1], by rw [if_pos g1], hR⟩
