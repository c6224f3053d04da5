/-! 57: mornings that were told; copies; maids by a sheet -/
def tolF (g : Int32 → Int32) (it : Stk) (f : Nat) : Nat → Nat → Bool
  | 0, _ => true
  | c + 1, i => decide (g (nI (f + i)) = it i) && tolF g it f c (i + 1)
theorem isTold_eq {M : Mem} {g : Int32 → Int32} {s n f : Nat} (g1 : ∀ t, fH_masterIn 1 t M = some (g t, M)) (hn : n ≤ 40) (hs : M (77 + 2 * s) 1 = nI n) : fN_isTold (77 + 2 * s) (nI f) M = some (bz (tolF g (M (78 + 2 * s)) f n 0 = true), M) := by
  have loop : ∀ (c i z : Nat), i + c = n → c < z → fN_isTold_b2 (77 + 2 * s) (nI f) z (nI i) M = some (bz (tolF g (M (78 + 2 * s)) f c i = true), M) := by
    intro c
    induction c with
    | zero =>
      intro i z hi hz
      obtain ⟨z, rfl⟩ := Nat.exists_eq_succ_of_ne_zero (show z ≠ 0 by omega)
      rw [fN_isTold_b2, hs, if_pos (by rw [n_le (by omega) (by omega)]; omega)]
      rfl
    | succ c ih =>
      intro i z hi hz
      obtain ⟨z, rfl⟩ := Nat.exists_eq_succ_of_ne_zero (show z ≠ 0 by omega)
      rw [fN_isTold_b2, hs, if_neg (by rw [n_le (by omega) (by omega)]; omega), nI_add, g1]
      simp only [Option.bind_some]
      rw [if_pos (ib_nI (by omega) (by omega)), ix_nI (by omega), show 77 + 2 * s + 1 = 78 + 2 * s by omega, nI_1, ih (i + 1) z (by omega) (by omega), tolF]
      by_cases h : g (nI (f + i)) = M (78 + 2 * s) i
      · rw [if_pos h, decide_eq_true h, Bool.true_and]
      · rw [if_neg h, decide_eq_false h, Bool.false_and]
        rfl
  exact loop n 0 1000 (by omega) (by omega)
def froF (P : Nat → Bool) : Nat → Nat → Int32 → Int32 → Int32 × Int32
  | 0, _, many, least => (many, least)
  | c + 1, f, many, least => if P f = true then froF P c (f + 1) (many + 1) (if least = -1 then nI f else least) else froF P c (f + 1) many least
theorem fN_from_b45_eq {M : Mem} {g : Int32 → Int32} {s n : Nat} (w : Int32) (g1 : ∀ t, fH_masterIn 1 t M = some (g t, M)) (hn : n ≤ 40) (hs : M (77 + 2 * s) 1 = nI n) : ∀ (c f z : Nat) (many least : Int32), f + c = 100 → c < z → fN_from_b45 w (77 + 2 * s) z many least (nI f) M = some (if w = 0 then (froF (fun f => tolF g (M (78 + 2 * s)) f n 0) c f many least).1 else (froF (fun f => tolF g (M (78 + 2 * s)) f n 0) c f many least).2, M) := by
  intro c
  induction c with
  | zero =>
    intro f z many least hf hz
    obtain ⟨z, rfl⟩ := Nat.exists_eq_succ_of_ne_zero (show z ≠ 0 by omega)
    rw [fN_from_b45, if_pos (by rw [show (100 : Int32) = nI 100 from rfl, n_le (by omega) (by omega)]; omega), froF]
    by_cases hw : w = 0
    · rw [if_pos hw, if_pos hw]
    · rw [if_neg hw, if_neg hw]
  | succ c ih =>
    intro f z many least hf hz
    obtain ⟨z, rfl⟩ := Nat.exists_eq_succ_of_ne_zero (show z ≠ 0 by omega)
    rw [fN_from_b45, if_neg (by rw [show (100 : Int32) = nI 100 from rfl, n_le (by omega) (by omega)]; omega), isTold_eq g1 hn hs]
    simp only [Option.bind_some, bz_0]
    unfold fN_from_b75
    rw [nI_1, froF]
    by_cases h : tolF g (M (78 + 2 * s)) f n 0 = true
    · rw [if_neg (nn h), if_pos h]
      by_cases hl : least = -1
      · rw [if_pos hl, if_pos hl]
        exact ih (f + 1) z _ _ (by omega) (by omega)
      · rw [if_neg hl, if_neg hl]
        exact ih (f + 1) z _ _ (by omega) (by omega)
    · rw [if_pos h, if_neg h]
      exact ih (f + 1) z _ _ (by omega) (by omega)
theorem fM_from_b53_eq {M : Mem} {g : Int32 → Int32} {s n f : Nat} {it : Stk} {w many least : Int32} (k40 : Int32 → Int32 → Int32 → Mem → Option (Int32 × Mem)) (g2 : ∀ t, 0 ≤ t.toInt → fM_masterIn t M = some (g t, M)) (hs4 : s < 4) (hf : f < 100) (hn : n ≤ 40) (hs : M 111 s = nI n) (hit : ∀ i, i < n → M 112 (40 * s + i) = it i) : ∀ (c i z : Nat) (b : Bool), i + c = n → c < z → fM_from_b53 k40 (nI s) w many least (nI f) z (if b = true then 1 else 0) (nI i) M = (if b = true ∧ tolF g it f c i = true then k40 (many + 1) (if least = -1 then nI f else least) (nI (f + 1)) M else k40 many least (nI (f + 1)) M) := by
  have g4 : ib (nI s) 4 := ib_nI hs4 (by omega)
  intro c
  induction c with
  | zero =>
    intro i z b hi hz
    obtain ⟨z, rfl⟩ := Nat.exists_eq_succ_of_ne_zero (show z ≠ 0 by omega)
    rw [fM_from_b53, if_pos g4, ix_nI (by omega), hs, if_pos (by rw [n_le (by omega) (by omega)]; omega)]
    unfold fM_from_b129 fM_from_b127 fM_from_b129
    rw [nI_1, tolF]
    cases b
    · rw [if_pos (by decide), if_neg (by simp)]
    · rw [if_neg (by decide), if_pos (show (true = true ∧ true = true) from ⟨rfl, rfl⟩)]
      by_cases hl : least = -1
      · rw [if_pos hl, if_pos hl]
      · rw [if_neg hl, if_neg hl]
  | succ c ih =>
    intro i z b hi hz
    obtain ⟨z, rfl⟩ := Nat.exists_eq_succ_of_ne_zero (show z ≠ 0 by omega)
    rw [fM_from_b53, if_pos g4, ix_nI (by omega), hs, if_neg (by rw [n_le (by omega) (by omega)]; omega)]
    unfold fM_from_b97 fM_from_b98
    rw [nI_1, tolF]
    have ih0 := ih (i + 1) z false (by omega) (by omega)
    have ih1 := ih (i + 1) z true (by omega) (by omega)
    rw [if_neg (by decide : ¬ (false = true)), if_neg (fun w => by cases w.1)] at ih0
    rw [if_pos rfl] at ih1
    cases b
    · rw [if_pos (by decide), ih0, if_neg (fun w => by cases w.1)]
    · rw [if_neg (by decide), nI_add, g2 _ (by rw [nI_t (by omega)]; omega)]
      simp only [Option.bind_some]
      rw [show (40 : Int32) * nI s + nI i = nI (40 * s + i) by rw [show (40 : Int32) = nI 40 from rfl, pk_mul, nI_add], if_pos (ib_nI (by omega) (by omega)), ix_nI (by omega), hit i (by omega), show i + f = f + i by omega]
      by_cases h : g (nI (f + i)) = it i
      · rw [if_pos h, ih1, decide_eq_true h, Bool.true_and]
        by_cases ht : tolF g it f c (i + 1) = true
        · rw [if_pos (show (true = true ∧ tolF g it f c (i + 1) = true) from ⟨rfl, ht⟩), if_pos (show (True ∧ tolF g it f c (i + 1) = true) from ⟨trivial, ht⟩)]
        · rw [if_neg (show ¬ (true = true ∧ tolF g it f c (i + 1) = true) from fun w => ht w.2), if_neg (show ¬ (True ∧ tolF g it f c (i + 1) = true) from fun w => ht w.2)]
      · rw [if_neg h, ih0, decide_eq_false h, Bool.false_and, if_neg (fun w => by cases w.2)]
theorem fM_from_b40_eq {M : Mem} {g : Int32 → Int32} {s n : Nat} {it : Stk} (w : Int32) (g2 : ∀ t, 0 ≤ t.toInt → fM_masterIn t M = some (g t, M)) (hs4 : s < 4) (hn : n ≤ 40) (hs : M 111 s = nI n) (hit : ∀ i, i < n → M 112 (40 * s + i) = it i) : ∀ (c f z : Nat) (many least : Int32), f + c = 100 → c < z → fM_from_b40 (nI s) w z many least (nI f) M = some (if w = 0 then (froF (fun f => tolF g it f n 0) c f many least).1 else (froF (fun f => tolF g it f n 0) c f many least).2, M) := by
  intro c
  induction c with
  | zero =>
    intro f z many least hf hz
    obtain ⟨z, rfl⟩ := Nat.exists_eq_succ_of_ne_zero (show z ≠ 0 by omega)
    rw [fM_from_b40, if_pos (by rw [show (100 : Int32) = nI 100 from rfl, n_le (by omega) (by omega)]; omega), froF]
    by_cases hw : w = 0
    · rw [if_pos hw, if_pos hw]
    · rw [if_neg hw, if_neg hw]
  | succ c ih =>
    intro f z many least hf hz
    obtain ⟨z, rfl⟩ := Nat.exists_eq_succ_of_ne_zero (show z ≠ 0 by omega)
    have e := fM_from_b53_eq (w := w) (many := many) (least := least) (fM_from_b40 (nI s) w z) g2 hs4 (show f < 100 by omega) hn hs hit n 0 1000 true (by omega) (by omega)
    rw [if_pos rfl] at e
    rw [fM_from_b40, if_neg (by rw [show (100 : Int32) = nI 100 from rfl, n_le (by omega) (by omega)]; omega), show (0 : Int32) = nI 0 from rfl, e, froF]
    by_cases h : tolF g it f n 0 = true
    · rw [if_pos ⟨rfl, h⟩, if_pos h]
      exact ih (f + 1) z _ _ (by omega) (by omega)
    · rw [if_neg (fun w => h w.2), if_neg h]
      exact ih (f + 1) z _ _ (by omega) (by omega)
theorem tolF_congr {g : Int32 → Int32} {it jt : Stk} {f : Nat} : ∀ (c i : Nat), (∀ j, i ≤ j → j < i + c → it j = jt j) → tolF g it f c i = tolF g jt f c i
  | 0, _, _ => rfl
  | c + 1, i, h => by rw [tolF, tolF, h i (Nat.le_refl _) (by omega), tolF_congr c (i + 1) (fun j h1 h2 => h j (by omega) (by omega))]
theorem op_from (a w : Int32) : Op (fN_from a w) (fM_from a w) := by
  intro M hR
  have hRH := hR.2.2.2.2.2.2.1
  obtain ⟨g, g1, g2, -⟩ := mst_both hR
  unfold fN_from fM_from
  simp only [fN_w4, fN_w2, fM_s4, fM_i2, Option.bind_some, bz_0]
  by_cases h1 : ib a 4
  · rw [if_neg (nn h1)]
    by_cases h2 : ib w 2
    · rw [if_neg (nn h2), if_pos h1]
      obtain ⟨s, hs, rfl⟩ := ib_ex h1
      rw [ix_nI (by omega)]
      rcases hRH s hs with ⟨x1, x2⟩ | ⟨q, n, x1, x2, x3, x4, x5, x6, x7, x8⟩
      · rw [miss_1 x1]
        exact ⟨-11, M, M, rfl, by rw [if_neg (nn h1), if_neg (nn h2), if_pos h1, x2, if_pos rfl], hR⟩
      · rw [miss_0 x1 x3]
        simp only [Option.bind_some, if_true]
        have e1 := fN_from_b45_eq (M := M) (s := s) w (fun t => g1 M t (fun _ _ => rfl) rfl rfl) x2 x4 100 0 1000 0 (-1) (by omega) (by omega)
        have e2 := fM_from_b40_eq (M := M) (s := s) (it := M (78 + 2 * s)) w (fun t h => g2 M t rfl rfl rfl h) hs x2 x7 x8 100 0 1000 0 (-1) (by omega) (by omega)
        exact ⟨_, M, M, e1, by rw [if_neg (nn h1), if_neg (nn h2), if_pos h1, x5, if_neg (by decide)]; exact e2, hR⟩
    · exact ⟨-2, M, M, by rw [if_pos h2], by rw [if_neg (nn h1), if_pos h2], hR⟩
  · exact ⟨-2, M, M, by rw [if_pos h1], by rw [if_pos h1], hR⟩
/-! copies -/
theorem copy_up {i' j' n : Nat} {s o a b : Nat} (hs : s < 4) (ho : o < 4) (ei : i' = 40 * s + a) (ej : j' = 40 * o + b) (h1 : i' + n ≤ 160) (h2 : j' + n ≤ 160) (hno : ∀ k, k < n → ¬ (j' ≤ i' + k ∧ i' + k < j' + k)) (M : Mem) : ∀ (c k z : Nat) (N : Mem), k + c = n → c < z → (∀ x, x ≠ 112 → N x = M x) → (∀ x, N 112 x = if j' ≤ x ∧ x < j' + k then M 112 (i' + (x - j')) else M 112 x) → ∃ D, fM_copy_b121 (nI s) (nI a) (nI o) (nI b) (nI n) 0 z (nI k) N = some (nI n, D) ∧ (∀ x, x ≠ 112 → D x = M x) ∧ ∀ x, D 112 x = if j' ≤ x ∧ x < j' + n then M 112 (i' + (x - j')) else M 112 x := by
  intro c
  induction c with
  | zero =>
    intro k z N hk hz e1 e2
    obtain ⟨z, rfl⟩ := Nat.exists_eq_succ_of_ne_zero (show z ≠ 0 by omega)
    have : k = n := by omega
    subst this
    exact ⟨N, by rw [fM_copy_b121, if_pos (by rw [n_le (by omega) (by omega)]; omega)], e1, e2⟩
  | succ c ih =>
    intro k z N hk hz e1 e2
    obtain ⟨z, rfl⟩ := Nat.exists_eq_succ_of_ne_zero (show z ≠ 0 by omega)
    have n1 : (40 : Int32) * nI s + nI a + nI k = nI (i' + k) := by rw [show (40 : Int32) = nI 40 from rfl, pk_mul, nI_add, nI_add, ei]
    have n2 : (40 : Int32) * nI o + nI b + nI k = nI (j' + k) := by rw [show (40 : Int32) = nI 40 from rfl, pk_mul, nI_add, nI_add, ej]
    rw [fM_copy_b121, if_neg (by rw [n_le (by omega) (by omega)]; omega), if_pos rfl]
    unfold fM_copy_b145
    rw [n1, n2, if_pos (ib_nI (by omega) (by omega)), if_pos (ib_nI (by omega) (by omega)), ix_nI (by omega), ix_nI (by omega), nI_1]
    refine ih (k + 1) z _ (by omega) (by omega) (fun x hx => by rw [wr_ne hx, e1 x hx]) (fun x => ?_)
    by_cases hx : x = j' + k
    · subst hx
      rw [wr_same, e2, if_neg (hno k (by omega)), if_pos (by omega), Nat.add_sub_cancel_left]
    · rw [wr_at hx, e2]
      by_cases h3 : j' ≤ x ∧ x < j' + k
      · rw [if_pos h3, if_pos (by omega)]
      · rw [if_neg h3, if_neg (by omega)]
theorem copy_dn {i' j' n : Nat} {s o a b : Nat} (hs : s < 4) (ho : o < 4) (ei : i' = 40 * s + a) (ej : j' = 40 * o + b) (h1 : i' + n ≤ 160) (h2 : j' + n ≤ 160) (hlt : i' < j') (M : Mem) : ∀ (c k z : Nat) (N : Mem), k + c = n → c < z → (∀ x, x ≠ 112 → N x = M x) → (∀ x, N 112 x = if j' + (n - k) ≤ x ∧ x < j' + n then M 112 (i' + (x - j')) else M 112 x) → ∃ D, fM_copy_b121 (nI s) (nI a) (nI o) (nI b) (nI n) 1 z (nI k) N = some (nI n, D) ∧ (∀ x, x ≠ 112 → D x = M x) ∧ ∀ x, D 112 x = if j' ≤ x ∧ x < j' + n then M 112 (i' + (x - j')) else M 112 x := by
  intro c
  induction c with
  | zero =>
    intro k z N hk hz e1 e2
    obtain ⟨z, rfl⟩ := Nat.exists_eq_succ_of_ne_zero (show z ≠ 0 by omega)
    have : k = n := by omega
    subst this
    refine ⟨N, by rw [fM_copy_b121, if_pos (by rw [n_le (by omega) (by omega)]; omega)], e1, fun x => ?_⟩
    rw [e2 x, Nat.sub_self, Nat.add_zero]
  | succ c ih =>
    intro k z N hk hz e1 e2
    obtain ⟨z, rfl⟩ := Nat.exists_eq_succ_of_ne_zero (show z ≠ 0 by omega)
    have hq : nI n - 1 - nI k = nI (n - 1 - k) := by rw [nI_pd (by omega), nI_subm (by omega)]
    have n1 : (40 : Int32) * nI s + nI a + nI (n - 1 - k) = nI (i' + (n - 1 - k)) := by rw [show (40 : Int32) = nI 40 from rfl, pk_mul, nI_add, nI_add, ei]
    have n2 : (40 : Int32) * nI o + nI b + nI (n - 1 - k) = nI (j' + (n - 1 - k)) := by rw [show (40 : Int32) = nI 40 from rfl, pk_mul, nI_add, nI_add, ej]
    rw [fM_copy_b121, if_neg (by rw [n_le (by omega) (by omega)]; omega), if_neg (by decide), hq]
    unfold fM_copy_b145
    rw [n1, n2, if_pos (ib_nI (by omega) (by omega)), if_pos (ib_nI (by omega) (by omega)), ix_nI (by omega), ix_nI (by omega), nI_1]
    refine ih (k + 1) z _ (by omega) (by omega) (fun x hx => by rw [wr_ne hx, e1 x hx]) (fun x => ?_)
    by_cases hx : x = j' + (n - 1 - k)
    · subst hx
      rw [wr_same, e2, if_neg (by omega), if_pos (by omega), Nat.add_sub_cancel_left]
    · rw [wr_at hx, e2]
      by_cases h3 : j' + (n - k) ≤ x ∧ x < j' + n
      · rw [if_pos h3, if_pos (by omega)]
      · rw [if_neg h3, if_neg (by omega)]
theorem has_eq {M : Mem} {q n : Nat} {a c : Int32} (hn : n ≤ 40) (h : M q 1 = nI n) : fS_has q a c M = some (bz (0 ≤ a.toInt ∧ 0 ≤ c.toInt ∧ a.toInt + c.toInt ≤ n), M) := by
  have t0 : (0 : Int32).toInt = 0 := rfl
  unfold fS_has
  rw [h]
  by_cases h1 : a < 0
  · rw [if_pos h1, bz, if_neg (by rw [i_lt, t0] at h1; omega)]
  · rw [if_neg h1]
    rw [i_lt, t0] at h1
    by_cases h2 : c < 0
    · rw [if_pos h2, bz, if_neg (by rw [i_lt, t0] at h2; omega)]
    · rw [if_neg h2]
      rw [i_lt, t0] at h2
      by_cases h3 : nI n < c
      · rw [if_pos h3, bz, if_neg (by rw [i_lt, nI_t (by omega)] at h3; omega)]
      · rw [if_neg h3]
        rw [i_lt, nI_t (by omega)] at h3
        have e : (nI n - c).toInt = n - c.toInt := by rw [t_sub (by rw [nI_t (by omega)]; omega) (by rw [nI_t (by omega)]; omega), nI_t (by omega)]
        by_cases h4 : nI n - c < a
        · rw [if_pos h4, bz, if_neg (by rw [i_lt, e] at h4; omega)]
        · rw [if_neg h4, bz, if_pos (by rw [i_lt, e] at h4; omega)]
theorem op_copy (a i b j c : Int32) : Op (fN_copy a i b j c) (fM_copy a i b j c) := by
  intro M hR
  have hRH := hR.2.2.2.2.2.2.1
  have t0 : (0 : Int32).toInt = 0 := rfl
  unfold fN_copy fM_copy
  simp only [fN_w4, fM_s4, Option.bind_some, bz_0]
  by_cases g1 : ib a 4
  · rw [if_neg (nn g1)]
    by_cases g2 : ib b 4
    · rw [if_neg (nn g2), if_pos g1, if_pos g2]
      obtain ⟨s, hs, rfl⟩ := ib_ex g1
      obtain ⟨o, ho, rfl⟩ := ib_ex g2
      rw [ix_nI (by omega), ix_nI (by omega)]
      have mg : ∀ (C : Mem) (X : Option (Int32 × Mem)), (if ib (nI s) 4 then (if C 109 s = 0 then some (-11, C) else X) else none) = (if C 109 s = 0 then some (-11, C) else X) := fun C X => by rw [if_pos g1]
      rcases hRH s hs with ⟨x1, x2⟩ | ⟨q, n, x1, x2, x3, x4, x5, x6, x7, x8⟩
      · rw [miss_1 x1]
        exact ⟨-11, M, M, rfl, by rw [if_neg (nn g1), if_neg (nn g2), if_pos g1, x2, if_pos rfl], hR⟩
      · rw [miss_0 x1 x3]
        simp only [Option.bind_some, if_true]
        rcases hRH o ho with ⟨y1, y2⟩ | ⟨q', n', y1, y2, y3, y4, y5, y6, y7, y8⟩
        · rw [miss_1 y1]
          exact ⟨-11, M, M, rfl, by rw [if_neg (nn g1), if_neg (nn g2), if_pos g1, x5, if_neg (by decide), if_pos g2, y2, if_pos rfl], hR⟩
        · rw [miss_0 y1 y3]
          simp only [Option.bind_some, if_true]
          rw [x3, y3]
          by_cases hqq : nI q = nI q'
          · rw [if_pos hqq, has_eq x2 x4]
            simp only [Option.bind_some, bz_0]
            have hn2 : nI n - c = nI n - c := rfl
            by_cases k1 : 0 ≤ i.toInt ∧ 0 ≤ c.toInt ∧ i.toInt + c.toInt ≤ n
            · rw [if_neg (nn k1), has_eq y2 y4]
              simp only [Option.bind_some, bz_0]
              have en : ∀ p : Nat, p ≤ 40 → c.toInt ≤ 40 → (nI p - c).toInt = p - c.toInt := fun p hp hc => by rw [t_sub (by rw [nI_t (by omega)]; omega) (by rw [nI_t (by omega)]; omega), nI_t (by omega)]
              by_cases k2 : 0 ≤ j.toInt ∧ 0 ≤ c.toInt ∧ j.toInt + c.toInt ≤ n'
              · rw [if_neg (nn k2), if_pos ⟨k1.1, k2.1, k1.2.1, by omega, by omega⟩]
                obtain ⟨x, hx, rfl⟩ : ∃ x, x ≤ 40 ∧ i = nI x := ⟨ix i, by unfold ix; omega, (nI_ix k1.1).symm⟩
                obtain ⟨y, hy, rfl⟩ : ∃ y, y ≤ 40 ∧ j = nI y := ⟨ix j, by unfold ix; omega, (nI_ix k2.1).symm⟩
                obtain ⟨p, hp, rfl⟩ : ∃ p, p ≤ 40 ∧ c = nI p := ⟨ix c, by unfold ix; omega, (nI_ix k1.2.1).symm⟩
                rw [nI_t (by omega), nI_t (by omega)] at k1
                rw [nI_t (by omega), nI_t (by omega)] at k2
                rw [ix_nI (by omega), ix_nI (by omega), ix_nI (by omega), show 77 + 2 * o + 1 = 78 + 2 * o by omega, show 77 + 2 * s + 1 = 78 + 2 * s by omega]
                obtain ⟨C, hC⟩ : ∃ C, C = wrR M (78 + 2 * o) (va_cpy (M (78 + 2 * s)) (M (78 + 2 * o)) x y p) := ⟨_, rfl⟩
                rw [← hC]
                have rC : ∀ a, a ≠ 78 + 2 * o → C a = M a := fun a ha => by rw [hC, wrR_ne ha]
                have iC : ∀ b, C (78 + 2 * o) b = if y ≤ b ∧ b < y + p then M (78 + 2 * s) (x + (b - y)) else M (78 + 2 * o) b := fun b => by rw [hC, wrR_same]; rfl
                have mod : ∃ D, (if nI s = nI o then (if nI y ≤ nI x then fM_copy_b115 (nI s) (nI x) (nI o) (nI y) (nI p) C else fM_copy_b116 (nI s) (nI x) (nI o) (nI y) (nI p) 1 C) else fM_copy_b115 (nI s) (nI x) (nI o) (nI y) (nI p) C) = some (nI p, D) ∧ (∀ a, a ≠ 112 → D a = C a) ∧ ∀ b, D 112 b = if 40 * o + y ≤ b ∧ b < 40 * o + y + p then C 112 (40 * s + x + (b - (40 * o + y))) else C 112 b := by
                  unfold fM_copy_b115 fM_copy_b116
                  have upc := fun (hno : ∀ k, k < p → ¬ (40 * o + y ≤ 40 * s + x + k ∧ 40 * s + x + k < 40 * o + y + k)) => copy_up (i' := 40 * s + x) (j' := 40 * o + y) (n := p) (a := x) (b := y) hs ho rfl rfl (by omega) (by omega) hno C p 0 1000 C (by omega) (by omega) (fun _ _ => rfl) (fun b => by rw [if_neg (by omega)])
                  by_cases hso : s = o
                  · rw [if_pos (by rw [hso])]
                    by_cases hyx : y ≤ x
                    · rw [if_pos (by rw [n_le (by omega) (by omega)]; exact hyx)]
                      exact upc (fun k hk => by omega)
                    · rw [if_neg (by rw [n_le (by omega) (by omega)]; exact hyx)]
                      exact copy_dn (i' := 40 * s + x) (j' := 40 * o + y) (n := p) (a := x) (b := y) hs ho rfl rfl (by omega) (by omega) (by omega) C p 0 1000 C (by omega) (by omega) (fun _ _ => rfl) (fun b => by rw [if_neg (by omega)])
                  · rw [if_neg (by rw [n_eq (by omega) (by omega)]; exact hso)]
                    exact upc (fun k hk => by omega)
                obtain ⟨D, d1, d2, d3⟩ := mod
                refine ⟨nI p, C, D, rfl, ?_, hR.sheets (fun a ha => by rw [d2 a (by omega), rC a (by omega)]) (fun r hr => ?_)⟩
                · rw [if_neg (nn g1), if_neg (nn g2), if_pos g1, rC 109 (by omega), x5, if_neg (by decide), if_pos g2, y5, if_neg (by decide), if_pos g1, if_pos g2, rC 110 (by omega), x6, y6, if_pos hqq, if_neg (by rw [i_lt, t0, nI_t (by omega)]; omega), if_neg (by rw [i_lt, t0, nI_t (by omega)]; omega), if_neg (by rw [i_lt, t0, nI_t (by omega)]; omega), if_pos g1, rC 111 (by omega), x7, if_neg (by rw [i_lt, en n x2 (by rw [nI_t (by omega)]; omega), nI_t (by omega), nI_t (by omega)]; omega), if_pos g2, y7, if_pos (by rw [i_le, en n' y2 (by rw [nI_t (by omega)]; omega), nI_t (by omega), nI_t (by omega)]; omega)]
                  exact d1
                · by_cases hro : r = o
                  · subst hro
                    unfold SH
                    rw [d2 _ (by omega), rC _ (by omega), d2 109 (by decide), rC 109 (by omega), d2 110 (by decide), rC 110 (by omega), d2 111 (by decide), rC 111 (by omega)]
                    refine Or.inr ⟨q', n', y1, y2, y3, y4, y5, y6, y7, fun t ht => ?_⟩
                    rw [d2 (78 + 2 * r) (by omega), d3, iC, rC 112 (by omega)]
                    by_cases h5 : y ≤ t ∧ t < y + p
                    · rw [if_pos (by omega), if_pos h5, show 40 * s + x + (40 * r + t - (40 * r + y)) = 40 * s + (x + (t - y)) by omega]
                      exact x8 _ (by omega)
                    · rw [if_neg (by omega), if_neg h5]
                      exact y8 t ht
                  · refine (hRH r hr).same (by rw [d2 _ (by omega), rC _ (by omega)]) (by rw [d2 _ (by omega), rC _ (by omega)]) (by rw [d2 _ (by decide), rC _ (by omega)]) (by rw [d2 _ (by decide), rC _ (by omega)]) (by rw [d2 _ (by decide), rC _ (by omega)]) (fun t ht => ?_)
                    rw [d3, if_neg (by omega), rC 112 (by omega)]
              · rw [if_pos k2]
                refine ⟨-12, M, M, rfl, ?_, hR⟩
                rw [if_neg (nn g1), if_neg (nn g2), if_pos g1, x5, if_neg (by decide), if_pos g2, y5, if_neg (by decide), if_pos g1, if_pos g2, x6, y6, if_pos hqq, if_neg (by rw [i_lt, t0]; omega), if_neg (by rw [i_lt, t0]; omega)]
                by_cases h5 : j < 0
                · rw [if_pos h5]
                · rw [if_neg h5, if_pos g1, x7, if_neg (by rw [i_lt, en n x2 (by omega)]; omega), if_pos g2, y7, if_neg (by rw [i_le, en n' y2 (by omega)]; rw [i_lt, t0] at h5; omega)]
            · rw [if_pos k1]
              refine ⟨-12, M, M, rfl, ?_, hR⟩
              rw [if_neg (nn g1), if_neg (nn g2), if_pos g1, x5, if_neg (by decide), if_pos g2, y5, if_neg (by decide), if_pos g1, if_pos g2, x6, y6, if_pos hqq]
              by_cases h5 : c < 0
              · rw [if_pos h5]
              · rw [if_neg h5]
                by_cases h6 : i < 0
                · rw [if_pos h6]
                · rw [if_neg h6]
                  by_cases h7 : j < 0
                  · rw [if_pos h7]
                  · rw [if_neg h7, if_pos g1, x7]
                    rw [i_lt, t0] at h5 h6
                    have hcb := tI_lt c
                    have e : (nI n - c).toInt = n - c.toInt := by rw [t_sub (by rw [nI_t (by omega)]; omega) (by rw [nI_t (by omega)]; omega), nI_t (by omega)]
                    rw [if_pos (by rw [i_lt, e]; omega)]
          · rw [if_neg hqq]
            exact ⟨-13, M, M, rfl, by rw [if_neg (nn g1), if_neg (nn g2), if_pos g1, x5, if_neg (by decide), if_pos g2, y5, if_neg (by decide), if_pos g1, if_pos g2, x6, y6, if_neg hqq], hR⟩
    · exact ⟨-2, M, M, by rw [if_pos g2], by rw [if_neg (nn g1), if_pos g2], hR⟩
  · exact ⟨-2, M, M, by rw [if_pos g1], by rw [if_pos g1], hR⟩
