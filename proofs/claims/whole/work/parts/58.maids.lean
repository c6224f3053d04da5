/-! 58: maids by a sheet -/
theorem mcM_base {m : Nat} {a b c : Int32} {X Y : Mem} {x : Nat} (h : X x = Y x) : mcM m a b c X x = mcM m a b c Y x := by
  funext y
  unfold mcM wr
  rw [congrFun h y]
theorem mcC_base {m : Nat} {a b c : Int32} {X Y : Mem} {x : Nat} (h : X x = Y x) : mcC m a b c X x = mcC m a b c Y x := by
  funext y
  unfold mcC wr
  rw [congrFun h y]
theorem mcM_lo {m : Nat} {a b c : Int32} {X : Mem} {x : Nat} (h : x < 85) : mcM m a b c X x = X x := by
  unfold mcM
  rw [wr_ne (by omega), wr_ne (by omega), wr_ne (by omega), wr_ne (by omega), wr_ne (by omega)]
theorem mcC_hi {m : Nat} {a b c : Int32} {X : Mem} {x : Nat} (h : 85 ≤ x) (hm : m < 39) : mcC m a b c X x = X x := by
  unfold mcC
  rw [wr_ne (by omega), wr_ne (by omega), wr_ne (by omega), wr_ne (by omega), wr_ne (by omega)]
theorem mcM_comm {m m' : Nat} {a b c a' b' c' : Int32} {X : Mem} (h : m' < 39) : mcM m a b c (mcC m' a' b' c' X) = mcC m' a' b' c' (mcM m a b c X) := by
  funext x
  by_cases hx : x < 85
  · rw [mcM_lo hx, mcC_base (mcM_lo hx)]
  · rw [mcM_base (mcC_hi (by omega) h), mcC_hi (by omega) h]
def mOKb (a b c : Int32) : Bool := decide (ib a 6) && (decide (ib b 10) && decide (ib c 8))
theorem mOKb_iff {a b c : Int32} : mOKb a b c = true ↔ mOK a b c := by
  unfold mOKb mOK
  rw [Bool.and_eq_true, Bool.and_eq_true, decide_eq_true_eq, decide_eq_true_eq, decide_eq_true_eq]
def ansF (ok : Nat → Bool) (A : Nat → Int32 × Int32 × Int32) : Nat → Nat → Nat → Nat → Int32
  | 0, _, _, came => nI came
  | c + 1, k, m, came => if ok k = true then (if mOKb (A k).1 (A k).2.1 (A k).2.2 = true ∧ m < 4 then ansF ok A c (k + 1) (m + 1) (came + 1) else ansF ok A c (k + 1) m came) else -12
def clsM (ok : Nat → Bool) (A : Nat → Int32 × Int32 × Int32) : Nat → Nat → Nat → Mem → Mem
  | 0, _, _, C => C
  | c + 1, k, m, C => if ok k = true then (if mOKb (A k).1 (A k).2.1 (A k).2.2 = true ∧ m < 4 then clsM ok A c (k + 1) (m + 1) (mcC m (A k).1 (A k).2.1 (A k).2.2 C) else clsM ok A c (k + 1) m C) else C
def modM (ok : Nat → Bool) (A : Nat → Int32 × Int32 × Int32) : Nat → Nat → Nat → Mem → Mem
  | 0, _, _, C => C
  | c + 1, k, m, C => if ok k = true then (if mOKb (A k).1 (A k).2.1 (A k).2.2 = true ∧ m < 4 then modM ok A c (k + 1) (m + 1) (mcM m (A k).1 (A k).2.1 (A k).2.2 C) else modM ok A c (k + 1) m C) else C
theorem clsM_comm {ok : Nat → Bool} {A : Nat → Int32 × Int32 × Int32} {p : Nat} {x y z : Int32} : ∀ (c k m : Nat) (C : Mem), mcM p x y z (clsM ok A c k m C) = clsM ok A c k m (mcM p x y z C)
  | 0, _, _, _ => rfl
  | c + 1, k, m, C => by
    rw [clsM, clsM]
    by_cases h1 : ok k = true
    · rw [if_pos h1, if_pos h1]
      by_cases h2 : mOKb (A k).1 (A k).2.1 (A k).2.2 = true ∧ m < 4
      · rw [if_pos h2, if_pos h2, clsM_comm c (k + 1) (m + 1), mcM_comm (by omega)]
      · rw [if_neg h2, if_neg h2, clsM_comm c (k + 1) m]
    · rw [if_neg h1, if_neg h1]
theorem maids_rel {ok : Nat → Bool} {A : Nat → Int32 × Int32 × Int32} : ∀ (c k m : Nat) (M : Mem), Rel M → M 1 2 = nI m → m ≤ 4 → Rel (modM ok A c k m (clsM ok A c k m M))
  | 0, _, _, M, hR, _, _ => hR
  | c + 1, k, m, M, hR, e, hm => by
    rw [modM, clsM]
    by_cases h1 : ok k = true
    · rw [if_pos h1, if_pos h1]
      by_cases h2 : mOKb (A k).1 (A k).2.1 (A k).2.2 = true ∧ m < 4
      · rw [if_pos h2, if_pos h2, clsM_comm]
        refine maids_rel c (k + 1) (m + 1) _ (hR.maid (mOKb_iff.mp h2.1) h2.2 e) ?_ (by omega)
        unfold mcM mcC
        rw [wr_ne (by omega), wr_ne (by omega), wr_ne (by omega), wr_ne (by omega), wr_ne (by omega), wr_same]
      · rw [if_neg h2, if_neg h2]
        exact maids_rel c (k + 1) m M hR e hm
    · rw [if_neg h1, if_neg h1]
      exact hR
def okF (f : Int32) (n k : Nat) : Bool := decide (0 ≤ f.toInt ∧ f.toInt + (3 * k + 3) ≤ n)
def argF (it : Stk) (f k : Nat) : Int32 × Int32 × Int32 := (it (f + 3 * k), it (f + 3 * k + 1), it (f + 3 * k + 2))
theorem fN_maids_b67_eq {s n p : Nat} {f : Int32} {it : Stk} (hs : s < 4) (hn : n ≤ 40) (hp : p ≤ 4) : ∀ (c k z m came : Nat) (C : Mem), k + c = p → c < z → m ≤ 4 → C 1 2 = nI m → C (77 + 2 * s) 1 = nI n → (∀ i, i < n → C (78 + 2 * s) i = it i) → came ≤ k → fN_maids_b67 f (nI p) (77 + 2 * s) z (nI came) (nI k) C = some (ansF (okF f n) (argF it (ix f)) c k m came, clsM (okF f n) (argF it (ix f)) c k m C) := by
  intro c
  induction c with
  | zero =>
    intro k z m came C hk hz hm e1 e2 e3 hc
    obtain ⟨z, rfl⟩ := Nat.exists_eq_succ_of_ne_zero (show z ≠ 0 by omega)
    rw [fN_maids_b67, if_pos (by rw [n_le (by omega) (by omega)]; omega), ansF, clsM]
  | succ c ih =>
    intro k z m came C hk hz hm e1 e2 e3 hc
    obtain ⟨z, rfl⟩ := Nat.exists_eq_succ_of_ne_zero (show z ≠ 0 by omega)
    have e33 : (3 : Int32) * nI k + 3 = nI (3 * k + 3) := by rw [show (3 : Int32) = nI 3 from rfl, pk_mul, nI_add]
    rw [fN_maids_b67, if_neg (by rw [n_le (by omega) (by omega)]; omega), e33, has_eq hn e2, ansF, clsM]
    simp only [Option.bind_some, bz_0]
    have hok : okF f n k = true ↔ (0 ≤ f.toInt ∧ 0 ≤ (nI (3 * k + 3)).toInt ∧ f.toInt + (nI (3 * k + 3)).toInt ≤ n) := by
      unfold okF
      rw [decide_eq_true_eq, nI_t (by omega)]
      constructor
      · rintro ⟨a, b⟩; exact ⟨a, by omega, by omega⟩
      · rintro ⟨a, _, b⟩; exact ⟨a, by omega⟩
    by_cases h1 : okF f n k = true
    · rw [if_neg (nn (hok.mp h1)), if_pos h1, if_pos h1]
      have hh := hok.mp h1
      rw [nI_t (show 3 * k + 3 < 2147483648 by omega)] at hh
      obtain ⟨x, hx⟩ : ∃ x, x = ix f := ⟨_, rfl⟩
      have ef : f = nI x := by rw [hx, nI_ix hh.1]
      have hxn : x + 3 * k + 3 ≤ n := by have h22 := hh.2.2; have h0 := hh.1; unfold ix at hx; omega
      have f1 : f + 3 * nI k = nI (x + 3 * k) := by rw [ef, show (3 : Int32) = nI 3 from rfl, pk_mul, nI_add]
      have f2 : nI (x + 3 * k) + 1 = nI (x + 3 * k + 1) := nI_1 _
      have f3 : nI (x + 3 * k) + 2 = nI (x + 3 * k + 2) := by rw [show (2 : Int32) = nI 2 from rfl, nI_add]
      rw [f1, f2, f3, if_pos (ib_nI (by omega) (by omega)), if_pos (ib_nI (by omega) (by omega)), if_pos (ib_nI (by omega) (by omega)), ix_nI (by omega), ix_nI (by omega), ix_nI (by omega), show 77 + 2 * s + 1 = 78 + 2 * s by omega, e3 _ (by omega), e3 _ (by omega), e3 _ (by omega)]
      have ea : argF it (ix f) k = (it (x + 3 * k), it (x + 3 * k + 1), it (x + 3 * k + 2)) := by unfold argF; rw [← hx]
      rw [ea]
      dsimp only
      unfold fN_maids_b138
      rw [nI_1, nI_1]
      by_cases h2 : mOK (it (x + 3 * k)) (it (x + 3 * k + 1)) (it (x + 3 * k + 2))
      · by_cases h4 : m = 4
        · subst h4
          rw [fN_maid_full h2 e1]
          simp only [Option.bind_some]
          rw [if_pos (by decide), if_neg (fun w => absurd w.2 (by omega)), if_neg (fun w => absurd w.2 (by omega))]
          exact ih (k + 1) z 4 came C (by omega) (by omega) hm e1 e2 e3 (by omega)
        · rw [fN_maid_ok h2 (by omega) e1]
          simp only [Option.bind_some]
          rw [if_neg (by rw [i_lt, nI_t (by omega), show (0 : Int32).toInt = 0 from rfl]; omega), if_pos ⟨mOKb_iff.mpr h2, by omega⟩, if_pos ⟨mOKb_iff.mpr h2, by omega⟩]
          refine ih (k + 1) z (m + 1) (came + 1) _ (by omega) (by omega) (by omega) ?_ ?_ (fun i hi => ?_) (by omega)
          · unfold mcC; rw [wr_same]
          · unfold mcC; rw [wr_ne (by omega), wr_ne (by omega), wr_ne (by omega), wr_ne (by omega), wr_ne (by omega)]; exact e2
          · unfold mcC; rw [wr_ne (by omega), wr_ne (by omega), wr_ne (by omega), wr_ne (by omega), wr_ne (by omega)]; exact e3 i hi
      · rw [fN_maid_bad h2]
        simp only [Option.bind_some]
        rw [if_pos (by decide), if_neg (fun w => h2 (mOKb_iff.mp w.1)), if_neg (fun w => h2 (mOKb_iff.mp w.1))]
        exact ih (k + 1) z m came C (by omega) (by omega) hm e1 e2 e3 (by omega)
    · rw [if_pos (fun w => h1 (hok.mpr w)), if_neg h1, if_neg h1]
theorem fM_maids_b75_eq {s n p : Nat} {f : Int32} {it : Stk} (hs : s < 4) (hn : n ≤ 40) (hp : p ≤ 4) : ∀ (c k z m came : Nat) (C : Mem), k + c = p → c < z → m ≤ 4 → C 85 17 = nI m → C 111 s = nI n → (∀ i, i < n → C 112 (40 * s + i) = it i) → came ≤ k → fM_maids_b75 (nI s) f (nI p) z (nI came) (nI k) C = some (ansF (okF f n) (argF it (ix f)) c k m came, modM (okF f n) (argF it (ix f)) c k m C) := by
  have g4 : ib (nI s) 4 := ib_nI hs (by omega)
  intro c
  induction c with
  | zero =>
    intro k z m came C hk hz hm e1 e2 e3 hc
    obtain ⟨z, rfl⟩ := Nat.exists_eq_succ_of_ne_zero (show z ≠ 0 by omega)
    rw [fM_maids_b75, if_pos (by rw [n_le (by omega) (by omega)]; omega), ansF, modM]
  | succ c ih =>
    intro k z m came C hk hz hm e1 e2 e3 hc
    obtain ⟨z, rfl⟩ := Nat.exists_eq_succ_of_ne_zero (show z ≠ 0 by omega)
    rw [fM_maids_b75, if_neg (by rw [n_le (by omega) (by omega)]; omega), ansF, modM]
    have t0 : (0 : Int32).toInt = 0 := rfl
    have t3 : (3 : Int32).toInt = 3 := rfl
    have em : (nI n - 3 * nI k - 3).toInt = n - 3 * k - 3 := by
      have a1 : (3 : Int32) * nI k = nI (3 * k) := by rw [show (3 : Int32) = nI 3 from rfl, pk_mul]
      have a2 : (nI n - nI (3 * k)).toInt = n - 3 * k := by rw [t_sub (by rw [nI_t (by omega), nI_t (by omega)]; omega) (by rw [nI_t (by omega), nI_t (by omega)]; omega), nI_t (by omega), nI_t (by omega)]; omega
      rw [a1, t_sub (by rw [a2, t3]; omega) (by rw [a2, t3]; omega), a2, t3]
    by_cases h1 : okF f n k = true
    · have hh : 0 ≤ f.toInt ∧ f.toInt + (3 * k + 3) ≤ n := by unfold okF at h1; exact of_decide_eq_true h1
      rw [if_neg (by rw [i_lt, t0]; omega), if_pos g4, ix_nI (by omega), e2, if_pos (by rw [i_le, em]; omega), if_pos h1, if_pos h1]
      obtain ⟨x, hx⟩ : ∃ x, x = ix f := ⟨_, rfl⟩
      have ef : f = nI x := by rw [hx, nI_ix hh.1]
      have hxn : x + 3 * k + 3 ≤ n := by have h22 := hh.2; have h0 := hh.1; unfold ix at hx; omega
      have f1 : (40 : Int32) * nI s + f + 3 * nI k = nI (40 * s + (x + 3 * k)) := by rw [ef, show (40 : Int32) = nI 40 from rfl, show (3 : Int32) = nI 3 from rfl, pk_mul, pk_mul, nI_add, nI_add, Nat.add_assoc]
      have f2 : nI (40 * s + (x + 3 * k)) + 1 = nI (40 * s + (x + 3 * k + 1)) := nI_1 _
      have f3 : nI (40 * s + (x + 3 * k)) + 2 = nI (40 * s + (x + 3 * k + 2)) := by rw [show (2 : Int32) = nI 2 from rfl, nI_add, Nat.add_assoc]
      rw [f1, f2, f3, if_pos (ib_nI (by omega) (by omega)), if_pos (ib_nI (by omega) (by omega)), if_pos (ib_nI (by omega) (by omega)), ix_nI (by omega), ix_nI (by omega), ix_nI (by omega), e3 _ (by omega), e3 _ (by omega), e3 _ (by omega)]
      have ea : argF it (ix f) k = (it (x + 3 * k), it (x + 3 * k + 1), it (x + 3 * k + 2)) := by unfold argF; rw [← hx]
      rw [ea]
      dsimp only
      unfold fM_maids_b158
      rw [nI_1, nI_1, Int32.add_zero]
      by_cases h2 : mOK (it (x + 3 * k)) (it (x + 3 * k + 1)) (it (x + 3 * k + 2))
      · by_cases h4 : m = 4
        · subst h4
          rw [fM_maid_full h2 e1]
          simp only [Option.bind_some]
          rw [if_pos (by decide), if_neg (fun w => absurd w.2 (by omega)), if_neg (fun w => absurd w.2 (by omega))]
          exact ih (k + 1) z 4 came C (by omega) (by omega) hm e1 e2 e3 (by omega)
        · rw [fM_maid_ok h2 (by omega) e1]
          simp only [Option.bind_some]
          rw [if_neg (by rw [i_lt, nI_t (by omega), t0]; omega), if_pos ⟨mOKb_iff.mpr h2, by omega⟩, if_pos ⟨mOKb_iff.mpr h2, by omega⟩]
          refine ih (k + 1) z (m + 1) (came + 1) _ (by omega) (by omega) (by omega) ?_ ?_ (fun i hi => ?_) (by omega)
          · unfold mcM; rw [wr_same]
          · unfold mcM; rw [wr_ne (by omega), wr_ne (by omega), wr_ne (by omega), wr_ne (by omega), wr_ne (by omega)]; exact e2
          · unfold mcM; rw [wr_ne (by omega), wr_ne (by omega), wr_ne (by omega), wr_ne (by omega), wr_ne (by omega)]; exact e3 i hi
      · rw [fM_maid_bad h2]
        simp only [Option.bind_some]
        rw [if_pos (by decide), if_neg (fun w => h2 (mOKb_iff.mp w.1)), if_neg (fun w => h2 (mOKb_iff.mp w.1))]
        exact ih (k + 1) z m came C (by omega) (by omega) hm e1 e2 e3 (by omega)
    · have hh : ¬ (0 ≤ f.toInt ∧ f.toInt + (3 * k + 3) ≤ n) := by unfold okF at h1; exact fun w => h1 (decide_eq_true w)
      rw [if_neg h1, if_neg h1]
      by_cases h3 : f < 0
      · rw [if_pos h3]
      · rw [i_lt, t0] at h3
        rw [if_neg (by rw [i_lt, t0]; exact h3), if_pos g4, ix_nI (by omega), e2, if_neg (by rw [i_le, em]; omega)]
theorem clsM_hi {ok : Nat → Bool} {A : Nat → Int32 × Int32 × Int32} {x : Nat} (hx : 14 ≤ x) : ∀ (c k m : Nat) (C : Mem), clsM ok A c k m C x = C x
  | 0, _, _, _ => rfl
  | c + 1, k, m, C => by
    rw [clsM]
    by_cases h1 : ok k = true
    · rw [if_pos h1]
      by_cases h2 : mOKb (A k).1 (A k).2.1 (A k).2.2 = true ∧ m < 4
      · rw [if_pos h2, clsM_hi hx c (k + 1) (m + 1)]
        unfold mcC
        rw [wr_ne (by omega), wr_ne (by omega), wr_ne (by omega), wr_ne (by omega), wr_ne (by omega)]
      · rw [if_neg h2, clsM_hi hx c (k + 1) m]
    · rw [if_neg h1]
theorem op_maids (a b f d : Int32) : Op (fN_maids a b f d) (fM_maids a b f d) := by
  intro M hR
  have hRH := hR.2.2.2.2.2.2.1
  obtain ⟨m, m1, m2, m3, m4⟩ := hR.2.2.2.1
  have t0 : (0 : Int32).toInt = 0 := rfl
  have t4 : (4 : Int32).toInt = 4 := rfl
  unfold fN_maids fM_maids fM_maids_b57
  simp only [fN_w4, fN_w3, fM_s4, fM_i3, fM_i5, Option.bind_some, bz_0]
  by_cases g1 : ib a 4
  · rw [if_neg (nn g1)]
    by_cases g2 : ib b 3
    · rw [if_neg (nn g2)]
      by_cases g3 : ib d 5
      · rw [if_neg (by rw [i_lt, t0]; have := g3.1; omega), if_pos (by rw [i_le, t4]; have := g3.2; omega), if_pos g1]
        obtain ⟨s, hs, rfl⟩ := ib_ex g1
        obtain ⟨p, hp, rfl⟩ := ib_ex g3
        rw [ix_nI (by omega)]
        rcases hRH s hs with ⟨x1, x2⟩ | ⟨q, n, x1, x2, x3, x4, x5, x6, x7, x8⟩
        · rw [miss_1 x1]
          exact ⟨-11, M, M, rfl, by rw [if_neg (nn g1), if_neg (nn g2), if_neg (nn g3), if_pos g1, x2, if_pos rfl, if_pos g1, if_pos rfl], hR⟩
        · rw [miss_0 x1 x3]
          simp only [Option.bind_some, if_true]
          rw [x3]
          by_cases hq : nI q = b
          · rw [if_pos hq]
            have e1 := fN_maids_b67_eq (f := f) (it := M (78 + 2 * s)) hs x2 (show p ≤ 4 by omega) p 0 1000 m 0 M (by omega) (by omega) m1 m2 x4 (fun _ _ => rfl) (by omega)
            have hc := fun x (hx : 14 ≤ x) => clsM_hi (ok := okF f n) (A := argF (M (78 + 2 * s)) (ix f)) hx p 0 m M
            have e2 := fM_maids_b75_eq (f := f) (it := M (78 + 2 * s)) hs x2 (show p ≤ 4 by omega) p 0 1000 m 0 (clsM (okF f n) (argF (M (78 + 2 * s)) (ix f)) p 0 m M) (by omega) (by omega) m1 (by rw [hc 85 (by omega)]; exact m3) (by rw [hc 111 (by omega)]; exact x7) (fun i hi => by rw [hc 112 (by omega)]; exact x8 i hi) (by omega)
            refine ⟨_, _, _, e1, ?_, maids_rel (ok := okF f n) (A := argF (M (78 + 2 * s)) (ix f)) p 0 m M hR m2 m1⟩
            rw [if_neg (nn g1), if_neg (nn g2), if_neg (nn g3), if_pos g1, hc 109 (by omega), x5, if_neg (by decide), if_pos g1, hc 110 (by omega), x6, if_pos hq, if_pos g1, if_neg (by decide)]
            exact e2
          · rw [if_neg hq]
            exact ⟨-13, M, M, rfl, by rw [if_neg (nn g1), if_neg (nn g2), if_neg (nn g3), if_pos g1, x5, if_neg (by decide), if_pos g1, x6, if_neg hq], hR⟩
      · refine ⟨-2, M, M, ?_, by rw [if_neg (nn g1), if_neg (nn g2), if_pos g3], hR⟩
        by_cases h : d < 0
        · rw [if_pos h]
        · rw [if_neg h, if_neg (by intro z; rw [i_le, t4] at z; rw [i_lt, t0] at h; exact g3 ⟨by omega, by omega⟩)]
    · exact ⟨-2, M, M, by rw [if_pos g2], by rw [if_neg (nn g1), if_pos g2], hR⟩
  · exact ⟨-2, M, M, by rw [if_pos g1], by rw [if_pos g1], hR⟩
