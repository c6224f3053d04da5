/-! 20: the model's day is the morning as it is said in 14 -/
/-- the place of maid k when maid a is not there -/
abbrev sk (a k : Nat) : Nat := if k < a then k else k + 1
abbrev us (a m : Nat) : Nat := if m ≤ a then m else m - 1
abbrev cntM (V : Mem) (a : Nat) : Nat := if a < 4 then vM V + 1 else vM V
/-- M holds the house V with the maid a put in between, who is not there; a = 4: nobody is missing -/
def MV (V : Mem) (a : Nat) (M : Mem) : Prop := (a ≤ 4 ∧ (a < 4 → a ≤ vM V ∧ vM V < 4)) ∧ M 85 7 = nI (vS V) ∧ M 85 11 = nI (vN V) ∧ M 85 17 = nI (cntM V a) ∧ M 85 18 = (if a < 4 then nI a else -1) ∧ (∀ i, i < vN V → M 90 i = V 1 i ∧ M 91 i = V 2 i) ∧ (∀ r, r < 8 → M 89 r = V 3 r) ∧ ∀ k, k < vM V → (M 92 (sk a k) = V 4 k ∧ M 93 (sk a k) = V 5 k ∧ M 94 (sk a k) = V 6 k ∧ M 96 (sk a k) = V 7 k) ∧ ∀ i, i < vL V k → M 95 (5 * sk a k + i) = V (8 + k) i
/-- what a reading leaves alone -/
def KeepR (M N : Mem) : Prop := (∀ a, a ≠ 85 → N a = M a) ∧ ∀ j, (j < 27 ∨ (36 ≤ j ∧ j ≠ 132)) → N 85 j = M 85 j
/-- the text x of the model means tl -/
def VMo (x : Int32) (tl : Tell) (T E : Nat → Int32) : Prop := ∀ (N : Mem) (p : Nat), N 86 = T → N 87 = E → p < 3 → ∃ N', fM_read x (nI p) N = some (tl p (N 85 21) (N 85 22) (N 85 23) (N 85 24) (N 85 25) (N 85 26), N') ∧ KeepR N N'
/-- how the day of the model stands -/
def DM (V : Mem) (a : Nat) (D M : Mem) : Prop := (∀ k, k < vM V → D 50 k = M 98 (sk a k) ∧ D 52 k = M 99 (sk a k) ∧ (0 < (D 52 k).toInt → D 51 k = M 100 (sk a k)) ∧ D 53 k = M 101 (sk a k) ∧ D 54 k = M 102 (sk a k) ∧ D 55 k = M 103 (sk a k)) ∧ (∀ r, r < 8 → D 56 r = M 104 r) ∧ D 45 13 = M 85 43 ∧ D 45 14 = M 85 44
/-- what a day of the model leaves alone -/
def KeepM (M N : Mem) : Prop := (∀ a, a ≠ 85 → (a < 98 ∨ 104 < a) → N a = M a) ∧ ∀ j, (j < 21 ∨ (36 ≤ j ∧ j ≠ 43 ∧ j ≠ 44 ∧ j ≠ 132)) → N 85 j = M 85 j
theorem KeepM.trans {M N O : Mem} (a : KeepM M N) (b : KeepM N O) : KeepM M O := ⟨fun x h1 h2 => (b.1 x h1 h2).trans (a.1 x h1 h2), fun j h => (b.2 j h).trans (a.2 j h)⟩
theorem KeepM.rfl' {M : Mem} : KeepM M M := ⟨fun _ _ _ => rfl, fun _ _ => rfl⟩
theorem KeepR.m {M N : Mem} (k : KeepR M N) : KeepM M N := ⟨fun a h _ => k.1 a h, fun j h => k.2 j (by omega)⟩
theorem KeepM.put {M : Mem} {k j : Nat} {v : Int32} (h : (98 ≤ k ∧ k ≤ 104) ∨ (k = 85 ∧ ((21 ≤ j ∧ j < 36) ∨ j = 43 ∨ j = 44 ∨ j = 132))) : KeepM M (wr M k j v) := by
  refine ⟨fun a h1 h2 => wr_ne (by omega), fun i hi => ?_⟩
  unfold wr
  rw [if_neg (by omega)]
theorem MV.keep {V M N : Mem} {a : Nat} (v : MV V a M) (k : KeepM M N) : MV V a N := by
  obtain ⟨h1, h2, h3, h4, h5, h6, h7, h8⟩ := v
  unfold MV
  rw [k.2 7 (by decide), k.2 11 (by decide), k.2 17 (by decide), k.2 18 (by decide), k.1 89 (by decide) (by decide), k.1 90 (by decide) (by decide), k.1 91 (by decide) (by decide), k.1 92 (by decide) (by decide), k.1 93 (by decide) (by decide), k.1 94 (by decide) (by decide), k.1 95 (by decide) (by decide), k.1 96 (by decide) (by decide)]
  exact ⟨h1, h2, h3, h4, h5, h6, h7, h8⟩
theorem TB97.keep {s : Nat} {M N : Mem} (v : TB97 s M) (k : KeepM M N) : TB97 s N := by
  unfold TB97
  rw [k.2 7 (by decide), k.1 97 (by decide) (by decide)]
  exact v
theorem sk_lt {V : Mem} {a k : Nat} (h : a ≤ 4 ∧ (a < 4 → a ≤ vM V ∧ vM V < 4)) (hm : vM V ≤ 4) (hk : k < vM V) : sk a k < cntM V a ∧ sk a k < 4 ∧ sk a k ≠ a ∧ us a (sk a k) = k := by
  unfold sk us cntM
  by_cases h1 : k < a
  · rw [if_pos h1]
    by_cases h2 : a < 4
    · rw [if_pos h2, if_pos (by omega)]; omega
    · rw [if_neg h2, if_pos (by omega)]; omega
  · rw [if_neg h1, if_pos (show a < 4 by omega), if_neg (by omega)]
    have := h.2 (by omega)
    omega
theorem us_lt {V : Mem} {a m : Nat} (h : a ≤ 4 ∧ (a < 4 → a ≤ vM V ∧ vM V < 4)) (hm : vM V ≤ 4) (hk : m < cntM V a) (hma : m ≠ a) : us a m < vM V ∧ sk a (us a m) = m ∧ us a (m + 1) = us a m + 1 := by
  unfold sk us
  unfold cntM at hk
  by_cases h1 : m ≤ a
  · rw [if_pos h1, if_pos (show m + 1 ≤ a by omega), if_pos (by omega)]
    refine ⟨?_, rfl, rfl⟩
    split at hk
    · have := h.2 (by assumption); omega
    · omega
  · rw [if_neg h1, if_neg (by omega), if_neg (by omega)]
    split at hk <;> omega
theorem us_eq {a : Nat} : us a (a + 1) = us a a := by
  unfold us
  rw [if_neg (by omega), if_pos (by omega)]
  omega
theorem us_end {V : Mem} {a : Nat} (h : a ≤ 4 ∧ (a < 4 → a ≤ vM V ∧ vM V < 4)) (hm : vM V ≤ 4) : us a (cntM V a) = vM V := by
  unfold us cntM
  split
  · rw [if_neg (by have := h.2 (by assumption); omega)]; omega
  · rw [if_pos (by omega)]
theorem us_0 {a : Nat} : us a 0 = 0 := by unfold us; rw [if_pos (Nat.zero_le _)]
theorem cnt_le {V : Mem} {a : Nat} (h : a ≤ 4 ∧ (a < 4 → a ≤ vM V ∧ vM V < 4)) (hm : vM V ≤ 4) : cntM V a ≤ 4 := by
  unfold cntM
  split
  · have := h.2 (by assumption); omega
  · exact hm
/-- who is missing -/
theorem abs_eq {V M : Mem} {a m : Nat} (v : MV V a M) (hm : m < 4) : nI m = M 85 18 ↔ m = a := by
  obtain ⟨h1, -, -, -, h5, -⟩ := v
  rw [h5]
  by_cases h : a < 4
  · rw [if_pos h, n_eq (by omega) (by omega)]
  · rw [if_neg h]
    exact ⟨fun z => absurd z (nI_m1 (by omega)), fun z => by omega⟩
theorem fM_within_clS2 (v : Int32) (M : Mem) : fM_within v 0 99 M = some (clS 2 v, M) := by
  unfold fM_within clS
  rw [if_pos rfl]
  simp only [i_le, i_lt]
  have eh : (99 : Int32).toInt = 99 := rfl
  have el : (0 : Int32).toInt = 0 := rfl
  rw [eh, el]
  by_cases h3 : v.toInt < 99
  · simp only [if_pos h3, if_pos (show v.toInt ≤ 99 by omega)]
    by_cases h1 : 0 < v.toInt
    · rw [if_pos h1, if_pos (by omega)]
    · rw [if_neg h1]
      by_cases h2 : 0 ≤ v.toInt
      · rw [if_pos h2, show v = 0 from i_eq.mpr (by rw [el]; omega)]
      · rw [if_neg h2]
  · simp only [if_neg h3]
    rw [if_pos (by omega), if_pos (show (0 : Int) < (99 : Int32).toInt by rw [eh]; decide)]
    by_cases h2 : v.toInt ≤ 99
    · rw [if_pos h2, show v = 99 from i_eq.mpr (by rw [eh]; omega)]
    · rw [if_neg h2]
theorem fM_within_clS {p : Nat} (hp : p ≠ 2) (v : Int32) (M : Mem) : fM_within v 1 9 M = some (clS p v, M) := by
  unfold fM_within clS
  rw [if_neg hp]
  simp only [i_le, i_lt]
  have eh : (9 : Int32).toInt = 9 := rfl
  have el : (1 : Int32).toInt = 1 := rfl
  rw [eh, el]
  by_cases h3 : v.toInt < 9
  · simp only [if_pos h3, if_pos (show v.toInt ≤ 9 by omega)]
    by_cases h1 : 1 < v.toInt
    · rw [if_pos h1, if_pos (by omega)]
    · rw [if_neg h1]
      by_cases h2 : 1 ≤ v.toInt
      · rw [if_pos h2, show v = 1 from i_eq.mpr (by rw [el]; omega)]
      · rw [if_neg h2]
  · simp only [if_neg h3]
    rw [if_pos (by omega), if_pos (show (1 : Int) < (9 : Int32).toInt by rw [eh]; decide)]
    by_cases h2 : v.toInt ≤ 9
    · rw [if_pos h2, show v = 9 from i_eq.mpr (by rw [eh]; omega)]
    · rw [if_neg h2]
theorem fM_says_eq {V : Mem} {a : Nat} {tl : Tell} {M D : Mem} (vo : VOK V) (v : MV V a M) (vm : VMo (M 85 4) tl (M 86) (M 87)) (dk : DOK V D) (dm : DM V a D M) {k p : Nat} (hk : k < vM V) (hp : p < 3) (t b : Int32) : ∃ M', fM_says (nI p) (nI (sk a k)) t b M = some (telS tl V D p k t b, M') ∧ KeepM M M' ∧ DM V a D M' ∧ (∀ x, x ≠ 85 → M' x = M x) := by
  have m4 := vo.2.2.1.2
  have S := sk_lt v.1 m4 hk
  have C4 := cnt_le v.1 m4
  have gk : ib (nI (sk a k)) 4 := ib_nI S.2.1 (by omega)
  have ek : ix (nI (sk a k)) = sk a k := ix_nI (by omega)
  obtain ⟨d50, d52, d51, d53, d54, d55⟩ := dm.1 k hk
  have g8 := (dk k hk).1
  have c93 := (v.2.2.2.2.2.2.2 k hk).1.2.1
  have fin : ∀ (acc : Int32), ∀ z, ∃ M', fM_says_b6 (nI p) (nI (sk a k)) t b (z + 1) acc (nI (cntM V a)) M = some (clS p (tl p t (D 50 k) (D 56 (ix (D 50 k))) (V 5 k) b acc), M') ∧ KeepR M (wr (wr (wr (wr (wr (wr M' 85 21 (M 85 21)) 85 22 (M 85 22)) 85 23 (M 85 23)) 85 24 (M 85 24)) 85 25 (M 85 25)) 85 26 (M 85 26)) := by
    intro acc z
    rw [fM_says_b6, v.2.2.2.1, if_pos (by rw [n_le (by omega) (by omega)]; omega), if_pos gk, if_pos gk, if_pos gk, ek]
    have w85 : ∀ (N : Mem) (j : Nat) (x : Int32) (q : Nat), q ≠ 85 → wr N 85 j x q = N q := fun N j x q hq => wr_ne hq
    simp only [w85 _ _ _ 98 (by decide), w85 _ _ _ 104 (by decide), w85 _ _ _ 93 (by decide), ← d50]
    rw [if_pos g8, ← dm.2.1 _ (ix_lt g8), c93]
    generalize hN : wr (wr (wr (wr (wr (wr M 85 21 t) 85 22 (D 50 k)) 85 23 (D 56 (ix (D 50 k)))) 85 24 (V 5 k)) 85 25 b) 85 26 acc = N
    have n21 : N 85 21 = t := by rw [← hN]; simp [wr]
    have n22 : N 85 22 = D 50 k := by rw [← hN]; simp [wr]
    have n23 : N 85 23 = D 56 (ix (D 50 k)) := by rw [← hN]; simp [wr]
    have n24 : N 85 24 = V 5 k := by rw [← hN]; simp [wr]
    have n25 : N 85 25 = b := by rw [← hN]; simp [wr]
    have n26 : N 85 26 = acc := by rw [← hN]; simp [wr]
    have nr : ∀ q, q ≠ 85 → N q = M q := fun q hq => by rw [← hN, wr_ne hq, wr_ne hq, wr_ne hq, wr_ne hq, wr_ne hq, wr_ne hq]
    have nj : ∀ j, (j < 21 ∨ 26 < j) → N 85 j = M 85 j := fun j hj => by rw [← hN, wr_at (by omega), wr_at (by omega), wr_at (by omega), wr_at (by omega), wr_at (by omega), wr_at (by omega)]
    obtain ⟨N', e', kr⟩ := vm N p (nr 86 (by decide)) (nr 87 (by decide)) hp
    rw [n21, n22, n23, n24, n25, n26] at e'
    rw [nj 4 (by omega), e']
    simp only [Option.bind_some]
    refine ⟨N', ?_, ?_, ?_⟩
    · by_cases hp2 : p = 2
      · subst hp2
        rw [if_pos (show nI 2 = 2 from rfl), fM_says_b143, if_pos (show nI 2 = 2 from rfl), fM_says_b155, fM_within_clS2]
        rfl
      · rw [if_neg (by rw [show (2 : Int32) = nI 2 from rfl, n_eq (by omega) (by omega)]; exact hp2), fM_says_b143, if_neg (by rw [show (2 : Int32) = nI 2 from rfl, n_eq (by omega) (by omega)]; exact hp2), fM_says_b155, fM_within_clS hp2]
        rfl
    · intro q hq
      rw [wr_ne hq, wr_ne hq, wr_ne hq, wr_ne hq, wr_ne hq, wr_ne hq, kr.1 q hq, nr q hq]
    · intro j hj
      unfold wr
      by_cases h26 : j = 26
      · simp [h26]
      by_cases h25 : j = 25
      · simp [h25]
      by_cases h24 : j = 24
      · simp [h24]
      by_cases h23 : j = 23
      · simp [h23]
      by_cases h22 : j = 22
      · simp [h22]
      by_cases h21 : j = 21
      · simp [h21]
      simp only [h21, h22, h23, h24, h25, h26, and_false, if_false]
      rw [kr.2 j hj, nj j (by omega)]
  have loop : ∀ (c m z : Nat) (acc : Int32), m + c = cntM V a → c < z → ∃ M', fM_says_b6 (nI p) (nI (sk a k)) t b z acc (nI m) M = some (clS p (tl p t (D 50 k) (D 56 (ix (D 50 k))) (V 5 k) b (othF D k (vM V - us a m) (us a m) acc)), M') ∧ KeepR M (wr (wr (wr (wr (wr (wr M' 85 21 (M 85 21)) 85 22 (M 85 22)) 85 23 (M 85 23)) 85 24 (M 85 24)) 85 25 (M 85 25)) 85 26 (M 85 26)) := by
    intro c
    induction c with
    | zero =>
      intro m z acc hm hz
      obtain ⟨z, rfl⟩ := Nat.exists_eq_succ_of_ne_zero (show z ≠ 0 by omega)
      have : m = cntM V a := by omega
      subst this
      rw [us_end v.1 m4, Nat.sub_self, othF]
      exact fin acc z
    | succ c ih =>
      intro m z acc hm hz
      obtain ⟨z, rfl⟩ := Nat.exists_eq_succ_of_ne_zero (show z ≠ 0 by omega)
      have gm : ib (nI m) 4 := ib_nI (by omega) (by omega)
      have em : ix (nI m) = m := ix_nI (by omega)
      rw [fM_says_b6, v.2.2.2.1, if_neg (by rw [n_le (by omega) (by omega)]; omega)]
      simp only [fM_says_b62, fM_says_b63, Int32.add_zero, nI_1, em, ek, if_pos gm, if_pos gk]
      by_cases h1 : m = sk a k
      · rw [if_pos (by rw [h1])]
        have ul := us_lt v.1 m4 (show m < cntM V a by omega) (by rw [h1]; exact S.2.2.1)
        obtain ⟨M', e1, e2⟩ := ih (m + 1) z acc (by omega) (by omega)
        refine ⟨M', ?_, e2⟩
        rw [e1, ul.2.2, show vM V - us a m = (vM V - (us a m + 1)) + 1 by omega, othF, if_neg (fun w => w.1 (by rw [h1]; exact S.2.2.2))]
      · rw [if_neg (by rw [n_eq (by omega) (by omega)]; exact h1)]
        by_cases h2 : m = a
        · rw [if_pos ((abs_eq v (by omega)).mpr h2)]
          obtain ⟨M', e1, e2⟩ := ih (m + 1) z acc (by omega) (by omega)
          refine ⟨M', ?_, e2⟩
          rw [e1, h2, us_eq]
        · rw [if_neg (fun w => h2 ((abs_eq v (by omega)).mp w))]
          have ul := us_lt v.1 m4 (show m < cntM V a by omega) h2
          obtain ⟨q50, q52, -⟩ := dm.1 (us a m) ul.1
          rw [ul.2.1] at q50 q52
          have hne : us a m ≠ k := fun w => h1 (by rw [← w, ul.2.1])
          rw [← q50, ← q52, ← d50]
          have ho : ∀ acc, othF D k (vM V - us a m) (us a m) acc = othF D k (vM V - us a (m + 1)) (us a (m + 1)) (if us a m ≠ k ∧ D 52 (us a m) = 0 ∧ D 50 (us a m) = D 50 k then acc + 1 else acc) := fun acc => by
            rw [ul.2.2, show vM V - us a m = (vM V - (us a m + 1)) + 1 by omega, othF]
          by_cases h3 : D 52 (us a m) = 0
          · rw [if_pos h3]
            by_cases h4 : D 50 (us a m) = D 50 k
            · rw [if_pos h4, ho, if_pos ⟨hne, h3, h4⟩]
              exact ih (m + 1) z _ (by omega) (by omega)
            · rw [if_neg h4, ho, if_neg (fun w => h4 w.2.2)]
              exact ih (m + 1) z _ (by omega) (by omega)
          · rw [if_neg h3, ho, if_neg (fun w => h3 w.2.1)]
            exact ih (m + 1) z _ (by omega) (by omega)
  obtain ⟨M', e1, e2⟩ := loop (cntM V a) 0 1000 0 (by omega) (by omega)
  rw [us_0, Nat.sub_zero] at e1
  have r : ∀ x, x ≠ 85 → M' x = M x := fun x hx => by
    have := e2.1 x hx
    rw [wr_ne hx, wr_ne hx, wr_ne hx, wr_ne hx, wr_ne hx, wr_ne hx] at this
    exact this
  have r85 : ∀ j, (j < 21 ∨ (36 ≤ j ∧ j ≠ 132)) → M' 85 j = M 85 j := fun j hj => by
    have := e2.2 j (by omega)
    rw [wr_at (by omega), wr_at (by omega), wr_at (by omega), wr_at (by omega), wr_at (by omega), wr_at (by omega)] at this
    exact this
  refine ⟨M', e1, ⟨fun x h _ => r x h, fun j h => r85 j (by omega)⟩, ?_, r⟩
  unfold DM
  rw [r 98 (by decide), r 99 (by decide), r 100 (by decide), r 101 (by decide), r 102 (by decide), r 103 (by decide), r 104 (by decide), r85 43 (by decide), r85 44 (by decide)]
  exact dm
