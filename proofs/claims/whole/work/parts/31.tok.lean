/-! 31: tokens, in the class and in the model -/
def rnT (P : Int32 → Bool) (n : Nat) (T : Stk) : Nat → Nat → Nat
  | 0, i => i
  | c + 1, i => if i < n ∧ P (T i) = true then rnT P n T c (i + 1) else i
/-- the end of the run of bytes with P -/
def rn (P : Int32 → Bool) (n : Nat) (T : Stk) (i : Nat) : Nat := rnT P n T (n - i) i
theorem rn_stop {P : Int32 → Bool} {n i : Nat} {T : Stk} (h : ¬ (i < n ∧ P (T i) = true)) : rn P n T i = i := by
  unfold rn
  cases n - i with
  | zero => rfl
  | succ c => rw [rnT, if_neg h]
theorem rn_go {P : Int32 → Bool} {n i : Nat} {T : Stk} (h1 : i < n) (h2 : P (T i) = true) : rn P n T i = rn P n T (i + 1) := by
  unfold rn
  rw [show n - i = (n - (i + 1)) + 1 by omega, rnT, if_pos ⟨h1, h2⟩]
theorem rn_bd' {P : Int32 → Bool} {n : Nat} {T : Stk} : ∀ (c i : Nat), n - i = c → i ≤ n → i ≤ rn P n T i ∧ rn P n T i ≤ n ∧ (rn P n T i < n → P (T (rn P n T i)) = false) ∧ ∀ j, i ≤ j → j < rn P n T i → P (T j) = true := by
  intro c
  induction c with
  | zero =>
    intro i h hi
    rw [rn_stop (by omega)]
    exact ⟨by omega, by omega, fun h => by omega, fun j h1 h2 => by omega⟩
  | succ c ih =>
    intro i h hi
    by_cases hp : P (T i) = true
    · rw [rn_go (by omega) hp]
      obtain ⟨h1, h2, h3, h4⟩ := ih (i + 1) (by omega) (by omega)
      refine ⟨by omega, h2, h3, fun j h5 h6 => ?_⟩
      by_cases e : j = i
      · subst e; exact hp
      · exact h4 j (by omega) h6
    · rw [rn_stop (fun w => hp w.2)]
      exact ⟨Nat.le_refl _, hi, fun _ => by simpa using hp, fun j h1 h2 => by omega⟩
theorem rn_bd {P : Int32 → Bool} {n i : Nat} {T : Stk} (h : i ≤ n) : i ≤ rn P n T i ∧ rn P n T i ≤ n ∧ (rn P n T i < n → P (T (rn P n T i)) = false) ∧ ∀ j, i ≤ j → j < rn P n T i → P (T j) = true := rn_bd' _ i rfl h
def cBl (b : Int32) : Bool := decide (b = 32) || decide (b = 10)
def cLt (b : Int32) : Bool := decide (97 ≤ b.toInt) && decide (b.toInt ≤ 122)
def cDg (b : Int32) : Bool := decide (48 ≤ b.toInt) && decide (b.toInt ≤ 57)
def cSg (b : Int32) : Bool := decide (b = 40) || decide (b = 41) || decide (b = 59) || decide (b = 43) || decide (b = 45) || decide (b = 42) || decide (b = 60) || decide (b = 61)
theorem cLt_iff {b : Int32} : cLt b = true ↔ 97 ≤ b.toInt ∧ b.toInt ≤ 122 := by simp [cLt]
theorem cDg_iff {b : Int32} : cDg b = true ↔ 48 ≤ b.toInt ∧ b.toInt ≤ 57 := by simp [cDg]
theorem fR_isLetter_eq (b : Int32) (M : Mem) : fR_isLetter b M = some (bz (cLt b = true), M) := by
  unfold fR_isLetter
  simp only [i_lt, show (97 : Int32).toInt = 97 from rfl, show (122 : Int32).toInt = 122 from rfl]
  by_cases h1 : b.toInt < 97
  · rw [if_pos h1, bz, if_neg (by rw [cLt_iff]; omega)]
  · rw [if_neg h1]
    by_cases h2 : 122 < b.toInt
    · rw [if_pos h2, bz, if_neg (by rw [cLt_iff]; omega)]
    · rw [if_neg h2, bz, if_pos (by rw [cLt_iff]; omega)]
theorem fR_isDigit_eq (b : Int32) (M : Mem) : fR_isDigit b M = some (bz (cDg b = true), M) := by
  unfold fR_isDigit
  simp only [i_lt, show (48 : Int32).toInt = 48 from rfl, show (57 : Int32).toInt = 57 from rfl]
  by_cases h1 : b.toInt < 48
  · rw [if_pos h1, bz, if_neg (by rw [cDg_iff]; omega)]
  · rw [if_neg h1]
    by_cases h2 : 57 < b.toInt
    · rw [if_pos h2, bz, if_neg (by rw [cDg_iff]; omega)]
    · rw [if_neg h2, bz, if_pos (by rw [cDg_iff]; omega)]
theorem fR_isSign_eq (b : Int32) (M : Mem) : fR_isSign b M = some (bz (cSg b = true), M) := by
  unfold fR_isSign fR_isSign_b48 cSg
  by_cases h1 : b = 40
  · simp [h1]
  by_cases h2 : b = 41
  · simp [h2]
  by_cases h3 : b = 59
  · simp [h3]
  by_cases h4 : b = 43
  · simp [h4]
  by_cases h5 : b = 45
  · simp [h5]
  by_cases h6 : b = 42
  · simp [h6]
  by_cases h7 : b = 60
  · simp [h7]
  by_cases h8 : b = 61
  · simp [h8]
  simp [h1, h2, h3, h4, h5, h6, h7, h8]
theorem fM_inLt (b : Int32) (N : Mem) : fM_in b.toInt64 (97 : Int64) (122 : Int64) N = some (bz (cLt b = true), N) := by
  rw [fM_in_eq, t64]
  exact congrArg (fun x => some (x, N)) (bz_iff (by rw [cLt_iff, show (97 : Int64).toInt = 97 from rfl, show (122 : Int64).toInt = 122 from rfl]))
theorem fM_inDg (b : Int32) (N : Mem) : fM_in b.toInt64 (48 : Int64) (57 : Int64) N = some (bz (cDg b = true), N) := by
  rw [fM_in_eq, t64]
  exact congrArg (fun x => some (x, N)) (bz_iff (by rw [cDg_iff, show (48 : Int64).toInt = 48 from rfl, show (57 : Int64).toInt = 57 from rfl]))
theorem nI_subm {a b : Nat} (h : b ≤ a) : nI a - nI b = nI (a - b) := by
  have : nI a = nI (a - b) + nI b := by rw [nI_add, Nat.sub_add_cancel h]
  rw [this, Int32.add_sub_cancel]
/-! words -/
abbrev chrW (i : Nat) : Int32 := (txByt.getD 1 []).getD i 0
def wtab : List (Nat × Nat) := [(0, 6), (7, 11), (12, 16), (17, 23), (24, 30), (31, 36), (37, 42), (43, 47), (48, 53), (54, 56), (57, 60), (61, 64)]
def onT (T : Stk) (a s : Nat) : Nat → Nat → Bool
  | 0, _ => true
  | c + 1, x => decide (chrW x = T (a + (x - s))) && onT T a s c (x + 1)
def mtB (T : Stk) (a e : Nat) (q : Nat × Nat) : Bool := decide (e - a = q.2 - q.1) && onT T a q.1 (q.2 - q.1) q.1
def wdL (T : Stk) (a e : Nat) : List (Nat × Nat) → Nat → Nat
  | [], _ => 14
  | q :: r, w => if mtB T a e q = true then w else wdL T a e r (w + 1)
def wdT (T : Stk) (a e : Nat) : Nat := wdL T a e wtab 0
theorem onT_iff {T : Stk} {a s : Nat} : ∀ (c x : Nat), s ≤ x → (onT T a s c x = true ↔ ∀ j, j < c → chrW (x + j) = T (a + (x + j - s)))
  | 0, x, _ => ⟨fun _ j h => by omega, fun _ => rfl⟩
  | c + 1, x, hx => by
    rw [onT, Bool.and_eq_true, decide_eq_true_eq, onT_iff c (x + 1) (by omega)]
    constructor
    · intro h j hj
      by_cases e : j = 0
      · subst e; exact h.1
      · have := h.2 (j - 1) (by omega)
        rw [show x + 1 + (j - 1) = x + j by omega] at this
        exact this
    · intro h
      refine ⟨h 0 (by omega), fun j hj => ?_⟩
      have := h (j + 1) (by omega)
      rw [show x + (j + 1) = x + 1 + j by omega] at this
      exact this
theorem mtB_q {T : Stk} {a e : Nat} {q : Nat × Nat} : mtB T a e q = true ↔ e - a = q.2 - q.1 ∧ ∀ j, j < q.2 - q.1 → chrW (q.1 + j) = T (a + j) := by
  unfold mtB
  rw [Bool.and_eq_true, decide_eq_true_eq, onT_iff _ _ (Nat.le_refl _)]
  simp only [Nat.add_sub_cancel_left]
theorem mtB_iff {T : Stk} {a e s t : Nat} : mtB T a e (s, t) = true ↔ e - a = t - s ∧ ∀ j, j < t - s → chrW (s + j) = T (a + j) := mtB_q
theorem fR_isOnTape_b2_eq {T : Stk} {n a s t : Nat} {M : Mem} (hn : n ≤ 160) (hT : ∀ i, i < n → M 41 i = T i) (ha : M 40 2 = nI a) (ht : t ≤ 65) (hb : a + (t - s) ≤ n) : ∀ (c x z : Nat), s ≤ x → x + c = t → c < z → fR_isOnTape_b2 (nI s) (nI t) z (nI x) M = some (bz (onT T a s c x = true), M) := by
  intro c
  induction c with
  | zero =>
    intro x z hs hx hz
    obtain ⟨z, rfl⟩ := Nat.exists_eq_succ_of_ne_zero (show z ≠ 0 by omega)
    rw [fR_isOnTape_b2, if_pos (by rw [n_le (by omega) (by omega)]; omega), onT]
    rfl
  | succ c ih =>
    intro x z hs hx hz
    obtain ⟨z, rfl⟩ := Nat.exists_eq_succ_of_ne_zero (show z ≠ 0 by omega)
    rw [fR_isOnTape_b2, if_neg (by rw [n_le (by omega) (by omega)]; omega), if_pos (ib_nI (by omega) (by omega)), ha, nI_add, nI_subm (by omega), if_pos (ib_nI (by omega) (by omega)), ix_nI (by omega), ix_nI (by omega), hT _ (by omega), nI_1, ih (x + 1) z (by omega) (by omega) (by omega), onT]
    rw [show a + x - s = a + (x - s) by omega]
    by_cases h : (txByt.getD 1 []).getD x 0 = T (a + (x - s))
    · rw [if_pos h, show decide (chrW x = T (a + (x - s))) = true from decide_eq_true h, Bool.true_and]
    · rw [if_neg h, show decide (chrW x = T (a + (x - s))) = false from decide_eq_false h, Bool.false_and]
      rfl
theorem wot_nb {M : Mem} {w s : Int32} {i z : Nat} (hi : i < 65) (h : chrW i ≠ 32) : fR_wordOnTape_b6 (z + 1) w s (nI i) M = fR_wordOnTape_b6 z w s (nI (i + 1)) M := by
  rw [fR_wordOnTape_b6, if_neg (by rw [show Int32.ofNat (txLen.getD 1 0) = nI 65 from rfl, n_le (by omega) (by omega)]; omega), if_pos (ib_nI hi (by omega)), ix_nI (by omega), if_neg h, fR_wordOnTape_b59, nI_1]
theorem wot_run {M : Mem} {w s : Int32} : ∀ (c i z : Nat), i + c ≤ 65 → (∀ j, j < c → chrW (i + j) ≠ 32) → fR_wordOnTape_b6 (z + c) w s (nI i) M = fR_wordOnTape_b6 z w s (nI (i + c)) M
  | 0, i, z, _, _ => rfl
  | c + 1, i, z, h1, h2 => by
    rw [← Nat.add_assoc, wot_nb (i := i) (by omega) (h2 0 (by omega)), wot_run c (i + 1) z (by omega) (fun j hj => by
      have := h2 (j + 1) (by omega)
      rw [show i + (j + 1) = i + 1 + j by omega] at this
      exact this), show i + 1 + c = i + (c + 1) by omega]
theorem wot_word {T : Stk} {n a e s t w z : Nat} {M : Mem} (hn : n ≤ 160) (hT : ∀ i, i < n → M 41 i = T i) (ha : M 40 2 = nI a) (he : M 40 3 = nI e) (hae : a ≤ e) (hen : e ≤ n) (hst : s ≤ t) (ht : t < 65) (h1 : ∀ j, j < t - s → chrW (s + j) ≠ 32) (h2 : chrW t = 32) : fR_wordOnTape_b6 (z + 1 + (t - s)) (nI w) (nI s) (nI s) M = if mtB T a e (s, t) = true then some (nI w, M) else fR_wordOnTape_b6 z (nI (w + 1)) (nI (t + 1)) (nI (t + 1)) M := by
  rw [wot_run (t - s) s (z + 1) (by omega) h1, show s + (t - s) = t by omega, fR_wordOnTape_b6, if_neg (by rw [show Int32.ofNat (txLen.getD 1 0) = nI 65 from rfl, n_le (by omega) (by omega)]; omega), if_pos (ib_nI ht (by omega)), ix_nI (by omega), if_pos h2, nI_subm hst, ha, he, nI_subm hae, fR_wordOnTape_b52, fR_wordOnTape_b59, nI_1, nI_1]
  unfold mtB
  by_cases hl : t - s = e - a
  · rw [if_pos (by rw [hl]), fR_isOnTape, fR_isOnTape_b2_eq hn hT ha (by omega) (by omega) (t - s) s 1000 (Nat.le_refl _) (by omega) (by omega)]
    simp only [Option.bind_some, bz_0]
    by_cases ho : onT T a s (t - s) s = true
    · rw [if_neg (fun k => k ho), if_pos (by simp [hl.symm, ho])]
    · rw [if_pos ho, if_neg (by simp [ho]), fR_wordOnTape_b52, fR_wordOnTape_b59, nI_1, nI_1]
  · rw [if_neg (by rw [n_eq (by omega) (by omega)]; exact hl), if_neg (by simp; intro k; omega)]
def okW : Nat → List (Nat × Nat) → Bool
  | s, [] => decide (s = 65)
  | s, q :: r => decide (q.1 = s) && decide (s ≤ q.2) && decide (q.2 < 65) && (List.range (q.2 - s)).all (fun j => decide (chrW (s + j) ≠ 32)) && decide (chrW q.2 = 32) && okW (q.2 + 1) r
theorem wot_list {T : Stk} {n a e : Nat} {M : Mem} (hn : n ≤ 160) (hT : ∀ i, i < n → M 41 i = T i) (ha : M 40 2 = nI a) (he : M 40 3 = nI e) (hae : a ≤ e) (hen : e ≤ n) : ∀ (l : List (Nat × Nat)) (w s z : Nat), okW s l = true → fR_wordOnTape_b6 (z + 1 + (65 - s)) (nI w) (nI s) (nI s) M = some (nI (wdL T a e l w), M)
  | [], w, s, z, h => by
    have : s = 65 := by simpa [okW] using h
    subst this
    rw [show z + 1 + (65 - 65) = z + 1 by omega, fR_wordOnTape_b6, if_pos (by rw [show Int32.ofNat (txLen.getD 1 0) = nI 65 from rfl]; rw [n_le (by omega) (by omega)]; omega)]
    rfl
  | (p, t) :: r, w, s, z, h => by
    rw [okW] at h
    simp only [Bool.and_eq_true, decide_eq_true_eq, List.all_eq_true, List.mem_range] at h
    obtain ⟨⟨⟨⟨⟨h1, h2⟩, h3⟩, h4⟩, h5⟩, h6⟩ := h
    subst h1
    rw [show z + 1 + (65 - p) = (z + 1 + (65 - (t + 1))) + 1 + (t - p) by omega, wot_word hn hT ha he hae hen h2 h3 h4 h5, wdL]
    by_cases hm : mtB T a e (p, t) = true
    · rw [if_pos hm, if_pos hm]
    · rw [if_neg hm, if_neg hm]
      exact wot_list hn hT ha he hae hen r (w + 1) (t + 1) z h6
theorem fR_wordOnTape_eq {T : Stk} {n a e : Nat} {M : Mem} (hn : n ≤ 160) (hT : ∀ i, i < n → M 41 i = T i) (ha : M 40 2 = nI a) (he : M 40 3 = nI e) (hae : a ≤ e) (hen : e ≤ n) : fR_wordOnTape M = some (nI (wdT T a e), M) := by
  have := wot_list hn hT ha he hae hen wtab 0 0 934 (by decide +kernel)
  exact this
theorem wdL_sp {T : Stk} {a e : Nat} : ∀ (l : List (Nat × Nat)) (w : Nat), w + l.length ≤ 14 → (wdL T a e l w = 14 ∧ ∀ i, i < l.length → mtB T a e (l.getD i (0, 0)) = false) ∨ ∃ i, i < l.length ∧ wdL T a e l w = w + i ∧ mtB T a e (l.getD i (0, 0)) = true
  | [], w, _ => Or.inl ⟨rfl, fun i h => absurd h (by simp)⟩
  | q :: r, w, h => by
    rw [List.length_cons] at h
    rw [wdL]
    by_cases hm : mtB T a e q = true
    · rw [if_pos hm]
      exact Or.inr ⟨0, by simp, rfl, hm⟩
    · rw [if_neg hm]
      rcases wdL_sp r (w + 1) (by omega) with ⟨h1, h2⟩ | ⟨i, h1, h2, h3⟩
      · refine Or.inl ⟨h1, fun i hi => ?_⟩
        cases i with
        | zero => simpa using hm
        | succ i => exact h2 i (by simpa using hi)
      · exact Or.inr ⟨i + 1, by simpa using h1, by omega, h3⟩
theorem wd_diff : ∀ i, i < 12 → ∀ j, j < 12 → i ≠ j → ((wtab.getD i (0, 0)).2 - (wtab.getD i (0, 0)).1 ≠ (wtab.getD j (0, 0)).2 - (wtab.getD j (0, 0)).1 ∨ ∃ k, k < (wtab.getD i (0, 0)).2 - (wtab.getD i (0, 0)).1 ∧ chrW ((wtab.getD i (0, 0)).1 + k) ≠ chrW ((wtab.getD j (0, 0)).1 + k)) := by decide +kernel
theorem wd_iff {T : Stk} {a e w : Nat} (hw : w < 12) : wdT T a e = w ↔ mtB T a e (wtab.getD w (0, 0)) = true := by
  have hl : wtab.length = 12 := rfl
  rcases wdL_sp (T := T) (a := a) (e := e) wtab 0 (by decide) with ⟨h1, h2⟩ | ⟨i, h1, h2, h3⟩
  · unfold wdT
    rw [h1, h2 w (by omega)]
    constructor
    · intro z; omega
    · intro z; cases z
  · unfold wdT
    rw [h2, Nat.zero_add]
    constructor
    · intro z; rw [← z]; exact h3
    · intro z
      refine Classical.byContradiction (fun hne => ?_)
      rw [hl] at h1
      have e1 := mtB_q.mp h3
      have e2 := mtB_q.mp z
      rcases wd_diff i h1 w hw hne with d | ⟨k, d1, d2⟩
      · omega
      · exact d2 ((e1.2 k d1).trans (e2.2 k (by omega)).symm)
theorem wd_bd {T : Stk} {a e : Nat} : wdT T a e < 12 ∨ wdT T a e = 14 := by
  rcases wdL_sp (T := T) (a := a) (e := e) wtab 0 (by decide) with ⟨h1, h2⟩ | ⟨i, h1, h2, h3⟩
  · exact Or.inr h1
  · left
    unfold wdT
    rw [h2]
    have hl : wtab.length = 12 := rfl
    omega
/-! the model's bytes and words -/
def NB (n t : Nat) (T : Stk) (N : Mem) : Prop := (t < 6 ∧ n ≤ 160) ∧ N 85 27 = nI (160 * t) ∧ N 85 28 = nI n ∧ ∀ i, i < n → N 86 (160 * t + i) = T i
theorem fM_byteAt_eq {n t : Nat} {T : Stk} {N : Mem} (h : NB n t T N) {i : Nat} (hi : i < 1000) : fM_byteAt (nI i) N = some (if i < n then T i else -1, N) := by
  obtain ⟨⟨h1, h1'⟩, h2, h3, h4⟩ := h
  unfold fM_byteAt
  rw [h3]
  by_cases hc : i < n
  · rw [if_neg (by rw [n_le (by omega) (by omega)]; omega), h2, nI_add, if_pos (ib_nI (by omega) (by omega)), ix_nI (by omega), h4 i hc, if_pos hc]
  · rw [if_pos (by rw [n_le (by omega) (by omega)]; omega), if_neg hc]
def isL (T : Stk) (a e i : Nat) (c : Int32) : Bool := if a + i < e then decide (T (a + i) = c) else decide (c = 0)
theorem fM_isLetter_eq {n t a e : Nat} {T : Stk} {N : Mem} (h : NB n t T N) (ha : N 85 31 = nI a) (he : N 85 29 = nI e) (hen : e ≤ n) (hae : a ≤ e) {i : Nat} (hi : i < 10) (c : Int32) : fM_isLetter (nI i) c N = some (bz (isL T a e i c = true), N) := by
  have hn := h.1.2
  unfold fM_isLetter isL
  rw [ha, he, nI_add]
  by_cases hc : a + i < e
  · rw [if_neg (by rw [n_le (by omega) (by omega)]; omega), fM_byteAt_eq h (by omega), if_pos hc, if_pos (by omega)]
    simp only [Option.bind_some]
    by_cases hd : T (a + i) = c
    · rw [if_pos hd]; simp [hd]
    · rw [if_neg hd]; simp [hd]
  · rw [if_pos (by rw [n_le (by omega) (by omega)]; omega), if_neg hc]
    by_cases hd : c = 0
    · rw [if_pos hd]; simp [hd]
    · rw [if_neg hd]; simp [hd]
def isW (T : Stk) (a e : Nat) (c0 c1 c2 c3 c4 c5 c6 c7 : Int32) : Bool := decide (e ≤ a + 8) && (isL T a e 0 c0 && (isL T a e 1 c1 && (isL T a e 2 c2 && (isL T a e 3 c3 && (isL T a e 4 c4 && (isL T a e 5 c5 && (isL T a e 6 c6 && isL T a e 7 c7)))))))
theorem fM_isWord_eq {n t a e : Nat} {T : Stk} {N : Mem} (h : NB n t T N) (hb : N 85 34 = 0) (hk : N 85 30 = 1) (ha : N 85 31 = nI a) (he : N 85 29 = nI e) (hen : e ≤ n) (hae : a ≤ e) (c0 c1 c2 c3 c4 c5 c6 c7 : Int32) : fM_isWord c0 c1 c2 c3 c4 c5 c6 c7 N = some (bz (isW T a e c0 c1 c2 c3 c4 c5 c6 c7 = true), N) := by
  have hn := h.1.2
  have L : ∀ (i : Nat) (c : Int32), i < 10 → fM_isLetter (nI i) c N = some (bz (isL T a e i c = true), N) := fun i c hi => fM_isLetter_eq h ha he hen hae hi c
  unfold fM_isWord isW
  rw [if_pos hb, if_pos hk, ha, he, show (8 : Int32) = nI 8 from rfl, nI_add]
  by_cases h8 : a + 8 < e
  · rw [if_pos (by rw [n_lt (by omega) (by omega)]; exact h8), bz, if_neg (by simp; intro k; omega)]
  · rw [if_neg (by rw [n_lt (by omega) (by omega)]; exact h8), show decide (e ≤ a + 8) = true from by simp; omega]
    rw [show (0 : Int32) = nI 0 from rfl, show (1 : Int32) = nI 1 from rfl, show (2 : Int32) = nI 2 from rfl, show (3 : Int32) = nI 3 from rfl, show (4 : Int32) = nI 4 from rfl, show (5 : Int32) = nI 5 from rfl, show (6 : Int32) = nI 6 from rfl, show (7 : Int32) = nI 7 from rfl]
    simp only [L _ _ (show 0 < 10 by omega), L _ _ (show 1 < 10 by omega), L _ _ (show 2 < 10 by omega), L _ _ (show 3 < 10 by omega), L _ _ (show 4 < 10 by omega), L _ _ (show 5 < 10 by omega), L _ _ (show 6 < 10 by omega), L _ _ (show 7 < 10 by omega), Option.bind_some, Bool.true_and]
    rw [show nI 0 = (0 : Int32) from rfl, show nI 1 = (1 : Int32) from rfl]
    cases isL T a e 0 c0 <;> simp only [bz, Bool.true_and, Bool.false_and, if_true, if_false, Bool.false_eq_true, reduceCtorEq, show ¬ (1 : Int32) = 0 by decide]
    cases isL T a e 1 c1 <;> simp only [bz, Bool.true_and, Bool.false_and, if_true, if_false, Bool.false_eq_true, reduceCtorEq, show ¬ (1 : Int32) = 0 by decide]
    cases isL T a e 2 c2 <;> simp only [bz, Bool.true_and, Bool.false_and, if_true, if_false, Bool.false_eq_true, reduceCtorEq, show ¬ (1 : Int32) = 0 by decide]
    cases isL T a e 3 c3 <;> simp only [bz, Bool.true_and, Bool.false_and, if_true, if_false, Bool.false_eq_true, reduceCtorEq, show ¬ (1 : Int32) = 0 by decide]
    cases isL T a e 4 c4 <;> simp only [bz, Bool.true_and, Bool.false_and, if_true, if_false, Bool.false_eq_true, reduceCtorEq, show ¬ (1 : Int32) = 0 by decide]
    cases isL T a e 5 c5 <;> simp only [bz, Bool.true_and, Bool.false_and, if_true, if_false, Bool.false_eq_true, reduceCtorEq, show ¬ (1 : Int32) = 0 by decide]
    cases isL T a e 6 c6 <;> simp only [bz, Bool.true_and, Bool.false_and, if_true, if_false, Bool.false_eq_true, reduceCtorEq, show ¬ (1 : Int32) = 0 by decide]
    cases isL T a e 7 c7 <;> simp only [bz, Bool.true_and, Bool.false_and, if_true, if_false, Bool.false_eq_true, reduceCtorEq, show ¬ (1 : Int32) = 0 by decide]
theorem isL_iff {T : Stk} {a e i : Nat} {c : Int32} : isL T a e i c = true ↔ (a + i < e ∧ T (a + i) = c) ∨ (e ≤ a + i ∧ c = 0) := by
  unfold isL
  by_cases h : a + i < e
  · rw [if_pos h, decide_eq_true_eq]
    constructor
    · intro z; exact Or.inl ⟨h, z⟩
    · rintro (z | z)
      · exact z.2
      · omega
  · rw [if_neg h, decide_eq_true_eq]
    constructor
    · intro z; exact Or.inr ⟨by omega, z⟩
    · rintro (z | z)
      · omega
      · exact z.2
/-- letter i of the word at q -/
abbrev cw (q : Nat × Nat) (i : Nat) : Int32 := if i < q.2 - q.1 then chrW (q.1 + i) else 0
theorem isW_mt {T : Stk} {a e s t : Nat} (hae : a ≤ e) (hL : ∀ i, a ≤ i → i < e → cLt (T i) = true) (hl : t - s ≤ 8) (hc : ∀ i, i < t - s → chrW (s + i) ≠ 0) : isW T a e (cw (s, t) 0) (cw (s, t) 1) (cw (s, t) 2) (cw (s, t) 3) (cw (s, t) 4) (cw (s, t) 5) (cw (s, t) 6) (cw (s, t) 7) = mtB T a e (s, t) := by
  have hz : ∀ i, a ≤ i → i < e → T i ≠ 0 := by
    intro i h1 h2 w
    have := cLt_iff.mp (hL i h1 h2)
    rw [w, show (0 : Int32).toInt = 0 from rfl] at this
    omega
  have key : isW T a e (cw (s, t) 0) (cw (s, t) 1) (cw (s, t) 2) (cw (s, t) 3) (cw (s, t) 4) (cw (s, t) 5) (cw (s, t) 6) (cw (s, t) 7) = true ↔ (e ≤ a + 8 ∧ ∀ i, i < 8 → isL T a e i (cw (s, t) i) = true) := by
    unfold isW
    simp only [Bool.and_eq_true, decide_eq_true_eq]
    constructor
    · rintro ⟨h, g0, g1, g2, g3, g4, g5, g6, g7⟩
      refine ⟨h, fun i hi => ?_⟩
      rcases (by omega : i = 0 ∨ i = 1 ∨ i = 2 ∨ i = 3 ∨ i = 4 ∨ i = 5 ∨ i = 6 ∨ i = 7) with rfl | rfl | rfl | rfl | rfl | rfl | rfl | rfl
      all_goals assumption
    · rintro ⟨h, g⟩
      exact ⟨h, g 0 (by omega), g 1 (by omega), g 2 (by omega), g 3 (by omega), g 4 (by omega), g 5 (by omega), g 6 (by omega), g 7 (by omega)⟩
  rw [Bool.eq_iff_iff, key, mtB_iff]
  constructor
  · rintro ⟨h8, g⟩
    have hlen : e - a = t - s := by
      refine Classical.byContradiction (fun hne => ?_)
      by_cases hlt : e - a < t - s
      · have := isL_iff.mp (g (e - a) (by omega))
        rw [cw, if_pos (by exact hlt)] at this
        rcases this with z | z
        · omega
        · exact hc _ hlt z.2
      · have := isL_iff.mp (g (t - s) (by omega))
        rw [cw, if_neg (by show ¬ t - s < t - s; omega)] at this
        rcases this with z | z
        · exact hz _ (by omega) (by omega) z.2
        · omega
    refine ⟨hlen, fun j hj => ?_⟩
    have := isL_iff.mp (g j (by omega))
    rw [cw, if_pos (by exact hj)] at this
    rcases this with z | z
    · exact z.2.symm
    · omega
  · rintro ⟨h1, h2⟩
    refine ⟨by omega, fun i hi => isL_iff.mpr ?_⟩
    by_cases h : i < t - s
    · left
      rw [cw, if_pos (by exact h)]
      exact ⟨by omega, (h2 i h).symm⟩
    · right
      rw [cw, if_neg (by exact h)]
      exact ⟨by omega, rfl⟩
theorem wtab_ok : ∀ w, w < 12 → (wtab.getD w (0, 0)).2 - (wtab.getD w (0, 0)).1 ≤ 8 ∧ ∀ i, i < (wtab.getD w (0, 0)).2 - (wtab.getD w (0, 0)).1 → chrW ((wtab.getD w (0, 0)).1 + i) ≠ 0 := by decide +kernel
