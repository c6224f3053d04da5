/-! 30: what the code of a text says -/
abbrev Stk : Type := Nat → Int32
def stS (S : Stk) (k : Nat) (v : Int32) : Stk := fun j => if j = k then v else S j
def jn (s a b : Int32) : Int32 := if s = 10 then (if a ≠ 0 ∧ b ≠ 0 then 1 else 0) else if s = 42 then a * b else if s = 43 then a + b else if s = 45 then a - b else if s = 60 then (if a < b then 1 else 0) else if s = 61 then (if a = b then 1 else 0) else (if a ≠ 0 ∨ b ≠ 0 then 1 else 0)
def stepC (nm : Stk) (c : Int32) (S : Stk) (h : Nat) : Option (Stk × Nat) :=
  if c < -6 then
    (if c = -12 then (if 1 ≤ h then some (stS S (h - 1) (-S (h - 1)), h) else none)
     else if c = -11 then (if 1 ≤ h then some (stS S (h - 1) (if S (h - 1) = 0 then 1 else 0), h) else none)
     else if 2 ≤ h then some (stS S (h - 2) (jn (-c) (S (h - 2)) (S (h - 1))), h - 1) else none)
  else if c < 0 then some (stS S h (nm (ix (-1 - c))), h + 1) else some (stS S h c, h + 1)
def runC (nm C : Stk) : Nat → Nat → Stk → Nat → Option (Stk × Nat)
  | 0, _, S, h => some (S, h)
  | c + 1, i, S, h => (stepC nm (C i) S h).bind fun q => runC nm C c (i + 1) q.1 q.2
theorem runC_add (nm C : Stk) : ∀ (a b i : Nat) (S : Stk) (h : Nat), runC nm C (a + b) i S h = (runC nm C a i S h).bind fun q => runC nm C b (i + a) q.1 q.2
  | 0, b, i, S, h => by rw [Nat.zero_add]; rfl
  | a + 1, b, i, S, h => by
    rw [show a + 1 + b = (a + b) + 1 by omega, runC, runC]
    cases stepC nm (C i) S h with
    | none => rfl
    | some q =>
      simp only [Option.bind_some]
      rw [runC_add nm C a b (i + 1), show i + 1 + a = i + (a + 1) by omega]
theorem runC_congr {nm C D : Stk} (c : Nat) : ∀ (i : Nat) (S : Stk) (h : Nat), (∀ j, i ≤ j → j < i + c → D j = C j) → runC nm D c i S h = runC nm C c i S h := by
  induction c with
  | zero => intro i S h e; rfl
  | succ c ih =>
    intro i S h e
    rw [runC, runC, e i (Nat.le_refl _) (by omega)]
    cases stepC nm (C i) S h with
    | none => simp only [Option.bind_none]
    | some q =>
      simp only [Option.bind_some]
      exact ih (i + 1) _ _ (fun j h1 h2 => e j (by omega) (by omega))
theorem runC_nm {nm nn C : Stk} (hn : ∀ j, j < 6 → nn j = nm j) (c : Nat) : ∀ (i : Nat) (S : Stk) (h : Nat), runC nn C c i S h = runC nm C c i S h := by
  have m6 : (-6 : Int32).toInt = -6 := rfl
  have m0 : (0 : Int32).toInt = 0 := rfl
  have m1 : (-1 : Int32).toInt = -1 := rfl
  induction c with
  | zero => intro i S h; rfl
  | succ c ih =>
    intro i S h
    have e : stepC nn (C i) S h = stepC nm (C i) S h := by
      unfold stepC
      by_cases c1 : C i < -6
      · rw [if_pos c1, if_pos c1]
      · rw [if_neg c1, if_neg c1]
        by_cases c2 : C i < 0
        · have hb : ib (-1 - C i) 6 := by
            rw [i_lt] at c1 c2
            unfold ib
            rw [t_sub (by omega) (by omega)]
            omega
          rw [if_pos c2, if_pos c2, hn _ (ix_lt hb)]
        · rw [if_neg c2, if_neg c2]
    rw [runC, runC, e]
    cases stepC nm (C i) S h with
    | none => rfl
    | some q =>
      simp only [Option.bind_some]
      exact ih (i + 1) _ _
theorem stepC_h {nm S S' : Stk} {c : Int32} {h h' : Nat} (e : stepC nm c S h = some (S', h')) : h' ≤ h + 1 ∧ (c < -6 → 1 ≤ h) := by
  unfold stepC at e
  by_cases h1 : c < -6
  · rw [if_pos h1] at e
    by_cases h2 : c = -12
    · rw [if_pos h2] at e
      by_cases h3 : 1 ≤ h
      · rw [if_pos h3] at e; cases e; exact ⟨by omega, fun _ => h3⟩
      · rw [if_neg h3] at e; cases e
    · rw [if_neg h2] at e
      by_cases h4 : c = -11
      · rw [if_pos h4] at e
        by_cases h3 : 1 ≤ h
        · rw [if_pos h3] at e; cases e; exact ⟨by omega, fun _ => h3⟩
        · rw [if_neg h3] at e; cases e
      · rw [if_neg h4] at e
        by_cases h3 : 2 ≤ h
        · rw [if_pos h3] at e; cases e; exact ⟨by omega, fun _ => by omega⟩
        · rw [if_neg h3] at e; cases e
  · rw [if_neg h1] at e
    by_cases h2 : c < 0
    · rw [if_pos h2] at e; cases e; exact ⟨by omega, fun w => absurd w h1⟩
    · rw [if_neg h2] at e; cases e; exact ⟨by omega, fun w => absurd w h1⟩
theorem fG_joined_eq (s a b : Int32) (M : Mem) : fG_joined s a b M = some (jn s a b, M) := by
  unfold fG_joined jn fG_joined_b116
  by_cases h1 : s = 10
  · rw [if_pos h1, if_pos h1]
    by_cases h2 : a = 0
    · rw [if_pos h2, if_neg (fun w => w.1 h2)]
    · rw [if_neg h2]
      by_cases h3 : b = 0
      · rw [if_pos h3, if_neg (fun w => w.2 h3)]
      · rw [if_neg h3, if_pos ⟨h2, h3⟩]
  · rw [if_neg h1, if_neg h1]
    by_cases h2 : s = 42
    · rw [if_pos h2, if_pos h2]
    · rw [if_neg h2, if_neg h2]
      by_cases h3 : s = 43
      · rw [if_pos h3, if_pos h3]
      · rw [if_neg h3, if_neg h3]
        by_cases h4 : s = 45
        · rw [if_pos h4, if_pos h4]
        · rw [if_neg h4, if_neg h4]
          by_cases h5 : s = 60
          · rw [if_pos h5, if_pos h5]
            by_cases h6 : a < b
            · rw [if_pos h6, if_neg (by rw [i_le]; rw [i_lt] at h6; omega)]
            · rw [if_neg h6, if_pos (by rw [i_le]; rw [i_lt] at h6; omega)]
          · rw [if_neg h5, if_neg h5]
            by_cases h6 : s = 61
            · rw [if_pos h6, if_pos h6]
              by_cases h7 : a = b
              · rw [if_pos h7, if_pos h7]
              · rw [if_neg h7, if_neg h7]
            · rw [if_neg h6, if_neg h6]
              by_cases h7 : a = 0
              · rw [if_pos h7]
                by_cases h8 : b = 0
                · rw [if_pos h8, if_neg (by rintro (w | w); exact w h7; exact w h8)]
                · rw [if_neg h8, if_pos (Or.inr h8)]
              · rw [if_neg h7, if_pos (Or.inl h7)]
theorem wr_stS (N : Mem) (k j : Nat) (v : Int32) : wr N k j v k = stS (N k) j v := by
  funext b
  unfold wr stS
  by_cases h : b = j
  · rw [if_pos ⟨rfl, h⟩, if_pos h]
  · rw [if_neg (fun w => h w.2), if_neg h]
theorem nI_pd {h : Nat} (h1 : 1 ≤ h) : nI h - 1 = nI (h - 1) := by
  obtain ⟨k, rfl⟩ := Nat.exists_eq_succ_of_ne_zero (show h ≠ 0 by omega)
  rw [show (1 : Int32) = nI 1 from rfl, Nat.succ_eq_add_one, ← nI_add, Int32.add_sub_cancel, Nat.add_sub_cancel]
theorem nI_pdm {h : Nat} (h1 : 1 ≤ h) : nI h + (-1) = nI (h - 1) := by
  rw [← Int32.sub_eq_add_neg]; exact nI_pd h1
theorem fG_value_b21_eq {q p e : Nat} {nm C : Stk} (hq : 59 ≤ q) (hp : p < 3) (he : e ≤ 160) : ∀ (c i h z : Nat) (N : Mem) (S' : Stk) (h' : Nat), i + c = e → c < z → N (q + 2) p = nI e → N (q + 1) = C → (∀ j, j < 6 → N 48 j = nm j) → h ≤ i → runC nm C c i (N 49) h = some (S', h') → ∃ N', fG_value_b21 q (nI p) z (nI h) (nI i) N = some (S' 0, N') ∧ ∀ a, a ≠ 49 → N' a = N a := by
  have m6 : (-6 : Int32).toInt = -6 := rfl
  have m0 : (0 : Int32).toInt = 0 := rfl
  have m1 : (-1 : Int32).toInt = -1 := rfl
  intro c
  induction c with
  | zero =>
    intro i h z N S' h' hi hz he2 hC hn hh hr
    obtain ⟨z, rfl⟩ := Nat.exists_eq_succ_of_ne_zero (show z ≠ 0 by omega)
    rw [runC] at hr
    cases hr
    rw [fG_value_b21, if_pos (ib_nI hp (by omega)), ix_nI (by omega), he2, if_pos (by rw [n_le (by omega) (by omega)]; omega), if_pos (by decide)]
    exact ⟨N, rfl, fun _ _ => rfl⟩
  | succ c ih =>
    intro i h z N S' h' hi hz he2 hC hn hh hr
    obtain ⟨z, rfl⟩ := Nat.exists_eq_succ_of_ne_zero (show z ≠ 0 by omega)
    rw [runC] at hr
    have next : ∀ (S1 : Stk) (h1 : Nat) (j : Nat) (v : Int32), stepC nm (C i) (N 49) h = some (S1, h1) → S1 = stS (N 49) j v → h1 ≤ i + 1 → ∃ N', fG_value_b21 q (nI p) z (nI h1) (nI (i + 1)) (wr N 49 j v) = some (S' 0, N') ∧ ∀ a, a ≠ 49 → N' a = N a := by
      intro S1 h1 j v e1 e2 e3
      rw [e1] at hr
      simp only [Option.bind_some] at hr
      obtain ⟨N', r1, r2⟩ := ih (i + 1) h1 z (wr N 49 j v) S' h' (by omega) (by omega) (by rw [wr_ne (by omega)]; exact he2) (by rw [wr_ne (by omega)]; exact hC) (fun j hj => by rw [wr_ne (show 48 ≠ 49 by decide)]; exact hn j hj) e3 (by rw [wr_stS, ← e2]; exact hr)
      exact ⟨N', r1, fun a ha => by rw [r2 a ha, wr_ne ha]⟩
    rw [fG_value_b21, if_pos (ib_nI hp (by omega)), ix_nI (by omega), he2, if_neg (by rw [n_le (by omega) (by omega)]; omega), if_pos (ib_nI (by omega) (by omega)), ix_nI (show i < 2147483648 by omega), hC]
    have push : ∀ v, fG_value_b74 (fG_value_b21 q (nI p) z) q (nI p) (nI h) (nI i) v (nI h) N = fG_value_b21 q (nI p) z (nI (h + 1)) (nI (i + 1)) (wr N 49 h v) := fun v => by
      unfold fG_value_b74 fG_value_b177
      rw [if_pos (ib_nI (by omega) (by omega)), nI_1, nI_1, ix_nI (by omega)]
    by_cases c1 : C i < -6
    · rw [if_pos c1]
      unfold fG_value_b81 fG_value_b110 fG_value_b146 fG_value_b142 fG_value_b177
      have lt1 : ∀ k : Nat, k < 3 → ((nI h < nI k) ↔ h < k) := fun k hk => n_lt (by omega) (by omega)
      by_cases c2 : C i = -12
      · rw [if_pos c2, show (1 : Int32) = nI 1 from rfl]
        by_cases c3 : 1 ≤ h
        · rw [if_neg (by rw [lt1 1 (by omega)]; omega), show nI 1 = 1 from rfl, nI_pd c3, if_pos (ib_nI (by omega) (by omega)), if_pos (ib_nI (by omega) (by omega)), ix_nI (by omega), nI_1]
          refine next _ h (h - 1) _ ?_ rfl (by omega)
          unfold stepC
          rw [if_pos c1, if_pos c2, if_pos c3]
        · exfalso
          unfold stepC at hr
          rw [if_pos c1, if_pos c2, if_neg c3] at hr
          cases hr
      · rw [if_neg c2]
        by_cases c4 : C i = -11
        · rw [if_pos c4, show (1 : Int32) = nI 1 from rfl]
          by_cases c3 : 1 ≤ h
          · rw [if_neg (by rw [lt1 1 (by omega)]; omega), show nI 1 = 1 from rfl, nI_pd c3, if_pos (ib_nI (by omega) (by omega)), if_pos (ib_nI (by omega) (by omega)), ix_nI (by omega), nI_1]
            by_cases c5 : N 49 (h - 1) = 0
            · rw [if_pos c5]
              refine next _ h (h - 1) 1 ?_ rfl (by omega)
              unfold stepC
              rw [if_pos c1, if_neg c2, if_pos c4, if_pos c3, if_pos c5]
            · rw [if_neg c5, if_pos (ib_nI (by omega) (by omega))]
              refine next _ h (h - 1) 0 ?_ rfl (by omega)
              unfold stepC
              rw [if_pos c1, if_neg c2, if_pos c4, if_pos c3, if_neg c5]
          · exfalso
            unfold stepC at hr
            rw [if_pos c1, if_neg c2, if_pos c4, if_neg c3] at hr
            cases hr
        · rw [if_neg c4, show (2 : Int32) = nI 2 from rfl]
          by_cases c3 : 2 ≤ h
          · rw [if_neg (by rw [lt1 2 (by omega)]; omega), nI_pdm (by omega), nI_pd (show 1 ≤ h - 1 by omega), if_pos (ib_nI (by omega) (by omega)), if_pos (ib_nI (by omega) (by omega)), ix_nI (by omega), ix_nI (by omega), fG_joined_eq]
            simp only [Option.bind_some]
            rw [if_pos (ib_nI (by omega) (by omega)), nI_1, show h - 1 - 1 = h - 2 by omega]
            refine next _ (h - 1) (h - 2) _ ?_ rfl (by omega)
            unfold stepC
            rw [if_pos c1, if_neg c2, if_neg c4, if_pos c3]
          · exfalso
            unfold stepC at hr
            rw [if_pos c1, if_neg c2, if_neg c4, if_neg c3] at hr
            cases hr
    · rw [if_neg c1, if_neg (by rw [show Int32.ofNat 160 = nI 160 from rfl, n_le (by omega) (by omega)]; omega)]
      by_cases c2 : C i < 0
      · have hb : ib (-1 - C i) 6 := by
          rw [i_lt] at c1 c2
          unfold ib
          rw [t_sub (by omega) (by omega)]
          omega
        rw [if_pos c2, if_pos hb, hn _ (ix_lt hb), push]
        refine next _ (h + 1) h _ ?_ rfl (by omega)
        unfold stepC
        rw [if_neg c1, if_pos c2]
      · rw [if_neg c2, push]
        refine next _ (h + 1) h _ ?_ rfl (by omega)
        unfold stepC
        rw [if_neg c1, if_neg c2]
/-- where the part p begins -/
abbrev bgn (E : Stk) (p : Nat) : Nat := if p = 0 then 0 else ix (E (p - 1))
/-- the code from w to w' says v -/
def Ev (nm C : Stk) (w w' : Nat) (v : Int32) : Prop := ∀ S h, h ≤ w → ∃ S', runC nm C (w' - w) w S h = some (S', h + 1) ∧ S' h = v ∧ ∀ j, j < h → S' j = S j
theorem Ev.congr {nm C D : Stk} {w w' : Nat} {v : Int32} (e : Ev nm C w w' v) (hw : w ≤ w') (h : ∀ i, w ≤ i → i < w' → D i = C i) : Ev nm D w w' v := by
  intro S k hk
  rw [runC_congr _ _ _ _ (fun j h1 h2 => h j h1 (by omega))]
  exact e S k hk
/-- a number or a name -/
theorem Ev.one {nm C : Stk} {w : Nat} {v : Int32} (h : (0 ≤ (C w).toInt ∧ v = C w) ∨ (-6 ≤ (C w).toInt ∧ (C w).toInt < 0 ∧ v = nm (ix (-1 - C w)))) : Ev nm C w (w + 1) v := by
  have m6 : (-6 : Int32).toInt = -6 := rfl
  have m0 : (0 : Int32).toInt = 0 := rfl
  intro S k hk
  rw [show w + 1 - w = 1 by omega, runC]
  unfold stepC
  rcases h with ⟨h1, h2⟩ | ⟨h1, h2, h3⟩
  · rw [if_neg (by rw [i_lt]; omega), if_neg (by rw [i_lt]; omega)]
    simp only [Option.bind_some, runC]
    refine ⟨_, rfl, ?_, fun j hj => ?_⟩
    · unfold stS; rw [if_pos rfl, h2]
    · unfold stS; rw [if_neg (by omega)]
  · rw [if_neg (by rw [i_lt]; omega), if_pos (by rw [i_lt]; omega)]
    simp only [Option.bind_some, runC]
    refine ⟨_, rfl, ?_, fun j hj => ?_⟩
    · unfold stS; rw [if_pos rfl, h3]
    · unfold stS; rw [if_neg (by omega)]
theorem Ev.un {nm C : Stk} {w w' : Nat} {v u : Int32} (e : Ev nm C w w' v) (hw : w ≤ w') (h : (C w' = -12 ∧ u = -v) ∨ (C w' = -11 ∧ u = if v = 0 then 1 else 0)) : Ev nm C w (w' + 1) u := by
  intro S k hk
  obtain ⟨S', r1, r2, r3⟩ := e S k hk
  rw [show w' + 1 - w = (w' - w) + 1 by omega, runC_add, r1]
  simp only [Option.bind_some, runC, show w + (w' - w) = w' by omega]
  unfold stepC
  rcases h with ⟨h1, h2⟩ | ⟨h1, h2⟩
  · rw [h1, if_pos (by decide), if_pos rfl, if_pos (by omega)]
    simp only [Option.bind_some]
    refine ⟨_, rfl, ?_, fun j hj => ?_⟩
    · unfold stS; rw [if_pos (by omega), Nat.add_sub_cancel, r2, h2]
    · unfold stS; rw [if_neg (by omega)]; exact r3 j hj
  · rw [h1, if_pos (by decide), if_neg (by decide), if_pos rfl, if_pos (by omega)]
    simp only [Option.bind_some]
    refine ⟨_, rfl, ?_, fun j hj => ?_⟩
    · unfold stS; rw [if_pos (by omega), Nat.add_sub_cancel, r2, h2]
    · unfold stS; rw [if_neg (by omega)]; exact r3 j hj
theorem Ev.bin {nm C : Stk} {w w1 w2 : Nat} {a b s : Int32} (e1 : Ev nm C w w1 a) (e2 : Ev nm C w1 w2 b) (h1 : w < w1) (h2 : w1 ≤ w2) (hc : C w2 = -s) (hs : (9 ≤ s.toInt ∧ s.toInt ≤ 10) ∨ (13 ≤ s.toInt ∧ s.toInt ≤ 1000)) : Ev nm C w (w2 + 1) (jn s a b) := by
  intro S k hk
  obtain ⟨S1, r1, r2, r3⟩ := e1 S k hk
  obtain ⟨S2, q1, q2, q3⟩ := e2 S1 (k + 1) (by omega)
  have m6 : (-6 : Int32).toInt = -6 := rfl
  have m12 : (-12 : Int32).toInt = -12 := rfl
  have m11 : (-11 : Int32).toInt = -11 := rfl
  have ms : (-s).toInt = -s.toInt := t_neg (by omega)
  rw [show w2 + 1 - w = (w1 - w) + ((w2 - w1) + 1) by omega, runC_add, r1]
  simp only [Option.bind_some, show w + (w1 - w) = w1 by omega]
  rw [runC_add, q1]
  simp only [Option.bind_some, runC, show w1 + (w2 - w1) = w2 by omega]
  unfold stepC
  rw [hc, if_pos (by rw [i_lt]; omega), if_neg (by rw [i_eq]; omega), if_neg (by rw [i_eq]; omega), if_pos (by omega), Int32.neg_neg]
  simp only [Option.bind_some]
  refine ⟨_, rfl, ?_, fun j hj => ?_⟩
  · unfold stS
    rw [if_pos (by omega), show k + 1 + 1 - 2 = k by omega, show k + 1 + 1 - 1 = k + 1 by omega, q2, q3 k (by omega), r2]
  · unfold stS
    rw [if_neg (by omega), q3 j (by omega), r3 j hj]
/-- code that is whole: each part says one thing -/
def WFc (C E : Stk) : Prop := (∀ p, p < 3 → E p = nI (ix (E p)) ∧ bgn E p ≤ ix (E p) ∧ ix (E p) ≤ 160) ∧ ∀ nm p, p < 3 → ∃ v, Ev nm C (bgn E p) (ix (E p)) v
/-- what it says -/
def tlC (C E : Stk) : Tell := fun p a b c d e f => ((runC (fun j => if j = 0 then a else if j = 1 then b else if j = 2 then c else if j = 3 then d else if j = 4 then e else f) C (ix (E p) - bgn E p) (bgn E p) (fun _ => 0) 0).map (fun q => q.1 0)).getD 0
theorem runC_S0 {nm C : Stk} {w w' : Nat} {v : Int32} (e : Ev nm C w w' v) (S : Stk) : ∃ S', runC nm C (w' - w) w S 0 = some (S', 1) ∧ S' 0 = v := by
  obtain ⟨S', r1, r2, -⟩ := e S 0 (Nat.zero_le _)
  exact ⟨S', r1, r2⟩
theorem Ev.uniq {nm C : Stk} {w w' : Nat} {v u : Int32} (e : Ev nm C w w' v) (f : Ev nm C w w' u) : v = u := by
  obtain ⟨S', r1, r2⟩ := runC_S0 e (fun _ => 0)
  obtain ⟨S2, q1, q2⟩ := runC_S0 f (fun _ => 0)
  rw [r1] at q1
  cases q1
  rw [← r2, ← q2]
theorem tlC_eq {nm C E : Stk} {p : Nat} {v : Int32} (e : Ev nm C (bgn E p) (ix (E p)) v) : tlC C E p (nm 0) (nm 1) (nm 2) (nm 3) (nm 4) (nm 5) = v := by
  obtain ⟨S', r1, r2⟩ := runC_S0 e (fun _ => 0)
  have hn : ∀ j, j < 6 → (fun j => if j = 0 then nm 0 else if j = 1 then nm 1 else if j = 2 then nm 2 else if j = 3 then nm 3 else if j = 4 then nm 4 else nm 5) j = nm j := by
    intro j hj
    dsimp only
    repeat' split
    all_goals (first | (subst_vars; rfl) | (congr 1; omega))
  unfold tlC
  rw [runC_nm hn, r1]
  exact r2
theorem VCl_of {q : Nat} {C E : Stk} (hq : 59 ≤ q) (w : WFc C E) : VCl q (tlC C E) C E := by
  intro N p h1 h2 hp
  obtain ⟨v, e⟩ := w.2 (N 48) p hp
  obtain ⟨b1, b2, b3⟩ := w.1 p hp
  obtain ⟨S', r1, r2⟩ := runC_S0 e (N 49)
  obtain ⟨N', q1, q2⟩ := fG_value_b21_eq (nm := N 48) (C := C) hq hp b3 (ix (E p) - bgn E p) (bgn E p) 0 1000 N S' 1 (by omega) (by omega) (by rw [h2]; exact b1) h1 (fun _ _ => rfl) (Nat.zero_le _) r1
  rw [r2] at q1
  refine ⟨N', ?_, q2⟩
  rw [tlC_eq e, ← q1]
  unfold fG_value fG_value_b19
  by_cases h0 : p = 0
  · subst h0
    rw [if_pos (show nI 0 = 0 from rfl)]
    rfl
  · rw [if_neg (by rw [show (0 : Int32) = nI 0 from rfl, n_eq (by omega) (by omega)]; exact h0), nI_pd (by omega), if_pos (ib_nI (by omega) (by omega)), ix_nI (by omega), h2, (w.1 (p - 1) (by omega)).1]
    rw [show bgn E p = ix (E (p - 1)) from if_neg h0]
    rfl
