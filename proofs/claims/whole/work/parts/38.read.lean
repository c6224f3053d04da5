/-! 38: a text is read -/
theorem part_bad {M : Mem} {f p : Nat} (s : CB M f) (hp : p < 3) : fR_expect (nI (6 + p)) M = some M ∧ f_rR 60 0 0 M = some M ∧ fR_expect 59 M = some M := by
  have e : ∀ x : Int32, x ≠ 14 → fR_expect x M = some M := by
    intro x hx
    unfold fR_expect
    rw [s.1, if_neg (fun z => hx z.symm), refuse_CB s]
    rfl
  exact ⟨e _ (by rw [show (14 : Int32) = nI 14 from rfl, Ne, n_eq (by omega) (by omega)]; omega), (bad_C s 0 54).2.2.2.2.2, e _ (by decide)⟩
theorem part_both {n t p : Nat} {T : Stk} (hB : ∀ i, i < n → 0 ≤ (T i).toInt) (hp : p < 3) {M N : Mem} {a r : Nat} (c : CS n T M a r) (q : NS n t T N a (nI 0)) (hr : r ≤ a) : ∃ M4 M5 M6 N' v, fR_expect (nI (6 + p)) M = some M4 ∧ f_rR 60 0 0 M4 = some M5 ∧ fR_expect 59 M5 = some M6 ∧ fM_part (bz (tokC n T a = nI (6 + p))) N = some (v, N') ∧ KC M M6 ∧ KeepR N N' ∧ ((∃ a' w', CS n T M6 a' w' ∧ NS n t T N' a' (nI 0) ∧ w' ≤ a' ∧ r ≤ w' ∧ Ev (nmN N) (M6 42) r w' v ∧ ∀ i, i < r → M6 42 i = M 42 i) ∨ ∃ f, CB M6 f ∧ NF N' f ∧ f ≤ n) := by
  have hn := c.1.2.1
  have ha := c.2.1
  by_cases hk : tokC n T a = nI (6 + p)
  · have n13 : tokC n T a ≠ 13 := by rw [hk, show (13 : Int32) = nI 13 from rfl, Ne, n_eq (by omega) (by omega)]; omega
    have n14 : tokC n T a ≠ 14 := by rw [hk, show (14 : Int32) = nI 14 from rfl, Ne, n_eq (by omega) (by omega)]; omega
    obtain ⟨M2, N2, a2, e1, e2, c2, q2, h2, k2, r2, m2⟩ := adv_both hB c q n13 n14
    obtain ⟨M3, N3, v, e3, e4, k3, r3, h3⟩ := rules hB 60 0 0 (by omega) (by omega) (by omega) M2 N2 a2 r c2 q2 (by omega)
    have ex1 : fR_expect (nI (6 + p)) M = some M2 := by
      unfold fR_expect
      rw [c.2.2.2.2.1, hk, if_pos rfl, if_neg (by rw [hk] at n13; exact n13), e1]
      rfl
    have pm : fM_part (bz (tokC n T a = nI (6 + p))) N = fM_part_b34 v N3 := by
      unfold fM_part fM_part_b8 fM_part_b19
      rw [bz, if_pos hk, if_neg (by decide), if_pos q.2.2.2.2.2.2.1, e2]
      simp only [Option.bind_some]
      rw [if_pos q2.2.2.2.2.2.2.1, e4]
      rfl
    rcases h3 with ⟨a3, w3, c3, q3, x1, x2, x3, ev3, p3⟩ | ⟨f, f1, f2, f3⟩
    · have hn3 := c3.2.1
      by_cases h59 : tokC n T a3 = 59
      · obtain ⟨M5, N5, a5, e6, e7, c5, q5, h5, k5, r5, m5⟩ := adv_both hB c3 q3 (by rw [h59]; decide) (by rw [h59]; decide)
        refine ⟨M2, M3, M5, N5, v, ex1, e3, ?_, ?_, (k2.trans k3).trans k5, (r2.trans r3).trans r5, Or.inl ⟨a5, w3, c5, q5, by omega, by omega, ?_, fun i hi => ?_⟩⟩
        · unfold fR_expect
          rw [c3.2.2.2.2.1, if_pos h59, if_neg (by decide), e6]
          rfl
        · rw [pm]
          unfold fM_part_b34 fM_part_b48 fM_part_b59
          rw [NS_sign q3 (by decide)]
          simp only [Option.bind_some, bz_0]
          rw [if_neg (show ¬ ¬ tokC n T a3 = 59 from fun z => z h59), if_pos q3.2.2.2.2.2.2.1, e7]
          rfl
        · rw [m5]; exact ev3.nm (nmN_keep r2)
        · rw [m5, p3 i hi, m2]
      · obtain ⟨M4, e5, c4, k4⟩ := refuse_CS c3 (by omega)
        obtain ⟨N4, e6, n4, r4⟩ := fail_NS q3
        refine ⟨M2, M3, M4, N4, v, ex1, e3, ?_, ?_, (k2.trans k3).trans k4, (r2.trans r3).trans r4, Or.inr ⟨a3, c4, n4, hn3⟩⟩
        · unfold fR_expect
          rw [c3.2.2.2.2.1, if_neg h59, e5]
          rfl
        · rw [pm]
          unfold fM_part_b34 fM_part_b48 fM_part_b59
          rw [NS_sign q3 (by decide)]
          simp only [Option.bind_some, bz_0]
          rw [if_pos h59, e6]
          simp only [Option.bind_some]
          rw [n4.1, if_neg (by decide)]
    · refine ⟨M2, M3, M3, N3, v, ex1, e3, (part_bad f1 hp).2.2, ?_, k2.trans k3, r2.trans r3, Or.inr ⟨f, f1, f2, f3⟩⟩
      rw [pm]
      unfold fM_part_b34 fM_part_b48 fM_part_b59
      rw [sign_NF f2]
      simp only [Option.bind_some, if_true]
      rw [fail_NF f2]
      simp only [Option.bind_some]
      rw [f2.1, if_neg (by decide)]
  · obtain ⟨M4, e5, c4, k4⟩ := refuse_CS c (by omega)
    obtain ⟨N4, e6, n4, r4⟩ := fail_NS q
    have pb := part_bad c4 hp
    refine ⟨M4, M4, M4, N4, 0, ?_, pb.2.1, pb.2.2, ?_, k4, r4, Or.inr ⟨a, c4, n4, ha⟩⟩
    · unfold fR_expect
      rw [c.2.2.2.2.1, if_neg hk, e5]
      rfl
    · unfold fM_part fM_part_b8 fM_part_b19 fM_part_b34 fM_part_b48 fM_part_b59
      rw [bz, if_neg hk, if_pos rfl, e6]
      simp only [Option.bind_some]
      rw [n4.1, if_neg (by decide), if_neg (by decide), sign_NF n4]
      simp only [Option.bind_some, if_true]
      rw [fail_NF n4]
      simp only [Option.bind_some]
      rw [n4.1, if_neg (by decide)]
def K4 (M N : Mem) : Prop := ∀ a, a ≠ 40 → a ≠ 42 → a ≠ 43 → N a = M a
theorem K4.trans {M N O : Mem} (a : K4 M N) (b : K4 N O) : K4 M O := fun x h1 h2 h3 => (b x h1 h2 h3).trans (a x h1 h2 h3)
theorem KC.k4 {M N : Mem} (a : KC M N) : K4 M N := fun x h1 h2 _ => a.1 x h1 h2
theorem K4.put {M : Mem} {k j : Nat} {v : Int32} (h : k = 40 ∨ k = 43) : K4 M (wr M k j v) := fun a h1 _ h3 => wr_ne (by omega)
theorem CS.w43 {n a w : Nat} {T : Stk} {M : Mem} (c : CS n T M a w) (j : Nat) (x : Int32) : CS n T (wr M 43 j x) a w := by
  unfold CS TC
  rw [wr_ne (show 40 ≠ 43 by decide), wr_ne (show 41 ≠ 43 by decide)]
  exact c
theorem CB.w43 {f : Nat} {M : Mem} (c : CB M f) (j : Nat) (x : Int32) : CB (wr M 43 j x) f := by
  unfold CB
  rw [wr_ne (show 40 ≠ 43 by decide)]
  exact c
/-- behind a fault the class ends so -/
theorem read_bad {g f : Nat} (hf : f ≤ 160) : ∀ (c p z : Nat) (M : Mem), p + c = 3 → c < z → CB M f → ∃ M', fR_read_b21 g z (nI p) M = some (nI f, M') ∧ K4 M M' ∧ M' 40 1 = 0 := by
  intro c
  induction c with
  | zero =>
    intro p z M hp hz s
    obtain ⟨z, rfl⟩ := Nat.exists_eq_succ_of_ne_zero (show z ≠ 0 by omega)
    have : p = 3 := by omega
    subst this
    rw [fR_read_b21, if_pos (by decide)]
    unfold fR_expect fR_read_b87
    rw [s.1, if_neg (by decide), refuse_CB s]
    simp only [Option.bind_some]
    rw [s.2.1, if_neg (nI_m1 (by omega)), wr_at (show 6 ≠ 1 by decide), s.2.1]
    exact ⟨_, rfl, K4.put (by omega), wr_same⟩
  | succ c ih =>
    intro p z M hp hz s
    obtain ⟨z, rfl⟩ := Nat.exists_eq_succ_of_ne_zero (show z ≠ 0 by omega)
    have pb := part_bad s (show p < 3 by omega)
    rw [fR_read_b21, if_neg (by rw [show (3 : Int32) = nI 3 from rfl, n_le (by omega) (by omega)]; omega), show (6 : Int32) + nI p = nI (6 + p) from nI_add 6 p, pb.1]
    simp only [Option.bind_some]
    rw [pb.2.1]
    simp only [Option.bind_some]
    rw [pb.2.2]
    simp only [Option.bind_some]
    rw [if_pos (ib_nI (by omega) (by omega)), ix_nI (by omega), nI_1]
    obtain ⟨M', e1, e2, e3⟩ := ih (p + 1) z _ (by omega) (by omega) (s.w43 p (M 40 9))
    exact ⟨M', e1, (K4.put (by omega)).trans e2, e3⟩
theorem read_step {g p z : Nat} {M M4 M5 M6 : Mem} (hp : p < 3) (h1 : fR_expect (nI (6 + p)) M = some M4) (h2 : f_rR 60 0 0 M4 = some M5) (h3 : fR_expect 59 M5 = some M6) : fR_read_b21 g (z + 1) (nI p) M = fR_read_b21 g z (nI (p + 1)) (wr M6 43 p (M6 40 9)) := by
  rw [fR_read_b21, if_neg (by rw [show (3 : Int32) = nI 3 from rfl, n_le (by omega) (by omega)]; omega), show (6 : Int32) + nI p = nI (6 + p) from nI_add 6 p, h1]
  simp only [Option.bind_some]
  rw [h2]
  simp only [Option.bind_some]
  rw [h3]
  simp only [Option.bind_some]
  rw [if_pos (ib_nI (by omega) (by omega)), ix_nI (by omega), nI_1]
theorem wrR_ne {M : Mem} {k a : Nat} {f : Nat → Int32} (h : a ≠ k) : wrR M k f a = M a := if_neg h
theorem wrR_same {M : Mem} {k : Nat} {f : Nat → Int32} : wrR M k f k = f := if_pos rfl
theorem fG_become_eq {g : Nat} (hg : 59 ≤ g) (M : Mem) : ∃ M', fG_become g M = some M' ∧ (∀ x, x ≠ g + 1 → x ≠ g + 2 → M' x = M x) ∧ (∀ i, i < 160 → M' (g + 1) i = M 42 i) ∧ ∀ i, i < 3 → M' (g + 2) i = M 43 i := by
  unfold fG_become
  rw [if_pos (by decide), if_pos (by decide)]
  refine ⟨_, rfl, fun x h1 h2 => ?_, fun i hi => ?_, fun i hi => ?_⟩
  · rw [wrR_ne h2, wrR_ne h1]
  · rw [wrR_ne (show g + 1 ≠ g + 2 by omega), wrR_same]
    unfold va_cpy
    rw [if_pos (by rw [show ix 0 = 0 from rfl, show ix 160 = 160 from rfl]; omega), show ix 0 = 0 from rfl, Nat.zero_add, Nat.sub_zero]
  · rw [wrR_same]
    unfold va_cpy
    rw [if_pos (by rw [show ix 0 = 0 from rfl, show ix 3 = 3 from rfl]; omega), show ix 0 = 0 from rfl, Nat.sub_zero, wrR_ne (by omega), Nat.zero_add]
theorem read_end {n a w g z : Nat} {T : Stk} {M : Mem} (hg : 59 ≤ g) (c : CS n T M a w) (hw : w ≤ 160) : (tokC n T a = 13 ∧ ∃ M', fR_read_b21 g (z + 1) (nI 3) M = some (-1, M') ∧ M' 40 1 = 0 ∧ (∀ x, x ≠ 40 → x ≠ g + 1 → x ≠ g + 2 → M' x = M x) ∧ (∀ i, i < 160 → M' (g + 1) i = M 42 i) ∧ ∀ i, i < 3 → M' (g + 2) i = M 43 i) ∨ (tokC n T a ≠ 13 ∧ ∃ M', fR_read_b21 g (z + 1) (nI 3) M = some (nI a, M') ∧ K4 M M' ∧ M' 40 1 = 0) := by
  have hn := c.1.2.1
  have ha := c.2.1
  by_cases h13 : tokC n T a = 13
  · refine Or.inl ⟨h13, ?_⟩
    have c6 := c.2.2.2.2.2.2.1
    rw [h13, if_neg (by decide)] at c6
    obtain ⟨R, e1, e2, e3, e4⟩ := fG_become_eq hg M
    rw [fR_read_b21, if_pos (by decide)]
    unfold fR_expect fR_read_b87
    rw [c.2.2.2.2.1, if_pos h13, if_pos rfl]
    simp only [Option.bind_some]
    rw [if_pos c6, e1]
    simp only [Option.bind_some]
    have c6' : wr R 40 1 0 40 6 = -1 := by rw [wr_at (by decide), e2 40 (by omega) (by omega), c6]
    rw [c6']
    refine ⟨_, rfl, wr_same, fun x h1 h2 h3 => ?_, fun i hi => ?_, fun i hi => ?_⟩
    · rw [wr_ne h1, e2 x h2 h3]
    · rw [wr_ne (show g + 1 ≠ 40 by omega), e3 i hi]
    · rw [wr_ne (show g + 2 ≠ 40 by omega), e4 i hi]
  · refine Or.inr ⟨h13, ?_⟩
    obtain ⟨M4, e5, c4, k4⟩ := refuse_CS c hw
    rw [fR_read_b21, if_pos (by decide)]
    unfold fR_expect fR_read_b87
    rw [c.2.2.2.2.1, if_neg h13, e5]
    simp only [Option.bind_some]
    rw [c4.2.1, if_neg (nI_m1 (by omega)), wr_at (show 6 ≠ 1 by decide), c4.2.1]
    exact ⟨_, rfl, k4.k4.trans (K4.put (by omega)), wr_same⟩
theorem b145_eq {p : Nat} (hp : p < 3) (v0 v1 v2 : Int32) (N : Mem) : fM_read_b145 (nI p) v0 v1 v2 N = some (if p = 0 then v0 else if p = 1 then v1 else v2, N) := by
  unfold fM_read_b145
  rw [show (0 : Int32) = nI 0 from rfl, show (1 : Int32) = nI 1 from rfl]
  simp only [n_eq (show p < 2147483648 by omega) (show 0 < 2147483648 by omega), n_eq (show p < 2147483648 by omega) (show 1 < 2147483648 by omega)]
  split
  · rfl
  · split <;> rfl
/-- both read a text -/
theorem read_lock {n t g p : Nat} {T : Stk} {M N : Mem} (hB : ∀ i, i < n → 0 ≤ (T i).toInt) (hg : 59 ≤ g) (ht : t < 6) (hp : p < 3) (hM : TC n T M) (hN : N 87 t = nI n) (hT : ∀ i, i < n → N 86 (160 * t + i) = T i) : ∃ x M' v N', fR_read g M = some (x, M') ∧ fM_read (nI t) (nI p) N = some (v, N') ∧ KeepR N N' ∧ M' 40 1 = 0 ∧ (∀ a, a ≠ 40 → a ≠ 42 → a ≠ 43 → a ≠ g + 1 → a ≠ g + 2 → M' a = M a) ∧ ((x = -1 ∧ N' 85 34 = 0 ∧ ∃ v0 v1 v2 w1 w2 w3, (M' (g + 2) 0 = nI w1 ∧ M' (g + 2) 1 = nI w2 ∧ M' (g + 2) 2 = nI w3) ∧ (w1 ≤ w2 ∧ w2 ≤ w3 ∧ w3 ≤ 160) ∧ (Ev (nmN N) (M' (g + 1)) 0 w1 v0 ∧ Ev (nmN N) (M' (g + 1)) w1 w2 v1 ∧ Ev (nmN N) (M' (g + 1)) w2 w3 v2) ∧ v = (if p = 0 then v0 else if p = 1 then v1 else v2)) ∨ ∃ f, f ≤ n ∧ x = nI f ∧ N' 85 34 = 1 ∧ N' 85 35 = nI f ∧ M' (g + 1) = M (g + 1) ∧ M' (g + 2) = M (g + 2)) := by
  have hn := hM.2.1
  unfold fR_read fM_read
  rw [if_pos (ib_nI ht (by omega)), show (160 : Int32) * nI t = nI (160 * t) from pk_mul 160 t, ix_nI (by omega), wr_ne (show 87 ≠ 85 by decide), hN]
  -- the class begins
  have hM0 : TC n T (wr (wr (wr M 40 9 0) 40 3 0) 40 6 (-1)) := by
    refine ⟨?_, hn, fun i hi => ?_⟩
    · rw [wr_at (by decide), wr_at (by decide), wr_at (by decide)]; exact hM.1
    · rw [wr_ne (by decide), wr_ne (by decide), wr_ne (by decide)]; exact hM.2.2 i hi
  obtain ⟨M1, e1, c1, k1⟩ := fR_advance_eq (b := 0) (w := 0) hB hM0 (by simp [wr]; rfl) (Nat.zero_le _) (by simp [wr]) (by simp [wr]; rfl)
  rw [e1]
  simp only [Option.bind_some]
  have K1 : K4 M M1 := (((K4.put (by omega)).trans (K4.put (by omega))).trans (K4.put (by omega))).trans k1.c.k4
  -- the model begins
  generalize hN0 : wr (wr (wr (wr (wr N 85 27 (nI (160 * t))) 85 28 (nI n)) 85 29 0) 85 33 0) 85 34 0 = N0
  have kN0 : KeepR N N0 := by
    rw [← hN0]
    exact ((((KeepR.put (by omega)).trans (KeepR.put (by omega))).trans (KeepR.put (by omega))).trans (KeepR.put (by omega))).trans (KeepR.put (by omega))
  have nb0 : NB n t T N0 := by
    refine ⟨⟨ht, hn⟩, ?_, ?_, fun i hi => ?_⟩
    · rw [← hN0]; simp [wr]
    · rw [← hN0]; simp [wr]
    · rw [kN0.1 86 (by decide)]; exact hT i hi
  obtain ⟨N1, e2, q1, r1⟩ := fM_next_eq (b := 0) (o := nI 0) hB nb0 (by rw [← hN0]; simp [wr]; rfl) (Nat.zero_le _) (by rw [← hN0]; simp [wr]) (by rw [← hN0]; simp [wr]; rfl)
  rw [e2]
  simp only [Option.bind_some]
  have R1 : KeepR N N1 := kN0.trans r1.r
  have hb := rn_bd (P := cBl) (n := n) (i := 0) (T := T) (Nat.zero_le _)
  generalize rn cBl n T 0 = a0 at *
  -- a fault somewhere
  have bad : ∀ (k : Nat) (M3 N3 : Mem) (f : Nat) (y0 y1 : Int32), k ≤ 2 → K4 M M3 → KeepR N N3 → CB M3 f → NF N3 f → f ≤ n → fR_read_b21 g 1000 0 M1 = fR_read_b21 g (999 - k) (nI (k + 1)) (wr M3 43 k (M3 40 9)) → ∃ x M', fR_read_b21 g 1000 0 M1 = some (x, M') ∧ M' 40 1 = 0 ∧ (∀ a, a ≠ 40 → a ≠ 42 → a ≠ 43 → a ≠ g + 1 → a ≠ g + 2 → M' a = M a) ∧ x = nI f ∧ M' (g + 1) = M (g + 1) ∧ M' (g + 2) = M (g + 2) := by
    intro k M3 N3 f y0 y1 hk hK hR cb nf hf he
    obtain ⟨M', z1, z2, z3⟩ := read_bad (g := g) (f := f) (by omega) (2 - k) (k + 1) (999 - k) _ (by omega) (by omega) (cb.w43 k (M3 40 9))
    have hK' : K4 M M' := (hK.trans (K4.put (by omega))).trans z2
    exact ⟨nI f, M', he.trans z1, z3, fun a h1 h2 h3 _ _ => hK' a h1 h2 h3, rfl, hK' _ (by omega) (by omega) (by omega), hK' _ (by omega) (by omega) (by omega)⟩
  have w6 := NS_w6 hB q1 c1.2.1
  rw [w6]
  simp only [Option.bind_some]
  obtain ⟨A4, A5, A6, N2, v0, x1, x2, x3, x4, x5, x6, x7⟩ := part_both (p := 0) hB (by omega) c1 q1 (Nat.zero_le _)
  rw [show (6 : Int32) = nI (6 + 0) from rfl, x4]
  simp only [Option.bind_some]
  have sA : fR_read_b21 g 1000 0 M1 = fR_read_b21 g 999 (nI 1) (wr A6 43 0 (A6 40 9)) := read_step (z := 999) (p := 0) (by omega) x1 x2 x3
  rcases x7 with ⟨a1, w1, c2, q2, g1, g2, ev0, p0⟩ | ⟨f, f1, f2, f3⟩
  · rw [if_pos q2.2.2.2.2.2.2.1, NS_w7 hB q2 c2.2.1]
    simp only [Option.bind_some]
    obtain ⟨B4, B5, B6, N3, v1, y1, y2, y3, y4, y5, y6, y7⟩ := part_both (p := 1) hB (by omega) (c2.w43 0 (A6 40 9)) q2 g1
    rw [show (7 : Int32) = nI (6 + 1) from rfl, y4]
    simp only [Option.bind_some]
    have sB : fR_read_b21 g 999 (nI 1) (wr A6 43 0 (A6 40 9)) = fR_read_b21 g 998 (nI 2) (wr B6 43 1 (B6 40 9)) := read_step (z := 998) (p := 1) (by omega) y1 y2 y3
    unfold fM_read_b91
    rcases y7 with ⟨a2, w2, c3, q3, g3, g4, ev1, p1⟩ | ⟨f, f1, f2, f3⟩
    · rw [if_pos q3.2.2.2.2.2.2.1, NS_w8 hB q3 c3.2.1]
      simp only [Option.bind_some]
      obtain ⟨C4, C5, C6, N4, v2, z1, z2, z3, z4, z5, z6, z7⟩ := part_both (p := 2) hB (by omega) (c3.w43 1 (B6 40 9)) q3 g3
      rw [show (8 : Int32) = nI (6 + 2) from rfl, z4]
      simp only [Option.bind_some]
      have sC : fR_read_b21 g 998 (nI 2) (wr B6 43 1 (B6 40 9)) = fR_read_b21 g 997 (nI 3) (wr C6 43 2 (C6 40 9)) := read_step (z := 997) (p := 2) (by omega) z1 z2 z3
      unfold fM_read_b125
      have RN : KeepR N N4 := ((R1.trans x6).trans y6).trans z6
      have KM : K4 M C6 := ((((K1.trans x5.k4).trans (K4.put (by omega))).trans y5.k4).trans (K4.put (by omega))).trans z5.k4
      rcases z7 with ⟨a3, w3, c4, q4, g5, g6, ev2, p2⟩ | ⟨f, f1, f2, f3⟩
      · have hn3 := c4.2.1
        rw [if_pos q4.2.2.2.2.2.2.1, q4.2.2.2.1]
        have cE := c4.w43 2 (C6 40 9)
        rcases read_end (z := 996) hg cE (by omega) with ⟨h13, M', u1, u2, u3, u4, u5⟩ | ⟨h13, M', u1, u2, u3⟩
        · have hk0 := (tok_end hB).mp h13
          rw [if_pos hk0, b145_eq hp, sA, sB, sC, u1]
          refine ⟨-1, M', _, N4, rfl, rfl, RN, u2, fun a h1 h2 h3 h4 h5 => ?_, Or.inl ⟨rfl, q4.2.2.2.2.2.2.1, v0, v1, v2, w1, w2, w3, ⟨?_, ?_, ?_⟩, ⟨g4, g6, by omega⟩, ⟨?_, ?_, ?_⟩, rfl⟩⟩
          · rw [u3 a h1 h4 h5, wr_ne h3, KM a h1 h2 h3]
          · rw [u5 0 (by omega), wr_at (show 0 ≠ 2 by decide), z5.1 43 (by decide) (by decide), wr_at (show 0 ≠ 1 by decide), y5.1 43 (by decide) (by decide), wr_same, c2.2.2.2.2.2.2.2]
          · rw [u5 1 (by omega), wr_at (show 1 ≠ 2 by decide), z5.1 43 (by decide) (by decide), wr_same, c3.2.2.2.2.2.2.2]
          · rw [u5 2 (by omega), wr_same, c4.2.2.2.2.2.2.2]
          · refine (ev0.congr (by omega) (fun i h1 h2 => ?_)).nm (nmN_keep R1)
            rw [u4 i (by omega), wr_ne (by decide), p2 i (by omega), wr_ne (by decide), p1 i h2, wr_ne (by decide)]
          · refine (ev1.congr (by omega) (fun i h1 h2 => ?_)).nm (nmN_keep (R1.trans x6))
            rw [u4 i (by omega), wr_ne (by decide), p2 i h2, wr_ne (by decide)]
          · refine (ev2.congr (by omega) (fun i h1 h2 => ?_)).nm (nmN_keep ((R1.trans x6).trans y6))
            rw [u4 i (by omega), wr_ne (by decide)]
        · have hk0 : ¬ kndT n T a3 = 0 := fun z => h13 ((tok_end hB).mpr z)
          obtain ⟨N5, e6, n4, r4⟩ := fail_NS q4
          rw [if_neg hk0, e6]
          simp only [Option.bind_some]
          rw [b145_eq hp, sA, sB, sC, u1]
          have KE : K4 M M' := (KM.trans (K4.put (by omega))).trans u2
          exact ⟨nI a3, M', _, N5, rfl, rfl, RN.trans r4, u3, fun a h1 h2 h3 _ _ => KE a h1 h2 h3, Or.inr ⟨a3, hn3, rfl, n4.1, n4.2, KE _ (by omega) (by omega) (by omega), KE _ (by omega) (by omega) (by omega)⟩⟩
      · rw [if_neg (by rw [f2.1]; decide), b145_eq hp]
        obtain ⟨x, M', u1, u2, u3, u4, u5, u6⟩ := bad 2 C6 N4 f 0 0 (by omega) KM RN f1 f2 f3 ((sA.trans sB).trans sC)
        exact ⟨x, M', _, N4, u1, rfl, RN, u2, u3, Or.inr ⟨f, f3, u4, f2.1, f2.2, u5, u6⟩⟩
    · have RN : KeepR N N3 := (R1.trans x6).trans y6
      have KM : K4 M B6 := ((K1.trans x5.k4).trans (K4.put (by omega))).trans y5.k4
      rw [if_neg (by rw [f2.1]; decide)]
      unfold fM_read_b125
      rw [if_neg (by rw [f2.1]; decide), b145_eq hp]
      obtain ⟨x, M', u1, u2, u3, u4, u5, u6⟩ := bad 1 B6 N3 f 0 0 (by omega) KM RN f1 f2 f3 (sA.trans sB)
      exact ⟨x, M', _, N3, u1, rfl, RN, u2, u3, Or.inr ⟨f, f3, u4, f2.1, f2.2, u5, u6⟩⟩
  · have RN : KeepR N N2 := R1.trans x6
    have KM : K4 M A6 := K1.trans x5.k4
    rw [if_neg (by rw [f2.1]; decide)]
    unfold fM_read_b91
    rw [if_neg (by rw [f2.1]; decide)]
    unfold fM_read_b125
    rw [if_neg (by rw [f2.1]; decide), b145_eq hp]
    obtain ⟨x, M', u1, u2, u3, u4, u5, u6⟩ := bad 0 A6 N2 f 0 0 (by omega) KM RN f1 f2 f3 sA
    exact ⟨x, M', _, N2, u1, rfl, RN, u2, u3, Or.inr ⟨f, f3, u4, f2.1, f2.2, u5, u6⟩⟩
