/-! 34: the rules, class and model in one -/
def CB (M : Mem) (f : Nat) : Prop := M 40 4 = 14 ∧ M 40 6 = nI f ∧ f < 1000 ∧ 0 ≤ (M 40 9).toInt ∧ (M 40 9).toInt ≤ 160
def NF (N : Mem) (f : Nat) : Prop := N 85 34 = 1 ∧ N 85 35 = nI f
def KC (M N : Mem) : Prop := (∀ a, a ≠ 40 → a ≠ 42 → N a = M a) ∧ ∀ j, (j < 2 ∨ (6 < j ∧ j ≠ 9)) → N 40 j = M 40 j
theorem KC.rfl' {M : Mem} : KC M M := ⟨fun _ _ _ => rfl, fun _ _ => rfl⟩
theorem KC.trans {M N O : Mem} (a : KC M N) (b : KC N O) : KC M O := ⟨fun x h1 h2 => (b.1 x h1 h2).trans (a.1 x h1 h2), fun j h => (b.2 j h).trans (a.2 j h)⟩
theorem KA.c {M N : Mem} (a : KA M N) : KC M N := ⟨fun x h1 _ => a.1 x h1, fun j h => a.2 j (by omega)⟩
theorem KeepR.rfl' {M : Mem} : KeepR M M := ⟨fun _ _ => rfl, fun _ _ => rfl⟩
theorem KeepR.trans {M N O : Mem} (a : KeepR M N) (b : KeepR N O) : KeepR M O := ⟨fun x h => (b.1 x h).trans (a.1 x h), fun j h => (b.2 j h).trans (a.2 j h)⟩
theorem KeepR.put {M : Mem} {j : Nat} {v : Int32} (h : (27 ≤ j ∧ j < 36) ∨ j = 132) : KeepR M (wr M 85 j v) := ⟨fun a ha => wr_ne ha, fun i hi => wr_at (by omega)⟩
def nmN (N : Mem) : Stk := fun j => N 85 (21 + j)
theorem Ev.nm {nm nn C : Stk} {w w' : Nat} {v : Int32} (e : Ev nm C w w' v) (h : ∀ j, j < 6 → nn j = nm j) : Ev nn C w w' v := by
  intro S k hk
  rw [runC_nm h]
  exact e S k hk
theorem nmN_keep {N N' : Mem} (k : KeepR N N') : ∀ j, j < 6 → nmN N j = nmN N' j := fun j hj => (k.2 (21 + j) (by omega)).symm
def Out (n t : Nat) (T : Stk) (M N M' N' : Mem) (a0 w0 o : Nat) (v : Int32) : Prop := KC M M' ∧ KeepR N N' ∧ ((∃ a w, CS n T M' a w ∧ NS n t T N' a (nI o) ∧ a0 < a ∧ w0 < w ∧ w + a0 ≤ w0 + a ∧ Ev (nmN N) (M' 42) w0 w v ∧ ∀ i, i < w0 → M' 42 i = M 42 i) ∨ ∃ f, CB M' f ∧ NF N' f ∧ f ≤ n)
def Rule (n t : Nat) (T : Stk) (d w o : Nat) : Prop := ∀ (M N : Mem) (a r : Nat), CS n T M a r → NS n t T N a (nI o) → r ≤ a → ∃ M' N' v, f_rR d w (nI o) M = some M' ∧ f_rM d w N = some (v, N') ∧ Out n t T M N M' N' a r o v
theorem Out.pre {n t : Nat} {T : Stk} {M N M1 N1 M' N' : Mem} {a0 w0 o : Nat} {v : Int32} (k1 : KC M M1) (k2 : KeepR N N1) (hp : ∀ i, i < w0 → M1 42 i = M 42 i) (h : Out n t T M1 N1 M' N' a0 w0 o v) : Out n t T M N M' N' a0 w0 o v := by
  obtain ⟨h1, h2, h3⟩ := h
  refine ⟨k1.trans h1, k2.trans h2, ?_⟩
  rcases h3 with ⟨a, w, q1, q2, q3, q4, q5, q6, q7⟩ | q
  · exact Or.inl ⟨a, w, q1, q2, q3, q4, q5, q6.nm (nmN_keep k2), fun i hi => (q7 i hi).trans (hp i hi)⟩
  · exact Or.inr q
theorem write_CS {n : Nat} {T : Stk} {M : Mem} {a w : Nat} (c : Int32) (s : CS n T M a w) (hw : w < 160) : ∃ M', fR_write c M = some M' ∧ CS n T M' a (w + 1) ∧ M' 42 = stS (M 42) w c ∧ KC M M' := by
  obtain ⟨s1, s2, s3, s4, s5, s6, s7, s8⟩ := s
  unfold fR_write
  rw [s8, if_neg (by rw [show (160 : Int32) = nI 160 from rfl, n_le (by omega) (by omega)]; omega), if_pos (ib_nI hw (by omega)), ix_nI (by omega), wr_ne (show 40 ≠ 42 by decide), s8, nI_1]
  have r40 : ∀ j, j ≠ 9 → wr (wr M 42 w c) 40 9 (nI (w + 1)) 40 j = M 40 j := fun j hj => by rw [wr_at hj, wr_ne (by decide)]
  refine ⟨_, rfl, ⟨⟨?_, s1.2.1, fun i hi => ?_⟩, s2, ?_, ?_, ?_, fun h => ?_, ?_, wr_same⟩, ?_, ⟨fun x h1 h2 => ?_, fun j hj => ?_⟩⟩
  · rw [r40 _ (by decide)]; exact s1.1
  · rw [wr_ne (by decide), wr_ne (by decide)]; exact s1.2.2 i hi
  · rw [r40 _ (by decide)]; exact s3
  · rw [r40 _ (by decide)]; exact s4
  · rw [r40 _ (by decide)]; exact s5
  · rw [r40 _ (by decide)]; exact s6 h
  · rw [r40 _ (by decide)]; exact s7
  · rw [wr_ne (by decide), wr_stS]
  · rw [wr_ne h1, wr_ne h2]
  · exact r40 j (by omega)
theorem write_CB {M : Mem} {f : Nat} (c : Int32) (s : CB M f) : ∃ M', fR_write c M = some M' ∧ CB M' f ∧ KC M M' := by
  obtain ⟨s1, s2, s3, s4, s5⟩ := s
  have e160 : (160 : Int32).toInt = 160 := rfl
  have e1 : (1 : Int32).toInt = 1 := rfl
  unfold fR_write
  by_cases h : (160 : Int32) ≤ M 40 9
  · rw [if_pos h]
    exact ⟨M, rfl, ⟨s1, s2, s3, s4, s5⟩, KC.rfl'⟩
  · rw [i_le, e160] at h
    rw [if_neg (by rw [i_le, e160]; exact h), if_pos (show ib (M 40 9) 160 from ⟨s4, by omega⟩), wr_ne (show 40 ≠ 42 by decide)]
    have hs : (M 40 9 + 1).toInt = (M 40 9).toInt + 1 := by rw [t_add (by omega) (by omega), e1]
    have r40 : ∀ (x : Nat) (y : Int32) j, j ≠ 9 → wr (wr M 42 x c) 40 9 y 40 j = M 40 j := fun x y j hj => by rw [wr_at hj, wr_ne (by decide)]
    refine ⟨_, rfl, ⟨by rw [r40 _ _ _ (by decide)]; exact s1, by rw [r40 _ _ _ (by decide)]; exact s2, s3, by rw [wr_same, hs]; omega, by rw [wr_same, hs]; omega⟩, ⟨fun x h1 h2 => by rw [wr_ne h1, wr_ne h2], fun j hj => r40 _ _ j (by omega)⟩⟩
theorem refuse_CB {M : Mem} {f : Nat} (s : CB M f) : fR_refuse M = some M := by
  unfold fR_refuse fR_refuse_b16
  rw [s.2.1, if_neg (nI_m1 (by have := s.2.2.1; omega)), ← s.1, wr_self]
theorem refuse_CS {n : Nat} {T : Stk} {M : Mem} {a w : Nat} (s : CS n T M a w) (hw : w ≤ 160) : ∃ M', fR_refuse M = some M' ∧ CB M' a ∧ KC M M' := by
  obtain ⟨s1, s2, s3, s4, s5, s6, s7, s8⟩ := s
  have hn := s1.2.1
  by_cases h14 : tokC n T a = 14
  · rw [h14, if_pos rfl] at s7
    have cb : CB M a := ⟨by rw [s5, h14], s7, by omega, by rw [s8, nI_t (by omega)]; omega, by rw [s8, nI_t (by omega)]; omega⟩
    exact ⟨M, refuse_CB cb, cb, KC.rfl'⟩
  · rw [if_neg h14] at s7
    unfold fR_refuse fR_refuse_b16
    rw [s7, if_pos rfl, s3]
    refine ⟨_, rfl, ⟨wr_same, by rw [wr_at (by decide), wr_same], by omega, ?_, ?_⟩, ((KA.put (by omega)).trans (KA.put (by omega))).c⟩
    · rw [wr_at (by decide), wr_at (by decide), s8, nI_t (by omega)]; omega
    · rw [wr_at (by decide), wr_at (by decide), s8, nI_t (by omega)]; omega
theorem fail_NF {N : Mem} {f : Nat} (s : NF N f) : fM_fail N = some N := by
  unfold fM_fail
  rw [s.1, if_neg (by decide)]
theorem fail_NS {n t : Nat} {T : Stk} {N : Mem} {a : Nat} {o : Int32} (s : NS n t T N a o) : ∃ N', fM_fail N = some N' ∧ NF N' a ∧ KeepR N N' := by
  obtain ⟨s1, s2, s3, s4, s5, s6, s7, s8⟩ := s
  unfold fM_fail
  rw [if_pos s7, wr_at (show 31 ≠ 34 by decide), s2]
  exact ⟨_, rfl, ⟨by rw [wr_at (by decide), wr_same], wr_same⟩, (KeepR.put (by omega)).trans (KeepR.put (by omega))⟩
theorem sign_NF {N : Mem} {f : Nat} (s : NF N f) (c : Int32) : fM_isSign c N = some (0, N) := by
  unfold fM_isSign
  rw [s.1, if_neg (by decide)]
theorem word_NF {N : Mem} {f : Nat} (s : NF N f) (c0 c1 c2 c3 c4 c5 c6 c7 : Int32) : fM_isWord c0 c1 c2 c3 c4 c5 c6 c7 N = some (0, N) := by
  unfold fM_isWord
  rw [s.1, if_neg (by decide)]
/-- both go one token ahead -/
theorem adv_both {n t : Nat} {T : Stk} {M N : Mem} {a r : Nat} {o : Int32} (hB : ∀ i, i < n → 0 ≤ (T i).toInt) (c : CS n T M a r) (s : NS n t T N a o) (h13 : tokC n T a ≠ 13) (h14 : tokC n T a ≠ 14) : ∃ M' N' a', fR_advance M = some M' ∧ fM_next N = some N' ∧ CS n T M' a' r ∧ NS n t T N' a' o ∧ a < a' ∧ KC M M' ∧ KeepR N N' ∧ M' 42 = M 42 := by
  have tl := tok_len c.2.1 h13 h14
  obtain ⟨M', e1, e2, e3⟩ := fR_advance_eq (w := r) hB c.1 c.2.2.2.1 tl.2 (by rw [c.2.2.2.2.2.2.1, if_neg h14]) c.2.2.2.2.2.2.2
  obtain ⟨N', q1, q2, q3⟩ := fM_next_eq (o := o) hB s.1 s.2.2.1 tl.2 s.2.2.2.2.2.2.1 s.2.2.2.2.2.2.2
  have b := rn_bd (P := cBl) (n := n) (i := endT n T a) (T := T) tl.2
  exact ⟨M', N', _, e1, q1, e2, q2, by omega, e3.c, q3.r, e3.1 42 (by decide)⟩
theorem NS.o {n t : Nat} {T : Stk} {N : Mem} {a : Nat} {o : Int32} (s : NS n t T N a o) (x : Int32) : NS n t T (wr N 85 33 x) a x := by
  obtain ⟨s1, s2, s3, s4, s5, s6, s7, s8⟩ := s
  have r : ∀ j, j ≠ 33 → wr N 85 33 x 85 j = N 85 j := fun j hj => wr_at hj
  refine ⟨?_, by rw [r 31 (by decide)]; exact s2, by rw [r 29 (by decide)]; exact s3, by rw [r 30 (by decide)]; exact s4, fun h => by rw [r 132 (by decide), r 32 (by decide)]; exact s5 h, fun h => by rw [r 132 (by decide), r 32 (by decide)]; exact s6 h, by rw [r 34 (by decide)]; exact s7, wr_same⟩
  unfold NB
  rw [r 27 (by decide), r 28 (by decide), wr_ne (show 86 ≠ 85 by decide)]
  exact s1
theorem NF.o {N : Mem} {f : Nat} (s : NF N f) (x : Int32) : NF (wr N 85 33 x) f := ⟨by rw [wr_at (by decide)]; exact s.1, by rw [wr_at (by decide)]; exact s.2⟩
/-- an operator behind what has been read: both read on -/
theorem stepL {n t : Nat} {T : Stk} {d k o : Nat} (hB : ∀ i, i < n → 0 ≤ (T i).toInt) (R : Rule n t T d k o) {M N : Mem} {a w a0 w0 : Nat} {v s : Int32} (c : CS n T M a w) (q : NS n t T N a (nI o)) (h13 : tokC n T a ≠ 13) (h14 : tokC n T a ≠ 14) (ha : a0 < a) (hw : w0 < w) (hwa : w + a0 ≤ w0 + a) (hle : w ≤ a) (ev : Ev (nmN N) (M 42) w0 w v) (hs : (9 ≤ s.toInt ∧ s.toInt ≤ 10) ∨ (13 ≤ s.toInt ∧ s.toInt ≤ 1000)) : ∃ M2 N2 M3 N3 u M4, fR_advance M = some M2 ∧ fM_next N = some N2 ∧ f_rR d k (nI o) M2 = some M3 ∧ f_rM d k N2 = some (u, N3) ∧ fR_write (-s) M3 = some M4 ∧ KC M M4 ∧ KeepR N N3 ∧ ((∃ a4 w4, CS n T M4 a4 w4 ∧ NS n t T N3 a4 (nI o) ∧ a < a4 ∧ w0 < w4 ∧ w4 + a0 ≤ w0 + a4 ∧ w4 ≤ a4 ∧ Ev (nmN N) (M4 42) w0 w4 (jn s v u) ∧ ∀ i, i < w0 → M4 42 i = M 42 i) ∨ ∃ f, CB M4 f ∧ NF N3 f ∧ f ≤ n) := by
  obtain ⟨M2, N2, a2, e1, e2, c2, q2, h2, k2, r2, m2⟩ := adv_both hB c q h13 h14
  obtain ⟨M3, N3, u, e3, e4, k3, r3, h3⟩ := R M2 N2 a2 w c2 q2 (by omega)
  rcases h3 with ⟨a3, w3, c3, q3, x1, x2, x3, ev3, p3⟩ | ⟨f, f1, f2, f3⟩
  · have hn := c3.1.2.1
    have hn3 := c3.2.1
    obtain ⟨M4, e5, c4, m4, k4⟩ := write_CS (-s) c3 (by omega)
    refine ⟨M2, N2, M3, N3, u, M4, e1, e2, e3, e4, e5, (k2.trans k3).trans k4, r2.trans r3, Or.inl ⟨a3, w3 + 1, c4, q3, by omega, by omega, by omega, by omega, ?_, fun i hi => ?_⟩⟩
    · have y1 : Ev (nmN N) (M4 42) w0 w v := ev.congr (by omega) (fun i h5 h6 => by
        rw [m4, stS, if_neg (by omega), p3 i h6, m2])
      have y2 : Ev (nmN N) (M4 42) w w3 u := (ev3.congr (by omega) (fun i h5 h6 => by rw [m4, stS, if_neg (by omega)])).nm (nmN_keep r2)
      exact y1.bin y2 hw (by omega) (by rw [m4, stS, if_pos rfl]) hs
    · rw [m4, stS, if_neg (by omega), p3 i (by omega), m2]
  · obtain ⟨M4, e5, c4, k4⟩ := write_CB (-s) f1
    exact ⟨M2, N2, M3, N3, u, M4, e1, e2, e3, e4, e5, (k2.trans k3).trans k4, r2.trans r3, Or.inr ⟨f, c4, f2, f3⟩⟩
