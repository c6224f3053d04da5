/-! 23: a minute, a morning of the model -/
theorem fM_isReady_eq {V : Mem} {a : Nat} {M D : Mem} (vo : VOK V) (v : MV V a M) (dm : DM V a D M) : fM_isReady M = some (bz (doneS V D = true), M) := by
  have m4 := vo.2.2.1.2
  have C4 := cnt_le v.1 m4
  have e0 : (0 : Int32).toInt = 0 := rfl
  have inner : ∀ (m : Nat), m < cntM V a → m ≠ a → ∀ (k2 : Int32 → Mem → Option (Int32 × Mem)) (c i z : Nat), i + c = vL V (us a m) → c < z → (∀ j, j < i → (D 56 (ix (V (8 + us a m) j))).toInt ≤ 0) → ((∀ j, j < vL V (us a m) → (D 56 (ix (V (8 + us a m) j))).toInt ≤ 0) ∧ fM_isReady_b12 k2 (nI m) z (nI i) M = k2 (nI (m + 1)) M) ∨ (doneS V D = false ∧ fM_isReady_b12 k2 (nI m) z (nI i) M = some (0, M)) := by
    intro m hm hma k2
    have ul := us_lt v.1 m4 hm hma
    have C := v.2.2.2.2.2.2.2 _ ul.1
    rw [ul.2.1] at C
    have VK := vo.2.2.2 _ ul.1
    have l5 := VK.2.2.1.2
    have gm : ib (nI m) 4 := ib_nI (by omega) (by omega)
    have em : ix (nI m) = m := ix_nI (by omega)
    intro c
    induction c with
    | zero =>
      intro i z hi hz hq
      obtain ⟨z, rfl⟩ := Nat.exists_eq_succ_of_ne_zero (show z ≠ 0 by omega)
      left
      refine ⟨fun j hj => hq j (by omega), ?_⟩
      rw [fM_isReady_b12, if_pos gm, em, C.1.2.2.2, VK.2.2.1.1, if_pos (by rw [n_le (by omega) (by omega)]; omega), fM_isReady_b56, nI_1]
    | succ c ih =>
      intro i z hi hz hq
      obtain ⟨z, rfl⟩ := Nat.exists_eq_succ_of_ne_zero (show z ≠ 0 by omega)
      have e5 : (5 : Int32) * nI m + nI i = nI (5 * m + i) := by rw [show (5 : Int32) = nI 5 from rfl, pk_mul, ← nI_add]
      have g8 := VK.2.2.2 i (by omega)
      rw [fM_isReady_b12, if_pos gm, em, C.1.2.2.2, VK.2.2.1.1, if_neg (by rw [n_le (by omega) (by omega)]; omega), if_neg (fun w => hma ((abs_eq v (by omega)).mp w)), e5, if_pos (ib_nI (by omega) (by omega)), ix_nI (by omega), C.2 i (by omega), if_pos g8, ← dm.2.1 _ (ix_lt g8)]
      by_cases h : D 56 (ix (V (8 + us a m) i)) ≤ 0
      · rw [if_pos h, nI_1]
        rw [i_le, e0] at h
        exact ih (i + 1) z (by omega) (by omega) (fun j hj => by
          by_cases hji : j = i
          · subst hji; exact h
          · exact hq j (by omega))
      · rw [if_neg h]
        right
        refine ⟨Bool.eq_false_iff.mpr (fun w => h ?_), rfl⟩
        rw [i_le, e0]
        exact doneS_iff.mp w _ ul.1 i (by omega)
  have outer : ∀ (c m z : Nat), m + c = cntM V a → c < z → (∀ k, k < us a m → ∀ i, i < vL V k → (D 56 (ix (V (8 + k) i))).toInt ≤ 0) → fM_isReady_b2 z (nI m) M = some (bz (doneS V D = true), M) := by
    intro c
    induction c with
    | zero =>
      intro m z hm hz hq
      obtain ⟨z, rfl⟩ := Nat.exists_eq_succ_of_ne_zero (show z ≠ 0 by omega)
      have hmm : m = cntM V a := by omega
      rw [hmm, us_end v.1 m4] at hq
      rw [fM_isReady_b2, v.2.2.2.1, if_pos (by rw [n_le (by omega) (by omega)]; omega), bz, if_pos (doneS_iff.mpr hq)]
    | succ c ih =>
      intro m z hm hz hq
      obtain ⟨z, rfl⟩ := Nat.exists_eq_succ_of_ne_zero (show z ≠ 0 by omega)
      rw [fM_isReady_b2, v.2.2.2.1, if_neg (by rw [n_le (by omega) (by omega)]; omega)]
      by_cases hma : m = a
      · have e : fM_isReady_b12 (fM_isReady_b2 z) (nI m) 1000 0 M = fM_isReady_b2 z (nI (m + 1)) M := by
          rw [fM_isReady_b12, if_pos (ib_nI (by omega) (by omega)), if_pos ((abs_eq v (by omega)).mpr hma), fM_isReady_b56, nI_1]
          by_cases h : M 96 (ix (nI m)) ≤ 0
          · rw [if_pos h]
          · rw [if_neg h]
        rw [e]
        exact ih (m + 1) z (by omega) (by omega) (by rw [hma, us_eq]; rw [hma] at hq; exact hq)
      · have ul := us_lt v.1 m4 (show m < cntM V a by omega) hma
        have l5 := (vo.2.2.2 _ ul.1).2.2.1.2
        rw [show (0 : Int32) = nI 0 from rfl]
        rcases inner m (by omega) hma (fM_isReady_b2 z) (vL V (us a m)) 0 1000 (by omega) (by omega) (fun j hj => absurd hj (by omega)) with ⟨x1, x2⟩ | ⟨x1, x2⟩
        · rw [x2]
          refine ih (m + 1) z (by omega) (by omega) (fun k hk => ?_)
          rw [ul.2.2] at hk
          by_cases hku : k = us a m
          · subst hku; exact x1
          · exact hq k (by omega)
        · rw [x2, bz, if_neg (by rw [x1]; decide)]
  unfold fM_isReady
  have := outer (cntM V a) 0 1000 (by omega) (by omega) (by rw [us_0]; exact fun k hk => absurd hk (by omega))
  exact this
theorem fM_lives_eq {V : Mem} {a : Nat} {tl : Tell} {M D : Mem} (mo : MO V a tl M) (dk : DOK V D) (dm : DM V a D M) {t : Int32} (ht : 0 ≤ t.toInt) : ∃ M', fM_lives t M = some M' ∧ KeepM M M' ∧ DM V a (passS V tl t D) M' := by
  have vo := mo.1
  have m4 := vo.2.2.1.2
  have C4 := cnt_le mo.2.1.1 m4
  have loop : ∀ (c m z : Nat) (D M : Mem), m + c = cntM V a → c < z → MO V a tl M → DOK V D → DM V a D M → ∃ M', fM_lives_b2 t z (nI m) M = (if M' 85 44 = -1 then (some (bz (doneS V (turnsF V tl t (mst (vN V) (V 1) (V 2) t) (vM V - us a m) (us a m) D) = true), M')).bind (fun w1 => if w1.1 = 0 then fM_lives_b50 w1.2 else fM_lives_b54 t w1.2) else fM_lives_b50 M') ∧ KeepM M M' ∧ DM V a (turnsF V tl t (mst (vN V) (V 1) (V 2) t) (vM V - us a m) (us a m) D) M' := by
    intro c
    induction c with
    | zero =>
      intro m z D M hm hz mo dk dm
      obtain ⟨z, rfl⟩ := Nat.exists_eq_succ_of_ne_zero (show z ≠ 0 by omega)
      have hmm : m = cntM V a := by omega
      rw [hmm, us_end mo.2.1.1 m4, Nat.sub_self, turnsF]
      refine ⟨M, ?_, KeepM.rfl', dm⟩
      rw [fM_lives_b2, mo.2.1.2.2.2.1, if_pos (by rw [n_le (by omega) (by omega)]; omega), fM_isReady_eq vo mo.2.1 dm]
    | succ c ih =>
      intro m z D M hm hz mo dk dm
      obtain ⟨z, rfl⟩ := Nat.exists_eq_succ_of_ne_zero (show z ≠ 0 by omega)
      rw [fM_lives_b2, mo.2.1.2.2.2.1, if_neg (by rw [n_le (by omega) (by omega)]; omega)]
      simp only [fM_lives_b24, nI_1]
      by_cases hma : m = a
      · rw [if_pos ((abs_eq mo.2.1 (by omega)).mpr hma)]
        obtain ⟨M', r1, r2, r3⟩ := ih (m + 1) z D M (by omega) (by omega) mo dk dm
        refine ⟨M', ?_, r2, ?_⟩
        · rw [r1, hma, us_eq]
        · rw [hma, us_eq] at r3
          rw [hma]; exact r3
      · rw [if_neg (fun w => hma ((abs_eq mo.2.1 (by omega)).mp w))]
        have ul := us_lt mo.2.1.1 m4 (show m < cntM V a by omega) hma
        obtain ⟨M1, r1, r2, r3⟩ := fM_acts_eq mo dk dm ul.1 ht
        rw [ul.2.1] at r1
        rw [r1]
        simp only [Option.bind_some]
        obtain ⟨M', q1, q2, q3⟩ := ih (m + 1) z _ M1 (by omega) (by omega) (mo.keep r2) (turnS_DOK vo dk ul.1 t _) r3
        have e : turnsF V tl t (mst (vN V) (V 1) (V 2) t) (vM V - us a m) (us a m) D = turnsF V tl t (mst (vN V) (V 1) (V 2) t) (vM V - us a (m + 1)) (us a (m + 1)) (turnS V tl (us a m) t (mst (vN V) (V 1) (V 2) t) D) := by
          rw [ul.2.2, show vM V - us a m = (vM V - (us a m + 1)) + 1 by omega, turnsF]
        refine ⟨M', ?_, r2.trans q2, ?_⟩
        · rw [q1, e]; rfl
        · rw [e]; exact q3
  obtain ⟨M', r1, r2, r3⟩ := loop (cntM V a) 0 1000 D M (by omega) (by omega) mo dk dm
  rw [us_0, Nat.sub_zero] at r1 r3
  unfold fM_lives
  rw [show (0 : Int32) = nI 0 from rfl, r1]
  unfold passS
  dsimp only
  have e44 := r3.2.2.2
  have same : fM_lives_b50 M' = some M' := by
    unfold fM_lives_b50 fM_lives_b54
    rw [wr_self]
  rw [e44, same]
  by_cases h1 : M' 85 44 = -1
  · rw [if_pos h1]
    simp only [Option.bind_some, bz_0]
    by_cases h2 : doneS V (turnsF V tl t (mst (vN V) (V 1) (V 2) t) (vM V) 0 D) = true
    · rw [if_neg (fun w => w h2), if_pos ⟨h1, h2⟩]
      exact ⟨_, rfl, r2.trans (KeepM.put (Or.inr ⟨rfl, by decide⟩)), r3.put45 (Or.inr ⟨rfl, rfl⟩) t⟩
    · rw [if_pos h2, if_neg (fun w => h2 w.2), same]
      exact ⟨_, rfl, r2, r3⟩
  · rw [if_neg h1, if_neg (fun w => h1 w.1)]
    exact ⟨_, rfl, r2, r3⟩
theorem fM_livesAll_b6_eq {V : Mem} {a : Nat} {tl : Tell} {n : Nat} (hn : n ≤ 100) : ∀ (c t z : Nat) (D M : Mem), t + c = n → c < z → MO V a tl M → DOK V D → DM V a D M → ∃ M', fM_livesAll_b6 (nI n) z (nI t) M = some M' ∧ KeepM M M' ∧ DM V a (dayF V tl c t D) M' := by
  intro c
  induction c with
  | zero =>
    intro t z D M ht hz mo dk dm
    obtain ⟨z, rfl⟩ := Nat.exists_eq_succ_of_ne_zero (show z ≠ 0 by omega)
    rw [fM_livesAll_b6, if_pos (by rw [n_le (by omega) (by omega)]; omega)]
    exact ⟨M, rfl, KeepM.rfl', dm⟩
  | succ c ih =>
    intro t z D M ht hz mo dk dm
    obtain ⟨z, rfl⟩ := Nat.exists_eq_succ_of_ne_zero (show z ≠ 0 by omega)
    obtain ⟨M1, r1, r2, r3⟩ := fM_lives_eq mo dk dm (t := nI t) (by rw [nI_t (by omega)]; omega)
    rw [fM_livesAll_b6, if_neg (by rw [n_le (by omega) (by omega)]; omega), r1]
    simp only [Option.bind_some, nI_1]
    obtain ⟨M', q1, q2, q3⟩ := ih (t + 1) z _ M1 (by omega) (by omega) (mo.keep r2) (passS_DOK mo.1 _ dk) r3
    exact ⟨M', q1, r2.trans q2, q3⟩
/-- what the model leaves alone when it lays its table too -/
def KeepL (M N : Mem) : Prop := (∀ a, a ≠ 85 → (a < 97 ∨ 104 < a) → N a = M a) ∧ ∀ j, (j < 21 ∨ (36 ≤ j ∧ j ≠ 43 ∧ j ≠ 44 ∧ j ≠ 132)) → N 85 j = M 85 j
theorem KeepM.l {M N : Mem} (k : KeepM M N) : KeepL M N := ⟨fun a h1 h2 => k.1 a h1 (by omega), k.2⟩
theorem KeepL.trans {M N O : Mem} (a : KeepL M N) (b : KeepL N O) : KeepL M O := ⟨fun x h1 h2 => (b.1 x h1 h2).trans (a.1 x h1 h2), fun j h => (b.2 j h).trans (a.2 j h)⟩
theorem MV.keepL {V M N : Mem} {a : Nat} (v : MV V a M) (k : KeepL M N) : MV V a N := by
  obtain ⟨h1, h2, h3, h4, h5, h6, h7, h8⟩ := v
  unfold MV
  rw [k.2 7 (by decide), k.2 11 (by decide), k.2 17 (by decide), k.2 18 (by decide), k.1 89 (by decide) (by decide), k.1 90 (by decide) (by decide), k.1 91 (by decide) (by decide), k.1 92 (by decide) (by decide), k.1 93 (by decide) (by decide), k.1 94 (by decide) (by decide), k.1 95 (by decide) (by decide), k.1 96 (by decide) (by decide)]
  exact ⟨h1, h2, h3, h4, h5, h6, h7, h8⟩
theorem fM_startsOff_b32_eq {V : Mem} {a : Nat} : ∀ (c k z : Nat) (M : Mem), k + c = 4 → c < z → MV V a M → (∀ j, j < k → M 98 j = M 94 j ∧ M 99 j = 0 ∧ M 101 j = 0 ∧ M 102 j = 0 ∧ M 103 j = 0) → ∃ M', fM_startsOff_b32 z (nI k) M = some M' ∧ KeepM M M' ∧ (∀ j, j < 4 → M' 98 j = M' 94 j ∧ M' 99 j = 0 ∧ M' 101 j = 0 ∧ M' 102 j = 0 ∧ M' 103 j = 0) ∧ M' 104 = M 104 ∧ M' 85 43 = 0 ∧ M' 85 44 = -1 := by
  intro c
  induction c with
  | zero =>
    intro k z M hk hz v hq
    obtain ⟨z, rfl⟩ := Nat.exists_eq_succ_of_ne_zero (show z ≠ 0 by omega)
    have : k = 4 := by omega
    subst this
    rw [fM_startsOff_b32, if_pos (by decide)]
    refine ⟨_, rfl, (KeepM.put (Or.inr ⟨rfl, by decide⟩)).trans (KeepM.put (Or.inr ⟨rfl, by decide⟩)), ?_, ?_, ?_, ?_⟩
    · intro j hj
      simp only [wr_ne (show 94 ≠ 85 by decide), wr_ne (show 98 ≠ 85 by decide), wr_ne (show 99 ≠ 85 by decide), wr_ne (show 101 ≠ 85 by decide), wr_ne (show 102 ≠ 85 by decide), wr_ne (show 103 ≠ 85 by decide)]
      exact hq j hj
    · rw [wr_ne (by decide), wr_ne (by decide)]
    · rw [wr_at (by decide), wr_same]
    · rw [wr_same]
  | succ c ih =>
    intro k z M hk hz v hq
    obtain ⟨z, rfl⟩ := Nat.exists_eq_succ_of_ne_zero (show z ≠ 0 by omega)
    have gk : ib (nI k) 4 := ib_nI (by omega) (by omega)
    have ek : ix (nI k) = k := ix_nI (by omega)
    rw [fM_startsOff_b32, if_neg (by rw [show (4 : Int32) = nI 4 from rfl, n_le (by omega) (by omega)]; omega), if_pos gk, if_pos gk, if_pos gk, if_pos gk, if_pos gk, if_pos gk, ek, nI_1]
    generalize hN : wr (wr (wr (wr (wr M 98 k (M 94 k)) 99 k 0) 101 k 0) 102 k 0) 103 k 0 = N
    have kp : KeepM M N := by
      rw [← hN]
      exact ((((KeepM.put (Or.inl (by decide))).trans (KeepM.put (Or.inl (by decide)))).trans (KeepM.put (Or.inl (by decide)))).trans (KeepM.put (Or.inl (by decide)))).trans (KeepM.put (Or.inl (by decide)))
    have r104 : N 104 = M 104 := by rw [← hN, wr_ne (by decide), wr_ne (by decide), wr_ne (by decide), wr_ne (by decide), wr_ne (by decide)]
    obtain ⟨M', r1, r2, r3, r4, r5⟩ := ih (k + 1) z N (by omega) (by omega) (v.keep kp) (fun j hj => by
      rw [kp.1 94 (by decide) (by decide), ← hN]
      by_cases hjk : j = k
      · subst hjk; simp [wr]
      · have := hq j (by omega)
        simp [wr, hjk]
        exact this)
    exact ⟨M', r1, kp.trans r2, r3, r4.trans r104, r5⟩
theorem fM_startsOff_b6_eq {V : Mem} {a : Nat} (vo : VOK V) : ∀ (c k z : Nat) (M : Mem), k + c = 8 → c < z → MV V a M → (∀ j, j < k → M 104 j = M 89 j) → ∃ M', fM_startsOff_b6 z (nI k) M = some M' ∧ KeepM M M' ∧ DM V a (startS V) M' := by
  intro c
  induction c with
  | zero =>
    intro k z M hk hz v hq
    obtain ⟨z, rfl⟩ := Nat.exists_eq_succ_of_ne_zero (show z ≠ 0 by omega)
    have : k = 8 := by omega
    subst this
    rw [fM_startsOff_b6, if_pos (by decide)]
    obtain ⟨M', r1, r2, r3, r4, r5, r6⟩ := fM_startsOff_b32_eq 4 0 1000 M (by omega) (by omega) v (fun j hj => absurd hj (by omega))
    refine ⟨M', r1, r2, ?_⟩
    have v' := v.keep r2
    refine ⟨fun k hk => ?_, fun r hr => ?_, r5.symm, r6.symm⟩
    · have C := v'.2.2.2.2.2.2.2 k hk
      have hs : sk a k < 4 := by
        have h := v.1
        unfold sk
        split
        · omega
        · have m4 := vo.2.2.1.2
          have := h.2 (by omega); omega
      obtain ⟨z1, z2, z3, z4, z5⟩ := r3 _ hs
      rw [z1, z2, z3, z4, z5, C.1.2.2.1]
      exact ⟨rfl, rfl, fun h => absurd h (show ¬ 0 < (0 : Int32).toInt by decide), rfl, rfl, rfl⟩
    · rw [r4, hq r hr, v.2.2.2.2.2.2.1 r hr]; rfl
  | succ c ih =>
    intro k z M hk hz v hq
    obtain ⟨z, rfl⟩ := Nat.exists_eq_succ_of_ne_zero (show z ≠ 0 by omega)
    have gk : ib (nI k) 8 := ib_nI (by omega) (by omega)
    have ek : ix (nI k) = k := ix_nI (by omega)
    rw [fM_startsOff_b6, if_neg (by rw [show (8 : Int32) = nI 8 from rfl, n_le (by omega) (by omega)]; omega), if_pos gk, if_pos gk, ek, nI_1]
    have kp : KeepM M (wr M 104 k (M 89 k)) := KeepM.put (Or.inl (by decide))
    obtain ⟨M', r1, r2, r3⟩ := ih (k + 1) z _ (by omega) (by omega) (v.keep kp) (fun j hj => by
      rw [wr_ne (show 89 ≠ 104 by decide)]
      by_cases hjk : j = k
      · subst hjk; rw [wr_same]
      · rw [wr_at hjk]; exact hq j (by omega))
    exact ⟨M', r1, kp.trans r2, r3⟩
/-- what a day of the model needs of M before its table is laid -/
def MO0 (V : Mem) (a : Nat) (tl : Tell) (M : Mem) : Prop := VOK V ∧ MV V a M ∧ VMo (M 85 4) tl (M 86) (M 87)
theorem MO0.keepL {V M N : Mem} {a : Nat} {tl : Tell} (v : MO0 V a tl M) (k : KeepL M N) : MO0 V a tl N := ⟨v.1, v.2.1.keepL k, by rw [k.2 4 (by decide), k.1 86 (by decide) (by decide), k.1 87 (by decide) (by decide)]; exact v.2.2⟩
theorem fM_startsOff_eq {V : Mem} {a : Nat} {tl : Tell} {M : Mem} (mo : MO0 V a tl M) : ∃ M', fM_startsOff M = some M' ∧ KeepL M M' ∧ MO V a tl M' ∧ DM V a (startS V) M' := by
  have v := mo.2.1
  unfold fM_startsOff
  rw [fM_gathers_eq mo.1.1.2 v.2.1]
  simp only [Option.bind_some]
  have kl : KeepL M (gaM (vS V) M) := ⟨fun x h1 h2 => by
    funext b
    unfold gaM tbM
    rw [if_neg (by omega)], fun j hj => by
    unfold gaM tbM
    rw [if_neg (by omega)]⟩
  have v1 := v.keepL kl
  obtain ⟨M', r1, r2, r3⟩ := fM_startsOff_b6_eq mo.1 8 0 1000 _ (by omega) (by omega) v1 (fun j hj => absurd hj (by omega))
  have mo1 := mo.keepL (kl.trans r2.l)
  exact ⟨M', r1, kl.trans r2.l, ⟨mo1.1, mo1.2.1, mo1.2.2, (gaM_TB v.2.1).keep r2⟩, r3⟩
theorem fM_livesAll_eq {V : Mem} {a : Nat} {tl : Tell} {M : Mem} {n : Nat} (hn : n ≤ 100) (mo : MO0 V a tl M) : ∃ M', fM_livesAll (nI n) M = some M' ∧ KeepL M M' ∧ DM V a (dayS V tl n) M' := by
  obtain ⟨M1, r1, r2, r3, r4⟩ := fM_startsOff_eq mo
  obtain ⟨M', q1, q2, q3⟩ := fM_livesAll_b6_eq hn n 0 1000 (startS V) M1 (by omega) (by omega) r3 (DOK.start mo.1 (startS_start V)) r4
  unfold fM_livesAll
  rw [r1]
  simp only [Option.bind_some]
  exact ⟨M', q1, r2.trans q2.l, q3⟩
/-- the sums -/
theorem fM_leftAll_eq (M : Mem) : fM_leftAll M = some (sumF (M 104) 8 0 0, M) := by
  have loop : ∀ (c k z : Nat) (acc : Int32), k + c = 8 → c < z → fM_leftAll_b4 z acc (nI k) M = some (sumF (M 104) c k acc, M) := by
    intro c
    induction c with
    | zero =>
      intro k z acc hk hz
      obtain ⟨z, rfl⟩ := Nat.exists_eq_succ_of_ne_zero (show z ≠ 0 by omega)
      have : k = 8 := by omega
      subst this
      rw [fM_leftAll_b4, if_pos (by decide), sumF]
    | succ c ih =>
      intro k z acc hk hz
      obtain ⟨z, rfl⟩ := Nat.exists_eq_succ_of_ne_zero (show z ≠ 0 by omega)
      rw [fM_leftAll_b4, if_neg (by rw [show (8 : Int32) = nI 8 from rfl, n_le (by omega) (by omega)]; omega), if_pos (ib_nI (by omega) (by omega)), ix_nI (by omega), nI_1, sumF]
      exact ih (k + 1) z _ (by omega) (by omega)
  exact loop 8 0 1000 0 (by omega) (by omega)
theorem fN_sum_eq (q : Nat) (M : Mem) : fN_sum q M = some (sumF (M q) 8 0 0, M) := by
  have loop : ∀ (c k z : Nat) (acc : Int32), k + c = 8 → c < z → fN_sum_b4 q z acc (nI k) M = some (sumF (M q) c k acc, M) := by
    intro c
    induction c with
    | zero =>
      intro k z acc hk hz
      obtain ⟨z, rfl⟩ := Nat.exists_eq_succ_of_ne_zero (show z ≠ 0 by omega)
      have : k = 8 := by omega
      subst this
      rw [fN_sum_b4, if_pos (by decide), sumF]
    | succ c ih =>
      intro k z acc hk hz
      obtain ⟨z, rfl⟩ := Nat.exists_eq_succ_of_ne_zero (show z ≠ 0 by omega)
      rw [fN_sum_b4, if_neg (by rw [show Int32.ofNat 8 = nI 8 from rfl, n_le (by omega) (by omega)]; omega), if_pos (ib_nI (by omega) (by omega)), ix_nI (by omega), nI_1, sumF]
      exact ih (k + 1) z _ (by omega) (by omega)
  exact loop 8 0 1000 0 (by omega) (by omega)
/-- how dear a morning is, how much is left -/
def dearS (V : Mem) (tl : Tell) : Int32 := sumF (dayS V tl 100 56) 8 0 0 + dayS V tl 100 45 13
theorem fM_dear_eq {V : Mem} {a : Nat} {tl : Tell} {M : Mem} (mo : MO0 V a tl M) : ∃ M', fM_dear M = some (dearS V tl, M') ∧ KeepL M M' ∧ DM V a (dayS V tl 100) M' := by
  obtain ⟨M', q1, q2, q3⟩ := fM_livesAll_eq (show 100 ≤ 100 by omega) mo
  unfold fM_dear dearS
  rw [show fM_livesAll 100 M = fM_livesAll (nI 100) M from rfl, q1]
  simp only [Option.bind_some, fM_leftAll_eq]
  rw [q3.2.2.1, sumF_congr (g := M' 104) (g' := dayS V tl 100 56) 8 0 0 (fun j _ h => (q3.2.1 j (by omega)).symm)]
  exact ⟨M', rfl, q2, q3⟩
