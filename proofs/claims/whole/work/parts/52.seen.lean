/-! 52: who was never seen: the places of maids that are not there stay 0 -/
theorem fM_acts_b35_z {V : Mem} {a : Nat} {tl : Tell} {M D : Mem} (mo : MO V a tl M) (dk : DOK V D) (dm : DM V a D M) {k : Nat} (hk : k < vM V) (t mm : Int32) : ∃ M', fM_acts_b35 (nI (sk a k)) t mm (aimS V D k) (nextS V D k) M = some M' ∧ (∀ j, j ≠ sk a k → M' 102 j = M 102 j) ∧ ∃ X, X = turnS V tl k t mm D := by
  have vo := mo.1
  have v := mo.2.1
  have m4 := vo.2.2.1.2
  have S := sk_lt v.1 m4 hk
  have gk : ib (nI (sk a k)) 4 := ib_nI S.2.1 (by omega)
  have ek : ix (nI (sk a k)) = sk a k := ix_nI (by omega)
  obtain ⟨d50, d52, d51, d53, d54, d55⟩ := dm.1 k hk
  have C := v.2.2.2.2.2.2.2 k hk
  have num := (vo.2.2.2 k hk).1
  have e0 : (0 : Int32).toInt = 0 := rfl
  have e1 : (1 : Int32).toInt = 1 := rfl
  have dK := dk k hk
  have hL := tI_lt (V 7 k)
  unfold fM_acts_b35 turnS
  simp only [if_pos gk, ek, ← d50, ← d52, ← d54, C.1.1, C.1.2.1, fM_acts_b85, fM_acts_b269, fM_acts_b238, fM_acts_b180, fM_acts_b198, wr_same]
  by_cases hw : 0 < (D 52 k).toInt
  · rw [if_neg (by rw [i_le, e0]; omega), if_pos hw]
    rw [wr_ne (show 98 ≠ 99 by decide), wr_ne (show 100 ≠ 99 by decide)]
    by_cases hz : D 52 k - 1 = 0
    · rw [if_pos hz, if_pos hz]
      exact ⟨_, rfl, fun j hj => by rw [wr_ne (by decide), wr_ne (by decide)], _, rfl⟩
    · rw [if_neg hz, if_neg hz]
      exact ⟨_, rfl, fun j hj => by rw [wr_ne (by decide), wr_ne (by decide)], _, rfl⟩
  · rw [if_pos (by rw [i_le, e0]; omega), if_neg hw]
    by_cases hm : D 50 k = mm
    · rw [if_pos hm.symm, if_pos hm]
      have kp : KeepM M (wr M 102 (sk a k) (D 54 k + 1)) := KeepM.put (Or.inl (by decide))
      have dm2 : DM V a (wr D 54 k (D 54 k + 1)) (wr M 102 (sk a k) (D 54 k + 1)) := dm.put (Or.inr (Or.inr (Or.inl ⟨rfl, rfl⟩))) k _
      have mo2 := mo.keep kp
      obtain ⟨M', r1, r2, r3, r4⟩ := fM_says_eq vo mo2.2.1 mo2.2.2.1 (DOK_wr_other dk (by decide)) dm2 hk (show 2 < 3 by decide) t 0
      rw [show (2 : Int32) = nI 2 from rfl, r1]
      simp only [Option.bind_some]
      exact ⟨_, rfl, fun j hj => by rw [wr_ne (by decide), r4 102 (by decide), wr_at hj], _, rfl⟩
    · rw [if_neg (fun w => hm w.symm), if_neg hm]
      by_cases ha : D 50 k = aimS V D k
      · rw [if_pos ha.symm, if_pos ha]
        rw [← ha]
        rw [if_pos dK.1]
        obtain ⟨M', r1, r2, r3, r4⟩ := fM_says_eq (tl := tl) vo v mo.2.2.1 dk dm hk (show 1 < 3 by decide) t 0
        rw [show fM_says 1 (nI (sk a k)) t 0 M = fM_says (nI 1) (nI (sk a k)) t 0 M from rfl, r1]
        simp only [Option.bind_some]
        have tb := telS_bd (tl := tl) (V := V) (D := D) (k := k) (t := t) (b := 0) (show 1 ≠ 2 by decide)
        have c92 : M' 92 = M 92 := r4 92 (by decide)
        have c93 : M' 93 = M 93 := r4 93 (by decide)
        rw [fM_worksOf_eq S.2.1 tb (by rw [c93, C.1.2.1]; exact num), c92, c93, C.1.1, C.1.2.1]
        simp only [Option.bind_some]
        rw [← dm.2.1 _ (ix_lt dK.1)]
        unfold lessS
        generalize D 56 (ix (D 50 k)) - worksS (V 4 k) (V 5 k) (telS tl V D 1 k t 0) = y
        obtain ⟨q50, q52, q51, q53, q54, q55⟩ := r3.1 k hk
        have hb1 := aimS_bd' vo dk hk
        simp only [i_le, i_lt, e0, if_pos dK.1, if_pos gk, ek, wr_ne (show 101 ≠ 104 by decide), ← q53]
        have kk : ∀ (x : Int32) (w : Int32), KeepM M (wr (wr M' 104 (ix (D 50 k)) x) 101 (sk a k) w) := fun x w => (r2.trans (KeepM.put (Or.inl (by decide)))).trans (KeepM.put (Or.inl (by decide)))
        by_cases h1 : 0 < y.toInt
        · rw [if_pos (show 0 ≤ y.toInt by omega)]
          simp only [if_pos h1]
          rw [if_neg (by rw [i_eq, e0]; omega)]
          exact ⟨_, rfl, fun j hj => by rw [wr_ne (by decide), wr_ne (by decide), r4 102 (by decide)], _, rfl⟩
        · simp only [if_neg h1]
          rw [if_pos True.intro]
          have e : (if 0 ≤ y.toInt then some (wr (wr M' 104 (ix (D 50 k)) y) 101 (sk a k) (D 53 k + 1)) else some (wr (wr M' 104 (ix (D 50 k)) 0) 101 (sk a k) (D 53 k + 1))) = some (wr (wr M' 104 (ix (D 50 k)) 0) 101 (sk a k) (D 53 k + 1)) := by
            by_cases h2 : 0 ≤ y.toInt
            · rw [if_pos h2, show y = 0 from i_eq.mpr (by rw [e0]; omega)]
            · rw [if_neg h2]
          rw [e]
          exact ⟨_, rfl, fun j hj => by rw [wr_ne (by decide), wr_ne (by decide), r4 102 (by decide)], _, rfl⟩
      · rw [if_neg (fun w => ha w.symm), if_neg ha]
        have wait : ∃ M', some (wr M 103 (sk a k) (M 103 (sk a k) + 1)) = some M' ∧ (∀ j, j ≠ sk a k → M' 102 j = M 102 j) ∧ ∃ X, X = wr D 55 k (D 55 k + 1) := by
          exact ⟨_, rfl, fun j hj => by rw [wr_ne (by decide)], _, rfl⟩
        have go : ¬ nextS V D k = -1 → ∃ M', ((fM_says 0 (nI (sk a k)) t (nextS V D k) (wr M 100 (sk a k) (nextS V D k))).bind fun w6 => (fM_takesOf (nI (sk a k)) w6.1 w6.2).bind fun w7 => some (wr w7.2 99 (sk a k) w7.1)) = some M' ∧ (∀ j, j ≠ sk a k → M' 102 j = M 102 j) ∧ ∃ X, X = wr (wr D 52 k (takesS (V 4 k) (V 5 k) (telS tl V D 0 k t (nextS V D k)))) 51 k (nextS V D k) := by
          intro hnm
          have hnb := (nextS_bd vo dk hk).resolve_left hnm
          have kp : KeepM M (wr M 100 (sk a k) (nextS V D k)) := KeepM.put (Or.inl (by decide))
          have mo2 := mo.keep kp
          obtain ⟨M', r1, r2, r3, r4⟩ := fM_says_eq (tl := tl) vo mo2.2.1 mo2.2.2.1 (DOK_51 dk hnb) (dm.put51 k (nextS V D k)) hk (show 0 < 3 by decide) t (nextS V D k)
          rw [telS_wr (by decide)] at r1
          have tb := telS_bd (tl := tl) (V := V) (D := D) (k := k) (t := t) (b := nextS V D k) (show 0 ≠ 2 by decide)
          rw [show fM_says 0 (nI (sk a k)) t (nextS V D k) = fM_says (nI 0) (nI (sk a k)) t (nextS V D k) from rfl, r1]
          simp only [Option.bind_some]
          rw [fM_takesOf_eq S.2.1 tb, r4 92 (by decide), r4 93 (by decide), wr_ne (show 92 ≠ 100 by decide), wr_ne (show 93 ≠ 100 by decide), C.1.1, C.1.2.1]
          simp only [Option.bind_some]
          exact ⟨_, rfl, fun j hj => by rw [wr_ne (by decide), r4 102 (by decide), wr_ne (by decide)], _, rfl⟩
        by_cases hn1 : nextS V D k = -1
        · rw [if_pos hn1, if_pos (Or.inl hn1)]
          exact wait
        · rw [if_neg hn1]
          by_cases hn2 : nextS V D k = mm
          · rw [if_pos hn2.symm]
            unfold dareB
            by_cases h3 : V 4 k = 3
            · rw [if_pos h3, if_neg (num2 num)]
              by_cases h4 : t - t / (V 5 k + 2) * (V 5 k + 2) = 0
              · rw [if_pos h4, if_neg (by simp [h3, h4, hn1])]
                exact go hn1
              · rw [if_neg h4, if_pos (Or.inr ⟨hn2, by simp [h4]⟩)]
                exact wait
            · rw [if_neg h3, if_pos (Or.inr ⟨hn2, by simp [h3]⟩)]
              exact wait
          · rw [if_neg (fun w => hn2 w.symm), if_neg (by rintro (w | w); exact hn1 w; exact hn2 w.1)]
            exact go hn1
theorem fM_acts_z {V : Mem} {a : Nat} {tl : Tell} {M D : Mem} (mo : MO V a tl M) (dk : DOK V D) (dm : DM V a D M) {k : Nat} (hk : k < vM V) {t : Int32} (ht : 0 ≤ t.toInt) : ∃ M', fM_acts (nI (sk a k)) t M = some M' ∧ (∀ j, j ≠ sk a k → M' 102 j = M 102 j) ∧ ∃ X, X = turnS V tl k t (mst (vN V) (V 1) (V 2) t) D := by
  have vo := mo.1
  have v := mo.2.1
  have m4 := vo.2.2.1.2
  have S := sk_lt v.1 m4 hk
  have gk : ib (nI (sk a k)) 4 := ib_nI S.2.1 (by omega)
  have ek : ix (nI (sk a k)) = sk a k := ix_nI (by omega)
  have d50 := (dm.1 k hk).1
  unfold fM_acts
  rw [mst_V vo v ht]
  simp only [Option.bind_some, fM_aimOf_eq vo v dk dm hk, if_pos gk, ek, ← d50]
  have hb := aimS_bd' vo dk hk
  have main := fM_acts_b35_z mo dk dm hk t (mst (vN V) (V 1) (V 2) t)
  by_cases h : aimS V D k = -1
  · rw [if_pos h]
    have : nextS V D k = -1 := by unfold nextS; rw [if_pos h]
    rw [this, h] at main
    rw [h]
    exact main
  · rw [if_neg h]
    have hb2 := hb.resolve_left h
    have e1 := of_ib (dk k hk).1
    have e2 := of_ib (x := aimS V D k) (N := 8) ⟨hb2.1, hb2.2.1⟩
    have : fM_nextTo (D 50 k) (aimS V D k) M = some (nextS V D k, M) := by
      have := fM_nextTo_eq (s := vS V) (M := M) vo.1.2 mo.2.2.2 e1.2 e2.2
      rw [← e1.1, ← e2.1] at this
      rw [this]
      unfold nextS
      rw [if_neg h]
    rw [this]
    exact main
theorem fM_lives_z {V : Mem} {a : Nat} {tl : Tell} {M D : Mem} (mo : MO V a tl M) (dk : DOK V D) (dm : DM V a D M) {t : Int32} (ht : 0 ≤ t.toInt) : ∃ M', fM_lives t M = some M' ∧ (∀ j, cntM V a ≤ j → M' 102 j = M 102 j) ∧ ∃ X, X = passS V tl t D := by
  have vo := mo.1
  have m4 := vo.2.2.1.2
  have C4 := cnt_le mo.2.1.1 m4
  have loop : ∀ (c m z : Nat) (D M : Mem), m + c = cntM V a → c < z → MO V a tl M → DOK V D → DM V a D M → ∃ M', fM_lives_b2 t z (nI m) M = (if M' 85 44 = -1 then (some (bz (doneS V (turnsF V tl t (mst (vN V) (V 1) (V 2) t) (vM V - us a m) (us a m) D) = true), M')).bind (fun w1 => if w1.1 = 0 then fM_lives_b50 w1.2 else fM_lives_b54 t w1.2) else fM_lives_b50 M') ∧ KeepM M M' ∧ DM V a (turnsF V tl t (mst (vN V) (V 1) (V 2) t) (vM V - us a m) (us a m) D) M' ∧ ∀ j, cntM V a ≤ j → M' 102 j = M 102 j := by
    intro c
    induction c with
    | zero =>
      intro m z D M hm hz mo dk dm
      obtain ⟨z, rfl⟩ := Nat.exists_eq_succ_of_ne_zero (show z ≠ 0 by omega)
      have hmm : m = cntM V a := by omega
      rw [hmm, us_end mo.2.1.1 m4, Nat.sub_self, turnsF]
      refine ⟨M, ?_, KeepM.rfl', dm, fun _ _ => rfl⟩
      rw [fM_lives_b2, mo.2.1.2.2.2.1, if_pos (by rw [n_le (by omega) (by omega)]; omega), fM_isReady_eq vo mo.2.1 dm]
    | succ c ih =>
      intro m z D M hm hz mo dk dm
      obtain ⟨z, rfl⟩ := Nat.exists_eq_succ_of_ne_zero (show z ≠ 0 by omega)
      rw [fM_lives_b2, mo.2.1.2.2.2.1, if_neg (by rw [n_le (by omega) (by omega)]; omega)]
      simp only [fM_lives_b24, nI_1]
      by_cases hma : m = a
      · rw [if_pos ((abs_eq mo.2.1 (by omega)).mpr hma)]
        obtain ⟨M', r1, r2, r3, r4⟩ := ih (m + 1) z D M (by omega) (by omega) mo dk dm
        refine ⟨M', ?_, r2, ?_, r4⟩
        · rw [r1, hma, us_eq]
        · rw [hma, us_eq] at r3
          rw [hma]; exact r3
      · rw [if_neg (fun w => hma ((abs_eq mo.2.1 (by omega)).mp w))]
        have ul := us_lt mo.2.1.1 m4 (show m < cntM V a by omega) hma
        obtain ⟨M1, r1, r2, r3⟩ := fM_acts_eq mo dk dm ul.1 ht
        obtain ⟨M1', s1, s2, -⟩ := fM_acts_z mo dk dm ul.1 ht
        rw [r1] at s1
        cases s1
        rw [ul.2.1] at r1 s2
        rw [r1]
        simp only [Option.bind_some]
        obtain ⟨M', q1, q2, q3, q4⟩ := ih (m + 1) z _ M1 (by omega) (by omega) (mo.keep r2) (turnS_DOK vo dk ul.1 t _) r3
        have e : turnsF V tl t (mst (vN V) (V 1) (V 2) t) (vM V - us a m) (us a m) D = turnsF V tl t (mst (vN V) (V 1) (V 2) t) (vM V - us a (m + 1)) (us a (m + 1)) (turnS V tl (us a m) t (mst (vN V) (V 1) (V 2) t) D) := by
          rw [ul.2.2, show vM V - us a m = (vM V - (us a m + 1)) + 1 by omega, turnsF]
        refine ⟨M', ?_, r2.trans q2, ?_, fun j hj => (q4 j hj).trans (s2 j (by omega))⟩
        · rw [q1, e]; rfl
        · rw [e]; exact q3
  obtain ⟨M', r1, r2, r3, r4⟩ := loop (cntM V a) 0 1000 D M (by omega) (by omega) mo dk dm
  rw [us_0, Nat.sub_zero] at r1 r3
  unfold fM_lives
  rw [show (0 : Int32) = nI 0 from rfl, r1]
  unfold passS
  dsimp only
  have e44 := r3.2.2.2
  have same : fM_lives_b50 M' = some M' := by
    unfold fM_lives_b50 fM_lives_b54
    rw [wr_self]
  rw [e44, same]
  by_cases h1 : M' 85 44 = -1
  · rw [if_pos h1]
    simp only [Option.bind_some, bz_0]
    by_cases h2 : doneS V (turnsF V tl t (mst (vN V) (V 1) (V 2) t) (vM V) 0 D) = true
    · rw [if_neg (fun w => w h2), if_pos ⟨h1, h2⟩]
      exact ⟨_, rfl, fun j hj => by rw [wr_ne (by decide)]; exact r4 j hj, _, rfl⟩
    · rw [if_pos h2, if_neg (fun w => h2 w.2), same]
      exact ⟨_, rfl, r4, _, rfl⟩
  · rw [if_neg h1, if_neg (fun w => h1 w.1)]
    exact ⟨_, rfl, r4, _, rfl⟩
theorem fM_livesAll_b6_z {V : Mem} {a : Nat} {tl : Tell} {n : Nat} (hn : n ≤ 100) : ∀ (c t z : Nat) (D M : Mem), t + c = n → c < z → MO V a tl M → DOK V D → DM V a D M → ∃ M', fM_livesAll_b6 (nI n) z (nI t) M = some M' ∧ ∀ j, cntM V a ≤ j → M' 102 j = M 102 j := by
  intro c
  induction c with
  | zero =>
    intro t z D M ht hz mo dk dm
    obtain ⟨z, rfl⟩ := Nat.exists_eq_succ_of_ne_zero (show z ≠ 0 by omega)
    rw [fM_livesAll_b6, if_pos (by rw [n_le (by omega) (by omega)]; omega)]
    exact ⟨M, rfl, fun _ _ => rfl⟩
  | succ c ih =>
    intro t z D M ht hz mo dk dm
    obtain ⟨z, rfl⟩ := Nat.exists_eq_succ_of_ne_zero (show z ≠ 0 by omega)
    obtain ⟨M1, r1, r2, r3⟩ := fM_lives_eq mo dk dm (t := nI t) (by rw [nI_t (by omega)]; omega)
    obtain ⟨M1', s1, s2, -⟩ := fM_lives_z mo dk dm (t := nI t) (by rw [nI_t (by omega)]; omega)
    rw [r1] at s1
    cases s1
    rw [fM_livesAll_b6, if_neg (by rw [n_le (by omega) (by omega)]; omega), r1]
    simp only [Option.bind_some, nI_1]
    obtain ⟨M', q1, q2⟩ := ih (t + 1) z _ M1 (by omega) (by omega) (mo.keep r2) (passS_DOK mo.1 _ dk) r3
    exact ⟨M', q1, fun j hj => (q2 j hj).trans (s2 j hj)⟩
/-- what the model leaves alone when it lays its table too -/
theorem fM_startsOff_b6_z {V : Mem} {a : Nat} (vo : VOK V) : ∀ (c k z : Nat) (M : Mem), k + c = 8 → c < z → MV V a M → (∀ j, j < k → M 104 j = M 89 j) → ∃ M', fM_startsOff_b6 z (nI k) M = some M' ∧ ∀ j, j < 4 → M' 102 j = 0 := by
  intro c
  induction c with
  | zero =>
    intro k z M hk hz v hq
    obtain ⟨z, rfl⟩ := Nat.exists_eq_succ_of_ne_zero (show z ≠ 0 by omega)
    have : k = 8 := by omega
    subst this
    rw [fM_startsOff_b6, if_pos (by decide)]
    obtain ⟨M', r1, r2, r3, r4, r5, r6⟩ := fM_startsOff_b32_eq 4 0 1000 M (by omega) (by omega) v (fun j hj => absurd hj (by omega))
    exact ⟨M', r1, fun j hj => (r3 j hj).2.2.2.1⟩
  | succ c ih =>
    intro k z M hk hz v hq
    obtain ⟨z, rfl⟩ := Nat.exists_eq_succ_of_ne_zero (show z ≠ 0 by omega)
    have gk : ib (nI k) 8 := ib_nI (by omega) (by omega)
    have ek : ix (nI k) = k := ix_nI (by omega)
    rw [fM_startsOff_b6, if_neg (by rw [show (8 : Int32) = nI 8 from rfl, n_le (by omega) (by omega)]; omega), if_pos gk, if_pos gk, ek, nI_1]
    have kp : KeepM M (wr M 104 k (M 89 k)) := KeepM.put (Or.inl (by decide))
    obtain ⟨M', r1, r2⟩ := ih (k + 1) z _ (by omega) (by omega) (v.keep kp) (fun j hj => by
      rw [wr_ne (show 89 ≠ 104 by decide)]
      by_cases hjk : j = k
      · subst hjk; rw [wr_same]
      · rw [wr_at hjk]; exact hq j (by omega))
    exact ⟨M', r1, r2⟩
/-- what a day of the model needs of M before its table is laid -/
theorem fM_livesAll_z {V : Mem} {a : Nat} {tl : Tell} {M : Mem} {n : Nat} (hn : n ≤ 100) (mo : MO0 V a tl M) : ∃ M', fM_livesAll (nI n) M = some M' ∧ ∀ j, cntM V a ≤ j → j < 4 → M' 102 j = 0 := by
  obtain ⟨M1, r1, r2, r3, r4⟩ := fM_startsOff_eq mo
  have v := mo.2.1
  have kl : KeepL M (gaM (vS V) M) := ⟨fun x h1 h2 => by
    funext b
    unfold gaM tbM
    rw [if_neg (by omega)], fun j hj => by
    unfold gaM tbM
    rw [if_neg (by omega)]⟩
  have e := r1
  unfold fM_startsOff at e
  rw [fM_gathers_eq mo.1.1.2 v.2.1] at e
  simp only [Option.bind_some] at e
  obtain ⟨M1', s1, s2⟩ := fM_startsOff_b6_z mo.1 8 0 1000 _ (by omega) (by omega) (v.keepL kl) (fun j hj => absurd hj (by omega))
  have e' : fM_startsOff_b6 1000 (nI 0) (gaM (vS V) M) = some M1 := e
  rw [e'] at s1
  cases s1
  obtain ⟨M', q1, q2⟩ := fM_livesAll_b6_z hn n 0 1000 (startS V) M1 (by omega) (by omega) r3 (DOK.start mo.1 (startS_start V)) r4
  refine ⟨M', ?_, fun j h1 h2 => (q2 j h1).trans (s2 j h2)⟩
  unfold fM_livesAll
  rw [r1]
  exact q1
/-! how often she is seen: a small number -/
theorem turnS_54 {V D : Mem} {tl : Tell} {k j : Nat} {t mm : Int32} : (j ≠ k → turnS V tl k t mm D 54 j = D 54 j) ∧ (turnS V tl k t mm D 54 j = D 54 j ∨ turnS V tl k t mm D 54 j = D 54 j + 1) := by
  have key : turnS V tl k t mm D 54 j = D 54 j ∨ (j = k ∧ turnS V tl k t mm D 54 j = D 54 j + 1) := by
    unfold turnS
    repeat' split
    · left; rw [wr_ne (by decide), wr_ne (by decide)]
    · left; rw [wr_ne (by decide)]
    · by_cases h : j = k
      · right; subst h; exact ⟨rfl, by rw [wr_ne (by decide), wr_same]⟩
      · left; rw [wr_ne (by decide), wr_at h]
    · left; rw [wr_ne (by decide), wr_ne (by decide)]
    · left; rw [wr_ne (by decide)]
    · left; rw [wr_ne (by decide)]
    · left; rw [wr_ne (by decide), wr_ne (by decide)]
  exact ⟨fun h => key.resolve_right (fun z => h z.1), key.elim Or.inl (fun z => Or.inr z.2)⟩
theorem turnsF_54 {V : Mem} {tl : Tell} {t mm : Int32} {j : Nat} : ∀ (c k : Nat) (D : Mem), (j < k → turnsF V tl t mm c k D 54 j = D 54 j) ∧ (turnsF V tl t mm c k D 54 j = D 54 j ∨ turnsF V tl t mm c k D 54 j = D 54 j + 1)
  | 0, _, _ => ⟨fun _ => rfl, Or.inl rfl⟩
  | c + 1, k, D => by
    rw [turnsF]
    have h1 := turnS_54 (V := V) (D := D) (tl := tl) (k := k) (j := j) (t := t) (mm := mm)
    have h2 := turnsF_54 (V := V) (tl := tl) (t := t) (mm := mm) (j := j) c (k + 1) (turnS V tl k t mm D)
    refine ⟨fun h => (h2.1 (by omega)).trans (h1.1 (by omega)), ?_⟩
    by_cases h : j = k
    · rw [h2.1 (by omega)]; exact h1.2
    · rw [h1.1 h] at h2; exact h2.2
theorem dayF_54 {V : Mem} {tl : Tell} {j : Nat} : ∀ (c t : Nat) (D : Mem), 0 ≤ (D 54 j).toInt → (D 54 j).toInt + c ≤ 1000 → 0 ≤ (dayF V tl c t D 54 j).toInt ∧ (dayF V tl c t D 54 j).toInt ≤ (D 54 j).toInt + c
  | 0, _, D, h1, h2 => by rw [dayF]; omega
  | c + 1, t, D, h1, h2 => by
    rw [dayF]
    have e1 : (1 : Int32).toInt = 1 := rfl
    have hp : passS V tl (nI t) D 54 j = D 54 j ∨ passS V tl (nI t) D 54 j = D 54 j + 1 := by
      have := (turnsF_54 (V := V) (tl := tl) (t := nI t) (mm := mst (vN V) (V 1) (V 2) (nI t)) (j := j) (vM V) 0 D).2
      unfold passS
      split
      · rw [wr_ne (by decide)]; exact this
      · exact this
    have hb : 0 ≤ (passS V tl (nI t) D 54 j).toInt ∧ (passS V tl (nI t) D 54 j).toInt ≤ (D 54 j).toInt + 1 := by
      rcases hp with h | h
      · rw [h]; omega
      · rw [h, t_add (by omega) (by omega), e1]; omega
    have := dayF_54 (V := V) (tl := tl) (j := j) c (t + 1) (passS V tl (nI t) D) hb.1 (by omega)
    omega
