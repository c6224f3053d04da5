/-! 59: seen from a door -/
theorem dayF_snoc {V : Mem} {tl : Tell} : ∀ (c t : Nat) (D : Mem), dayF V tl (c + 1) t D = passS V tl (nI (t + c)) (dayF V tl c t D)
  | 0, t, D => rfl
  | c + 1, t, D => by
    rw [dayF, dayF_snoc c (t + 1), show t + 1 + c = t + (c + 1) by omega]
    rfl
theorem dayS_snoc {V : Mem} {tl : Tell} (t : Nat) : dayS V tl (t + 1) = passS V tl (nI t) (dayS V tl t) := by
  unfold dayS
  rw [dayF_snoc, Nat.zero_add]
/-- the class's day behind t minutes -/
def ClsD (h : Nat) (V : Mem) (tl : Tell) (t : Nat) (C : Mem) : Prop := CV h V tl C ∧ DOK V C ∧ AskOK V (C 45 12) ∧ DEq V (dayS V tl t) C
theorem ClsD.start {h : Nat} {V M : Mem} {tl : Tell} (hv : HV h V tl M) : ∃ C, fD_start h M = some C ∧ ClsD h V tl 0 C ∧ KeepD M C ∧ LW C := by
  obtain ⟨C, e1, c1, s1, a1, l1, k1⟩ := fD_start_eq hv
  exact ⟨C, e1, ⟨c1, DOK.start c1.2.2.2.1 s1, a1, (startS_start V).deq s1⟩, k1, l1⟩
theorem ClsD.pass {h : Nat} {V C : Mem} {tl : Tell} {t : Nat} (s : ClsD h V tl t C) : ∃ C', fD_pass (nI t) C = some C' ∧ ClsD h V tl (t + 1) C' ∧ KeepD C C' ∧ C' 46 = C 46 ∧ C' 47 = C 47 := by
  obtain ⟨c1, d1, a1, q1⟩ := s
  have vo := c1.2.2.2.1
  obtain ⟨C', e1, e2, c2, d2, a2⟩ := fD_pass_eq (D := C) (nI t) c1 d1 a1 (fun _ _ _ => rfl)
  have r : ∀ a, a ≠ 45 → (a < 48 ∨ 56 < a) → C' a = C a := fun a h1 h2 => by rw [e2 a (by omega) (by omega), passS_row ⟨h1, by omega⟩]
  refine ⟨C', e1, ⟨c2, d2, a2, ?_⟩, fun a ha => r a (by omega) (by omega), r 46 (by omega) (by omega), r 47 (by omega) (by omega)⟩
  rw [dayS_snoc]
  exact (passS_deq vo (nI t) q1 (dayS_DOK vo t)).trans (DEq.ofEqD e2)
def soF (V : Mem) (tl : Tell) (k : Nat) (it : Stk) : Nat → Nat → Bool
  | 0, _ => true
  | c + 1, t => decide (dayS V tl (t + 1) 50 k = it t) && soF V tl k it c (t + 1)
theorem door_C {V M C : Mem} {tl : Tell} {s n k : Nat} {it : Stk} (wd : Wd27 V tl M C) (hn : n ≤ 40) (hk : k < vM V) (hs : s < 4) (e1 : M (77 + 2 * s) 1 = nI n) (e2 : ∀ i, i < n → M (78 + 2 * s) i = it i) : ∃ C', fN_isSeenFromDoor (77 + 2 * s) (nI k) C = some (bz (soF V tl k it n 0 = true), C') ∧ Wd27 V tl M C' := by
  have m4 := wd.1.2.2.1.2.2.1.2
  have loop : ∀ (c t z : Nat) (C1 : Mem), t + c = n → c < z → ClsD 27 V tl t C1 → KeepD C C1 → LW C1 → ∃ C', fN_isSeenFromDoor_b13 (77 + 2 * s) (nI k) z (nI t) C1 = some (bz (soF V tl k it c t = true), C') ∧ KeepD C C' ∧ LW C' := by
    intro c
    induction c with
    | zero =>
      intro t z C1 ht hz cl kd lw
      obtain ⟨z, rfl⟩ := Nat.exists_eq_succ_of_ne_zero (show z ≠ 0 by omega)
      refine ⟨C1, ?_, kd, lw⟩
      rw [fN_isSeenFromDoor_b13, kd _ (by omega), wd.2 _ (by omega) (by omega), e1, if_pos (by rw [n_le (by omega) (by omega)]; omega)]
      rfl
    | succ c ih =>
      intro t z C1 ht hz cl kd lw
      obtain ⟨z, rfl⟩ := Nat.exists_eq_succ_of_ne_zero (show z ≠ 0 by omega)
      obtain ⟨C2, p1, p2, p3, p4, p5⟩ := cl.pass
      have kd2 := kd.trans p3
      have lw2 := lw.same (by rw [p4]) p5
      rw [fN_isSeenFromDoor_b13, kd _ (by omega), wd.2 _ (by omega) (by omega), e1, if_neg (by rw [n_le (by omega) (by omega)]; omega), p1]
      simp only [Option.bind_some]
      rw [if_pos (ib_nI (by omega) (by omega)), if_pos (ib_nI (by omega) (by omega)), ix_nI (by omega), ix_nI (by omega), show 77 + 2 * s + 1 = 78 + 2 * s by omega, kd2 (78 + 2 * s) (by omega), wd.2 _ (by omega) (by omega), e2 t (by omega), ← (p2.2.2.2.1 k hk).1, nI_1, soF]
      by_cases h : dayS V tl (t + 1) 50 k = it t
      · rw [if_pos h, decide_eq_true h, Bool.true_and]
        exact ih (t + 1) z C2 (by omega) (by omega) p2 kd2 lw2
      · rw [if_neg h, decide_eq_false h, Bool.false_and]
        exact ⟨C2, rfl, kd2, lw2⟩
  obtain ⟨C1, s1, s2, s3, s4⟩ := ClsD.start wd.1
  obtain ⟨C', l1, l2, l3⟩ := loop n 0 1000 C1 (by omega) (by omega) s2 s3 s4
  refine ⟨C', ?_, wd.1.keep l2 l3, fun a h1 h2 => (l2 a (by omega)).trans (wd.2 a h1 h2)⟩
  unfold fN_isSeenFromDoor
  rw [s1]
  exact l1
theorem door_M {V D : Mem} {tl : Tell} {s n k : Nat} {it : Stk} (mo : MO0 V 4 tl D) (hn : n ≤ 40) (hk : k < vM V) (hs : s < 4) (e1 : D 111 s = nI n) (e2 : ∀ i, i < n → D 112 (40 * s + i) = it i) : ∃ D', fM_isSo (nI s) (nI k) D = some (bz (soF V tl k it n 0 = true), D') ∧ KeepL D D' := by
  have vo := mo.1
  have m4 := vo.2.2.1.2
  have hsk : sk 4 k = k := by unfold sk; rw [if_pos (by omega)]
  have g4 : ib (nI s) 4 := ib_nI hs (by omega)
  have loop : ∀ (c t z : Nat) (D1 : Mem), t + c = n → c < z → MO V 4 tl D1 → DM V 4 (dayS V tl t) D1 → KeepL D D1 → ∃ D', fM_isSo_b6 (nI s) (nI k) z (nI t) D1 = some (bz (soF V tl k it c t = true), D') ∧ KeepL D D' := by
    intro c
    induction c with
    | zero =>
      intro t z D1 ht hz mo1 dm kl
      obtain ⟨z, rfl⟩ := Nat.exists_eq_succ_of_ne_zero (show z ≠ 0 by omega)
      refine ⟨D1, ?_, kl⟩
      rw [fM_isSo_b6, if_pos g4, ix_nI (by omega), kl.1 111 (by omega) (by omega), e1, if_pos (by rw [n_le (by omega) (by omega)]; omega)]
      rfl
    | succ c ih =>
      intro t z D1 ht hz mo1 dm kl
      obtain ⟨z, rfl⟩ := Nat.exists_eq_succ_of_ne_zero (show z ≠ 0 by omega)
      obtain ⟨D2, p1, p2, p3⟩ := fM_lives_eq mo1 (dayS_DOK vo t) dm (t := nI t) (by rw [nI_t (by omega)]; omega)
      rw [← dayS_snoc] at p3
      have kl2 := kl.trans p2.l
      have q50 := (p3.1 k hk).1
      rw [hsk] at q50
      rw [fM_isSo_b6, if_pos g4, ix_nI (by omega), kl.1 111 (by omega) (by omega), e1, if_neg (by rw [n_le (by omega) (by omega)]; omega), p1]
      simp only [Option.bind_some]
      rw [if_pos (ib_nI (by omega) (by omega)), show (40 : Int32) * nI s + nI t = nI (40 * s + t) by rw [show (40 : Int32) = nI 40 from rfl, pk_mul, nI_add], if_pos (ib_nI (by omega) (by omega)), ix_nI (by omega), ix_nI (by omega), kl2.1 112 (by omega) (by omega), e2 t (by omega), ← q50, nI_1, soF]
      by_cases h : dayS V tl (t + 1) 50 k = it t
      · rw [if_pos h, decide_eq_true h, Bool.true_and]
        exact ih (t + 1) z D2 (by omega) (by omega) (mo1.keep p2) p3 kl2
      · rw [if_neg h, decide_eq_false h, Bool.false_and]
        exact ⟨D2, rfl, kl2⟩
  obtain ⟨D1, s1, s2, s3, s4⟩ := fM_startsOff_eq mo
  obtain ⟨D', l1, l2⟩ := loop n 0 1000 D1 (by omega) (by omega) s3 s4 s2
  refine ⟨D', ?_, l2⟩
  unfold fM_isSo
  rw [s1]
  exact l1
def dooF (f : Nat → Bool) : Nat → Nat → Int32 → Int32
  | 0, _, x => x
  | c + 1, v, x => dooF f c (v + 1) (if f v = true then x ||| (1 <<< (nI v &&& 31)) else x)
theorem door_b87 {M : Mem} {s n k N : Nat} {it : Stk} {w : Int32} {Vf : Nat → Mem} {tf : Nat → Tell} {W : Nat → Mem → Mem} {P : Mem → Prop} (hn : n ≤ 40) (hs : s < 4) (hN : N ≤ 100) (e1 : M (77 + 2 * s) 1 = nI n) (e2 : ∀ i, i < n → M (78 + 2 * s) i = it i) (hk : ∀ v, v < N → k < vM (Vf v)) (h1 : ∀ v C, v < N → P C → Wd27 (Vf v) (tf v) M (W v C)) (h2 : ∀ v C, v < N → Wd27 (Vf v) (tf v) M C → P C) (hP : ∀ C, P C → Same M C ∧ LW C) (hu : ∀ z x v C, v < N → fN_door_b87 (nI k) w (77 + 2 * s) (32 + 2 * k) (nI N) (z + 1) x (nI v) C = fN_door_b153 (fN_door_b87 (nI k) w (77 + 2 * s) (32 + 2 * k) (nI N) z) (nI k) w (77 + 2 * s) (32 + 2 * k) (nI N) x (nI v) (W v C)) : ∀ (c v z : Nat) (x : Int32) (C : Mem), v + c = N → c < z → P C → ∃ C', fN_door_b87 (nI k) w (77 + 2 * s) (32 + 2 * k) (nI N) z x (nI v) C = some (dooF (fun v => soF (Vf v) (tf v) k it n 0) c v x, C') ∧ Same M C' ∧ LW C' := by
  intro c
  induction c with
  | zero =>
    intro v z x C hv hz hC
    obtain ⟨z, rfl⟩ := Nat.exists_eq_succ_of_ne_zero (show z ≠ 0 by omega)
    exact ⟨C, by rw [fN_door_b87, if_pos (by rw [n_le (by omega) (by omega)]; omega), dooF], hP C hC⟩
  | succ c ih =>
    intro v z x C hv hz hC
    obtain ⟨z, rfl⟩ := Nat.exists_eq_succ_of_ne_zero (show z ≠ 0 by omega)
    obtain ⟨C1, d1, d2⟩ := door_C (h1 v C (by omega) hC) hn (hk v (by omega)) hs e1 e2
    rw [hu z x v C (by omega)]
    unfold fN_door_b153 fN_door_b172
    rw [d1]
    simp only [Option.bind_some, bz_0]
    rw [nI_1, dooF]
    by_cases h : soF (Vf v) (tf v) k it n 0 = true
    · rw [if_neg (nn h), if_pos h]
      exact ih (v + 1) z _ C1 (by omega) (by omega) (h2 v C1 (by omega) d2)
    · rw [if_pos h, if_neg h]
      exact ih (v + 1) z _ C1 (by omega) (by omega) (h2 v C1 (by omega) d2)
theorem door_b151 {s n k N : Nat} {it : Stk} {w was : Int32} {Vf : Nat → Mem} {tf : Nat → Tell} {T : Nat → Mem → Mem} {Q R : Mem → Prop} (hn : n ≤ 40) (hs : s < 4) (hN : N ≤ 100) (hk : ∀ v, v < N → k < vM (Vf v)) (hs1 : ∀ D, Q D → D 111 s = nI n ∧ ∀ i, i < n → D 112 (40 * s + i) = it i) (h1 : ∀ v D, v < N → Q D → fM_tries w (nI k) (nI v) D = some (T v D) ∧ MO0 (Vf v) 4 (tf v) (T v D) ∧ Q (T v D)) (h2 : ∀ D D', Q D → KeepL D D' → Q D') (h3 : ∀ D, Q D → ∃ D', fM_tries w (nI k) was D = some D' ∧ R D') : ∀ (c v z : Nat) (x : Int32) (D : Mem), v + c = N → c < z → Q D → ∃ D', fM_door_b151 (nI s) (nI k) w was (nI N) z x (nI v) D = some (dooF (fun v => soF (Vf v) (tf v) k it n 0) c v x, D') ∧ R D' := by
  intro c
  induction c with
  | zero =>
    intro v z x D hv hz hD
    obtain ⟨z, rfl⟩ := Nat.exists_eq_succ_of_ne_zero (show z ≠ 0 by omega)
    obtain ⟨D', d1, d2⟩ := h3 D hD
    refine ⟨D', ?_, d2⟩
    rw [fM_door_b151, if_pos (by rw [n_le (by omega) (by omega)]; omega), d1, dooF]
    rfl
  | succ c ih =>
    intro v z x D hv hz hD
    obtain ⟨z, rfl⟩ := Nat.exists_eq_succ_of_ne_zero (show z ≠ 0 by omega)
    obtain ⟨t1, t2, t3⟩ := h1 v D (by omega) hD
    obtain ⟨D1, d1, d2⟩ := door_M t2 hn (hk v (by omega)) hs (hs1 _ t3).1 (hs1 _ t3).2
    rw [fM_door_b151, if_neg (by rw [n_le (by omega) (by omega)]; omega), t1]
    simp only [Option.bind_some]
    rw [d1]
    simp only [Option.bind_some, bz_0]
    unfold fM_door_b182
    rw [nI_1, dooF]
    by_cases h : soF (Vf v) (tf v) k it n 0 = true
    · rw [if_neg (nn h), if_pos h]
      exact ih (v + 1) z _ D1 (by omega) (by omega) (h2 _ _ t3 d2)
    · rw [if_pos h, if_neg h, or_sh0]
      exact ih (v + 1) z _ D1 (by omega) (by omega) (h2 _ _ t3 d2)
theorem moY {V M0 D : Mem} {tl : Tell} {q k : Nat} {x : Int32} (mo : MO0 V 4 tl M0) (hq : q < 3) (hk : k < 4) (vo : VOK (wr V (4 + q) k x)) (ky : KeepY (92 + q) M0 D) (e : D (92 + q) = stS (M0 (92 + q)) k x) : MO0 (wr V (4 + q) k x) 4 tl D := by
  refine ⟨vo, ?_, by rw [ky.2 4 (by omega), ky.1 86 (by omega) (by omega) (by omega), ky.1 87 (by omega) (by omega) (by omega)]; exact mo.2.2⟩
  have mv2 := mo.2.1.maid (q := q) (k := k) (x := x) hq hk mo.1.2.2.1.2
  have e' : ∀ a, a ≠ 85 → (a < 97 ∨ 104 < a) → D a = wr M0 (92 + q) k x a := fun a h1 h2 => by
    by_cases h : a = 92 + q
    · rw [h, e, wr_stS]
    · rw [ky.1 a h1 h h2, wr_ne h]
  unfold MV at mv2 ⊢
  rw [ky.2 7 (by omega), ky.2 11 (by omega), ky.2 17 (by omega), ky.2 18 (by omega), e' 89 (by omega) (by omega), e' 90 (by omega) (by omega), e' 91 (by omega) (by omega), e' 92 (by omega) (by omega), e' 93 (by omega) (by omega), e' 94 (by omega) (by omega), e' 95 (by omega) (by omega), e' 96 (by omega) (by omega)]
  rw [wr_ne (show 85 ≠ 92 + q by omega)] at mv2
  exact mv2
theorem stS_stS (S : Stk) (k : Nat) (x y : Int32) : stS (stS S k x) k y = stS S k y := by
  funext j
  unfold stS
  by_cases h : j = k
  · rw [if_pos h, if_pos h]
  · rw [if_neg h, if_neg h, if_neg h]
