/-! 22: a turn and a minute of the model -/
theorem DOK_51 {V D : Mem} (d : DOK V D) {k : Nat} {x : Int32} (hx : 0 ≤ x.toInt ∧ x.toInt < 8) : DOK V (wr D 51 k x) := by
  intro j hj
  rw [wr_ne (show 50 ≠ 51 by decide), wr_ne (show 52 ≠ 51 by decide), wr_ne (show 53 ≠ 51 by decide)]
  have z := d j hj
  by_cases hjk : j = k
  · subst hjk
    rw [wr_same]
    exact ⟨z.1, z.2.1, fun _ => hx, z.2.2.2⟩
  · rw [wr_at hjk]; exact z
theorem telS_wr {V D : Mem} {tl : Tell} {x : Nat} (h : x ≠ 50 ∧ x ≠ 52 ∧ x ≠ 56) (i : Nat) (v : Int32) (p k : Nat) (t b : Int32) : telS tl V (wr D x i v) p k t b = telS tl V D p k t b := by
  unfold telS othS
  rw [wr_ne (show 50 ≠ x by omega), wr_ne (show 56 ≠ x by omega), othF_congr (D := D) (wr_ne (by omega)) (wr_ne (by omega))]
/-- what the model's day needs of M -/
def MO (V : Mem) (a : Nat) (tl : Tell) (M : Mem) : Prop := VOK V ∧ MV V a M ∧ VMo (M 85 4) tl (M 86) (M 87) ∧ TB97 (vS V) M
theorem MO.keep {V M N : Mem} {a : Nat} {tl : Tell} (v : MO V a tl M) (k : KeepM M N) : MO V a tl N := ⟨v.1, v.2.1.keep k, by rw [k.2 4 (by decide), k.1 86 (by decide) (by decide), k.1 87 (by decide) (by decide)]; exact v.2.2.1, v.2.2.2.keep k⟩
theorem telS_bd {V D : Mem} {tl : Tell} {p k : Nat} {t b : Int32} (h : p ≠ 2) : 1 ≤ (telS tl V D p k t b).toInt ∧ (telS tl V D p k t b).toInt ≤ 9 := (clS_bd p _).2 h
theorem fM_acts_b35_eq {V : Mem} {a : Nat} {tl : Tell} {M D : Mem} (mo : MO V a tl M) (dk : DOK V D) (dm : DM V a D M) {k : Nat} (hk : k < vM V) (t mm : Int32) : ∃ M', fM_acts_b35 (nI (sk a k)) t mm (aimS V D k) (nextS V D k) M = some M' ∧ KeepM M M' ∧ DM V a (turnS V tl k t mm D) M' := by
  have vo := mo.1
  have v := mo.2.1
  have m4 := vo.2.2.1.2
  have S := sk_lt v.1 m4 hk
  have gk : ib (nI (sk a k)) 4 := ib_nI S.2.1 (by omega)
  have ek : ix (nI (sk a k)) = sk a k := ix_nI (by omega)
  obtain ⟨d50, d52, d51, d53, d54, d55⟩ := dm.1 k hk
  have C := v.2.2.2.2.2.2.2 k hk
  have num := (vo.2.2.2 k hk).1
  have e0 : (0 : Int32).toInt = 0 := rfl
  have e1 : (1 : Int32).toInt = 1 := rfl
  have dK := dk k hk
  have hL := tI_lt (V 7 k)
  unfold fM_acts_b35 turnS
  simp only [if_pos gk, ek, ← d50, ← d52, ← d54, C.1.1, C.1.2.1, fM_acts_b85, fM_acts_b269, fM_acts_b238, fM_acts_b180, fM_acts_b198, wr_same]
  by_cases hw : 0 < (D 52 k).toInt
  · rw [if_neg (by rw [i_le, e0]; omega), if_pos hw]
    rw [wr_ne (show 98 ≠ 99 by decide), wr_ne (show 100 ≠ 99 by decide)]
    by_cases hz : D 52 k - 1 = 0
    · rw [if_pos hz, if_pos hz]
      refine ⟨_, rfl, (KeepM.put (Or.inl (by decide))).trans (KeepM.put (Or.inl (by decide))), ?_⟩
      rw [← d51 hw]
      exact (dm.put52 (fun _ => d51 hw)).put (Or.inl ⟨rfl, rfl⟩) k _
    · rw [if_neg hz, if_neg hz]
      refine ⟨_, rfl, (KeepM.put (Or.inl (by decide))).trans (KeepM.put (Or.inl (by decide))), ?_⟩
      have h1 : wr (wr M 99 (sk a k) (D 52 k - 1)) 98 (sk a k) (M 98 (sk a k)) = wr M 99 (sk a k) (D 52 k - 1) := by
        have := wr_self (wr M 99 (sk a k) (D 52 k - 1)) 98 (sk a k)
        rw [wr_ne (show 98 ≠ 99 by decide)] at this
        exact this
      rw [h1]
      exact dm.put52 (fun _ => d51 hw)
  · rw [if_pos (by rw [i_le, e0]; omega), if_neg hw]
    by_cases hm : D 50 k = mm
    · rw [if_pos hm.symm, if_pos hm]
      have kp : KeepM M (wr M 102 (sk a k) (D 54 k + 1)) := KeepM.put (Or.inl (by decide))
      have dm2 : DM V a (wr D 54 k (D 54 k + 1)) (wr M 102 (sk a k) (D 54 k + 1)) := dm.put (Or.inr (Or.inr (Or.inl ⟨rfl, rfl⟩))) k _
      have mo2 := mo.keep kp
      obtain ⟨M', r1, r2, r3, r4⟩ := fM_says_eq vo mo2.2.1 mo2.2.2.1 (DOK_wr_other dk (by decide)) dm2 hk (show 2 < 3 by decide) t 0
      rw [show (2 : Int32) = nI 2 from rfl, r1]
      simp only [Option.bind_some]
      refine ⟨_, rfl, (kp.trans r2).trans (KeepM.put (Or.inr ⟨rfl, by decide⟩)), ?_⟩
      rw [telS_wr (by decide), wr_ne (show 85 ≠ 102 by decide), ← dm.2.2.1]
      exact r3.put45 (Or.inl ⟨rfl, rfl⟩) _
    · rw [if_neg (fun w => hm w.symm), if_neg hm]
      by_cases ha : D 50 k = aimS V D k
      · rw [if_pos ha.symm, if_pos ha]
        rw [← ha]
        rw [if_pos dK.1]
        obtain ⟨M', r1, r2, r3, r4⟩ := fM_says_eq (tl := tl) vo v mo.2.2.1 dk dm hk (show 1 < 3 by decide) t 0
        rw [show fM_says 1 (nI (sk a k)) t 0 M = fM_says (nI 1) (nI (sk a k)) t 0 M from rfl, r1]
        simp only [Option.bind_some]
        have tb := telS_bd (tl := tl) (V := V) (D := D) (k := k) (t := t) (b := 0) (show 1 ≠ 2 by decide)
        have c92 : M' 92 = M 92 := r4 92 (by decide)
        have c93 : M' 93 = M 93 := r4 93 (by decide)
        rw [fM_worksOf_eq S.2.1 tb (by rw [c93, C.1.2.1]; exact num), c92, c93, C.1.1, C.1.2.1]
        simp only [Option.bind_some]
        rw [← dm.2.1 _ (ix_lt dK.1)]
        unfold lessS
        generalize D 56 (ix (D 50 k)) - worksS (V 4 k) (V 5 k) (telS tl V D 1 k t 0) = y
        obtain ⟨q50, q52, q51, q53, q54, q55⟩ := r3.1 k hk
        have hb1 := aimS_bd' vo dk hk
        simp only [i_le, i_lt, e0, if_pos dK.1, if_pos gk, ek, wr_ne (show 101 ≠ 104 by decide), ← q53]
        have kk : ∀ (x : Int32) (w : Int32), KeepM M (wr (wr M' 104 (ix (D 50 k)) x) 101 (sk a k) w) := fun x w => (r2.trans (KeepM.put (Or.inl (by decide)))).trans (KeepM.put (Or.inl (by decide)))
        by_cases h1 : 0 < y.toInt
        · rw [if_pos (show 0 ≤ y.toInt by omega)]
          simp only [if_pos h1]
          rw [if_neg (by rw [i_eq, e0]; omega)]
          refine ⟨_, rfl, kk _ _, ?_⟩
          rw [Int32.add_zero, q53]
          have := wr_self (wr M' 104 (ix (D 50 k)) y) 101 (sk a k)
          rw [wr_ne (show 101 ≠ 104 by decide)] at this
          rw [this]
          exact r3.put56 _ _
        · simp only [if_neg h1]
          rw [if_pos True.intro]
          have e : (if 0 ≤ y.toInt then some (wr (wr M' 104 (ix (D 50 k)) y) 101 (sk a k) (D 53 k + 1)) else some (wr (wr M' 104 (ix (D 50 k)) 0) 101 (sk a k) (D 53 k + 1))) = some (wr (wr M' 104 (ix (D 50 k)) 0) 101 (sk a k) (D 53 k + 1)) := by
            by_cases h2 : 0 ≤ y.toInt
            · rw [if_pos h2, show y = 0 from i_eq.mpr (by rw [e0]; omega)]
            · rw [if_neg h2]
          rw [e]
          exact ⟨_, rfl, kk _ _, (r3.put56 _ _).put (Or.inr (Or.inl ⟨rfl, rfl⟩)) k _⟩
      · rw [if_neg (fun w => ha w.symm), if_neg ha]
        have wait : ∃ M', some (wr M 103 (sk a k) (M 103 (sk a k) + 1)) = some M' ∧ KeepM M M' ∧ DM V a (wr D 55 k (D 55 k + 1)) M' := by
          refine ⟨_, rfl, KeepM.put (Or.inl (by decide)), ?_⟩
          rw [← d55]
          exact dm.put (Or.inr (Or.inr (Or.inr ⟨rfl, rfl⟩))) k _
        have go : ¬ nextS V D k = -1 → ∃ M', ((fM_says 0 (nI (sk a k)) t (nextS V D k) (wr M 100 (sk a k) (nextS V D k))).bind fun w6 => (fM_takesOf (nI (sk a k)) w6.1 w6.2).bind fun w7 => some (wr w7.2 99 (sk a k) w7.1)) = some M' ∧ KeepM M M' ∧ DM V a (wr (wr D 52 k (takesS (V 4 k) (V 5 k) (telS tl V D 0 k t (nextS V D k)))) 51 k (nextS V D k)) M' := by
          intro hnm
          have hnb := (nextS_bd vo dk hk).resolve_left hnm
          have kp : KeepM M (wr M 100 (sk a k) (nextS V D k)) := KeepM.put (Or.inl (by decide))
          have mo2 := mo.keep kp
          obtain ⟨M', r1, r2, r3, r4⟩ := fM_says_eq (tl := tl) vo mo2.2.1 mo2.2.2.1 (DOK_51 dk hnb) (dm.put51 k (nextS V D k)) hk (show 0 < 3 by decide) t (nextS V D k)
          rw [telS_wr (by decide)] at r1
          have tb := telS_bd (tl := tl) (V := V) (D := D) (k := k) (t := t) (b := nextS V D k) (show 0 ≠ 2 by decide)
          rw [show fM_says 0 (nI (sk a k)) t (nextS V D k) = fM_says (nI 0) (nI (sk a k)) t (nextS V D k) from rfl, r1]
          simp only [Option.bind_some]
          rw [fM_takesOf_eq S.2.1 tb, r4 92 (by decide), r4 93 (by decide), wr_ne (show 92 ≠ 100 by decide), wr_ne (show 93 ≠ 100 by decide), C.1.1, C.1.2.1]
          simp only [Option.bind_some]
          refine ⟨_, rfl, (kp.trans r2).trans (KeepM.put (Or.inl (by decide))), ?_⟩
          rw [wr_comm (show 52 ≠ 51 by decide)]
          exact r3.put52 (fun _ => (r4 100 (by decide) ▸ (by rw [wr_same, wr_same]) : wr D 51 k (nextS V D k) 51 k = M' 100 (sk a k)))
        by_cases hn1 : nextS V D k = -1
        · rw [if_pos hn1, if_pos (Or.inl hn1)]
          exact wait
        · rw [if_neg hn1]
          by_cases hn2 : nextS V D k = mm
          · rw [if_pos hn2.symm]
            unfold dareB
            by_cases h3 : V 4 k = 3
            · rw [if_pos h3, if_neg (num2 num)]
              by_cases h4 : t - t / (V 5 k + 2) * (V 5 k + 2) = 0
              · rw [if_pos h4, if_neg (by simp [h3, h4, hn1])]
                exact go hn1
              · rw [if_neg h4, if_pos (Or.inr ⟨hn2, by simp [h4]⟩)]
                exact wait
            · rw [if_neg h3, if_pos (Or.inr ⟨hn2, by simp [h3]⟩)]
              exact wait
          · rw [if_neg (fun w => hn2 w.symm), if_neg (by rintro (w | w); exact hn1 w; exact hn2 w.1)]
            exact go hn1
theorem mst_V {V M : Mem} {a : Nat} (vo : VOK V) (v : MV V a M) {t : Int32} (ht : 0 ≤ t.toInt) : fM_masterIn t M = some (mst (vN V) (V 1) (V 2) t, M) := by
  rw [fM_masterIn_eq t ht v.2.2.1 ⟨vo.2.1.2.1, fun i hi => by rw [(v.2.2.2.2.2.1 i hi).2]; exact vo.2.1.2.2 i hi⟩]
  rw [mst_congr t (v.2.2.2.2.2.1)]
theorem fM_acts_eq {V : Mem} {a : Nat} {tl : Tell} {M D : Mem} (mo : MO V a tl M) (dk : DOK V D) (dm : DM V a D M) {k : Nat} (hk : k < vM V) {t : Int32} (ht : 0 ≤ t.toInt) : ∃ M', fM_acts (nI (sk a k)) t M = some M' ∧ KeepM M M' ∧ DM V a (turnS V tl k t (mst (vN V) (V 1) (V 2) t) D) M' := by
  have vo := mo.1
  have v := mo.2.1
  have m4 := vo.2.2.1.2
  have S := sk_lt v.1 m4 hk
  have gk : ib (nI (sk a k)) 4 := ib_nI S.2.1 (by omega)
  have ek : ix (nI (sk a k)) = sk a k := ix_nI (by omega)
  have d50 := (dm.1 k hk).1
  unfold fM_acts
  rw [mst_V vo v ht]
  simp only [Option.bind_some, fM_aimOf_eq vo v dk dm hk, if_pos gk, ek, ← d50]
  have hb := aimS_bd' vo dk hk
  have main := fM_acts_b35_eq mo dk dm hk t (mst (vN V) (V 1) (V 2) t)
  by_cases h : aimS V D k = -1
  · rw [if_pos h]
    have : nextS V D k = -1 := by unfold nextS; rw [if_pos h]
    rw [this, h] at main
    rw [h]
    exact main
  · rw [if_neg h]
    have hb2 := hb.resolve_left h
    have e1 := of_ib (dk k hk).1
    have e2 := of_ib (x := aimS V D k) (N := 8) ⟨hb2.1, hb2.2.1⟩
    have : fM_nextTo (D 50 k) (aimS V D k) M = some (nextS V D k, M) := by
      have := fM_nextTo_eq (s := vS V) (M := M) vo.1.2 mo.2.2.2 e1.2 e2.2
      rw [← e1.1, ← e2.1] at this
      rw [this]
      unfold nextS
      rw [if_neg h]
    rw [this]
    exact main
