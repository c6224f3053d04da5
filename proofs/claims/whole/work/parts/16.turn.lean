/-! 16: a maid's turn in the class -/
abbrev EqD (D M : Mem) : Prop := ∀ a, a ≠ 48 → a ≠ 49 → M a = D a
theorem aim_eq {h : Nat} {V : Mem} {tl : Tell} {M : Mem} (c : CV h V tl M) (dk : DOK V M) {k : Nat} (hk : k < vM V) : fA_roomListed (h + 5 + 2 * k) (M 53 k) M = some (aimS V M k, M) := by
  have F := c.f
  have K := F.2.2.2.2.2.2.2 k hk
  have hL := (c.2.2.2.1.2.2.2 k hk).2.2.1
  have e7 := nI_t (show vL V k < 2147483648 by omega)
  have p0 := (dk k hk).2.2.2
  rw [fA_roomListed_eq _ _ _ (by rw [K.1.2.2.2, hL.1, e7]; omega) p0.1, K.1.2.2.2]
  unfold aimS
  by_cases hc : (M 53 k).toInt < (V 7 k).toInt
  · rw [if_pos hc, if_pos hc, show h + 5 + 2 * k + 1 = h + 6 + 2 * k by omega, K.2 _ (by rw [hL.1, e7] at hc; unfold ix; omega)]
  · rw [if_neg hc, if_neg hc]
theorem aimS_bd {V D : Mem} (vo : VOK V) {k : Nat} (hk : k < vM V) (hp : 0 ≤ (D 53 k).toInt) : aimS V D k = -1 ∨ ((0 ≤ (aimS V D k).toInt ∧ (aimS V D k).toInt < 8) ∧ (D 53 k).toInt < (V 7 k).toInt) := by
  have hL := (vo.2.2.2 k hk).2.2
  have e7 := nI_t (show vL V k < 2147483648 by omega)
  unfold aimS
  by_cases hc : (D 53 k).toInt < (V 7 k).toInt
  · rw [if_pos hc]
    right
    exact ⟨hL.2 _ (by rw [hL.1.1, e7] at hc; unfold ix; omega), hc⟩
  · rw [if_neg hc]
    left; rfl
theorem DOK_wr_other {V D : Mem} (d : DOK V D) {a j : Nat} {v : Int32} (ha : a ≠ 50 ∧ a ≠ 51 ∧ a ≠ 52 ∧ a ≠ 53) : DOK V (wr D a j v) := by
  intro k hk
  rw [wr_ne (show 50 ≠ a by omega), wr_ne (show 51 ≠ a by omega), wr_ne (show 52 ≠ a by omega), wr_ne (show 53 ≠ a by omega)]
  exact d k hk
theorem fD_turn_eq {h : Nat} {V : Mem} {tl : Tell} {M : Mem} (c : CV h V tl M) (dk : DOK V M) {k : Nat} (hk : k < vM V) (t mm : Int32) : (∃ M', fD_turn (nI k) t mm M = some M' ∧ EqD (turnS V tl k t mm M) M') ∧ DOK V (turnS V tl k t mm M) ∧ KeepC M (turnS V tl k t mm M) := by
  have F := c.f
  have vo := c.2.2.2.1
  have m4 := vo.2.2.1.2
  have K := F.2.2.2.2.2.2.2 k hk
  have dK := dk k hk
  have gk : ib (nI k) 4 := ib_nI (by omega) (by omega)
  have ek : ix (nI k) = k := ix_nI (by omega)
  have hl : h < 28 := by have := c.1; unfold hOK at this; omega
  have e0 : (0 : Int32).toInt = 0 := rfl
  have e1 : (1 : Int32).toInt = 1 := rfl
  have num := (vo.2.2.2 k hk).1
  unfold fD_turn turnS
  rw [if_pos F.2.1]
  simp only [if_pos gk, ek, F.1, aim_eq c dk hk, Option.bind_some, fD_turn_b238, fD_turn_b207]
  by_cases hw : 0 < (M 52 k).toInt
  · rw [if_neg (by rw [i_le, e0]; omega), if_pos hw, wr_same]
    by_cases hz : M 52 k - 1 = 0
    · rw [if_pos hz, if_pos hz]
      refine ⟨⟨_, rfl, ?_⟩, ?_, ?_⟩
      · intro a _ _; rw [wr_ne (show 51 ≠ 52 by decide)]
      · intro j hj
        have d := dk j hj
        rw [wr_ne (show 51 ≠ 50 by decide), wr_ne (show 51 ≠ 52 by decide), wr_ne (show 52 ≠ 50 by decide), wr_ne (show 53 ≠ 50 by decide), wr_ne (show 53 ≠ 52 by decide)]
        by_cases hjk : j = k
        · subst hjk
          rw [wr_same, wr_same, hz]
          exact ⟨d.2.2.1 hw, by decide, fun z => absurd z (by decide), d.2.2.2⟩
        · rw [wr_at hjk, wr_ne (show 50 ≠ 52 by decide), wr_at hjk]
          exact d
      · exact (KeepC.put (Or.inl (by decide))).trans (KeepC.put (Or.inl (by decide)))
    · rw [if_neg hz, if_neg hz]
      refine ⟨⟨_, rfl, fun a _ _ => rfl⟩, ?_, KeepC.put (Or.inl (by decide))⟩
      intro j hj
      have d := dk j hj
      rw [wr_ne (show 51 ≠ 52 by decide), wr_ne (show 50 ≠ 52 by decide), wr_ne (show 53 ≠ 52 by decide)]
      by_cases hjk : j = k
      · subst hjk
        rw [wr_same, t_sub (by omega) (by omega), e1]
        exact ⟨d.1, by omega, fun z => d.2.2.1 hw, d.2.2.2⟩
      · rw [wr_at hjk]
        exact d
  · rw [if_pos (by rw [i_le, e0]; omega), if_neg hw]
    by_cases hm : M 50 k = mm
    · rw [if_pos hm, if_pos hm]
      have c2 : CV h V tl (wr M 54 k (M 54 k + 1)) := c.keep (KeepC.put (Or.inl (by decide)))
      have d2 : DOK V (wr M 54 k (M 54 k + 1)) := DOK_wr_other dk (by decide)
      obtain ⟨M', e, kp⟩ := fD_tells_eq c2 d2 hk (show 2 < 3 by decide) t 0
      have et : telS tl V (wr M 54 k (M 54 k + 1)) 2 k t 0 = telS tl V M 2 k t 0 := by
        unfold telS othS
        rw [wr_ne (show 50 ≠ 54 by decide), wr_ne (show 56 ≠ 54 by decide), othF_congr (D := M) (wr_ne (by decide)) (wr_ne (by decide))]
      rw [show (2 : Int32) = nI 2 from rfl, e]
      simp only [Option.bind_some, et]
      refine ⟨⟨_, rfl, ?_⟩, DOK_wr_other d2 (by decide), (KeepC.put (Or.inl (by decide))).trans (KeepC.put (Or.inr ⟨rfl, by decide⟩))⟩
      intro a h48 h49
      rw [wr_ne (show 45 ≠ 54 by decide)]
      funext b
      unfold wr
      split
      · rfl
      · exact congrFun (kp a h48 h49) b
    · rw [if_neg hm, if_neg hm]
      by_cases ha : M 50 k = aimS V M k
      · rw [if_pos ha, if_pos ha, if_pos dK.1]
        obtain ⟨M', e, kp⟩ := fD_tells_eq c dk hk (show 1 < 3 by decide) t 0
        rw [show (1 : Int32) = nI 1 from rfl, e]
        simp only [Option.bind_some, fA_works_eq, if_pos dK.1]
        rw [kp (h + 5 + 2 * k) (by omega) (by omega), K.1.1, K.1.2.1, wr_same]
        have hls : (if nI 0 < M 56 (ix (M 50 k)) - worksS (V 4 k) (V 5 k) (telS tl V M 1 k t 0) then M 56 (ix (M 50 k)) - worksS (V 4 k) (V 5 k) (telS tl V M 1 k t 0) else nI 0) = lessS (M 56 (ix (M 50 k))) (worksS (V 4 k) (V 5 k) (telS tl V M 1 k t 0)) := rfl
        rw [show (if 0 < M 56 (ix (M 50 k)) - worksS (V 4 k) (V 5 k) (telS tl V M 1 k t 0) then M 56 (ix (M 50 k)) - worksS (V 4 k) (V 5 k) (telS tl V M 1 k t 0) else 0) = lessS (M 56 (ix (M 50 k))) (worksS (V 4 k) (V 5 k) (telS tl V M 1 k t 0)) from rfl]
        generalize lessS (M 56 (ix (M 50 k))) (worksS (V 4 k) (V 5 k) (telS tl V M 1 k t 0)) = y at hls ⊢
        by_cases hyz : y = 0
        · rw [if_pos hyz, if_pos hyz, wr_ne (show 53 ≠ 56 by decide), kp 53 (by decide) (by decide)]
          refine ⟨⟨_, rfl, ?_⟩, ?_, (KeepC.put (Or.inl (by decide))).trans (KeepC.put (Or.inl (by decide)))⟩
          · intro a h48 h49
            funext b
            unfold wr
            split
            · rfl
            · split
              · rfl
              · exact congrFun (kp a h48 h49) b
          · intro j hj
            have d := dk j hj
            rw [wr_ne (show 50 ≠ 53 by decide), wr_ne (show 51 ≠ 53 by decide), wr_ne (show 52 ≠ 53 by decide), wr_ne (show 50 ≠ 56 by decide), wr_ne (show 51 ≠ 56 by decide), wr_ne (show 52 ≠ 56 by decide)]
            by_cases hjk : j = k
            · subst hjk
              rw [wr_same]
              have hb := aimS_bd vo hk dK.2.2.2.1
              have hlt : (M 53 j).toInt < (V 7 j).toInt := by
                rcases hb with z | z
                · rw [z] at ha
                  have h8 := d.1.1
                  rw [ha, m1_t] at h8
                  omega
                · exact z.2
              have h7 := tI_lt (V 7 j)
              rw [t_add (by rw [show (nI 1).toInt = 1 from rfl]; omega) (by rw [show (nI 1).toInt = 1 from rfl]; omega), show (nI 1).toInt = 1 from rfl]
              exact ⟨d.1, d.2.1, d.2.2.1, by omega⟩
            · rw [wr_at hjk, wr_ne (show 53 ≠ 56 by decide)]
              exact d
        · rw [if_neg hyz, if_neg hyz]
          refine ⟨⟨_, rfl, ?_⟩, DOK_wr_other dk (by decide), KeepC.put (Or.inl (by decide))⟩
          intro a h48 h49
          funext b
          unfold wr
          split
          · rfl
          · exact congrFun (kp a h48 h49) b
      · rw [if_neg ha, if_neg ha]
        have hroom : M 50 k = nI (ix (M 50 k)) := (of_ib dK.1).1
        have hroom8 := (of_ib dK.1).2
        have hab := aimS_bd vo hk dK.2.2.2.1
        have en : fY_nextLaid (M 50 k) (aimS V M k) M = some (nextS V M k, M) := by
          rw [hroom, fY_nextLaid_eq vo.1.2 c.2.2.2.2.2.2 hroom8 _ (hab.elim Or.inl (fun z => Or.inr z.1))]
          rfl
        rw [en]
        simp only [Option.bind_some]
        have goOn : (∃ M', ((fD_tells 0 (nI k) t (nextS V M k) M).bind fun w9 => (fA_takes (h + 5 + 2 * k) w9.1 w9.2).bind fun w10 => some (wr (wr w10.2 52 k w10.1) 51 k (nextS V M k))) = some M' ∧ EqD (wr (wr M 52 k (takesS (V 4 k) (V 5 k) (telS tl V M 0 k t (nextS V M k)))) 51 k (nextS V M k)) M') := by
          obtain ⟨M', e, kp⟩ := fD_tells_eq c dk hk (show 0 < 3 by decide) t (nextS V M k)
          rw [show (0 : Int32) = nI 0 from rfl, e]
          simp only [Option.bind_some, fA_takes_eq]
          rw [kp (h + 5 + 2 * k) (by omega) (by omega), K.1.1, K.1.2.1]
          refine ⟨_, rfl, ?_⟩
          intro a h48 h49
          funext b
          unfold wr
          split
          · rfl
          · split
            · rfl
            · exact congrFun (kp a h48 h49) b
        have hnb : nextS V M k = -1 ∨ (0 ≤ (nextS V M k).toInt ∧ (nextS V M k).toInt < 8) := by
          unfold nextS
          by_cases hz : aimS V M k = -1
          · rw [if_pos hz]; exact Or.inl rfl
          · rw [if_neg hz]
            have h8 := (hab.resolve_left hz).1
            exact nxt_bd _ vo.1.2 _ hroom8 _ (by unfold ix; omega)
        have dWait : DOK V (wr M 55 k (M 55 k + 1)) := DOK_wr_other dk (by decide)
        have dGo : ¬ nextS V M k = -1 → DOK V (wr (wr M 52 k (takesS (V 4 k) (V 5 k) (telS tl V M 0 k t (nextS V M k)))) 51 k (nextS V M k)) := by
          intro hnm j hj
          have d := dk j hj
          rw [wr_ne (show 50 ≠ 51 by decide), wr_ne (show 52 ≠ 51 by decide), wr_ne (show 53 ≠ 51 by decide), wr_ne (show 50 ≠ 52 by decide), wr_ne (show 53 ≠ 52 by decide)]
          by_cases hjk : j = k
          · subst hjk
            rw [wr_same, wr_same]
            have tb := takesS_bd (kind := V 4 j) num ((clS_bd 0 (tl 0 t (M 50 j) (M 56 (ix (M 50 j))) (V 5 j) (nextS V M j) (othS V M j))).2 (by decide))
            exact ⟨d.1, ⟨by unfold telS; omega, by unfold telS; omega⟩, fun _ => hnb.resolve_left hnm, d.2.2.2⟩
          · rw [wr_at hjk, wr_at hjk, wr_ne (show 51 ≠ 52 by decide)]
            exact d
        have kGo : KeepC M (wr (wr M 52 k (takesS (V 4 k) (V 5 k) (telS tl V M 0 k t (nextS V M k)))) 51 k (nextS V M k)) := (KeepC.put (Or.inl (by decide))).trans (KeepC.put (Or.inl (by decide)))
        have kWait : KeepC M (wr M 55 k (M 55 k + 1)) := KeepC.put (Or.inl (by decide))
        by_cases hn1 : nextS V M k = -1
        · rw [if_pos hn1, if_pos (Or.inl hn1)]
          exact ⟨⟨_, rfl, fun a _ _ => rfl⟩, dWait, kWait⟩
        · rw [if_neg hn1]
          by_cases hn2 : nextS V M k = mm
          · rw [if_pos hn2, fA_dares_eq _ _ _ (by rw [K.1.2.1]; exact num), K.1.1, K.1.2.1]
            simp only [Option.bind_some, bz_0]
            by_cases hd : dareB (V 4 k) (V 5 k) t = true
            · rw [if_neg (fun z => z hd), if_neg (by rintro (z | z); exact hn1 z; rw [hd] at z; cases z.2)]
              exact ⟨goOn, dGo hn1, kGo⟩
            · rw [if_pos hd, if_pos (Or.inr ⟨hn2, by simpa using hd⟩)]
              exact ⟨⟨_, rfl, fun a _ _ => rfl⟩, dWait, kWait⟩
          · rw [if_neg hn2, if_neg (by rintro (z | z); exact hn1 z; exact hn2 z.1)]
            exact ⟨goOn, dGo hn1, kGo⟩
