/-! 48: mornings -/
theorem MO0.hi {V M N : Mem} {a : Nat} {tl : Tell} (v : MO0 V a tl M) (k : ∀ x, 85 ≤ x → N x = M x) : MO0 V a tl N := by
  obtain ⟨v1, v2, v3⟩ := v
  refine ⟨v1, ?_, by rw [k 85 (by omega), k 86 (by omega), k 87 (by omega)]; exact v3⟩
  unfold MV
  rw [k 85 (by omega), k 89 (by omega), k 90 (by omega), k 91 (by omega), k 92 (by omega), k 93 (by omega), k 94 (by omega), k 95 (by omega), k 96 (by omega)]
  exact v2
theorem KeepD.hi {M N : Mem} (k : KeepD M N) : ∀ x, 85 ≤ x → N x = M x := fun x h => k x (by omega)
theorem CV.aim {V C S : Mem} {h : Nat} {tl : Tell} (c : CV h V tl C) (dk : DOK V C) (e : DEq V S C) {k : Nat} (hk : k < vM V) : fA_roomListed (h + 5 + 2 * k) (C 53 k) C = some (aimS V S k, C) := by
  rw [aim_eq c dk hk]
  unfold aimS
  rw [(e.1 k hk).2.2.2.1]
/-- a morning run by both -/
theorem run_both {M : Mem} {n : Nat} (hR : Rel M) (hn : n ≤ 100) : ∃ (V : Mem) (tl : Tell) (C D : Mem), V = viewC 1 M ∧ VOK V ∧ fD_run 1 (nI n) M = some C ∧ fM_livesAll (nI n) C = some D ∧ KeepD M C ∧ KeepL C D ∧ Rel D ∧ CV 1 V tl C ∧ DOK V C ∧ DOK V (dayS V tl n) ∧ DEq V (dayS V tl n) C ∧ MV V 4 D ∧ DM V 4 (dayS V tl n) D := by
  obtain ⟨tl, hv, mo, -⟩ := hR.view
  obtain ⟨C, e1, c1, hv1, k1, d1, q1⟩ := fD_run_eq hn hv
  have mo1 := mo.hi k1.hi
  obtain ⟨D, e2, k2, dm⟩ := fM_livesAll_eq hn mo1
  exact ⟨_, tl, C, D, rfl, hv.2.2.1, e1, e2, k1, k2, (hR.same k1.s hv1.2.2.2.2.2).same k2.s (k2.lw hv1.2.2.2.2.2), c1, d1, dayS_DOK hv.2.2.1 n, q1, mo1.2.1.keepL k2, dm⟩
theorem fD_dear_eq {V S C : Mem} (e : DEq V S C) : fD_dear C = some (sumF (S 56) 8 0 0 + S 45 13, C) := by
  unfold fD_dear
  rw [fN_sum_eq]
  simp only [Option.bind_some]
  rw [e.2.2.1, sumF_congr (g := S 56) (g' := C 56) 8 0 0 (fun j _ h => e.2.1 j (by omega))]
abbrev ASK (m : Nat) (a : Int32) : Prop := ib a 4 ∨ ((10 ≤ a.toInt ∧ a.toInt < 50) ∧ ix a % 10 < m) ∨ (50 ≤ a.toInt ∧ a.toInt < 58)
theorem rem10 {a : Int32} (h : 0 ≤ a.toInt) : a - a / 10 * 10 = nI (ix a % 10) := by
  have := rem_nI (t := a) (R := 10) (by decide) h
  exact this
theorem div10 {a : Int32} (h : 0 ≤ a.toInt) : a / 10 = nI (ix a / 10) := by
  have h1 := tI_lt a
  have := pk_div (a := ix a) (d := 10) (by unfold ix; omega) (by omega) (by omega)
  rw [nI_ix h] at this
  exact this
theorem asked_eq {m : Nat} {M : Mem} (hm : m ≤ 4) (em : M 1 2 = nI m) (a : Int32) : fN_isAskedOfMorning a M = some (bz (ASK m a), M) := by
  have t10 : (10 : Int32).toInt = 10 := rfl
  have t50 : (50 : Int32).toInt = 50 := rfl
  have b32 : (¬ (10 ≤ a.toInt ∧ a.toInt < 50)) → fN_isAskedOfMorning_b32 a M = some (bz (ASK m a), M) := by
    intro hno
    unfold fN_isAskedOfMorning_b32 fN_isAskedOfMorning_b52
    simp only [fN_w4, fN_w8, Option.bind_some, bz_0]
    by_cases h4 : ib a 4
    · rw [if_neg (nn h4), bz, if_pos (Or.inl h4)]
    · rw [if_pos h4]
      have e : ib (a - 50) 8 ↔ 50 ≤ a.toInt ∧ a.toInt < 58 := by rw [show (50 : Int32) = nI 50 from rfl, sub_ib (by omega)]; omega
      by_cases h8 : ib (a - 50) 8
      · rw [if_neg (nn h8), bz, if_pos (Or.inr (Or.inr (e.mp h8)))]
      · rw [if_pos h8, bz, if_neg (by rintro (z | z | z); exact h4 z; exact hno z.1; exact h8 (e.mpr z))]
  unfold fN_isAskedOfMorning
  by_cases h1 : a < 10
  · rw [if_pos h1, b32 (by rw [i_lt, t10] at h1; omega)]
  · rw [if_neg h1]
    by_cases h2 : (50 : Int32) ≤ a
    · rw [if_pos h2, b32 (by rw [i_le, t50] at h2; omega)]
    · rw [i_lt, t10] at h1
      rw [i_le, t50] at h2
      have hmod := Nat.mod_lt (ix a) (show 10 > 0 by omega)
      rw [if_neg (by rw [i_le, t50]; exact h2), rem10 (by omega), em]
      by_cases h3 : ix a % 10 < m
      · rw [if_neg (by rw [n_le (by omega) (by omega)]; omega), bz, if_pos (Or.inr (Or.inl ⟨by omega, h3⟩))]
      · rw [if_pos (by rw [n_le (by omega) (by omega)]; omega), bz, if_neg]
        rintro (z | z | z)
        · have := z.2; omega
        · exact h3 z.2
        · omega
theorem fM_morning_eq {m : Nat} {N : Mem} (hm : m ≤ 4) (em : N 85 17 = nI m) (n a : Int32) : fM_morning n a N = if ib n 101 then (if ASK m a then fM_morning_b66 n a N else some (-2, N)) else some (-2, N) := by
  unfold fM_morning
  simp only [fM_i101, fM_i4, Option.bind_some, bz_0]
  by_cases h1 : ib n 101
  · rw [if_neg (nn h1), if_pos h1]
    by_cases h4 : ib a 4
    · rw [if_neg (nn h4), if_pos (show ASK m a from Or.inl h4)]
    · rw [if_pos h4, fM_iv a 10 49 10 49 _ rfl rfl]
      simp only [Option.bind_some, bz_0]
      have b49 : (¬ ((10 ≤ a.toInt ∧ a.toInt < 50) ∧ ix a % 10 < m)) → fM_morning_b49 n a N = if ASK m a then fM_morning_b66 n a N else some (-2, N) := by
        intro hno
        unfold fM_morning_b49
        rw [fM_iv a 50 57 50 57 _ rfl rfl]
        simp only [Option.bind_some, bz_0]
        by_cases h5 : 50 ≤ a.toInt ∧ a.toInt ≤ 57
        · rw [if_neg (nn h5), if_pos (show ASK m a from Or.inr (Or.inr (by omega)))]
        · rw [if_pos h5, if_neg]
          rintro (z | z | z)
          · exact h4 z
          · exact hno z
          · omega
      by_cases h2 : 10 ≤ a.toInt ∧ a.toInt ≤ 49
      · rw [if_neg (nn h2), fM_mm _ _ hm em, rem10 (by omega)]
        simp only [Option.bind_some, bz_0]
        have hmod := Nat.mod_lt (ix a) (show 10 > 0 by omega)
        by_cases h3 : ix a % 10 < m
        · rw [if_neg (nn (ib_nI h3 (by omega))), if_pos (show ASK m a from Or.inr (Or.inl ⟨by omega, h3⟩))]
        · rw [if_pos (by intro z; have := ix_lt z; rw [ix_nI (by omega)] at this; exact h3 this)]
          exact b49 (fun z => h3 z.2)
      · rw [if_pos h2]
        exact b49 (fun z => h2 (by omega))
  · rw [if_pos h1, if_neg h1]
theorem op_morning (n a : Int32) : Op (fN_morning n a) (fM_morning n a) := by
  intro M hR
  obtain ⟨m, m1, m2, m3, m4⟩ := hR.2.2.2.1
  have t0 : (0 : Int32).toInt = 0 := rfl
  have t100 : (100 : Int32).toInt = 100 := rfl
  have cls : fN_morning n a M = if ib n 101 then (if ASK m a then (fD_run 1 n M).bind fun M2 => (if a < 50 then
          if a < 10 then
            if a = 0 then
              (fD_workLeft M2).bind fun w3 =>
              some (w3.1, w3.2)
            else
            if a = 1 then
              some ((M2 45 13), M2)
            else
            if a = 2 then
              some ((M2 45 14), M2)
            else
              (fD_dear M2).bind fun w7 =>
              some (w7.1, w7.2)
          else
            (fD_ofMaid (a - a / 10 * 10) (a / 10) M2).bind fun w8 =>
            some (w8.1, w8.2)
        else
          if ib (a - 50) 8 then
          some ((M2 56 (ix (a - 50))), M2)
          else none) else some (-2, M)) else some (-2, M) := by
    unfold fN_morning
    rw [asked_eq m1 m2]
    simp only [Option.bind_some, bz_0]
    by_cases h1 : n < 0
    · rw [if_pos h1, if_neg (by intro z; rw [i_lt, t0] at h1; have := z.1; omega)]
    · rw [if_neg h1]
      by_cases h2 : (100 : Int32) < n
      · rw [if_pos h2, if_neg (by intro z; rw [i_lt, t100] at h2; have := z.2; omega)]
      · rw [i_lt, t0] at h1
        rw [i_lt, t100] at h2
        rw [if_neg (by rw [i_lt, t100]; exact h2), if_pos (show ib n 101 from ⟨by omega, by omega⟩)]
        by_cases h3 : ASK m a
        · rw [if_neg (nn h3), if_pos h3]
        · rw [if_pos h3, if_neg h3]
  rw [cls]
  by_cases h1 : ib n 101
  · rw [if_pos h1]
    by_cases h3 : ASK m a
    · rw [if_pos h3]
      obtain ⟨n', hn', rfl⟩ := ib_ex h1
      obtain ⟨V, tl, C, D, hV, vo, e1, e2, k1, k2, hD, cv, dc, ds, q, mv, dm⟩ := run_both hR (show n' ≤ 100 by omega)
      have evm : vM V = m := by
        have : V 0 2 = M 1 2 := by rw [hV]; rfl
        show ix (V 0 2) = m
        rw [this, m2, ix_nI (by omega)]
      rw [e1]
      simp only [Option.bind_some]
      have mc : ∀ v, (∃ D', fM_morning_b66 (nI n') a C = some (v, D') ∧ D' = D) → fM_morning (nI n') a C = some (v, D) := by
        rintro v ⟨D', z, rfl⟩
        rw [fM_morning_eq m1 (by rw [k1 85 (by omega)]; exact m3), if_pos h1, if_pos h3, z]
      have t50 : (50 : Int32).toInt = 50 := rfl
      have t49 : (49 : Int32).toInt = 49 := rfl
      have t10 : (10 : Int32).toInt = 10 := rfl
      have t4 : (4 : Int32).toInt = 4 := rfl
      have t20 : (20 : Int32).toInt = 20 := rfl
      have t30 : (30 : Int32).toInt = 30 := rfl
      have t40 : (40 : Int32).toInt = 40 := rfl
      rcases h3 with h3 | h3 | h3
      · have h3' := h3.2
        rw [if_pos (by rw [i_lt, t50]; omega), if_pos (by rw [i_lt, t10]; omega)]
        have fin : ∀ v, (fM_morning_b66 (nI n') a C = some (v, D)) → fM_morning (nI n') a C = some (v, D) := fun v z => mc v ⟨D, z, rfl⟩
        have hb : fM_morning_b66 (nI n') a C = (if a = 0 then
      (fM_leftAll D).bind fun w7 =>
      some (w7.1, w7.2)
    else
      if a = 1 then
        some ((D 85 43), D)
      else
        if a = 2 then
          some ((D 85 44), D)
        else
          (fM_leftAll D).bind fun w8 =>
          some ((w8.1 + (w8.2 85 43)), w8.2)) := by
          unfold fM_morning_b66
          rw [e2]
          simp only [Option.bind_some]
          rw [if_neg (by rw [i_le, t4]; omega)]
        have sl : sumF (D 104) 8 0 0 = sumF (C 56) 8 0 0 := sumF_congr 8 0 0 (fun j _ h => by rw [← dm.2.1 j (by omega), q.2.1 j (by omega)])
        by_cases a0 : a = 0
        · rw [if_pos a0]
          unfold fD_workLeft
          rw [fN_sum_eq]
          exact ⟨_, C, D, rfl, fin _ (by rw [hb, if_pos a0, fM_leftAll_eq, sl]; rfl), hD⟩
        · rw [if_neg a0]
          by_cases a1 : a = 1
          · rw [if_pos a1]
            exact ⟨_, C, D, rfl, fin _ (by rw [hb, if_neg a0, if_pos a1, ← dm.2.2.1, q.2.2.1]), hD⟩
          · rw [if_neg a1]
            by_cases a2 : a = 2
            · rw [if_pos a2]
              exact ⟨_, C, D, rfl, fin _ (by rw [hb, if_neg a0, if_neg a1, if_pos a2, ← dm.2.2.2, q.2.2.2]), hD⟩
            · rw [if_neg a2]
              unfold fD_dear
              rw [fN_sum_eq]
              exact ⟨_, C, D, rfl, fin _ (by rw [hb, if_neg a0, if_neg a1, if_neg a2, fM_leftAll_eq, sl]; simp only [Option.bind_some]; rw [← dm.2.2.1, q.2.2.1]), hD⟩
      · obtain ⟨h3a, h3b⟩ := h3
        rw [if_pos (by rw [i_lt, t50]; omega), if_neg (by rw [i_lt, t10]; omega), rem10 (by omega), div10 (by omega)]
        obtain ⟨k, hk⟩ : ∃ k, k = ix a % 10 := ⟨_, rfl⟩
        obtain ⟨d, hd⟩ : ∃ d, d = ix a / 10 := ⟨_, rfl⟩
        have hixa : (ix a : Int) = a.toInt := by unfold ix; omega
        have hd4 : 1 ≤ d ∧ d ≤ 4 := by omega
        rw [← hk, ← hd]
        have hkm : k < m := by omega
        have hk4 : ib (nI k) 4 := ib_nI (by omega) (by omega)
        have F := cv.f
        have dk := q.1 k (by omega)
        have dmk := dm.1 k (by omega)
        have hsk : sk 4 k = k := by unfold sk; rw [if_pos (by omega)]
        rw [hsk] at dmk
        have of : ∀ v, (if nI d = 1 then some (C 50 k, C) else if nI d = 2 then some (C 54 k, C) else if nI d = 3 then some (C 55 k, C) else some (aimS V (dayS V tl n') k, C)) = some (v, C) → fD_ofMaid (nI k) (nI d) C = some (v, C) := by
          intro v hv
          unfold fD_ofMaid
          rw [if_pos F.2.1, F.1, show C 1 2 = nI m by rw [F.2.2.2.2.1, evm], fN_w _ m _ (by omega)]
          simp only [Option.bind_some, bz_0]
          rw [if_neg (nn (ib_nI hkm (by omega))), if_pos hk4, ix_nI (by omega), if_pos hk4, if_pos hk4, F.1, if_pos (show hOK 1 by decide), if_pos hk4, if_pos hk4, cv.aim dc q (show k < vM V by omega), ← hv]
          rfl
        have hb : ∀ v, (if nI d = 1 then some (D 98 k, D) else if nI d = 2 then some (D 102 k, D) else if nI d = 3 then some (D 103 k, D) else some (aimS V (dayS V tl n') k, D)) = some (v, D) → fM_morning (nI n') a C = some (v, D) := by
          intro v hv
          apply mc
          refine ⟨D, ?_, rfl⟩
          unfold fM_morning_b66
          rw [e2]
          simp only [Option.bind_some]
          have am := fM_aimOf_eq vo mv ds dm (show k < vM V by omega)
          rw [hsk] at am
          rw [if_pos (by rw [i_le, t4]; omega), if_pos (by rw [i_le, t49]; omega), rem10 (by omega), ← hk, am, if_pos hk4, if_pos hk4, if_pos hk4, ix_nI (by omega), ← hv]
          simp only [i_le, t20, t30, t40, show (1 : Int32) = nI 1 from rfl, show (2 : Int32) = nI 2 from rfl, show (3 : Int32) = nI 3 from rfl, n_eq (show d < 2147483648 by omega) (show 1 < 2147483648 by omega), n_eq (show d < 2147483648 by omega) (show 2 < 2147483648 by omega), n_eq (show d < 2147483648 by omega) (show 3 < 2147483648 by omega), Option.bind_some]
          rcases (by omega : d = 1 ∨ d = 2 ∨ d = 3 ∨ d = 4) with z | z | z | z
          · rw [if_neg (by omega), if_pos z]
          · rw [if_pos (by omega), if_neg (by omega), if_neg (by omega), if_pos z]
          · rw [if_pos (by omega), if_pos (by omega), if_neg (by omega), if_neg (by omega), if_neg (by omega), if_pos z]
          · rw [if_pos (by omega), if_pos (by omega), if_pos (by omega), if_neg (by omega), if_neg (by omega), if_neg (by omega)]
        have fin : ∀ v, (if nI d = 1 then some (C 50 k, C) else if nI d = 2 then some (C 54 k, C) else if nI d = 3 then some (C 55 k, C) else some (aimS V (dayS V tl n') k, C)) = some (v, C) → (if nI d = 1 then some (D 98 k, D) else if nI d = 2 then some (D 102 k, D) else if nI d = 3 then some (D 103 k, D) else some (aimS V (dayS V tl n') k, D)) = some (v, D) → ∃ v M1 M2, ((fD_ofMaid (nI k) (nI d) C).bind fun w8 => some (w8.1, w8.2)) = some (v, M1) ∧ fM_morning (nI n') a M1 = some (v, M2) ∧ Rel M2 := by
          intro v h1 h2
          exact ⟨v, C, D, by rw [of v h1]; rfl, hb v h2, hD⟩
        by_cases d1 : nI d = 1
        · exact fin (C 50 k) (by rw [if_pos d1]) (by rw [if_pos d1, ← dmk.1, dk.1])
        · by_cases d2 : nI d = 2
          · exact fin (C 54 k) (by rw [if_neg d1, if_pos d2]) (by rw [if_neg d1, if_pos d2, ← dmk.2.2.2.2.1, dk.2.2.2.2.1])
          · by_cases d3 : nI d = 3
            · exact fin (C 55 k) (by rw [if_neg d1, if_neg d2, if_pos d3]) (by rw [if_neg d1, if_neg d2, if_pos d3, ← dmk.2.2.2.2.2, dk.2.2.2.2.2])
            · exact fin _ (by rw [if_neg d1, if_neg d2, if_neg d3]) (by rw [if_neg d1, if_neg d2, if_neg d3])
      · have e8 : ib (a - 50) 8 := by rw [show (50 : Int32) = nI 50 from rfl, sub_ib (by omega)]; omega
        rw [if_neg (by rw [i_lt, t50]; omega), if_pos e8]
        refine ⟨_, C, D, rfl, ?_, hD⟩
        apply mc
        refine ⟨D, ?_, rfl⟩
        unfold fM_morning_b66
        rw [e2]
        simp only [Option.bind_some]
        rw [if_pos (by rw [i_le, t4]; omega), if_neg (by rw [i_le, t49]; omega), if_pos e8, ← dm.2.1 _ (ix_lt e8), q.2.1 _ (ix_lt e8)]
    · rw [if_neg h3]
      refine ⟨-2, M, M, rfl, ?_, hR⟩
      rw [fM_morning_eq m1 m3, if_pos h1, if_neg h3]
  · rw [if_neg h1]
    refine ⟨-2, M, M, rfl, ?_, hR⟩
    rw [fM_morning_eq m1 m3, if_neg h1]
