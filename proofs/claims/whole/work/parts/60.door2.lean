/-! 60: door, film -/
/-- a sheet as both have it -/
theorem SH.there {M : Mem} {s : Nat} (h : SH M s) : (M (77 + 2 * s) 0 = -1 ∧ M 109 s = 0) ∨ ∃ n, n ≤ 40 ∧ (∃ q, q < 3 ∧ M (77 + 2 * s) 0 = nI q) ∧ M (77 + 2 * s) 1 = nI n ∧ M 109 s = 1 ∧ M 111 s = nI n ∧ ∀ i, i < n → M 112 (40 * s + i) = M (78 + 2 * s) i := by
  rcases h with h | ⟨q, n, h1, h2, h3, h4, h5, h6, h7, h8⟩
  · exact Or.inl h
  · exact Or.inr ⟨n, h2, ⟨q, h1, h3⟩, h4, h5, h7, h8⟩
theorem door_1 {V M C0 : Mem} {tl : Tell} {s n k : Nat} (hn : n ≤ 40) (hs : s < 4) (hk : k < vM V) (wd : Wd27 V tl M C0) (mo : MO0 V 4 tl M) (e1 : M (77 + 2 * s) 1 = nI n) (e3 : M 111 s = nI n) (e4 : ∀ i, i < n → M 112 (40 * s + i) = M (78 + 2 * s) i) : ∃ v C D, fN_door_b87 (nI k) 1 (77 + 2 * s) (32 + 2 * k) 6 1000 0 0 C0 = some (v, C) ∧ fM_door_b151 (nI s) (nI k) 1 (C 92 k) 6 1000 0 0 C = some (v, D) ∧ Same M C ∧ LW C ∧ KeepL C D := by
  have vo := mo.1
  have m4 := vo.2.2.1.2
  have g4 : ib (nI k) 4 := ib_nI (by omega) (by omega)
  have vov : ∀ v, v < 6 → VOK (wr V (4 + 0) k (nI v)) := fun v hv => vo.maid (q := 0) (by omega) (fun h => absurd h (by omega)) (fun h => absurd h (by omega))
  have vmv : ∀ x, vM (wr V (4 + 0) k x) = vM V := fun x => by show ix (wr V (4 + 0) k x 0 2) = _; rw [wr_ne (by decide)]
  obtain ⟨C, c1, c2, c3⟩ := door_b87 (M := M) (s := s) (n := n) (k := k) (N := 6) (it := M (78 + 2 * s)) (w := 1) (Vf := fun v => wr V (4 + 0) k (nI v)) (tf := fun _ => tl) (W := fun v C => wr C (32 + 2 * k) 0 (nI v)) (P := fun C => ∃ x, Wd27 (wr V (4 + 0) k x) tl M C) hn hs (by omega) e1 (fun _ _ => rfl) (fun v hv => by rw [vmv]; exact hk) (fun v C hv hC => by
      obtain ⟨x, hx⟩ := hC
      refine hx.put (by omega) (by omega) ?_ (vov v hv)
      have := view_maid (h := 27) (k := k) (q := 0) (x := nI v) (C := C) (by rw [hx.cells.2.1, vmv]; exact hk) (by omega)
      rw [show 27 + 5 + 2 * k = 32 + 2 * k by omega] at this
      rw [this, ← hx.1.2.1, wr_wr]) (fun v C hv hC => ⟨nI v, hC⟩) (fun C hC => by
      obtain ⟨x, hx⟩ := hC
      exact ⟨hx.same, hx.lw⟩) (fun z x v C hv => by
      rw [fN_door_b87, if_neg (by rw [n_le (by omega) (by omega)]; omega), if_pos rfl]) 6 0 1000 0 C0 (by omega) (by omega) ⟨V (4 + 0) k, by rw [wr_self]; exact wd⟩
  have moC := mo.cl c2
  obtain ⟨D, d1, d2⟩ := door_b151 (s := s) (n := n) (k := k) (N := 6) (it := M (78 + 2 * s)) (w := 1) (was := C 92 k) (Vf := fun v => wr V (4 + 0) k (nI v)) (tf := fun _ => tl) (T := fun v D => wr D 92 k (nI v)) (Q := fun D => KeepY 92 C D ∧ ∃ x, D 92 = stS (C 92) k x) (R := fun D => KeepL C D) hn hs (by omega) (fun v hv => by rw [vmv]; exact hk) (fun D hD => by
      rw [hD.1.1 111 (by omega) (by omega) (by omega), hD.1.1 112 (by omega) (by omega) (by omega), c2.1 111 (by omega), c2.1 112 (by omega)]
      exact ⟨e3, e4⟩) (fun v D hv hD => by
      obtain ⟨ky, x, ex⟩ := hD
      have e := wr_stS D 92 k (nI v)
      rw [ex, stS_stS] at e
      have ky2 : KeepY 92 C (wr D 92 k (nI v)) := ky.trans (KeepY.put (by decide))
      refine ⟨?_, moY (q := 0) moC (by omega) (by omega) (vov v hv) ky2 e, ky2, nI v, e⟩
      unfold fM_tries
      rw [if_pos rfl, if_pos g4, ix_nI (by omega)]) (fun D D' hD kl => by
      obtain ⟨ky, x, ex⟩ := hD
      exact ⟨ky.trans kl.y, x, by rw [kl.1 92 (by omega) (by omega)]; exact ex⟩) (fun D hD => by
      obtain ⟨ky, x, ex⟩ := hD
      refine ⟨wr D 92 k (C 92 k), ?_, (ky.trans (KeepY.put (by decide))).l ?_⟩
      · unfold fM_tries
        rw [if_pos rfl, if_pos g4, ix_nI (by omega)]
      · rw [wr_stS, ex, stS_stS]
        exact (stS_self _ _).symm) 6 0 1000 0 C (by omega) (by omega) ⟨KeepY.rfl', C 92 k, stS_self _ _⟩
  exact ⟨_, C, D, c1, d1, c2, c3, d2⟩
theorem door_2 {V M C0 : Mem} {tl : Tell} {s n k : Nat} (hn : n ≤ 40) (hs : s < 4) (hk : k < vM V) (wd : Wd27 V tl M C0) (mo : MO0 V 4 tl M) (e1 : M (77 + 2 * s) 1 = nI n) (e3 : M 111 s = nI n) (e4 : ∀ i, i < n → M 112 (40 * s + i) = M (78 + 2 * s) i) : ∃ v C D, fN_door_b87 (nI k) 2 (77 + 2 * s) (32 + 2 * k) 10 1000 0 0 C0 = some (v, C) ∧ fM_door_b151 (nI s) (nI k) 2 (C 93 k) 10 1000 0 0 C = some (v, D) ∧ Same M C ∧ LW C ∧ KeepL C D := by
  have vo := mo.1
  have m4 := vo.2.2.1.2
  have g4 : ib (nI k) 4 := ib_nI (by omega) (by omega)
  have vov : ∀ v, v < 10 → VOK (wr V (4 + 1) k (nI v)) := fun v hv => vo.maid (q := 1) (by omega) (fun _ => by rw [nI_t (by omega)]; omega) (fun h => absurd h (by omega))
  have vmv : ∀ x, vM (wr V (4 + 1) k x) = vM V := fun x => by show ix (wr V (4 + 1) k x 0 2) = _; rw [wr_ne (by decide)]
  obtain ⟨C, c1, c2, c3⟩ := door_b87 (M := M) (s := s) (n := n) (k := k) (N := 10) (it := M (78 + 2 * s)) (w := 2) (Vf := fun v => wr V (4 + 1) k (nI v)) (tf := fun _ => tl) (W := fun v C => wr C (32 + 2 * k) 1 (nI v)) (P := fun C => ∃ x, Wd27 (wr V (4 + 1) k x) tl M C) hn hs (by omega) e1 (fun _ _ => rfl) (fun v hv => by rw [vmv]; exact hk) (fun v C hv hC => by
      obtain ⟨x, hx⟩ := hC
      refine hx.put (by omega) (by omega) ?_ (vov v hv)
      have := view_maid (h := 27) (k := k) (q := 1) (x := nI v) (C := C) (by rw [hx.cells.2.1, vmv]; exact hk) (by omega)
      rw [show 27 + 5 + 2 * k = 32 + 2 * k by omega] at this
      rw [this, ← hx.1.2.1, wr_wr]) (fun v C hv hC => ⟨nI v, hC⟩) (fun C hC => by
      obtain ⟨x, hx⟩ := hC
      exact ⟨hx.same, hx.lw⟩) (fun z x v C hv => by
      rw [fN_door_b87, if_neg (by rw [n_le (by omega) (by omega)]; omega), if_neg (show ¬ (2 : Int32) = 1 by decide), if_pos rfl]) 10 0 1000 0 C0 (by omega) (by omega) ⟨V (4 + 1) k, by rw [wr_self]; exact wd⟩
  have moC := mo.cl c2
  obtain ⟨D, d1, d2⟩ := door_b151 (s := s) (n := n) (k := k) (N := 10) (it := M (78 + 2 * s)) (w := 2) (was := C 93 k) (Vf := fun v => wr V (4 + 1) k (nI v)) (tf := fun _ => tl) (T := fun v D => wr D 93 k (nI v)) (Q := fun D => KeepY 93 C D ∧ ∃ x, D 93 = stS (C 93) k x) (R := fun D => KeepL C D) hn hs (by omega) (fun v hv => by rw [vmv]; exact hk) (fun D hD => by
      rw [hD.1.1 111 (by omega) (by omega) (by omega), hD.1.1 112 (by omega) (by omega) (by omega), c2.1 111 (by omega), c2.1 112 (by omega)]
      exact ⟨e3, e4⟩) (fun v D hv hD => by
      obtain ⟨ky, x, ex⟩ := hD
      have e := wr_stS D 93 k (nI v)
      rw [ex, stS_stS] at e
      have ky2 : KeepY 93 C (wr D 93 k (nI v)) := ky.trans (KeepY.put (by decide))
      refine ⟨?_, moY (q := 1) moC (by omega) (by omega) (vov v hv) ky2 e, ky2, nI v, e⟩
      unfold fM_tries fM_tries_b39 fM_lays
      rw [if_neg (show ¬ (2 : Int32) = 1 by decide), if_neg (show ¬ (2 : Int32) = 4 by decide), if_pos rfl, if_neg (show ¬ (4 : Int32) = 0 by decide), if_neg (show ¬ (4 : Int32) = 1 by decide), if_neg (show ¬ (4 : Int32) = 2 by decide), if_neg (show ¬ (4 : Int32) = 3 by decide), if_pos rfl, if_pos g4, ix_nI (by omega)]
      rfl) (fun D D' hD kl => by
      obtain ⟨ky, x, ex⟩ := hD
      exact ⟨ky.trans kl.y, x, by rw [kl.1 93 (by omega) (by omega)]; exact ex⟩) (fun D hD => by
      obtain ⟨ky, x, ex⟩ := hD
      refine ⟨wr D 93 k (C 93 k), ?_, (ky.trans (KeepY.put (by decide))).l ?_⟩
      · unfold fM_tries fM_tries_b39 fM_lays
        rw [if_neg (show ¬ (2 : Int32) = 1 by decide), if_neg (show ¬ (2 : Int32) = 4 by decide), if_pos rfl, if_neg (show ¬ (4 : Int32) = 0 by decide), if_neg (show ¬ (4 : Int32) = 1 by decide), if_neg (show ¬ (4 : Int32) = 2 by decide), if_neg (show ¬ (4 : Int32) = 3 by decide), if_pos rfl, if_pos g4, ix_nI (by omega)]
        rfl
      · rw [wr_stS, ex, stS_stS]
        exact (stS_self _ _).symm) 10 0 1000 0 C (by omega) (by omega) ⟨KeepY.rfl', C 93 k, stS_self _ _⟩
  exact ⟨_, C, D, c1, d1, c2, c3, d2⟩
theorem door_3 {V M C0 : Mem} {tl : Tell} {s n k : Nat} (hn : n ≤ 40) (hs : s < 4) (hk : k < vM V) (wd : Wd27 V tl M C0) (mo : MO0 V 4 tl M) (e1 : M (77 + 2 * s) 1 = nI n) (e3 : M 111 s = nI n) (e4 : ∀ i, i < n → M 112 (40 * s + i) = M (78 + 2 * s) i) : ∃ v C D, fN_door_b87 (nI k) 3 (77 + 2 * s) (32 + 2 * k) 8 1000 0 0 C0 = some (v, C) ∧ fM_door_b151 (nI s) (nI k) 3 (C 94 k) 8 1000 0 0 C = some (v, D) ∧ Same M C ∧ LW C ∧ KeepL C D := by
  have vo := mo.1
  have m4 := vo.2.2.1.2
  have g4 : ib (nI k) 4 := ib_nI (by omega) (by omega)
  have vov : ∀ v, v < 8 → VOK (wr V (4 + 2) k (nI v)) := fun v hv => vo.maid (q := 2) (by omega) (fun h => absurd h (by omega)) (fun _ => ib_nI (by omega) (by omega))
  have vmv : ∀ x, vM (wr V (4 + 2) k x) = vM V := fun x => by show ix (wr V (4 + 2) k x 0 2) = _; rw [wr_ne (by decide)]
  obtain ⟨C, c1, c2, c3⟩ := door_b87 (M := M) (s := s) (n := n) (k := k) (N := 8) (it := M (78 + 2 * s)) (w := 3) (Vf := fun v => wr V (4 + 2) k (nI v)) (tf := fun _ => tl) (W := fun v C => wr C (32 + 2 * k) 2 (nI v)) (P := fun C => ∃ x, Wd27 (wr V (4 + 2) k x) tl M C) hn hs (by omega) e1 (fun _ _ => rfl) (fun v hv => by rw [vmv]; exact hk) (fun v C hv hC => by
      obtain ⟨x, hx⟩ := hC
      refine hx.put (by omega) (by omega) ?_ (vov v hv)
      have := view_maid (h := 27) (k := k) (q := 2) (x := nI v) (C := C) (by rw [hx.cells.2.1, vmv]; exact hk) (by omega)
      rw [show 27 + 5 + 2 * k = 32 + 2 * k by omega] at this
      rw [this, ← hx.1.2.1, wr_wr]) (fun v C hv hC => ⟨nI v, hC⟩) (fun C hC => by
      obtain ⟨x, hx⟩ := hC
      exact ⟨hx.same, hx.lw⟩) (fun z x v C hv => by
      rw [fN_door_b87, if_neg (by rw [n_le (by omega) (by omega)]; omega), if_neg (show ¬ (3 : Int32) = 1 by decide), if_neg (show ¬ (3 : Int32) = 2 by decide), if_pos rfl]) 8 0 1000 0 C0 (by omega) (by omega) ⟨V (4 + 2) k, by rw [wr_self]; exact wd⟩
  have moC := mo.cl c2
  obtain ⟨D, d1, d2⟩ := door_b151 (s := s) (n := n) (k := k) (N := 8) (it := M (78 + 2 * s)) (w := 3) (was := C 94 k) (Vf := fun v => wr V (4 + 2) k (nI v)) (tf := fun _ => tl) (T := fun v D => wr D 94 k (nI v)) (Q := fun D => KeepY 94 C D ∧ ∃ x, D 94 = stS (C 94) k x) (R := fun D => KeepL C D) hn hs (by omega) (fun v hv => by rw [vmv]; exact hk) (fun D hD => by
      rw [hD.1.1 111 (by omega) (by omega) (by omega), hD.1.1 112 (by omega) (by omega) (by omega), c2.1 111 (by omega), c2.1 112 (by omega)]
      exact ⟨e3, e4⟩) (fun v D hv hD => by
      obtain ⟨ky, x, ex⟩ := hD
      have e := wr_stS D 94 k (nI v)
      rw [ex, stS_stS] at e
      have ky2 : KeepY 94 C (wr D 94 k (nI v)) := ky.trans (KeepY.put (by decide))
      refine ⟨?_, moY (q := 2) moC (by omega) (by omega) (vov v hv) ky2 e, ky2, nI v, e⟩
      unfold fM_tries fM_tries_b39 fM_lays
      rw [if_neg (show ¬ (3 : Int32) = 1 by decide), if_neg (show ¬ (3 : Int32) = 4 by decide), if_neg (show ¬ (3 : Int32) = 2 by decide), if_neg (show ¬ (5 : Int32) = 0 by decide), if_neg (show ¬ (5 : Int32) = 1 by decide), if_neg (show ¬ (5 : Int32) = 2 by decide), if_neg (show ¬ (5 : Int32) = 3 by decide), if_neg (show ¬ (5 : Int32) = 4 by decide), if_pos g4, ix_nI (by omega)]
      rfl) (fun D D' hD kl => by
      obtain ⟨ky, x, ex⟩ := hD
      exact ⟨ky.trans kl.y, x, by rw [kl.1 94 (by omega) (by omega)]; exact ex⟩) (fun D hD => by
      obtain ⟨ky, x, ex⟩ := hD
      refine ⟨wr D 94 k (C 94 k), ?_, (ky.trans (KeepY.put (by decide))).l ?_⟩
      · unfold fM_tries fM_tries_b39 fM_lays
        rw [if_neg (show ¬ (3 : Int32) = 1 by decide), if_neg (show ¬ (3 : Int32) = 4 by decide), if_neg (show ¬ (3 : Int32) = 2 by decide), if_neg (show ¬ (5 : Int32) = 0 by decide), if_neg (show ¬ (5 : Int32) = 1 by decide), if_neg (show ¬ (5 : Int32) = 2 by decide), if_neg (show ¬ (5 : Int32) = 3 by decide), if_neg (show ¬ (5 : Int32) = 4 by decide), if_pos g4, ix_nI (by omega)]
        rfl
      · rw [wr_stS, ex, stS_stS]
        exact (stS_self _ _).symm) 8 0 1000 0 C (by omega) (by omega) ⟨KeepY.rfl', C 94 k, stS_self _ _⟩
  exact ⟨_, C, D, c1, d1, c2, c3, d2⟩
theorem door_4 {V M C0 : Mem} {tl : Tell} {s n k N : Nat} (hn : n ≤ 40) (hs : s < 4) (hN : N ≤ 6) (hk : k < vM V) (wd : Wd27 V tl M C0) (mo : MO0 V 4 tl M) (ct : ∀ t, t < N → TX t M) (e1 : M (77 + 2 * s) 1 = nI n) (e3 : M 111 s = nI n) (e4 : ∀ i, i < n → M 112 (40 * s + i) = M (78 + 2 * s) i) : ∃ v C D, fN_door_b87 (nI k) 4 (77 + 2 * s) (32 + 2 * k) (nI N) 1000 0 0 C0 = some (v, C) ∧ fM_door_b151 (nI s) (nI k) 4 (C 85 4) (nI N) 1000 0 0 C = some (v, D) ∧ Same M C ∧ LW C ∧ KeepL C D := by
  have vo := mo.1
  have m4 := vo.2.2.1.2
  obtain ⟨C, c1, c2, c3⟩ := door_b87 (M := M) (s := s) (n := n) (k := k) (N := N) (it := M (78 + 2 * s)) (w := 4) (Vf := fun _ => V) (tf := fun v => tlC (M (60 + 3 * v)) (M (61 + 3 * v))) (W := fun v C => wr C 27 3 (nI v)) (P := fun C => ∃ tl', Wd27 V tl' M C) hn hs (by omega) e1 (fun _ _ => rfl) (fun v hv => hk) (fun v C hv hC => by
      obtain ⟨tl', hx⟩ := hC
      refine ⟨⟨by decide, by rw [view_rule]; exact hx.1.2.1, vo, by rw [wr_same]; exact ib_nI (by omega) (by omega), ?_, hx.lw.same (by rw [wr_ne (by decide)]) (wr_ne (by decide))⟩, fun a h1 h2 => by rw [wr_ne (by omega)]; exact hx.2 a h1 h2⟩
      rw [wr_same, ix_nI (by omega), wr_ne (by omega), wr_ne (by omega), hx.2 _ (by omega) (by omega), hx.2 _ (by omega) (by omega)]
      exact VCl_of (by omega) (ct v hv).1) (fun v C hv hC => ⟨_, hC⟩) (fun C hC => by
      obtain ⟨tl', hx⟩ := hC
      exact ⟨hx.same, hx.lw⟩) (fun z x v C hv => by
      rw [fN_door_b87, if_neg (by rw [n_le (by omega) (by omega)]; omega), if_neg (show ¬ (4 : Int32) = 1 by decide), if_neg (show ¬ (4 : Int32) = 2 by decide), if_neg (show ¬ (4 : Int32) = 3 by decide), if_pos rfl]) N 0 1000 0 C0 (by omega) (by omega) ⟨tl, wd⟩
  have moC := mo.cl c2
  have keepQ : ∀ D, ((∀ a, a ≠ 85 → (a < 97 ∨ 104 < a) → D a = C a) ∧ ∀ j, j ≠ 4 → (j < 21 ∨ (36 ≤ j ∧ j ≠ 43 ∧ j ≠ 44 ∧ j ≠ 132)) → D 85 j = C 85 j) → ∀ x, (∀ a, a ≠ 85 → (a < 97 ∨ 104 < a) → wr D 85 4 x a = C a) ∧ ∀ j, j ≠ 4 → (j < 21 ∨ (36 ≤ j ∧ j ≠ 43 ∧ j ≠ 44 ∧ j ≠ 132)) → wr D 85 4 x 85 j = C 85 j := fun D hD x => ⟨fun a h1 h2 => by rw [wr_ne h1]; exact hD.1 a h1 h2, fun j h1 h2 => by rw [wr_at h1]; exact hD.2 j h1 h2⟩
  obtain ⟨D, d1, d2⟩ := door_b151 (s := s) (n := n) (k := k) (N := N) (it := M (78 + 2 * s)) (w := 4) (was := C 85 4) (Vf := fun _ => V) (tf := fun v => tlC (M (60 + 3 * v)) (M (61 + 3 * v))) (T := fun v D => wr D 85 4 (nI v)) (Q := fun D => (∀ a, a ≠ 85 → (a < 97 ∨ 104 < a) → D a = C a) ∧ ∀ j, j ≠ 4 → (j < 21 ∨ (36 ≤ j ∧ j ≠ 43 ∧ j ≠ 44 ∧ j ≠ 132)) → D 85 j = C 85 j) (R := fun D => KeepL C D) hn hs (by omega) (fun v hv => hk) (fun D hD => by
      rw [hD.1 111 (by omega) (by omega), hD.1 112 (by omega) (by omega), c2.1 111 (by omega), c2.1 112 (by omega)]
      exact ⟨e3, e4⟩) (fun v D hv hD => by
      refine ⟨rfl, ⟨vo, ?_, ?_⟩, keepQ D hD _⟩
      · have mv := moC.2.1
        unfold MV at mv ⊢
        rw [wr_at (show 7 ≠ 4 by decide), wr_at (show 11 ≠ 4 by decide), wr_at (show 17 ≠ 4 by decide), wr_at (show 18 ≠ 4 by decide), hD.2 7 (by omega) (by omega), hD.2 11 (by omega) (by omega), hD.2 17 (by omega) (by omega), hD.2 18 (by omega) (by omega), wr_ne (show 89 ≠ 85 by decide), wr_ne (show 90 ≠ 85 by decide), wr_ne (show 91 ≠ 85 by decide), wr_ne (show 92 ≠ 85 by decide), wr_ne (show 93 ≠ 85 by decide), wr_ne (show 94 ≠ 85 by decide), wr_ne (show 95 ≠ 85 by decide), wr_ne (show 96 ≠ 85 by decide), hD.1 89 (by omega) (by omega), hD.1 90 (by omega) (by omega), hD.1 91 (by omega) (by omega), hD.1 92 (by omega) (by omega), hD.1 93 (by omega) (by omega), hD.1 94 (by omega) (by omega), hD.1 95 (by omega) (by omega), hD.1 96 (by omega) (by omega)]
        exact mv
      · rw [wr_same, wr_ne (by decide), wr_ne (by decide), hD.1 86 (by omega) (by omega), hD.1 87 (by omega) (by omega), c2.1 86 (by omega), c2.1 87 (by omega)]
        exact (ct v hv).vmo) (fun D D' hD kl => ⟨fun a h1 h2 => (kl.1 a h1 h2).trans (hD.1 a h1 h2), fun j h1 h2 => (kl.2 j h2).trans (hD.2 j h1 h2)⟩) (fun D hD => ⟨wr D 85 4 (C 85 4), rfl, fun a h1 h2 => (keepQ D hD _).1 a h1 h2, fun j hj => by
        by_cases h4 : j = 4
        · rw [h4, wr_same]
        · exact (keepQ D hD _).2 j h4 hj⟩) N 0 1000 0 C (by omega) (by omega) ⟨fun _ _ _ => rfl, fun _ _ _ => rfl⟩
  exact ⟨_, C, D, c1, d1, c2, c3, d2⟩
theorem op_door (a b w : Int32) : Op (fN_door a b w) (fM_door a b w) := by
  intro M hR
  have hRH := hR.2.2.2.2.2.2.1
  obtain ⟨m, m1, m2, m3, m4⟩ := hR.2.2.2.1
  obtain ⟨c, r, c1, c2, c3, c4, r1, r2, r3, ct⟩ := hR.2.2.2.2.1
  unfold fN_door
  simp only [fN_w4, fN_w5, m2, fN_w _ m _ (show m < 2147483648 by omega), Option.bind_some, bz_0]
  by_cases g1 : ib a 4
  · rw [if_neg (nn g1)]
    by_cases g2 : ib b m
    · rw [if_neg (nn g2)]
      by_cases g3 : ib w 5
      · rw [if_neg (nn g3), if_pos g1]
        have g24 := ib_mono g2 m1
        obtain ⟨s, hs, rfl⟩ := ib_ex g1
        obtain ⟨k, hk, rfl⟩ := ib_ex g2
        rw [ix_nI (show s < 2147483648 by omega), ix_nI (show k < 2147483648 by omega)]
        rcases (hRH s hs).there with ⟨x1, x2⟩ | ⟨n, x2, ⟨q, x1, x3⟩, x4, x5, x7, x8⟩
        · rw [miss_1 x1]
          refine ⟨-11, M, M, rfl, ?_, hR⟩
          unfold fM_door
          rw [fM_s4]
          simp only [Option.bind_some, bz_0]
          rw [if_neg (nn g1), fM_mm _ _ m1 m3]
          simp only [Option.bind_some, bz_0]
          rw [if_neg (nn g2), fM_i5]
          simp only [Option.bind_some, bz_0]
          rw [if_neg (nn g3), if_pos g1, ix_nI (by omega), x2, if_pos rfl]
        · rw [miss_0 x1 x3]
          simp only [Option.bind_some, if_true]
          obtain ⟨tl, C0, e1, wd, mo, vo, -, -⟩ := hR.would
          have evm : vM (viewC 1 M) = m := by
            show ix (M 1 2) = m
            rw [m2, ix_nI (by omega)]
          have hkv : k < vM (viewC 1 M) := by rw [evm]; exact hk
          rw [e1]
          simp only [Option.bind_some]
          rw [if_pos g24]
          have mod : ∀ C : Mem, Same M C → fM_door (nI s) (nI k) w C = (if w = 0 then
            (fM_isSo (nI s) (nI k) C).bind fun w4 =>
            if w4.1 = 0 then
              some (0, w4.2)
            else
              some (1, w4.2)
          else
            if w = 1 then fM_door_b107 (nI s) (nI k) w (C 92 k) C
            else
              if w = 2 then fM_door_b107 (nI s) (nI k) w (C 93 k) C
              else
                if w = 3 then fM_door_b107 (nI s) (nI k) w (C 94 k) C
                else
                  fM_door_b107 (nI s) (nI k) w (C 85 4) C) := by
            intro C sC
            unfold fM_door
            rw [fM_s4]
            simp only [Option.bind_some, bz_0]
            rw [if_neg (nn g1), fM_mm _ _ m1 (by rw [sC.2.2.2.2 17 (by omega)]; exact m3)]
            simp only [Option.bind_some, bz_0]
            rw [if_neg (nn g2), fM_i5]
            simp only [Option.bind_some, bz_0]
            rw [if_neg (nn g3), if_pos g1, ix_nI (show s < 2147483648 by omega), ix_nI (show k < 2147483648 by omega), sC.1 109 (by omega), x5, if_neg (show ¬ (1 : Int32) = 0 by decide), if_pos g24, if_pos g24, if_pos g24]
          obtain ⟨q', hq', rfl⟩ := ib_ex g3
          have fin : ∀ (v : Int32) (C D : Mem), Same M C → LW C → KeepL C D → Rel D := fun v C D sC lC kD => (hR.same sC lC).same kD.s (kD.lw lC)
          rcases (by omega : q' = 0 ∨ q' = 1 ∨ q' = 2 ∨ q' = 3 ∨ q' = 4) with rfl | rfl | rfl | rfl | rfl
          · -- whether it is so
            obtain ⟨C1, d1, d2⟩ := door_C (it := M (78 + 2 * s)) wd x2 hkv hs x4 (fun _ _ => rfl)
            obtain ⟨D, f1, f2⟩ := door_M (it := M (78 + 2 * s)) (mo.cl d2.same) x2 hkv hs (by rw [d2.same.1 111 (by omega)]; exact x7) (fun i hi => by rw [d2.same.1 112 (by omega)]; exact x8 i hi)
            have ch : fN_doorChoices (nI 0) C0 = some (1, C0) := rfl
            rw [ch, Option.bind_some]
            have cl : fN_door_b87 (nI k) (nI 0) (77 + 2 * s) (32 + 2 * k) 1 1000 0 0 C0 = some (if soF (viewC 1 M) tl k (M (78 + 2 * s)) n 0 = true then 1 else 0, C1) := by
              show fN_door_b87 (nI k) (nI 0) (77 + 2 * s) (32 + 2 * k) 1 (998 + 1 + 1) 0 0 C0 = _
              rw [fN_door_b87, if_neg (by decide), if_neg (show ¬ nI 0 = 1 by decide), if_neg (show ¬ nI 0 = 2 by decide), if_neg (show ¬ nI 0 = 3 by decide), if_neg (show ¬ nI 0 = 4 by decide)]
              unfold fN_door_b153 fN_door_b172
              rw [d1, Option.bind_some]
              by_cases h : soF (viewC 1 M) tl k (M (78 + 2 * s)) n 0 = true
              · rw [if_neg (show ¬ bz (soF (viewC 1 M) tl k (M (78 + 2 * s)) n 0 = true) = 0 by rw [bz_0]; exact nn h), if_pos h, fN_door_b87, if_pos (by decide)]
                rfl
              · rw [if_pos (show bz (soF (viewC 1 M) tl k (M (78 + 2 * s)) n 0 = true) = 0 by rw [bz_0]; exact h), if_neg h, fN_door_b87, if_pos (by decide)]
            refine ⟨_, C1, D, cl, ?_, fin 0 C1 D d2.same d2.lw f2⟩
            rw [mod C1 d2.same, if_pos (show nI 0 = 0 from rfl), f1]
            simp only [Option.bind_some, bz_0]
            by_cases h : soF (viewC 1 M) tl k (M (78 + 2 * s)) n 0 = true
            · rw [if_neg (nn h), if_pos h]
            · rw [if_pos h, if_neg h]
          · obtain ⟨v, C, D, d1, d2, d3, d4, d5⟩ := door_1 x2 hs hkv wd mo x4 x7 x8
            have ch : fN_doorChoices (nI 1) C0 = some (6, C0) := rfl
            rw [ch, Option.bind_some]
            refine ⟨v, C, D, d1, ?_, fin 0 C D d3 d4 d5⟩
            rw [mod C d3, if_neg (show ¬ nI 1 = 0 by decide), if_pos (show nI 1 = 1 from rfl)]
            unfold fM_door_b107 fM_door_b143
            rw [if_pos (show nI 1 = 1 from rfl)]
            exact d2
          · obtain ⟨v, C, D, d1, d2, d3, d4, d5⟩ := door_2 x2 hs hkv wd mo x4 x7 x8
            have ch : fN_doorChoices (nI 2) C0 = some (10, C0) := rfl
            rw [ch, Option.bind_some]
            refine ⟨v, C, D, d1, ?_, fin 0 C D d3 d4 d5⟩
            rw [mod C d3, if_neg (show ¬ nI 2 = 0 by decide), if_neg (show ¬ nI 2 = 1 by decide), if_pos (show nI 2 = 2 from rfl)]
            unfold fM_door_b107 fM_door_b143
            rw [if_neg (show ¬ nI 2 = 1 by decide), if_pos (show nI 2 = 2 from rfl)]
            exact d2
          · obtain ⟨v, C, D, d1, d2, d3, d4, d5⟩ := door_3 x2 hs hkv wd mo x4 x7 x8
            have ch : fN_doorChoices (nI 3) C0 = some (8, C0) := rfl
            rw [ch, Option.bind_some]
            refine ⟨v, C, D, d1, ?_, fin 0 C D d3 d4 d5⟩
            rw [mod C d3, if_neg (show ¬ nI 3 = 0 by decide), if_neg (show ¬ nI 3 = 1 by decide), if_neg (show ¬ nI 3 = 2 by decide), if_pos (show nI 3 = 3 from rfl)]
            unfold fM_door_b107 fM_door_b143
            rw [if_neg (show ¬ nI 3 = 1 by decide), if_neg (show ¬ nI 3 = 2 by decide), if_pos (show nI 3 = 3 from rfl)]
            exact d2
          · obtain ⟨v, C, D, d1, d2, d3, d4, d5⟩ := door_4 x2 hs c2 hkv wd mo ct x4 x7 x8
            have ch : fN_doorChoices (nI 4) C0 = some (C0 0 6, C0) := rfl
            rw [ch, Option.bind_some]
            rw [wd.2 0 (by omega) (by omega), c3]
            refine ⟨v, C, D, d1, ?_, fin 0 C D d3 d4 d5⟩
            rw [mod C d3, if_neg (show ¬ nI 4 = 0 by decide), if_neg (show ¬ nI 4 = 1 by decide), if_neg (show ¬ nI 4 = 2 by decide), if_neg (show ¬ nI 4 = 3 by decide)]
            unfold fM_door_b107 fM_door_b143
            rw [if_neg (show ¬ nI 4 = 1 by decide), if_neg (show ¬ nI 4 = 2 by decide), if_neg (show ¬ nI 4 = 3 by decide), d3.2.2.2.2 3 (by omega), c4]
            exact d2
      · refine ⟨-2, M, M, by rw [if_pos g3], ?_, hR⟩
        unfold fM_door
        rw [fM_s4]
        simp only [Option.bind_some, bz_0]
        rw [if_neg (nn g1), fM_mm _ _ m1 m3]
        simp only [Option.bind_some, bz_0]
        rw [if_neg (nn g2), fM_i5]
        simp only [Option.bind_some, bz_0]
        rw [if_pos g3]
    · refine ⟨-2, M, M, by rw [if_pos g2], ?_, hR⟩
      unfold fM_door
      rw [fM_s4]
      simp only [Option.bind_some, bz_0]
      rw [if_neg (nn g1), fM_mm _ _ m1 m3]
      simp only [Option.bind_some, bz_0]
      rw [if_pos g2]
  · refine ⟨-2, M, M, by rw [if_pos g1], ?_, hR⟩
    unfold fM_door
    rw [fM_s4]
    simp only [Option.bind_some, bz_0]
    rw [if_pos g1]
