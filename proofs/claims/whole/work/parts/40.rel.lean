/-! 40: how the class and the model stand to each other -/
def RS (M : Mem) : Prop := ∃ s, s < 4 ∧ M 1 0 = nI s ∧ M 85 7 = nI s
def RTY (M : Mem) : Prop := ∃ n, n ≤ 8 ∧ M 1 1 = nI n ∧ M 85 11 = nI n ∧ ∀ i, i < n → ib (M 2 i) 8 ∧ M 90 i = M 2 i ∧ (1 ≤ (M 3 i).toInt ∧ (M 3 i).toInt ≤ 50) ∧ M 91 i = M 3 i
def RW (M : Mem) : Prop := ∀ r, r < 8 → ib (M 4 r) 100 ∧ M 89 r = M 4 r
def MD (M : Mem) (k : Nat) : Prop := (ib (M (6 + 2 * k) 0) 6 ∧ M 92 k = M (6 + 2 * k) 0) ∧ (ib (M (6 + 2 * k) 1) 10 ∧ M 93 k = M (6 + 2 * k) 1) ∧ (ib (M (6 + 2 * k) 2) 8 ∧ M 94 k = M (6 + 2 * k) 2) ∧ ∃ l, l ≤ 5 ∧ M (6 + 2 * k) 3 = nI l ∧ M 96 k = nI l ∧ ∀ i, i < l → ib (M (7 + 2 * k) i) 8 ∧ M 95 (5 * k + i) = M (7 + 2 * k) i
def RM (M : Mem) : Prop := ∃ m, m ≤ 4 ∧ M 1 2 = nI m ∧ M 85 17 = nI m ∧ ∀ k, k < m → MD M k
def RX (M : Mem) : Prop := ∃ c r, 1 ≤ c ∧ c ≤ 6 ∧ M 0 6 = nI c ∧ M 85 3 = nI c ∧ r < c ∧ M 1 3 = nI r ∧ M 85 4 = nI r ∧ ∀ t, t < c → TX t M
def RP (M : Mem) : Prop := ∃ n, n ≤ 160 ∧ M 40 1 = nI n ∧ M 85 6 = nI n ∧ ∀ i, i < n → M 88 i = M 41 i ∧ ib (M 41 i) 256
def SH (M : Mem) (s : Nat) : Prop := (M (77 + 2 * s) 0 = -1 ∧ M 109 s = 0) ∨ ∃ q n, q < 3 ∧ n ≤ 40 ∧ M (77 + 2 * s) 0 = nI q ∧ M (77 + 2 * s) 1 = nI n ∧ M 109 s = 1 ∧ M 110 s = nI q ∧ M 111 s = nI n ∧ ∀ i, i < n → M 112 (40 * s + i) = M (78 + 2 * s) i
def RH (M : Mem) : Prop := ∀ s, s < 4 → SH M s
def KD (M : Mem) (k : Nat) : Prop := (ib (M (19 + 2 * k) 0) 6 ∧ M 92 k = M (19 + 2 * k) 0) ∧ (ib (M (19 + 2 * k) 1) 10 ∧ M 108 k = M (19 + 2 * k) 1) ∧ (ib (M (19 + 2 * k) 2) 8 ∧ M 108 (4 + k) = M (19 + 2 * k) 2) ∧ ∃ l, l ≤ 5 ∧ M (19 + 2 * k) 3 = nI l ∧ M 108 (8 + k) = nI l ∧ ∀ i, i < l → ib (M (20 + 2 * k) i) 8 ∧ M 108 (12 + (5 * k + i)) = M (20 + 2 * k) i
def KP (M : Mem) : Prop := (∃ s, s < 4 ∧ M 14 0 = nI s ∧ M 85 52 = nI s) ∧ (∃ n, n ≤ 8 ∧ M 14 1 = nI n ∧ M 85 53 = nI n ∧ ∀ i, i < n → ib (M 15 i) 8 ∧ M 107 (8 + i) = M 15 i ∧ (1 ≤ (M 16 i).toInt ∧ (M 16 i).toInt ≤ 50) ∧ M 107 (16 + i) = M 16 i) ∧ (∀ r, r < 8 → ib (M 17 r) 100 ∧ M 107 r = M 17 r) ∧ (∃ m, m ≤ 4 ∧ M 14 2 = nI m ∧ M 85 51 = nI m ∧ m ≤ ix (M 1 2) ∧ ∀ k, k < m → KD M k) ∧ ∃ r, r < ix (M 0 6) ∧ r < 6 ∧ M 14 3 = nI r ∧ M 85 54 = nI r
def RK (M : Mem) : Prop := (M 0 3 = 0 ∧ M 85 51 = -1) ∨ (M 0 3 ≠ 0 ∧ KP M)
def RA (M : Mem) : Prop := M 85 18 = -1 ∧ LW M
def Rel (M : Mem) : Prop := RS M ∧ RTY M ∧ RW M ∧ RM M ∧ RX M ∧ RP M ∧ RH M ∧ RK M ∧ RA M
/-! what each part looks at -/
theorem RS.same {M N : Mem} (h : RS M) (a : N 1 0 = M 1 0) (b : N 85 7 = M 85 7) : RS N := by unfold RS; rw [a, b]; exact h
theorem RTY.same {M N : Mem} (h : RTY M) (a : N 1 1 = M 1 1) (b : N 85 11 = M 85 11) (c : N 2 = M 2) (d : N 3 = M 3) (e : N 90 = M 90) (f : N 91 = M 91) : RTY N := by unfold RTY; rw [a, b, c, d, e, f]; exact h
theorem RW.same {M N : Mem} (h : RW M) (a : N 4 = M 4) (b : N 89 = M 89) : RW N := by unfold RW; rw [a, b]; exact h
theorem MD.same {M N : Mem} {k : Nat} (h : MD M k) (a : N (6 + 2 * k) = M (6 + 2 * k)) (b : N (7 + 2 * k) = M (7 + 2 * k)) (c : N 92 = M 92) (d : N 93 = M 93) (e : N 94 = M 94) (f : N 95 = M 95) (g : N 96 = M 96) : MD N k := by unfold MD; rw [a, b, c, d, e, f, g]; exact h
theorem RM.same {M N : Mem} (h : RM M) (a : N 1 2 = M 1 2) (b : N 85 17 = M 85 17) (z : ∀ x, 6 ≤ x → x < 14 → N x = M x) (c : N 92 = M 92) (d : N 93 = M 93) (e : N 94 = M 94) (f : N 95 = M 95) (g : N 96 = M 96) : RM N := by
  obtain ⟨m, h1, h2, h3, h4⟩ := h
  exact ⟨m, h1, a.trans h2, b.trans h3, fun k hk => (h4 k hk).same (z _ (by omega) (by omega)) (z _ (by omega) (by omega)) c d e f g⟩
theorem TX.same {t : Nat} {M N : Mem} (h : TX t M) (a : N (60 + 3 * t) = M (60 + 3 * t)) (b : N (61 + 3 * t) = M (61 + 3 * t)) (c : N 87 t = M 87 t) (d : ∀ i, i < 160 → N 86 (160 * t + i) = M 86 (160 * t + i)) : TX t N := by
  unfold TX
  rw [a, b]
  obtain ⟨h1, n, T, h2, h3, h4, h5⟩ := h
  exact ⟨h1, n, T, h2, c.trans h3, fun i hi => (d i (by omega)).trans (h4 i hi), h5⟩
theorem RX.same {M N : Mem} (h : RX M) (a : N 0 6 = M 0 6) (b : N 85 3 = M 85 3) (c : N 1 3 = M 1 3) (d : N 85 4 = M 85 4) (z : ∀ x, 59 ≤ x → x < 77 → N x = M x) (e : N 86 = M 86) (f : N 87 = M 87) : RX N := by
  obtain ⟨n, r, h1, h2, h3, h4, h5, h6, h7, h8⟩ := h
  exact ⟨n, r, h1, h2, a.trans h3, b.trans h4, h5, c.trans h6, d.trans h7, fun t ht => (h8 t ht).same (z _ (by omega) (by omega)) (z _ (by omega) (by omega)) (by rw [f]) (fun i _ => by rw [e])⟩
theorem RP.same {M N : Mem} (h : RP M) (a : N 40 1 = M 40 1) (b : N 85 6 = M 85 6) (c : N 41 = M 41) (d : N 88 = M 88) : RP N := by unfold RP; rw [a, b, c, d]; exact h
theorem SH.same {M N : Mem} {s : Nat} (h : SH M s) (a : N (77 + 2 * s) = M (77 + 2 * s)) (b : N (78 + 2 * s) = M (78 + 2 * s)) (c : N 109 s = M 109 s) (d : N 110 s = M 110 s) (e : N 111 s = M 111 s) (f : ∀ i, i < 40 → N 112 (40 * s + i) = M 112 (40 * s + i)) : SH N s := by
  unfold SH
  rw [a, b, c, d, e]
  rcases h with h | ⟨q, n, h1, h2, h3, h4, h5, h6, h7, h8⟩
  · exact Or.inl h
  · exact Or.inr ⟨q, n, h1, h2, h3, h4, h5, h6, h7, fun i hi => (f i (by omega)).trans (h8 i hi)⟩
theorem RH.same {M N : Mem} (h : RH M) (z : ∀ x, 77 ≤ x → x < 85 → N x = M x) (c : N 109 = M 109) (d : N 110 = M 110) (e : N 111 = M 111) (f : N 112 = M 112) : RH N := fun s hs => (h s hs).same (z _ (by omega) (by omega)) (z _ (by omega) (by omega)) (by rw [c]) (by rw [d]) (by rw [e]) (fun _ _ => by rw [f])
theorem KD.same {M N : Mem} {k : Nat} (h : KD M k) (a : N (19 + 2 * k) = M (19 + 2 * k)) (b : N (20 + 2 * k) = M (20 + 2 * k)) (c : N 92 k = M 92 k) (d : N 108 = M 108) : KD N k := by unfold KD; rw [a, b, c, d]; exact h
theorem RK.same {M N : Mem} (h : RK M) (a : N 0 3 = M 0 3) (z : ∀ x, 14 ≤ x → x < 27 → N x = M x) (b : ∀ j, 51 ≤ j → j ≤ 54 → N 85 j = M 85 j) (c : N 107 = M 107) (d : N 108 = M 108) (e : ∀ k, k < ix (M 1 2) → k < 4 → N 92 k = M 92 k) (f : ix (M 1 2) ≤ ix (N 1 2)) (g : ix (M 0 6) ≤ ix (N 0 6)) : RK N := by
  unfold RK
  rw [a, b 51 (by omega) (by omega)]
  rcases h with h | ⟨h0, h1, h2, h3, ⟨m, h4, h5, h6, h7, h8⟩, r, h9, h10, h11, h12⟩
  · exact Or.inl h
  · refine Or.inr ⟨h0, ?_, ?_, ?_, ⟨m, h4, by rw [z 14 (by omega) (by omega)]; exact h5, by rw [b 51 (by omega) (by omega)]; exact h6, by omega, fun k hk => (h8 k hk).same (z _ (by omega) (by omega)) (z _ (by omega) (by omega)) (e k (by omega) (by omega)) d⟩, r, by omega, h10, by rw [z 14 (by omega) (by omega)]; exact h11, by rw [b 54 (by omega) (by omega)]; exact h12⟩
    · rw [z 14 (by omega) (by omega), b 52 (by omega) (by omega)]; exact h1
    · rw [z 14 (by omega) (by omega), z 15 (by omega) (by omega), z 16 (by omega) (by omega), b 53 (by omega) (by omega), c]; exact h2
    · rw [z 17 (by omega) (by omega), c]; exact h3
theorem RA.same {M N : Mem} (h : RA M) (a : N 85 18 = M 85 18) (lw : LW N) : RA N := ⟨a.trans h.1, lw⟩
theorem LW.same {M N : Mem} (h : LW M) (a : N 46 1 = M 46 1) (b : N 47 = M 47) : LW N := by
  intro s hs e i hi
  rw [b]
  exact h s hs (a ▸ e) i hi
/-- what Rel does not look at may change -/
def Same (M N : Mem) : Prop := (∀ a, ((2 ≤ a ∧ a < 27 ∧ a ≠ 5) ∨ a = 41 ∨ (59 ≤ a ∧ a < 85) ∨ (86 ≤ a ∧ a < 97) ∨ 107 ≤ a) → N a = M a) ∧ (N 0 3 = M 0 3 ∧ N 0 6 = M 0 6) ∧ (∀ j, j < 4 → N 1 j = M 1 j) ∧ N 40 1 = M 40 1 ∧ ∀ j, (j < 20 ∨ (51 ≤ j ∧ j ≤ 54)) → N 85 j = M 85 j
theorem Rel.same {M N : Mem} (h : Rel M) (k : Same M N) (lw : LW N) : Rel N := by
  obtain ⟨h1, h2, h3, h4, h5, h6, h7, h8, h9⟩ := h
  obtain ⟨k1, ⟨k2, k2'⟩, k3, k4, k5⟩ := k
  refine ⟨h1.same (k3 0 (by omega)) (k5 7 (by omega)), h2.same (k3 1 (by omega)) (k5 11 (by omega)) (k1 2 (by omega)) (k1 3 (by omega)) (k1 90 (by omega)) (k1 91 (by omega)), h3.same (k1 4 (by omega)) (k1 89 (by omega)), h4.same (k3 2 (by omega)) (k5 17 (by omega)) (fun x a b => k1 x (by omega)) (k1 92 (by omega)) (k1 93 (by omega)) (k1 94 (by omega)) (k1 95 (by omega)) (k1 96 (by omega)), h5.same k2' (k5 3 (by omega)) (k3 3 (by omega)) (k5 4 (by omega)) (fun x a b => k1 x (by omega)) (k1 86 (by omega)) (k1 87 (by omega)), h6.same k4 (k5 6 (by omega)) (k1 41 (by omega)) (k1 88 (by omega)), h7.same (fun x a b => k1 x (by omega)) (k1 109 (by omega)) (k1 110 (by omega)) (k1 111 (by omega)) (k1 112 (by omega)), h8.same k2 (fun x a b => k1 x (by omega)) (fun j a b => k5 j (by omega)) (k1 107 (by omega)) (k1 108 (by omega)) (fun k _ _ => by rw [k1 92 (by omega)]) ?_ ?_, h9.same (k5 18 (by omega)) lw⟩
  · rw [k3 2 (by omega)]; exact Nat.le_refl _
  · rw [k2']; exact Nat.le_refl _
theorem Same.trans {M N O : Mem} (a : Same M N) (b : Same N O) : Same M O := by
  obtain ⟨a1, ⟨a2, a2'⟩, a3, a4, a5⟩ := a
  obtain ⟨b1, ⟨b2, b2'⟩, b3, b4, b5⟩ := b
  exact ⟨fun x h => (b1 x h).trans (a1 x h), ⟨b2.trans a2, b2'.trans a2'⟩, fun j h => (b3 j h).trans (a3 j h), b4.trans a4, fun j h => (b5 j h).trans (a5 j h)⟩
theorem Same.rfl' {M : Mem} : Same M M := ⟨fun _ _ => rfl, ⟨rfl, rfl⟩, fun _ _ => rfl, rfl, fun _ _ => rfl⟩
theorem KeepD.s {M N : Mem} (k : KeepD M N) : Same M N := ⟨fun a h => k a (by omega), ⟨by rw [k 0 (by omega)], by rw [k 0 (by omega)]⟩, fun j _ => by rw [k 1 (by omega)], by rw [k 40 (by omega)], fun j _ => by rw [k 85 (by omega)]⟩
theorem KeepL.s {M N : Mem} (k : KeepL M N) : Same M N := ⟨fun a h => k.1 a (by omega) (by omega), ⟨by rw [k.1 0 (by omega) (by omega)], by rw [k.1 0 (by omega) (by omega)]⟩, fun j _ => by rw [k.1 1 (by omega) (by omega)], by rw [k.1 40 (by omega) (by omega)], fun j h => k.2 j (by omega)⟩
theorem KeepL.lw {M N : Mem} (k : KeepL M N) (h : LW M) : LW N := h.same (by rw [k.1 46 (by omega) (by omega)]) (k.1 47 (by omega) (by omega))
/-! the house as it is seen -/
theorem Rel.view {M : Mem} (h : Rel M) : ∃ tl, HV 1 (viewC 1 M) tl M ∧ MO0 (viewC 1 M) 4 tl M ∧ DOK (viewC 1 M) (startS (viewC 1 M)) := by
  obtain ⟨⟨s, s1, s2, s3⟩, ⟨n, n1, n2, n3, n4⟩, hw, ⟨m, m1, m2, m3, m4⟩, ⟨c, r, c1, c2, c3, c4, r1, r2, r3, ct⟩, -, -, -, ha, lw⟩ := h
  have v00 : viewC 1 M 0 0 = nI s := s2
  have v01 : viewC 1 M 0 1 = nI n := n2
  have v02 : viewC 1 M 0 2 = nI m := m2
  have es : vS (viewC 1 M) = s := by show ix (viewC 1 M 0 0) = s; rw [v00, ix_nI (by omega)]
  have en : vN (viewC 1 M) = n := by show ix (viewC 1 M 0 1) = n; rw [v01, ix_nI (by omega)]
  have em : vM (viewC 1 M) = m := by show ix (viewC 1 M 0 2) = m; rw [v02, ix_nI (by omega)]
  have in1 : ix (M 1 1) = n := by rw [n2, ix_nI (by omega)]
  have im : ix (M 1 2) = m := by rw [m2, ix_nI (by omega)]
  have v1 : ∀ i, i < n → viewC 1 M 1 i = M 2 i := fun i hi => by
    show (if i < ix (M 1 1) then M 2 i else 0) = _; rw [in1, if_pos hi]
  have v2 : ∀ i, i < n → viewC 1 M 2 i = M 3 i := fun i hi => by
    show (if i < ix (M 1 1) then M 3 i else 0) = _; rw [in1, if_pos hi]
  have v3 : ∀ i, i < 8 → viewC 1 M 3 i = M 4 i := fun i hi => by
    show (if i < 8 then M 4 i else 0) = _; rw [if_pos hi]
  have v4 : ∀ q, q < 4 → ∀ k, k < m → viewC 1 M (4 + q) k = M (6 + 2 * k) q := fun q hq k hk => by
    unfold viewC
    rw [if_neg (by omega), if_neg (by omega), if_neg (by omega), if_neg (by omega), if_pos (by omega), im, if_pos hk, Nat.add_sub_cancel_left]
  have el : ∀ k, k < m → ∀ l, M (6 + 2 * k) 3 = nI l → l ≤ 5 → vL (viewC 1 M) k = l := fun k hk l h h5 => by
    show ix (viewC 1 M (4 + 3) k) = l; rw [v4 3 (by omega) k hk, h, ix_nI (by omega)]
  have v8 : ∀ k, k < m → ∀ l, M (6 + 2 * k) 3 = nI l → l ≤ 5 → ∀ i, i < l → viewC 1 M (8 + k) i = M (7 + 2 * k) i := fun k hk l h h5 i hi => by
    unfold viewC
    rw [if_neg (by omega), if_neg (by omega), if_neg (by omega), if_neg (by omega), if_neg (by omega), Nat.add_sub_cancel_left, im, show 1 + 5 + 2 * k = 6 + 2 * k by omega, h, ix_nI (by omega), if_pos ⟨hk, hi⟩]
  have vo : VOK (viewC 1 M) := by
    refine ⟨⟨by rw [es]; exact v00, by rw [es]; exact s1⟩, ⟨by rw [en]; exact v01, by rw [en]; exact ⟨n1, fun i hi => by rw [v2 i hi]; exact (n4 i hi).2.2.1⟩⟩, ⟨by rw [em]; exact v02, by rw [em]; exact m1⟩, fun k hk => ?_⟩
    rw [em] at hk
    obtain ⟨⟨d1, d1'⟩, ⟨d2, d2'⟩, ⟨d3, d3'⟩, l, l1, l2, l3, l4⟩ := m4 k hk
    refine ⟨?_, ?_, ⟨?_, ?_⟩, fun i hi => ?_⟩
    · rw [v4 1 (by omega) k hk]; have := d2.1; have := d2.2; omega
    · rw [v4 2 (by omega) k hk]; exact d3
    · rw [el k hk l l2 l1, v4 3 (by omega) k hk]; exact l2
    · rw [el k hk l l2 l1]; exact l1
    · rw [el k hk l l2 l1] at hi
      rw [v8 k hk l l2 l1 i hi]; exact (l4 i hi).1
  have ir : ix (M 1 3) = r := by rw [r2, ix_nI (by omega)]
  have tx := ct r r1
  refine ⟨tlC (M (60 + 3 * r)) (M (61 + 3 * r)), ⟨by decide, rfl, vo, by rw [r2]; exact ib_nI (by omega) (by omega), ?_, lw⟩, ⟨vo, ?_, ?_⟩, DOK.start vo (startS_start _)⟩
  · rw [ir]
    exact VCl_of (by omega) tx.1
  · refine ⟨⟨Nat.le_refl _, fun h => absurd h (by omega)⟩, by rw [es]; exact s3, by rw [en]; exact n3, ?_, ?_, fun i hi => ?_, fun q hq => ?_, fun k hk => ?_⟩
    · unfold cntM; rw [if_neg (by omega), em]; exact m3
    · rw [if_neg (by omega)]; exact ha
    · rw [en] at hi
      rw [v1 i hi, v2 i hi]; exact ⟨(n4 i hi).2.1, (n4 i hi).2.2.2⟩
    · rw [v3 q hq]; exact (hw q hq).2
    · rw [em] at hk
      have hs : sk 4 k = k := by unfold sk; rw [if_pos (by omega)]
      obtain ⟨⟨d1, d1'⟩, ⟨d2, d2'⟩, ⟨d3, d3'⟩, l, l1, l2, l3, l4⟩ := m4 k hk
      rw [hs]
      refine ⟨⟨?_, ?_, ?_, ?_⟩, fun i hi => ?_⟩
      · exact d1'.trans (v4 0 (by omega) k hk).symm
      · exact d2'.trans (v4 1 (by omega) k hk).symm
      · exact d3'.trans (v4 2 (by omega) k hk).symm
      · exact (l3.trans l2.symm).trans (v4 3 (by omega) k hk).symm
      · rw [el k hk l l2 l1] at hi
        rw [v8 k hk l l2 l1 i hi]; exact (l4 i hi).2
  · rw [r3]
    exact tx.vmo
/-- a call that both answer alike -/
def Op (c m : Mem → Option (Int32 × Mem)) : Prop := ∀ M, Rel M → ∃ v M1 M2, c M = some (v, M1) ∧ m M1 = some (v, M2) ∧ Rel M2
