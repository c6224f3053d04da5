/-! 12: ways: FAR and NEXT of both sides -/
def zM : Mem := fun _ _ => 0
def farI (s a b : Int32) : Int32 := ((fY_far s a b zM).map (fun q => q.1)).getD 0
theorem fY_far_eq (s a b : Int32) (M : Mem) : fY_far s a b M = some (farI s a b, M) := by
  unfold farI fY_far fY_far_b48 fY_far_b67
  by_cases h1 : a / 4 = b / 4
  · simp only [if_pos h1, Option.map_some, Option.getD_some]
  · by_cases h2 : s &&& 1 = 0
    · by_cases h3 : s &&& 2 = 0
      · simp only [if_neg h1, if_pos h2, if_pos h3, Option.map_some, Option.getD_some]
      · simp only [if_neg h1, if_pos h2, if_neg h3, Option.map_some, Option.getD_some]
    · by_cases h3 : s &&& 2 = 0
      · simp only [if_neg h1, if_neg h2, if_pos h3, Option.map_some, Option.getD_some]
      · simp only [if_neg h1, if_neg h2, if_neg h3, Option.map_some, Option.getD_some]
theorem fY_nextRoom_b9_z (s a b : Int32) (M : Mem) : ∀ (z : Nat) (x y i : Int32), fY_nextRoom_b9 s a b z x y i M = (fY_nextRoom_b9 s a b z x y i zM).map (fun q => (q.1, M)) := by
  intro z
  induction z with
  | zero => intro x y i; rfl
  | succ z ih =>
    intro x y i
    rw [fY_nextRoom_b9, fY_nextRoom_b9]
    simp only [fY_far_eq, Option.bind_some, fY_nextRoom_b62, fY_nextRoom_b56]
    by_cases h1 : 8 ≤ i
    · simp only [if_pos h1, Option.map_some]
    · by_cases h2 : a = b
      · simp only [if_neg h1, if_pos h2, Option.map_some]
      · by_cases h3 : farI s a i = 1
        · by_cases h4 : y ≤ farI s i b
          · simp only [if_neg h1, if_neg h2, if_pos h3, if_pos h4, ih]
          · simp only [if_neg h1, if_neg h2, if_pos h3, if_neg h4]
            rw [ih]
        · simp only [if_neg h1, if_neg h2, if_neg h3]
          rw [ih]
/-- NEXT, by the stairs -/
def nxt (s a b : Nat) : Int32 := ((fY_nextRoom (nI s) (nI a) (nI b) zM).map (fun q => q.1)).getD 0
theorem nxt_some : ∀ s, s < 4 → ∀ a, a < 8 → ∀ b, b < 8 → (fY_nextRoom (nI s) (nI a) (nI b) zM).isSome = true := by decide +kernel
theorem fY_nextRoom_eq {s a b : Nat} (M : Mem) (hs : s < 4) (ha : a < 8) (hb : b < 8) : fY_nextRoom (nI s) (nI a) (nI b) M = some (nxt s a b, M) := by
  have h := nxt_some s hs a ha b hb
  unfold nxt
  unfold fY_nextRoom at h ⊢
  rw [fY_nextRoom_b9_z]
  cases hq : fY_nextRoom_b9 (nI s) (nI a) (nI b) 1000 (-1) 8 0 zM with
  | none => rw [hq] at h; cases h
  | some q => simp
/-- NEXT is none or one of the rooms -/
theorem nxt_bd : ∀ s, s < 4 → ∀ a, a < 8 → ∀ b, b < 8 → nxt s a b = -1 ∨ (0 ≤ (nxt s a b).toInt ∧ (nxt s a b).toInt < 8) := by decide +kernel
def layM (s : Nat) (M : Mem) : Mem := fun a b => if a = 46 ∧ b = 1 then nI s else if a = 47 ∧ b < 64 then nxt s (b / 8) (b % 8) else M a b
/-- what the class's table of ways holds -/
def LW (M : Mem) : Prop := ∀ s, s < 4 → M 46 1 = nI s → ∀ i, i < 64 → M 47 i = nxt s (i / 8) (i % 8)
def layP (s k : Nat) (M : Mem) : Mem := fun a b => if a = 47 ∧ b < k then nxt s (b / 8) (b % 8) else M a b
theorem fY_lay_b11_eq {s : Nat} {M : Mem} (hs : s < 4) : ∀ (c k z : Nat), k + c = 64 → c < z → fY_lay_b11 (nI s) z (nI k) (layP s k M) = some (layM s M) := by
  intro c
  induction c with
  | zero =>
    intro k z hk hz
    obtain ⟨z, rfl⟩ := Nat.exists_eq_succ_of_ne_zero (show z ≠ 0 by omega)
    have e : k = 64 := by omega
    subst e
    rw [fY_lay_b11, if_pos (by decide)]
    rfl
  | succ c ih =>
    intro k z hk hz
    obtain ⟨z, rfl⟩ := Nat.exists_eq_succ_of_ne_zero (show z ≠ 0 by omega)
    have d8 : nI k / 8 = nI (k / 8) := pk_div (a := k) (d := 8) (by omega) (by omega) (by omega)
    have r8 : nI k - nI k / 8 * 8 = nI (k % 8) := pk_rem (a := k) (d := 8) (by omega) (by omega) (by omega)
    rw [fY_lay_b11, if_neg (by rw [show (64 : Int32) = nI 64 from rfl, n_le (by omega) (by omega)]; omega), r8, d8, fY_nextRoom_eq _ hs (by omega) (by omega)]
    simp only [Option.bind_some, if_pos (ib_nI (show k < 64 by omega) (by omega)), nI_1, ix_nI (show k < 2147483648 by omega)]
    have e : wr (layP s k M) 47 k (nxt s (k / 8) (k % 8)) = layP s (k + 1) M := by
      funext a b
      unfold wr layP
      by_cases h1 : a = 47 ∧ b = k
      · rw [if_pos h1, if_pos ⟨h1.1, by omega⟩, h1.2]
      · rw [if_neg h1]
        by_cases h2 : a = 47 ∧ b < k
        · rw [if_pos h2, if_pos ⟨h2.1, by omega⟩]
        · rw [if_neg h2, if_neg (by omega)]
    rw [e]
    exact ih (k + 1) z (by omega) (by omega)
theorem fY_lay_eq {s : Nat} {M : Mem} (hs : s < 4) (hw : LW M) : fY_lay (nI s) M = some (layM s M) := by
  unfold fY_lay
  by_cases h : M 46 1 = nI s
  · rw [if_pos h]
    congr 1
    funext a b
    unfold layM
    by_cases h1 : a = 46 ∧ b = 1
    · rw [if_pos h1, h1.1, h1.2, h]
    · rw [if_neg h1]
      by_cases h2 : a = 47 ∧ b < 64
      · rw [if_pos h2, h2.1, hw s hs h b h2.2]
      · rw [if_neg h2]
  · rw [if_neg h]
    have e : M = layP s 0 M := by
      funext a b
      unfold layP
      rw [if_neg (by omega)]
    have := fY_lay_b11_eq (M := M) hs 64 0 1000 (by omega) (by omega)
    rw [← e] at this
    exact this
theorem layM_LW {s : Nat} {M : Mem} (hs : s < 4) : LW (layM s M) := by
  intro s' hs' h i hi
  have e : layM s M 46 1 = nI s := by unfold layM; rw [if_pos ⟨rfl, rfl⟩]
  rw [e] at h
  have := (n_eq (by omega) (by omega)).mp h
  subst this
  unfold layM
  rw [if_neg (by omega), if_pos ⟨rfl, hi⟩]
theorem fY_nextLaid_eq {s : Nat} {M : Mem} (hs : s < 4) (h : ∀ i, i < 64 → M 47 i = nxt s (i / 8) (i % 8)) {a : Nat} (ha : a < 8) (b : Int32) (hb : b = -1 ∨ (0 ≤ b.toInt ∧ b.toInt < 8)) : fY_nextLaid (nI a) b M = some (if b = -1 then -1 else nxt s a (ix b), M) := by
  unfold fY_nextLaid
  simp only [fN_within_eq, Option.bind_some, bz_0]
  rw [if_neg (by rw [nI_t (by omega)]; show ¬¬(0 ≤ (a : Int) ∧ (a : Int) < (8 : Int32).toInt); rw [show (8 : Int32).toInt = 8 from rfl]; omega)]
  rcases hb with rfl | hb
  · rw [if_pos (by decide), if_pos rfl]
  · have hlt := hb.2
    rw [if_neg (by rw [show (8 : Int32).toInt = 8 from rfl]; omega)]
    obtain ⟨c, hc, rfl⟩ : ∃ c : Nat, c < 8 ∧ b = nI c := ⟨ix b, by unfold ix; omega, (nI_ix hb.1).symm⟩
    have e : nI a * 8 + nI c = nI (8 * a + c) := by
      rw [show (8 : Int32) = nI 8 from rfl, pk_mul, nI_add, Nat.mul_comm a 8]
    rw [e, if_pos (ib_nI (by omega) (by omega)), ix_nI (by omega), ix_nI (by omega), h _ (by omega), if_neg (nI_m1 (by omega))]
    rw [show (8 * a + c) / 8 = a by omega, show (8 * a + c) % 8 = c by omega]
def ftab : List (List Nat) := [[0, 1, 2, 3, 8, 8, 8, 8, 1, 0, 1, 2, 8, 8, 8, 8, 2, 1, 0, 1, 8, 8, 8, 8, 3, 2, 1, 0, 8, 8, 8, 8, 8, 8, 8, 8, 0, 1, 2, 3, 8, 8, 8, 8, 1, 0, 1, 2, 8, 8, 8, 8, 2, 1, 0, 1, 8, 8, 8, 8, 3, 2, 1, 0], [0, 1, 2, 3, 1, 2, 3, 4, 1, 0, 1, 2, 2, 3, 4, 5, 2, 1, 0, 1, 3, 4, 5, 6, 3, 2, 1, 0, 4, 5, 6, 7, 1, 2, 3, 4, 0, 1, 2, 3, 2, 3, 4, 5, 1, 0, 1, 2, 3, 4, 5, 6, 2, 1, 0, 1, 4, 5, 6, 7, 3, 2, 1, 0], [0, 1, 2, 3, 7, 6, 5, 4, 1, 0, 1, 2, 6, 5, 4, 3, 2, 1, 0, 1, 5, 4, 3, 2, 3, 2, 1, 0, 4, 3, 2, 1, 7, 6, 5, 4, 0, 1, 2, 3, 6, 5, 4, 3, 1, 0, 1, 2, 5, 4, 3, 2, 2, 1, 0, 1, 4, 3, 2, 1, 3, 2, 1, 0], [0, 1, 2, 3, 1, 2, 3, 4, 1, 0, 1, 2, 2, 3, 4, 3, 2, 1, 0, 1, 3, 4, 3, 2, 3, 2, 1, 0, 4, 3, 2, 1, 1, 2, 3, 4, 0, 1, 2, 3, 2, 3, 4, 3, 1, 0, 1, 2, 3, 4, 3, 2, 2, 1, 0, 1, 4, 3, 2, 1, 3, 2, 1, 0]]

/-- BESIDE, by the stairs -/
def bsI (s a b : Int32) : Int32 := ((fM_isBeside a b (wr zM 85 7 s)).map (fun q => q.1)).getD 0
theorem fM_isBeside_eq (a b : Int32) (M : Mem) : fM_isBeside a b M = some (bsI (M 85 7) a b, M) := by
  have e : wr zM 85 7 (M 85 7) 85 7 = M 85 7 := wr_same
  have key : ∀ x y : Int32, fM_isBeside_b21 x y M = (fM_isBeside_b21 x y (wr zM 85 7 (M 85 7))).map (fun q => (q.1, M)) := by
    intro x y
    unfold fM_isBeside_b21 fM_isBeside_b77 fM_isBeside_b64 fM_isBeside_b77
    simp only [e]
    repeat' split
    all_goals rfl
  have k2 : fM_isBeside a b M = (fM_isBeside a b (wr zM 85 7 (M 85 7))).map (fun q => (q.1, M)) := by
    unfold fM_isBeside fM_isBeside_b10
    by_cases h : b ≤ a
    · simp only [if_pos h]; exact key _ _
    · simp only [if_neg h]; exact key _ _
  have k3 : (fM_isBeside a b (wr zM 85 7 (M 85 7))).isSome = true := by
    unfold fM_isBeside fM_isBeside_b10 fM_isBeside_b21 fM_isBeside_b77 fM_isBeside_b64 fM_isBeside_b77
    repeat' split
    all_goals rfl
  rw [k2]
  unfold bsI
  cases hq : fM_isBeside a b (wr zM 85 7 (M 85 7)) with
  | none => rw [hq] at k3; cases k3
  | some q => simp
/-- the table of FAR as the model makes it, over lists -/
def tI (l : List Nat) (i : Nat) : Nat := l.getD i 0
def tbM (l : List Nat) (M : Mem) : Mem := fun a b => if a = 97 ∧ b < 64 then nI (tI l b) else M a b
def g0 (s i : Nat) : Nat := if i / 8 = i % 8 then 0 else if bsI (nI s) (nI (i / 8)) (nI (i % 8)) = 0 then 8 else 1
def g3 (y a : Nat) : Nat → Nat → List Nat → List Nat
  | 0, _, l => l
  | c + 1, b, l => g3 y a c (b + 1) (if tI l (8 * a + b) ≤ tI l (8 * a + y) + tI l (8 * y + b) then l else l.set (8 * a + b) (tI l (8 * a + y) + tI l (8 * y + b)))
def g2 (y : Nat) : Nat → Nat → List Nat → List Nat
  | 0, _, l => l
  | c + 1, a, l => g2 y c (a + 1) (g3 y a 8 0 l)
def g1 : Nat → Nat → List Nat → List Nat
  | 0, _, l => l
  | c + 1, y, l => g1 c (y + 1) (g2 y 8 0 l)
theorem g1_ok : ∀ s, s < 4 → g1 8 0 ((List.range 64).map (g0 s)) = ftab.getD s [] := by decide +kernel
def okL (l : List Nat) : Prop := l.length = 64 ∧ ∀ i, tI l i ≤ 1000
theorem tI_set {l : List Nat} {i j v : Nat} (h : i < l.length) : tI (l.set i v) j = if j = i then v else tI l j := by
  unfold tI
  rw [List.getD_eq_getElem?_getD, List.getD_eq_getElem?_getD, List.getElem?_set]
  by_cases hj : i = j
  · subst hj; simp [h]
  · rw [if_neg hj, if_neg (fun z => hj z.symm)]
theorem fM_gathers_b81_eq {y a : Nat} {M : Mem} (hy : y < 8) (ha : a < 8) (k65 k73 : Int32 → Mem → Option Mem) : ∀ (c b z : Nat) (l : List Nat), b + c = 8 → c < z → okL l → fM_gathers_b81 k65 k73 (nI y) (nI a) z (nI b) (tbM l M) = k73 (nI (a + 1)) (tbM (g3 y a c b l) M) ∧ okL (g3 y a c b l) := by
  intro c
  induction c with
  | zero =>
    intro b z l hb hz ok
    obtain ⟨z, rfl⟩ := Nat.exists_eq_succ_of_ne_zero (show z ≠ 0 by omega)
    have e : b = 8 := by omega
    subst e
    rw [fM_gathers_b81, if_pos (by decide), nI_1]
    exact ⟨rfl, ok⟩
  | succ c ih =>
    intro b z l hb hz ok
    obtain ⟨z, rfl⟩ := Nat.exists_eq_succ_of_ne_zero (show z ≠ 0 by omega)
    have e8 : ∀ p q : Nat, 8 * nI p + nI q = nI (8 * p + q) := fun p q => by rw [show (8 : Int32) = nI 8 from rfl, pk_mul, nI_add]
    have hx : ∀ p q : Nat, p < 8 → q < 8 → tbM l M 97 (8 * p + q) = nI (tI l (8 * p + q)) := fun p q h1 h2 => if_pos ⟨rfl, by omega⟩
    have hi : ∀ p q : Nat, p < 8 → q < 8 → ib (nI (8 * p + q)) 64 := fun p q h1 h2 => ib_nI (by omega) (by omega)
    have h1 := ok.2 (8 * a + y)
    have h2 := ok.2 (8 * y + b)
    have h3 := ok.2 (8 * a + b)
    rw [fM_gathers_b81, if_neg (by rw [show (8 : Int32) = nI 8 from rfl, n_le (by omega) (by omega)]; omega)]
    simp only [e8, if_pos (hi a y ha hy), if_pos (hi y b hy (by omega)), if_pos (hi a b ha (by omega)), ix_nI (show 8 * a + b < 2147483648 by omega), ix_nI (show 8 * a + y < 2147483648 by omega), ix_nI (show 8 * y + b < 2147483648 by omega), hx a b ha (by omega), hx a y ha hy, hx y b hy (by omega), nI_add, fM_gathers_b141, nI_1]
    rw [g3]
    by_cases hc : tI l (8 * a + b) ≤ tI l (8 * a + y) + tI l (8 * y + b)
    · rw [if_pos ((n_le (by omega) (by omega)).mpr hc), if_pos hc]
      exact ih (b + 1) z l (by omega) (by omega) ok
    · rw [if_neg (fun z => hc ((n_le (by omega) (by omega)).mp z)), if_neg hc]
      have e : wr (tbM l M) 97 (8 * a + b) (nI (tI l (8 * a + y) + tI l (8 * y + b))) = tbM (l.set (8 * a + b) (tI l (8 * a + y) + tI l (8 * y + b))) M := by
        funext p q
        unfold wr tbM
        rw [tI_set (by rw [ok.1]; omega)]
        by_cases h4 : p = 97 ∧ q = 8 * a + b
        · rw [if_pos h4, if_pos ⟨h4.1, by omega⟩, if_pos h4.2]
        · rw [if_neg h4]
          by_cases h5 : p = 97 ∧ q < 64
          · rw [if_pos h5, if_pos h5, if_neg (fun z => h4 ⟨h5.1, z⟩)]
          · rw [if_neg h5, if_neg h5]
      rw [e]
      refine ih (b + 1) z _ (by omega) (by omega) ⟨by rw [List.length_set]; exact ok.1, fun i => ?_⟩
      rw [tI_set (by rw [ok.1]; omega)]
      split
      · omega
      · exact ok.2 i
theorem fM_gathers_b73_eq {y : Nat} {M : Mem} (hy : y < 8) (k65 : Int32 → Mem → Option Mem) : ∀ (c a z : Nat) (l : List Nat), a + c = 8 → c < z → okL l → fM_gathers_b73 k65 (nI y) z (nI a) (tbM l M) = k65 (nI (y + 1)) (tbM (g2 y c a l) M) ∧ okL (g2 y c a l) := by
  intro c
  induction c with
  | zero =>
    intro a z l ha hz ok
    obtain ⟨z, rfl⟩ := Nat.exists_eq_succ_of_ne_zero (show z ≠ 0 by omega)
    have e : a = 8 := by omega
    subst e
    rw [fM_gathers_b73, if_pos (by decide), nI_1]
    exact ⟨rfl, ok⟩
  | succ c ih =>
    intro a z l ha hz ok
    obtain ⟨z, rfl⟩ := Nat.exists_eq_succ_of_ne_zero (show z ≠ 0 by omega)
    rw [fM_gathers_b73, if_neg (by rw [show (8 : Int32) = nI 8 from rfl, n_le (by omega) (by omega)]; omega)]
    have h := fM_gathers_b81_eq (M := M) hy (show a < 8 by omega) k65 (fM_gathers_b73 k65 (nI y) z) 8 0 1000 l (by omega) (by omega) ok
    rw [show (0 : Int32) = nI 0 from rfl, h.1]
    exact ih (a + 1) z _ (by omega) (by omega) h.2
theorem fM_gathers_b65_eq {M : Mem} : ∀ (c y z : Nat) (l : List Nat), y + c = 8 → c < z → okL l → fM_gathers_b65 z (nI y) (tbM l M) = some (tbM (g1 c y l) M) := by
  intro c
  induction c with
  | zero =>
    intro y z l hy hz ok
    obtain ⟨z, rfl⟩ := Nat.exists_eq_succ_of_ne_zero (show z ≠ 0 by omega)
    have e : y = 8 := by omega
    subst e
    rw [fM_gathers_b65, if_pos (by decide)]
    rfl
  | succ c ih =>
    intro y z l hy hz ok
    obtain ⟨z, rfl⟩ := Nat.exists_eq_succ_of_ne_zero (show z ≠ 0 by omega)
    rw [fM_gathers_b65, if_neg (by rw [show (8 : Int32) = nI 8 from rfl, n_le (by omega) (by omega)]; omega)]
    have h := fM_gathers_b73_eq (M := M) (show y < 8 by omega) (fM_gathers_b65 z) 8 0 1000 l (by omega) (by omega) ok
    rw [show (0 : Int32) = nI 0 from rfl, h.1]
    exact ih (y + 1) z _ (by omega) (by omega) h.2
/-- the first fill -/
def fiM (s k : Nat) (M : Mem) : Mem := fun a b => if a = 97 ∧ b < k then nI (g0 s b) else M a b
theorem fiM_st {s k : Nat} {M : Mem} : fiM s k M 85 7 = M 85 7 := if_neg (by omega)
theorem fiM_wr {s k : Nat} {M : Mem} : wr (fiM s k M) 97 k (nI (g0 s k)) = fiM s (k + 1) M := by
  funext a b
  unfold wr fiM
  by_cases h1 : a = 97 ∧ b = k
  · rw [if_pos h1, if_pos ⟨h1.1, by omega⟩, h1.2]
  · rw [if_neg h1]
    by_cases h2 : a = 97 ∧ b < k
    · rw [if_pos h2, if_pos ⟨h2.1, by omega⟩]
    · rw [if_neg h2, if_neg (by omega)]
theorem fM_gathers_b10_eq {s a : Nat} {M : Mem} (hs : M 85 7 = nI s) (ha : a < 8) (k2 : Int32 → Mem → Option Mem) : ∀ (c b z : Nat), b + c = 8 → c < z → fM_gathers_b10 k2 (nI a) z (nI b) (fiM s (8 * a + b) M) = k2 (nI (a + 1)) (fiM s (8 * a + 8) M) := by
  intro c
  induction c with
  | zero =>
    intro b z hb hz
    obtain ⟨z, rfl⟩ := Nat.exists_eq_succ_of_ne_zero (show z ≠ 0 by omega)
    have e : b = 8 := by omega
    subst e
    rw [fM_gathers_b10, if_pos (by decide), nI_1]
  | succ c ih =>
    intro b z hb hz
    obtain ⟨z, rfl⟩ := Nat.exists_eq_succ_of_ne_zero (show z ≠ 0 by omega)
    have e8 : 8 * nI a + nI b = nI (8 * a + b) := by rw [show (8 : Int32) = nI 8 from rfl, pk_mul, nI_add]
    rw [fM_gathers_b10, if_neg (by rw [show (8 : Int32) = nI 8 from rfl, n_le (by omega) (by omega)]; omega)]
    simp only [fM_isBeside_eq, Option.bind_some, fiM_st, hs, fM_gathers_b50, e8, if_pos (ib_nI (show 8 * a + b < 64 by omega) (by omega)), ix_nI (show 8 * a + b < 2147483648 by omega), nI_1]
    have hd : (8 * a + b) / 8 = a := by omega
    have hm : (8 * a + b) % 8 = b := by omega
    have hg : g0 s (8 * a + b) = if a = b then 0 else if bsI (nI s) (nI a) (nI b) = 0 then 8 else 1 := by unfold g0; rw [hd, hm]
    have fin : fM_gathers_b10 k2 (nI a) z (nI (b + 1)) (wr (fiM s (8 * a + b) M) 97 (8 * a + b) (nI (g0 s (8 * a + b)))) = k2 (nI (a + 1)) (fiM s (8 * a + 8) M) := by
      rw [fiM_wr]
      exact ih (b + 1) z (by omega) (by omega)
    rw [hg] at fin
    by_cases h1 : a = b
    · rw [if_pos ((n_eq (by omega) (by omega)).mpr h1)]
      rw [if_pos h1] at fin
      exact fin
    · rw [if_neg (fun z => h1 ((n_eq (by omega) (by omega)).mp z))]
      rw [if_neg h1] at fin
      by_cases h2 : bsI (nI s) (nI a) (nI b) = 0
      · rw [if_pos h2]
        rw [if_pos h2] at fin
        exact fin
      · rw [if_neg h2]
        rw [if_neg h2] at fin
        exact fin
theorem fM_gathers_b2_eq {s : Nat} {M : Mem} (hs : M 85 7 = nI s) : ∀ (c a z : Nat), a + c = 8 → c < z → fM_gathers_b2 z (nI a) (fiM s (8 * a) M) = fM_gathers_b65 1000 0 (fiM s 64 M) := by
  intro c
  induction c with
  | zero =>
    intro a z ha hz
    obtain ⟨z, rfl⟩ := Nat.exists_eq_succ_of_ne_zero (show z ≠ 0 by omega)
    have e : a = 8 := by omega
    subst e
    rw [fM_gathers_b2, if_pos (by decide)]
  | succ c ih =>
    intro a z ha hz
    obtain ⟨z, rfl⟩ := Nat.exists_eq_succ_of_ne_zero (show z ≠ 0 by omega)
    rw [fM_gathers_b2, if_neg (by rw [show (8 : Int32) = nI 8 from rfl, n_le (by omega) (by omega)]; omega)]
    have h := fM_gathers_b10_eq (M := M) hs (show a < 8 by omega) (fM_gathers_b2 z) 8 0 1000 (by omega) (by omega)
    rw [show (0 : Int32) = nI 0 from rfl]
    rw [Nat.add_zero] at h
    rw [h]
    exact ih (a + 1) z (by omega) (by omega)
/-- the model's table by the stairs -/
def gaM (s : Nat) (M : Mem) : Mem := tbM (ftab.getD s []) M
theorem fM_gathers_eq {s : Nat} {M : Mem} (hs4 : s < 4) (hs : M 85 7 = nI s) : fM_gathers M = some (gaM s M) := by
  unfold fM_gathers gaM
  have e : M = fiM s (8 * 0) M := by
    funext a b
    unfold fiM
    rw [if_neg (by omega)]
  have h := fM_gathers_b2_eq hs 8 0 1000 (by omega) (by omega)
  rw [← e] at h
  rw [show (0 : Int32) = nI 0 from rfl, h]
  have e2 : fiM s 64 M = tbM ((List.range 64).map (g0 s)) M := by
    funext a b
    unfold fiM tbM tI
    by_cases h1 : a = 97 ∧ b < 64
    · rw [if_pos h1, if_pos h1]
      simp [List.getD_eq_getElem?_getD, h1.2]
    · rw [if_neg h1, if_neg h1]
  have ok : okL ((List.range 64).map (g0 s)) := by
    refine ⟨by simp, fun i => ?_⟩
    unfold tI
    by_cases hi : i < 64
    · simp [List.getD_eq_getElem?_getD, hi]
      unfold g0
      repeat' split
      all_goals omega
    · simp [List.getD_eq_getElem?_getD, hi]
  rw [e2, show (0 : Int32) = nI 0 from rfl, fM_gathers_b65_eq 8 0 1000 _ (by omega) (by omega) ok, g1_ok s hs4]
theorem far_ok : ∀ s, s < 4 → ∀ a, a < 8 → ∀ b, b < 8 → farI (nI s) (nI a) (nI b) = nI (tI (ftab.getD s []) (8 * a + b)) := by decide +kernel
theorem tb_bd : ∀ s, s < 4 → ∀ i, i < 64 → tI (ftab.getD s []) i ≤ 8 := by decide +kernel
