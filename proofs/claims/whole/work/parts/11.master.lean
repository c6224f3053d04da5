/-! 11: the master -/
def sumF (g : Nat → Int32) : Nat → Nat → Int32 → Int32
  | 0, _, acc => acc
  | c + 1, i, acc => sumF g c (i + 1) (acc + g i)
def scanF (r m : Nat → Int32) : Nat → Nat → Int32 → Int32
  | 0, _, _ => -1
  | c + 1, i, left => if m i ≤ left then scanF r m c (i + 1) (left - m i) else r i
def mst (n : Nat) (r m : Nat → Int32) (t : Int32) : Int32 :=
  if 0 < sumF m n 0 0 then scanF r m n 0 (t - t / sumF m n 0 0 * sumF m n 0 0) else -1
theorem sumF_congr {g g' : Nat → Int32} : ∀ (c i : Nat) (acc : Int32), (∀ j, i ≤ j → j < i + c → g j = g' j) → sumF g c i acc = sumF g' c i acc
  | 0, _, _, _ => rfl
  | c + 1, i, acc, h => by
    unfold sumF
    rw [h i (Nat.le_refl _) (by omega)]
    exact sumF_congr c (i + 1) _ (fun j h1 h2 => h j (by omega) (by omega))
theorem scanF_congr {r m r' m' : Nat → Int32} : ∀ (c i : Nat) (left : Int32), (∀ j, i ≤ j → j < i + c → r j = r' j ∧ m j = m' j) → scanF r m c i left = scanF r' m' c i left
  | 0, _, _, _ => rfl
  | c + 1, i, left, h => by
    unfold scanF
    rw [(h i (Nat.le_refl _) (by omega)).1, (h i (Nat.le_refl _) (by omega)).2, scanF_congr c (i + 1) _ (fun j h1 h2 => h j (by omega) (by omega))]
theorem mst_congr {n : Nat} {r m r' m' : Nat → Int32} (t : Int32) (h : ∀ j, j < n → r j = r' j ∧ m j = m' j) : mst n r m t = mst n r' m' t := by
  unfold mst
  rw [sumF_congr (g := m) (g' := m') n 0 0 (fun j _ h2 => (h j (by omega)).2), scanF_congr n 0 _ (fun j _ h2 => h j (by omega))]
/-- the stays' minutes are 1 to 50 -/
def okMin (n : Nat) (m : Nat → Int32) : Prop := n ≤ 8 ∧ ∀ i, i < n → 1 ≤ (m i).toInt ∧ (m i).toInt ≤ 50
theorem sumF_bd {g : Nat → Int32} : ∀ (c i : Nat) (acc : Int32), (∀ j, i ≤ j → j < i + c → 1 ≤ (g j).toInt ∧ (g j).toInt ≤ 50) → 0 ≤ acc.toInt → acc.toInt + 50 * c ≤ 1000 → acc.toInt + c ≤ (sumF g c i acc).toInt ∧ (sumF g c i acc).toInt ≤ acc.toInt + 50 * c
  | 0, _, acc, _, _, _ => by unfold sumF; omega
  | c + 1, i, acc, h, h0, h1 => by
    unfold sumF
    have hi := h i (Nat.le_refl _) (by omega)
    have e : (acc + g i).toInt = acc.toInt + (g i).toInt := t_add (by omega) (by omega)
    have := sumF_bd c (i + 1) (acc + g i) (fun j h2 h3 => h j (by omega) (by omega)) (by omega) (by omega)
    omega
theorem sumF_acc {g : Nat → Int32} : ∀ (c i : Nat) (acc : Int32), sumF g c i acc = acc + sumF g c i 0
  | 0, _, acc => by unfold sumF; simp
  | c + 1, i, acc => by
    unfold sumF
    rw [sumF_acc c (i + 1) (acc + g i), sumF_acc c (i + 1) (0 + g i)]
    rw [Int32.zero_add, Int32.add_assoc]
theorem rem_nI {t R : Int32} (hR : 0 < R.toInt) (ht : 0 ≤ t.toInt) : t - t / R * R = nI (ix t % ix R) := by
  have h1 := tI_lt t
  have h2 := tI_lt R
  have h3 := pk_rem (a := ix t) (d := ix R) (by unfold ix; omega) (by unfold ix; omega) (by unfold ix; omega)
  rw [nI_ix ht, nI_ix (by omega)] at h3
  exact h3
theorem rem_bd {t R : Int32} (hR : 0 < R.toInt) (ht : 0 ≤ t.toInt) : 0 ≤ (t - t / R * R).toInt ∧ (t - t / R * R).toInt < R.toInt := by
  have h2 := tI_lt R
  have hp : 0 < ix R := by unfold ix; omega
  have hm := Nat.mod_lt (ix t) hp
  rw [rem_nI hR ht, nI_t (by unfold ix at hm ⊢; omega)]
  unfold ix at hm ⊢
  omega
theorem fH_masterIn_b40_eq {h n : Nat} {M : Mem} (hn : M h 1 = nI n) (hk : n ≤ 8) : ∀ (c i : Nat) (left : Int32) (z : Nat), i + c = n → c < z → fH_masterIn_b40 h z left (nI i) M = some (scanF (M (h + 1)) (M (h + 2)) c i left, M) := by
  intro c
  induction c with
  | zero =>
    intro i left z hi hz
    obtain ⟨z, rfl⟩ := Nat.exists_eq_succ_of_ne_zero (show z ≠ 0 by omega)
    rw [fH_masterIn_b40, if_pos (by rw [hn, n_le (by omega) (by omega)]; omega)]
    rfl
  | succ c ih =>
    intro i left z hi hz
    obtain ⟨z, rfl⟩ := Nat.exists_eq_succ_of_ne_zero (show z ≠ 0 by omega)
    have hb : ib (nI i) 8 := ib_nI (by omega) (by omega)
    rw [fH_masterIn_b40, if_neg (by rw [hn, n_le (by omega) (by omega)]; omega)]
    simp only [if_pos hb, ix_nI (show i < 2147483648 by omega)]
    rw [scanF]
    by_cases hc : M (h + 2) i ≤ left
    · rw [if_pos hc, if_pos hc, nI_1]
      exact ih (i + 1) _ z (by omega) (by omega)
    · rw [if_neg hc, if_neg hc]
theorem fH_masterIn_b4_eq {h n : Nat} {M : Mem} (t : Int32) (hn : M h 1 = nI n) (hk : n ≤ 8) : ∀ (c i : Nat) (acc : Int32) (z : Nat), i + c = n → c < z → fH_masterIn_b4 h t z acc (nI i) M = if 0 < sumF (M (h + 2)) c i acc then some (scanF (M (h + 1)) (M (h + 2)) n 0 (t - t / sumF (M (h + 2)) c i acc * sumF (M (h + 2)) c i acc), M) else some (-1, M) := by
  intro c
  induction c with
  | zero =>
    intro i acc z hi hz
    obtain ⟨z, rfl⟩ := Nat.exists_eq_succ_of_ne_zero (show z ≠ 0 by omega)
    rw [fH_masterIn_b4, if_pos (by rw [hn, n_le (by omega) (by omega)]; omega)]
    show _ = if 0 < acc then _ else _
    by_cases ha : 0 < acc
    · rw [if_pos ha, if_pos ha, if_neg (by rw [i_lt] at ha; rw [i_eq]; omega)]
      exact fH_masterIn_b40_eq hn hk n 0 _ 1000 (by omega) (by omega)
    · rw [if_neg ha, if_neg ha]
  | succ c ih =>
    intro i acc z hi hz
    obtain ⟨z, rfl⟩ := Nat.exists_eq_succ_of_ne_zero (show z ≠ 0 by omega)
    have hb : ib (nI i) 8 := ib_nI (by omega) (by omega)
    rw [fH_masterIn_b4, if_neg (by rw [hn, n_le (by omega) (by omega)]; omega)]
    simp only [if_pos hb, ix_nI (show i < 2147483648 by omega), nI_1]
    exact ih (i + 1) _ z (by omega) (by omega)
theorem fH_masterIn_eq {h n : Nat} {M : Mem} (t : Int32) (hn : M h 1 = nI n) (hk : n ≤ 8) : fH_masterIn h t M = some (mst n (M (h + 1)) (M (h + 2)) t, M) := by
  unfold fH_masterIn mst
  have := fH_masterIn_b4_eq t hn hk n 0 0 1000 (by omega) (by omega)
  rw [show fH_masterIn_b4 h t 1000 0 0 M = fH_masterIn_b4 h t 1000 0 (nI 0) M from rfl, this]
  by_cases hc : 0 < sumF (M (h + 2)) n 0 0
  · rw [if_pos hc, if_pos hc]
  · rw [if_neg hc, if_neg hc]
theorem fM_masterIn_b40_eq {n : Nat} {M : Mem} (hk : okMin n (M 91)) : ∀ (c i : Nat) (left : Int32) (z : Nat), i + c = n → c < z → 0 ≤ left.toInt → left.toInt < (sumF (M 91) c i 0).toInt → fM_masterIn_b40 z left (nI i) M = some (scanF (M 90) (M 91) c i left, M) := by
  intro c
  induction c with
  | zero =>
    intro i left z hi hz h0 h1
    unfold sumF at h1
    have : (0 : Int32).toInt = 0 := rfl
    omega
  | succ c ih =>
    intro i left z hi hz h0 h1
    obtain ⟨z, rfl⟩ := Nat.exists_eq_succ_of_ne_zero (show z ≠ 0 by omega)
    have hi8 := hk.1
    have hm := hk.2 i (by omega)
    have hb : ib (nI i) 8 := ib_nI (by omega) (by omega)
    rw [fM_masterIn_b40]
    simp only [if_pos hb, ix_nI (show i < 2147483648 by omega)]
    rw [scanF]
    by_cases hc : M 91 i ≤ left
    · rw [if_pos hc, if_neg (by rw [i_lt]; rw [i_le] at hc; omega), nI_1]
      rw [i_le] at hc
      have e : (left - M 91 i).toInt = left.toInt - (M 91 i).toInt := t_sub (by have := tI_lt left; omega) (by have := tI_lt left; omega)
      refine ih (i + 1) _ z (by omega) (by omega) (by omega) ?_
      unfold sumF at h1
      rw [sumF_acc] at h1
      have hb2 := sumF_bd (g := M 91) c (i + 1) 0 (fun j h2 h3 => hk.2 j (by omega)) (by show (0 : Int) ≤ 0; omega) (by show (0 : Int) + _ ≤ 1000; omega)
      have z0 : (0 : Int32).toInt = 0 := rfl
      rw [z0] at hb2
      rw [Int32.zero_add, t_add (by omega) (by omega)] at h1
      omega
    · rw [if_neg hc, if_pos (by rw [i_lt]; rw [i_le] at hc; omega)]
theorem fM_masterIn_b4_eq {n : Nat} {M : Mem} (t : Int32) (ht : 0 ≤ t.toInt) (hn : M 85 11 = nI n) (hk : okMin n (M 91)) : ∀ (c i : Nat) (acc : Int32) (z : Nat), i + c = n → c < z → sumF (M 91) c i acc = sumF (M 91) n 0 0 → fM_masterIn_b4 t z acc (nI i) M = some (mst n (M 90) (M 91) t, M) := by
  have hk8 := hk.1
  intro c
  induction c with
  | zero =>
    intro i acc z hi hz hs
    obtain ⟨z, rfl⟩ := Nat.exists_eq_succ_of_ne_zero (show z ≠ 0 by omega)
    rw [fM_masterIn_b4, if_pos (by rw [hn, n_le (by omega) (by omega)]; omega)]
    have hs : acc = sumF (M 91) n 0 0 := hs
    unfold mst
    rw [← hs]
    have hb2 := sumF_bd (g := M 91) n 0 0 (fun j h2 h3 => hk.2 j (by omega)) (by show (0 : Int) ≤ 0; omega) (by show (0 : Int) + _ ≤ 1000; omega)
    rw [← hs] at hb2
    have z0 : (0 : Int32).toInt = 0 := rfl
    rw [z0] at hb2
    by_cases ha : acc = 0
    · rw [if_pos ha, if_neg (by rw [ha]; decide)]
    · have ha' : 0 < acc.toInt := by rw [i_eq, z0] at ha; omega
      rw [if_neg ha, if_neg ha, if_pos (by rw [i_lt]; exact ha')]
      have hr := rem_bd ha' ht
      exact fM_masterIn_b40_eq hk n 0 _ 1000 (by omega) (by omega) hr.1 (by rw [← hs]; exact hr.2)
  | succ c ih =>
    intro i acc z hi hz hs
    obtain ⟨z, rfl⟩ := Nat.exists_eq_succ_of_ne_zero (show z ≠ 0 by omega)
    have hb : ib (nI i) 8 := ib_nI (by omega) (by omega)
    rw [fM_masterIn_b4, if_neg (by rw [hn, n_le (by omega) (by omega)]; omega)]
    simp only [if_pos hb, ix_nI (show i < 2147483648 by omega), nI_1]
    exact ih (i + 1) _ z (by omega) (by omega) hs
theorem fM_masterIn_eq {n : Nat} {M : Mem} (t : Int32) (ht : 0 ≤ t.toInt) (hn : M 85 11 = nI n) (hk : okMin n (M 91)) : fM_masterIn t M = some (mst n (M 90) (M 91) t, M) :=
  fM_masterIn_b4_eq t ht hn hk n 0 0 1000 (by omega) (by have := hk.1; omega) rfl
