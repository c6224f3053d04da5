/-! 14: what a morning is: the house as it is seen (V), the state of the day (D: rows as the class has them) -/
/-- the house of base h. Rows: 0 stairs, stays, maids; 1, 2 the stays; 3 work; 4 kind, 5 number, 6 begins, 7 listed; 8 + k the list of maid k -/
def viewC (h : Nat) (M : Mem) : Mem := fun a b =>
  if a = 0 then (if b < 3 then M h b else 0)
  else if a = 1 then (if b < ix (M h 1) then M (h + 1) b else 0)
  else if a = 2 then (if b < ix (M h 1) then M (h + 2) b else 0)
  else if a = 3 then (if b < 8 then M (h + 3) b else 0)
  else if a < 8 then (if b < ix (M h 2) then M (h + 5 + 2 * b) (a - 4) else 0)
  else if a - 8 < ix (M h 2) ∧ b < ix (M (h + 5 + 2 * (a - 8)) 3) then M (h + 6 + 2 * (a - 8)) b else 0
abbrev vS (V : Mem) : Nat := ix (V 0 0)
abbrev vN (V : Mem) : Nat := ix (V 0 1)
abbrev vM (V : Mem) : Nat := ix (V 0 2)
abbrev vL (V : Mem) (k : Nat) : Nat := ix (V 7 k)
def VOK (V : Mem) : Prop := (V 0 0 = nI (vS V) ∧ vS V < 4) ∧ (V 0 1 = nI (vN V) ∧ okMin (vN V) (V 2)) ∧ (V 0 2 = nI (vM V) ∧ vM V ≤ 4) ∧ ∀ k, k < vM V → (0 ≤ (V 5 k).toInt ∧ (V 5 k).toInt ≤ 9) ∧ ib (V 6 k) 8 ∧ (V 7 k = nI (vL V k) ∧ vL V k ≤ 5) ∧ ∀ i, i < vL V k → ib (V (8 + k) i) 8
abbrev Tell : Type := Nat → Int32 → Int32 → Int32 → Int32 → Int32 → Int32 → Int32
/-- in its bounds -/
def clS (p : Nat) (v : Int32) : Int32 := if p = 2 then (if 0 < (if v < 99 then v else 99) then (if v < 99 then v else 99) else 0) else (if 1 < (if v < 9 then v else 9) then (if v < 9 then v else 9) else 1)
def takesS (kind num v : Int32) : Int32 := if kind = 1 ∨ kind = 3 then (if 1 < v - num / 3 then v - num / 3 else 1) else if kind = 2 then v + 1 else if kind = 4 then 2 * (v + 1) else if kind = 5 then 2 * v else v
def worksS (kind num v : Int32) : Int32 := if kind = 1 ∨ kind = 3 then v + 1 else if kind = 4 then v + num else if kind = 5 then (if 1 < v / 2 then v / 2 else 1) else v
def dareB (kind num t : Int32) : Bool := decide (kind = 3) && decide (t - t / (num + 2) * (num + 2) = 0)
def aimS (V D : Mem) (k : Nat) : Int32 := if (D 53 k).toInt < (V 7 k).toInt then V (8 + k) (ix (D 53 k)) else -1
def othF (D : Mem) (k : Nat) : Nat → Nat → Int32 → Int32
  | 0, _, acc => acc
  | c + 1, i, acc => othF D k c (i + 1) (if i ≠ k ∧ D 52 i = 0 ∧ D 50 i = D 50 k then acc + 1 else acc)
def othS (V D : Mem) (k : Nat) : Int32 := othF D k (vM V) 0 0
/-- what the rule tells -/
def telS (tl : Tell) (V D : Mem) (p k : Nat) (t beside : Int32) : Int32 := clS p (tl p t (D 50 k) (D 56 (ix (D 50 k))) (V 5 k) beside (othS V D k))
def nextS (V D : Mem) (k : Nat) : Int32 := if aimS V D k = -1 then -1 else nxt (vS V) (ix (D 50 k)) (ix (aimS V D k))
def lessS (w x : Int32) : Int32 := if 0 < w - x then w - x else 0
def turnS (V : Mem) (tl : Tell) (k : Nat) (t mm : Int32) (D : Mem) : Mem :=
  if 0 < (D 52 k).toInt then
    (if D 52 k - 1 = 0 then wr (wr D 52 k (D 52 k - 1)) 50 k (D 51 k) else wr D 52 k (D 52 k - 1))
  else if D 50 k = mm then wr (wr D 54 k (D 54 k + 1)) 45 13 (D 45 13 + telS tl V D 2 k t 0)
  else if D 50 k = aimS V D k then
    (if lessS (D 56 (ix (D 50 k))) (worksS (V 4 k) (V 5 k) (telS tl V D 1 k t 0)) = 0 then wr (wr D 56 (ix (D 50 k)) (lessS (D 56 (ix (D 50 k))) (worksS (V 4 k) (V 5 k) (telS tl V D 1 k t 0)))) 53 k (D 53 k + 1)
     else wr D 56 (ix (D 50 k)) (lessS (D 56 (ix (D 50 k))) (worksS (V 4 k) (V 5 k) (telS tl V D 1 k t 0))))
  else if nextS V D k = -1 ∨ (nextS V D k = mm ∧ dareB (V 4 k) (V 5 k) t = false) then wr D 55 k (D 55 k + 1)
  else wr (wr D 52 k (takesS (V 4 k) (V 5 k) (telS tl V D 0 k t (nextS V D k)))) 51 k (nextS V D k)
def turnsF (V : Mem) (tl : Tell) (t mm : Int32) : Nat → Nat → Mem → Mem
  | 0, _, D => D
  | c + 1, k, D => turnsF V tl t mm c (k + 1) (turnS V tl k t mm D)
def doneS (V D : Mem) : Bool := (List.range (vM V)).all (fun k => (List.range (vL V k)).all (fun i => decide ((D 56 (ix (V (8 + k) i))).toInt ≤ 0)))
def passS (V : Mem) (tl : Tell) (t : Int32) (D : Mem) : Mem :=
  let D1 := turnsF V tl t (mst (vN V) (V 1) (V 2) t) (vM V) 0 D
  if D1 45 14 = -1 ∧ doneS V D1 = true then wr D1 45 14 t else D1
def dayF (V : Mem) (tl : Tell) : Nat → Nat → Mem → Mem
  | 0, _, D => D
  | c + 1, t, D => dayF V tl c (t + 1) (passS V tl (nI t) D)
/-- how a day begins -/
def Start (V D : Mem) : Prop := (∀ k, k < vM V → D 50 k = V 6 k ∧ D 52 k = 0 ∧ D 53 k = 0 ∧ D 54 k = 0 ∧ D 55 k = 0) ∧ (∀ r, r < 8 → D 56 r = V 3 r) ∧ D 45 13 = 0 ∧ D 45 14 = -1
/-- where it can be -/
def DOK (V D : Mem) : Prop := ∀ k, k < vM V → ib (D 50 k) 8 ∧ (0 ≤ (D 52 k).toInt ∧ (D 52 k).toInt ≤ 100) ∧ (0 < (D 52 k).toInt → ib (D 51 k) 8) ∧ (0 ≤ (D 53 k).toInt ∧ (D 53 k).toInt ≤ (V 7 k).toInt)
theorem clS_bd (p : Nat) (v : Int32) : (p = 2 → 0 ≤ (clS p v).toInt ∧ (clS p v).toInt ≤ 99) ∧ (p ≠ 2 → 1 ≤ (clS p v).toInt ∧ (clS p v).toInt ≤ 9) := by
  have e99 : (99 : Int32).toInt = 99 := rfl
  have e9 : (9 : Int32).toInt = 9 := rfl
  have e1 : (1 : Int32).toInt = 1 := rfl
  have e0 : (0 : Int32).toInt = 0 := rfl
  unfold clS
  simp only [i_lt]
  constructor
  · intro hp
    rw [if_pos hp]
    repeat' split
    all_goals omega
  · intro hp
    rw [if_neg hp]
    repeat' split
    all_goals omega
theorem takesS_bd {kind num v : Int32} (hn : 0 ≤ num.toInt ∧ num.toInt ≤ 9) (hv : 1 ≤ v.toInt ∧ v.toInt ≤ 9) : 1 ≤ (takesS kind num v).toInt ∧ (takesS kind num v).toInt ≤ 100 := by
  have e1 : (1 : Int32).toInt = 1 := rfl
  have e2 : (2 : Int32).toInt = 2 := rfl
  have ed : (num / 3).toInt = num.toInt / 3 := by
    have := pk_div (a := ix num) (d := 3) (by unfold ix; omega) (by omega) (by omega)
    rw [nI_ix hn.1] at this
    rw [show (3 : Int32) = nI 3 from rfl, this, nI_t (by unfold ix; omega)]
    unfold ix
    omega
  have es : (v - num / 3).toInt = v.toInt - num.toInt / 3 := by rw [t_sub (by omega) (by omega), ed]
  have ea : (v + 1).toInt = v.toInt + 1 := by rw [t_add (by omega) (by omega), e1]
  have em : (2 * (v + 1)).toInt = 2 * (v.toInt + 1) := by rw [t_mul (by rw [e2]; omega) (by rw [e2]; omega), ea, e2]
  have em2 : (2 * v).toInt = 2 * v.toInt := by rw [t_mul (by rw [e2]; omega) (by rw [e2]; omega), e2]
  unfold takesS
  simp only [i_lt]
  repeat' split
  all_goals omega
/-- the small functions of the class -/
theorem fA_roomListed_eq (q : Nat) (x : Int32) (M : Mem) (hb : 0 ≤ (M q 3).toInt ∧ (M q 3).toInt ≤ 5) (h0 : 0 ≤ x.toInt) : fA_roomListed q x M = some (if x.toInt < (M q 3).toInt then M (q + 1) (ix x) else -1, M) := by
  unfold fA_roomListed
  simp only [fN_within_eq, Option.bind_some, bz_0]
  by_cases h : x.toInt < (M q 3).toInt
  · rw [if_neg (by omega), if_pos (show ib x 5 by unfold ib; omega), if_pos h]
  · rw [if_pos (by omega), if_neg h]
theorem fA_takes_eq (q : Nat) (v : Int32) (M : Mem) : fA_takes q v M = some (takesS (M q 0) (M q 1) v, M) := by
  unfold fA_takes takesS fA_takes_b40
  by_cases h1 : M q 0 = 1
  · rw [if_pos h1, if_pos (Or.inl h1)]
  · by_cases h2 : M q 0 = 2
    · rw [if_neg h1, if_pos h2, if_neg (by rw [h2]; decide), if_pos h2]
    · by_cases h3 : M q 0 = 3
      · rw [if_neg h1, if_neg h2, if_pos h3, if_pos (Or.inr h3)]
      · rw [if_neg h1, if_neg h2, if_neg h3, if_neg (show ¬ (M q 0 = 1 ∨ M q 0 = 3) from fun z => z.elim h1 h3), if_neg h2]
        by_cases h4 : M q 0 = 4
        · rw [if_pos h4, if_pos h4]
        · rw [if_neg h4, if_neg h4]
          by_cases h5 : M q 0 = 5
          · rw [if_pos h5, if_pos h5]
          · rw [if_neg h5, if_neg h5]
theorem fA_works_eq (q : Nat) (v : Int32) (M : Mem) : fA_works q v M = some (worksS (M q 0) (M q 1) v, M) := by
  unfold fA_works worksS fA_works_b40 fA_works_b59
  by_cases h1 : M q 0 = 1
  · rw [if_pos h1, if_pos (Or.inl h1)]
  · by_cases h2 : M q 0 = 2
    · rw [if_neg h1, if_pos h2, if_neg (by rw [h2]; decide), if_neg (by rw [h2]; decide), if_neg (by rw [h2]; decide)]
    · by_cases h3 : M q 0 = 3
      · rw [if_neg h1, if_neg h2, if_pos h3, if_pos (Or.inr h3)]
      · rw [if_neg h1, if_neg h2, if_neg h3, if_neg (show ¬ (M q 0 = 1 ∨ M q 0 = 3) from fun z => z.elim h1 h3)]
        by_cases h4 : M q 0 = 4
        · rw [if_pos h4, if_pos h4]
        · rw [if_neg h4, if_neg h4]
          by_cases h5 : M q 0 = 5
          · rw [if_pos h5, if_pos h5]
          · rw [if_neg h5, if_neg h5]
theorem num2 {num : Int32} (h : 0 ≤ num.toInt ∧ num.toInt ≤ 9) : ¬ num + 2 = 0 := by
  have e2 : (2 : Int32).toInt = 2 := rfl
  have e0 : (0 : Int32).toInt = 0 := rfl
  rw [i_eq, t_add (by omega) (by omega)]
  omega
theorem fA_dares_eq (q : Nat) (t : Int32) (M : Mem) (hn : 0 ≤ (M q 1).toInt ∧ (M q 1).toInt ≤ 9) : fA_dares q t M = some (bz (dareB (M q 0) (M q 1) t = true), M) := by
  unfold fA_dares dareB
  have h2 := num2 hn
  by_cases h1 : M q 0 = 3
  · rw [if_pos h1, if_neg h2]
    by_cases h3 : t - t / (M q 1 + 2) * (M q 1 + 2) = 0
    · rw [if_pos h3]; simp [h1, h3]
    · rw [if_neg h3]; simp [h1, h3]
  · rw [if_neg h1]; simp [h1]
