/-! 02: AN ABSTRACT MACHINE OVER NUMBERED CELLS. Cell k of the world lies at the address base + k; references ahead of 1000 are numbers of cells, from 1000 on what was there before. Memory: row k, place j. -/
abbrev Mem : Type := Nat → Nat → Int32
abbrev Pm : Type := Nat → Nat → Option Nat
/-- base address; classes; array classes; addresses of what was there before; the script -/
abbrev Wd : Type := Nat × va_G × (Nat → ClassId) × (Nat → Nat) × Nat × (Nat → Int32)
abbrev wSz (w : Wd) : Nat := w.1
abbrev wG (w : Wd) : va_G := w.2.1
abbrev wA (w : Wd) : Nat → ClassId := w.2.2.1
abbrev wX (w : Wd) : Nat → Nat := w.2.2.2.1
abbrev wL (w : Wd) : Nat := w.2.2.2.2.1
abbrev wS (w : Wd) : Nat → Int32 := w.2.2.2.2.2
def wad (w : Wd) (k : Nat) : Nat := if k < 1000 then wSz w + k else wX w (k - 1000)
def cv (w : Wd) : Value → Value
  | .ref k => .ref (wad w k)
  | .int x => .int x
  | .long x => .long x
  | .null => .null
  | v => v
theorem cv_cat (w : Wd) (v : Value) : (cv w v).category = v.category := by cases v <;> rfl
theorem cv_int {w : Wd} {v : Value} {x : Int32} (h : cv w v = .int x) : v = .int x := by cases v <;> simp [cv] at h <;> simp [h]
def lgc (hi lo : Int32) : Int64 := Int64.ofBitVec (hi.toBitVec ++ lo.toBitVec)
def lgHi (x : Int64) : Int32 := Int32.ofBitVec (x.toBitVec.extractLsb' 32 32)
def lgLo (x : Int64) : Int32 := Int32.ofBitVec (x.toBitVec.extractLsb' 0 32)
theorem lgc_eq (x : Int64) : lgc (lgHi x) (lgLo x) = x := by
  have e : (x.toBitVec.extractLsb' 32 32 ++ x.toBitVec.extractLsb' 0 32 : BitVec (32 + 32)) = x.toBitVec := by
    apply BitVec.eq_of_getLsbD_eq
    intro i hi
    rw [BitVec.getLsbD_append]
    by_cases h : i < 32
    · simp [h]
    · simp [h]
      rw [show 32 + (i - 32) = i by omega]
      have : i - 32 < 32 := by omega
      simp [this]
  unfold lgc lgHi lgLo
  exact congrArg Int64.ofBitVec e
/-- the cells, in the order in which they are made: class number and fields, or 20 + array class and length -/
def shp : List (Nat × Nat) := [(7, 10),
  (1, 8), (20, 8), (20, 8), (20, 8), (22, 4), (2, 5), (20, 5), (2, 5), (20, 5), (2, 5), (20, 5), (2, 5), (20, 5),
  (1, 8), (20, 8), (20, 8), (20, 8), (22, 4), (2, 5), (20, 5), (2, 5), (20, 5), (2, 5), (20, 5), (2, 5), (20, 5),
  (1, 8), (20, 8), (20, 8), (20, 8), (22, 4), (2, 5), (20, 5), (2, 5), (20, 5), (2, 5), (20, 5), (2, 5), (20, 5),
  (3, 10), (20, 160), (20, 160), (20, 3), (24, 6),
  (0, 15), (5, 2), (20, 64), (20, 6), (20, 160), (20, 4), (20, 4), (20, 4), (20, 4), (20, 4), (20, 4), (20, 8), (23, 4), (20, 5),
  (6, 2), (20, 160), (20, 3), (6, 2), (20, 160), (20, 3), (6, 2), (20, 160), (20, 3), (6, 2), (20, 160), (20, 3), (6, 2), (20, 160), (20, 3), (6, 2), (20, 160), (20, 3),
  (4, 3), (20, 40), (4, 3), (20, 40), (4, 3), (20, 40), (4, 3), (20, 40),
  (8, 59), (20, 960), (20, 6), (20, 160), (20, 8), (20, 8), (20, 8), (20, 4), (20, 4), (20, 4), (20, 20), (20, 4), (20, 64), (20, 4), (20, 4), (20, 4), (20, 4), (20, 4), (20, 4), (20, 8), (20, 5), (20, 8), (20, 24), (20, 32), (21, 4), (20, 4), (20, 4), (20, 160)]
def shf (k : Nat) : Nat × Nat := shp.getD k (20, 0)
/-- slots of the first n cells -/
def sln (n : Nat) : Nat := ((shp.take n).map (fun q => q.2)).sum
/-- a field's sort: 0 int or boolean, 1 reference, 2 long -/
def fso (ty : FieldType) : Nat := match ty with
  | .int => 0
  | .boolean => 0
  | .long => 2
  | _ => 1
def fvl (w : Wd) (M : Mem) (P : Pm) (ci k j : Nat) : Value := match fso (vty ci j) with
  | 0 => .int (M k j)
  | 2 => .long (lgc (M k (j + 100)) (M k j))
  | _ => va_rf ((P k j).map (wad w))
def ent (w : Wd) (M : Mem) (P : Pm) (k : Nat) : va_E :=
  if (shf k).1 < 20 then .inr ((shf k).1, (List.range (shf k).2).map (fvl w M P (shf k).1 k))
  else if (shf k).1 < 22 then .inl (wA w ((shf k).1 - 20), (shf k).2, .inl (M k))
  else .inl (wA w ((shf k).1 - 20), (shf k).2, .inr (.inr (.inr (.inr (fun j => (P k j).map (wad w))))))
def wsO (w : Wd) (n : Nat) (M : Mem) (P : Pm) : va_W := (List.range n).map (fun k => (wSz w + k, ent w M P k))
theorem wsO_at {w : Wd} {n k : Nat} {M : Mem} {P : Pm} (h : k < n) : (wsO w n M P)[k]? = some (wSz w + k, ent w M P k) := by simp [wsO, h]
theorem wsO_len {w : Wd} {n : Nat} {M : Mem} {P : Pm} : (wsO w n M P).length = n := by simp [wsO]
theorem wsO_D {w : Wd} {n : Nat} {M : Mem} {P : Pm} : va_D (fun q => wSz w ≤ q) (wsO w n M P) := by
  have key : ∀ (k : Nat) (q : Nat × va_E), (wsO w n M P)[k]? = some q → q.1 = wSz w + k := by
    intro k q h
    have hk : k < n := by have := (List.getElem?_eq_some_iff.mp h).1; rwa [wsO_len] at this
    rw [wsO_at hk] at h
    cases h
    rfl
  refine ⟨fun i j p q hp hq e => ?_, fun k q h => ?_⟩
  · have h1 := key i p hp
    have h2 := key j q hq
    omega
  · have h1 := key k q h
    show wSz w ≤ q.1
    omega
theorem wsO_ext {w : Wd} {n : Nat} {M M' : Mem} {P P' : Pm} (h : ∀ k, k < n → ent w M P k = ent w M' P' k) : wsO w n M P = wsO w n M' P' := by
  unfold wsO
  apply List.map_congr_left
  intro k hk
  rw [h k (List.mem_range.mp hk)]
theorem wsO_set {w : Wd} {n k : Nat} {M M' : Mem} {P P' : Pm} {e : va_E} (hk : k < n) (he : ent w M' P' k = e) (ho : ∀ q, q < n → q ≠ k → ent w M' P' q = ent w M P q) : (wsO w n M P).set k (wSz w + k, e) = wsO w n M' P' := by
  apply List.ext_getElem?
  intro i
  by_cases hi : i < n
  · rw [wsO_at hi]
    by_cases hik : k = i
    · subst hik
      rw [List.getElem?_set_self (by rw [wsO_len]; exact hi), he]
    · rw [List.getElem?_set_ne hik, wsO_at hi, ho i hi (fun z => hik z.symm)]
  · rw [List.getElem?_eq_none (by rw [List.length_set, wsO_len]; omega), List.getElem?_eq_none (by rw [wsO_len]; omega)]
theorem wsO_push {w : Wd} {n : Nat} {M : Mem} {P : Pm} : wsO w (n + 1) M P = wsO w n M P ++ [(wSz w + n, ent w M P n)] := by
  unfold wsO
  rw [List.range_succ, List.map_append]
  rfl
/-- a written place -/
def wr (M : Mem) (k j : Nat) (v : Int32) : Mem := fun a b => if a = k ∧ b = j then v else M a b
def wrP (P : Pm) (k j : Nat) (v : Option Nat) : Pm := fun a b => if a = k ∧ b = j then v else P a b
theorem wr_row {M : Mem} {k j : Nat} {v : Int32} : wr M k j v k = upd (M k) j v := by
  funext b
  simp [wr, upd]
theorem wr_ne {M : Mem} {k j a : Nat} {v : Int32} (h : a ≠ k) : wr M k j v a = M a := by
  funext b
  simp [wr, h]
theorem wr_same {M : Mem} {k j : Nat} {v : Int32} : wr M k j v k j = v := by simp [wr]
theorem wr_at {M : Mem} {k j b : Nat} {v : Int32} (h : b ≠ j) : wr M k j v k b = M k b := by simp [wr, h]
theorem wrP_ne {P : Pm} {k j a : Nat} {v : Option Nat} (h : a ≠ k) : wrP P k j v a = P a := by
  funext b
  simp [wrP, h]
/-! what holds of a state: classes, array classes, nest words, statics, texts, the script -/
def tysO (w : Wd) : List (ClassId × FieldType) := [(wA w 0, .int), (wA w 1, .boolean), (wA w 2, .object RX2), (wA w 3, .object RX4), (wA w 4, .object RX6)]
def ownStat : List (String × Nat × List Int32) := [("UNDER", 1, [-1, 0, 0, 1, 2, 0]), ("LEAST", 2, [0, 0, 0, 1, 0, 0]), ("MOST", 3, [3, 99, 7, 50, 9, 7])]
def txt0 : String := "steps 1 ; does 1 + maids ; costs 1 ;"
def txt1 : String := "minute room left number beside maids steps does costs or and not "
def txLen : List Nat := [36, 65]
def txByt : List (List Int32) := [[115, 116, 101, 112, 115, 32, 49, 32, 59, 32, 100, 111, 101, 115, 32, 49, 32, 43, 32, 109, 97, 105, 100, 115, 32, 59, 32, 99, 111, 115, 116, 115, 32, 49, 32, 59], [109, 105, 110, 117, 116, 101, 32, 114, 111, 111, 109, 32, 108, 101, 102, 116, 32, 110, 117, 109, 98, 101, 114, 32, 98, 101, 115, 105, 100, 101, 32, 109, 97, 105, 100, 115, 32, 115, 116, 101, 112, 115, 32, 100, 111, 101, 115, 32, 99, 111, 115, 116, 115, 32, 111, 114, 32, 97, 110, 100, 32, 110, 111, 116, 32]]
def GW (w : Wd) (U : State) : Prop :=
  va_K (wG w) vwCl (tysO w) U ∧
  ((∀ q ∈ nstM, va_Nw (.methodLinkNest q.1 q.2.1 q.2.2.1 q.2.2.2) U) ∧ (∀ q ∈ nstF, va_Nw (.fieldLinkNest q.1 q.2.1 q.2.2.1 q.2.2.2.1 q.2.2.2.2.1 q.2.2.2.2.2) U)) ∧
  (∀ q ∈ ownStat, va_Z RX7 q.1 "[I" (.ref (wX w q.2.1)) (fun q => wSz w ≤ q) U U.heap ∧ va_T .int (wX w q.2.1) 6 (fun j => .int (q.2.2.getD j 0)) (fun q => wSz w ≤ q) U U.heap) ∧
  (vk_R RX7 64 txt0 (wX w 4) U ∧ vk_R RX3 104 txt1 (wX w 5) U) ∧
  vk_S 2 txLen txByt (fun i => wX w (4 + i)) (fun i => wX w (6 + i)) (fun q => wSz w ≤ q) U U.heap ∧
  (va_Z RJ0 "COMPACT_STRINGS" "Z" (.int 1) (fun q => wSz w ≤ q) U U.heap ∧ (va_Z RJ3 "SIOOBE_FORMATTER" "Ljava/util/function/BiFunction;" .null (fun q => wSz w ≤ q) U U.heap ∨ va_Z RJ3 "SIOOBE_FORMATTER" "Ljava/util/function/BiFunction;" (.ref (wX w 9)) (fun q => wSz w ≤ q) U U.heap)) ∧
  (va_AO RX2 U ∧ va_AO RX4 U ∧ va_AO RX6 U) ∧
  (va_X (wX w 0) (wL w) (wS w) U U.heap ∧ wX w 0 < U.heap.size ∧ ¬ wSz w ≤ wX w 0) ∧ wSz w ≤ U.heap.size
theorem GW.move {w : Wd} {s U : State} {H : Heap} {locs : List Loc} (h : GW w s) (hS : va_S (fun q => wSz w ≤ q) s.heap H locs) (hU : U.heap = H) (hW : s.WarmedH U.vm) : GW w U := by
  subst hU
  have hk : ∀ a : Nat, a < s.heap.size → ¬ wSz w ≤ a → U.heap[a]? = s.heap[a]? := fun a h1 h2 => hS.2.1 a h1 h2
  have hA := hW.alike
  obtain ⟨g1, ⟨g2, g2'⟩, g3, ⟨g4, g4'⟩, g5, ⟨g6, g6'⟩, ⟨g7, g7', g7''⟩, ⟨g8, g8', g8''⟩, g9⟩ := h
  exact ⟨g1.moved hA, ⟨fun q hq => va_Nw.warmM hW (g2 q hq), fun q hq => va_Nw.warmF hW (g2' q hq)⟩, fun q hq => ⟨((g3 q hq).1.moved hA).kept hk, ((g3 q hq).2.moved hA).kept hk⟩, ⟨g4.warm hW, g4'.warm hW⟩, (g5.moved hA).kept hk, ⟨(g6.moved hA).kept hk, g6'.elim (fun z => Or.inl ((z.moved hA).kept hk)) (fun z => Or.inr ((z.moved hA).kept hk))⟩, ⟨g7.moved hA, g7'.moved hA, g7''.moved hA⟩, ⟨va_X.moved hA (g8.kept (hk _ g8' g8'')), Nat.lt_of_lt_of_le g8' hS.1, g8''⟩, Nat.le_trans g9 hS.1⟩
theorem GW.blind {w : Wd} {U : State} {g : JFrame} {mk : MethodId} {a : Array Value} (h : GW w U) : GW w (U.calling g mk a) := by
  obtain ⟨g1, ⟨g2, g2'⟩, g3, ⟨g4, g4'⟩, g5, ⟨g6, g6'⟩, ⟨g7, g7', g7''⟩, ⟨g8, g8', g8''⟩, g9⟩ := h
  have hA : U.vm.Alike (U.calling g mk a).vm := Vm.Alike.refl U.vm
  have hv : (U.calling g mk a).vm = U.vm := rfl
  exact ⟨g1.moved hA, ⟨fun q hq => va_Nw.same rfl rfl (g2 q hq), fun q hq => va_Nw.same rfl rfl (g2' q hq)⟩, fun q hq => ⟨(g3 q hq).1.moved hA, (g3 q hq).2.moved hA⟩, ⟨g4.same hv, g4'.same hv⟩, g5.moved hA, ⟨g6.moved hA, g6'.elim (fun z => Or.inl (z.moved hA)) (fun z => Or.inr (z.moved hA))⟩, ⟨g7.moved hA, g7'.moved hA, g7''.moved hA⟩, ⟨va_X.moved hA g8, g8', g8''⟩, g9⟩
