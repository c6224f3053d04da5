/-! 72: cells that are made -/
theorem sln_succ (n : Nat) : sln (n + 1) = sln n + (shf n).2 := by
  unfold sln shf
  by_cases h : n < shp.length
  · rw [List.take_succ_eq_append_getElem h, List.map_append, List.sum_append, List.getD_eq_getElem?_getD, List.getElem?_eq_getElem h]
    simp
  · rw [List.take_of_length_le (by omega), List.take_of_length_le (by omega), List.getD_eq_getElem?_getD, List.getElem?_eq_none (by omega)]
    simp
section R72
variable {K : Cx} {own : String} {cc : ByteArray} {n : Nat} {M : Mem} {P : Pm} {pc : Nat} {loc : List (Option Value)} {st : List Value}
theorem w_sized (C : Ctx K own cc) (hn : kn K ≤ n) {H : Heap} {locs : List Loc} {g : JFrame} (hP : va_P (wG (kw K)) vwCl (wsO (kw K) n M P) H) (hS : va_S (fun q => wSz (kw K) ≤ q) (ks K).heap H locs) (k : H.size = wSz (kw K) + n → W (kp K) (kl K) (ke K) (kR K) (ks K) (km K) (ka K) (kb K) (kmt K) (kc K) H locs (n - kn K) (sln n - sln (kn K)) (kQ K) g) : W (kp K) (kl K) (ke K) (kR K) (ks K) (km K) (ka K) (kb K) (kmt K) (kc K) H locs (n - kn K) (sln n - sln (kn K)) (kQ K) g := fun T hT X => k (aw_size C hn hP hS hT X) T hT X
theorem push_S {w : Wd} {H0 H H1 : Heap} {locs : List Loc} (hS : va_S (fun q => wSz w ≤ q) H0 H locs) (z : H1.size = H.size + 1) (o : ∀ q, q < H.size → H1[q]? = H[q]?) : va_S (fun q => wSz w ≤ q) H0 H1 locs := ⟨by have := hS.1; omega, fun x h1 h2 => (o x (Nat.lt_of_lt_of_le h1 hS.1)).trans (hS.2.1 x h1 h2), hS.2.2⟩
theorem push_P {w : Wd} {H H1 : Heap} (hP : va_P (wG w) vwCl (wsO w n M P) H) (o : ∀ q, q < H.size → H1[q]? = H[q]?) (e : va_at (wG w) vwCl (wSz w + n, ent w M P n) H1) : va_P (wG w) vwCl (wsO w (n + 1) M P) H1 := by
  rw [wsO_push]
  refine (hP.kept (fun k x hx => o x.1 ((hP k x hx).lt))).app (fun k x hx => ?_)
  have hz : k < 1 := (List.getElem?_eq_some_iff.mp hx).1
  rw [show k = 0 by omega] at hx
  cases hx
  exact e
theorem aw_new (C : Ctx K own cc) (hn : kn K ≤ n) {ci N lk : Nat} {Cn : String} {T : u_T} (hs : shf n = (ci, N)) (h1 : n < 1000) (hc : vwCl[ci]? = some (Cn, T, N)) (hM : ∀ j, M n j = 0) (hQ : ∀ j, P n j = none) (hg : Cond.classLink own lk Cn ∈ lw_gd ∧ Cond.instantiable Cn N ∈ lw_gd ∧ Cond.initialized Cn ∈ lw_gd) (hm : n + 1 - kn K ≤ (kR K).cells ∧ sln (n + 1) - sln (kn K) ≤ (kR K).slots) (hv : ∀ j, j < N → defaultValue (vty ci j) = (if fso (vty ci j) = 0 then .int 0 else if fso (vty ci j) = 2 then .long 0 else .null)) (d : decode cc pc = .ok (.new lk, 3)) (kk : AW K (n + 1) M P (pc + 3) loc (.ref n :: st)) : AW K n M P pc loc st := by
  intro ls H locs hl hP hS
  refine w_sized C hn hP hS fun hz => ?_
  have h9 := cl_lt hc
  have hKn := C.2.2.2.2.2.1.1.1 ci _ hc
  have es : sln (n + 1) = sln n + N := by rw [sln_succ, hs]
  have em := sln_mono hn
  refine W.newcK C.1 C.2.1 C.2.2.2.1 (C.2.2.2.2.1 _ hg.1) (C.2.2.2.2.1 _ hg.2.1) (C.2.2.2.2.1 _ hg.2.2) rfl d (by omega) (by omega) hKn.2.1 hz (fun H1 kC hkC e1 z1 o1 => ?_)
  have o2 : ∀ q, q < H.size → H1[q]? = H[q]? := fun q hq => o1 q (by omega)
  have A := kk ls H1 locs hl (push_P hP o2 ?_) (push_S hS (by omega) o2)
  · rw [show n + 1 - kn K = n - kn K + 1 by omega, show sln (n + 1) - sln (kn K) = sln n - sln (kn K) + N by omega] at A
    rw [List.map_cons, cvr h1] at A
    exact A
  · rw [ent_ob hs h9]
    refine ⟨_, hc, (u_born (vty ci) C.2.2.2.2.1 (cl_words _ (List.mem_of_getElem? hc)) hKn hkC e1 (vty_ok ci h9 _ hc)).to (fun j hj => ?_)⟩
    have e : vp_V ((List.range N).map (fvl (kw K) M P ci n)) j = fvl (kw K) M P ci n j := by
      unfold vp_V
      rw [List.getD_eq_getElem?_getD, List.getElem?_map, List.getElem?_range hj]
      rfl
    rw [hv j hj, e]
    unfold fvl
    rw [hM, hM, hQ]
    generalize fso (vty ci j) = q
    by_cases h0 : q = 0
    · subst h0; rfl
    · by_cases h2 : q = 2
      · subst h2; rfl
      · rw [if_neg h0, if_neg h2]
        split
        · exact absurd rfl h0
        · exact absurd rfl h2
        · rfl
theorem aw_newa (C : Ctx K own cc) (hn : kn K ≤ n) {N : Nat} {v : Int32} (hs : shf n = (20, N)) (h1 : n < 1000) (hM : ∀ j, M n j = 0) (hg : Cond.arrayClass .int ∈ lw_gd) (hv : ¬ v < 0 ∧ v.toNatClampNeg = N ∧ N ≤ 1000) (hm : n + 1 - kn K ≤ (kR K).cells ∧ sln (n + 1) - sln (kn K) ≤ (kR K).slots) (d : decode cc pc = .ok (.newarray .int, 2)) (kk : AW K (n + 1) M P (pc + 2) loc (.ref n :: st)) : AW K n M P pc loc (.int v :: st) := by
  intro ls H locs hl hP hS
  refine w_sized C hn hP hS fun hz => ?_
  have es : sln (n + 1) = sln n + N := by rw [sln_succ, hs]
  have em := sln_mono hn
  have ty := (C.2.2.2.2.2.1.1.2 0 _ rfl).2
  refine va_newaK (atype := .int) C.1 C.2.1 (C.2.2.2.2.1 _ hg) rfl d rfl hv.1 hv.2.1 (by show N * 4 ≤ _; omega) (by omega) (by omega) hz (fun H1 cA e1 z1 o1 hA hf => ?_)
  have o2 : ∀ q, q < H.size → H1[q]? = H[q]? := fun q hq => o1 q (by omega)
  have hcA : wA (kw K) 0 = cA := Option.some.inj (ty.symm.trans hf)
  have A := kk ls H1 locs hl (push_P hP o2 ?_) (push_S hS (by omega) o2)
  · rw [show n + 1 - kn K = n - kn K + 1 by omega, show sln (n + 1) - sln (kn K) = sln n - sln (kn K) + N by omega] at A
    rw [List.map_cons, cvr h1] at A
    exact A
  · rw [ent_ar (t := 0) hs (by decide), hcA, show M n = fun _ => 0 from funext hM]
    exact e1
theorem aw_newz (C : Ctx K own cc) (hn : kn K ≤ n) {N : Nat} {v : Int32} (hs : shf n = (21, N)) (h1 : n < 1000) (hM : ∀ j, M n j = 0) (hg : Cond.arrayClass .boolean ∈ lw_gd) (hv : ¬ v < 0 ∧ v.toNatClampNeg = N ∧ N ≤ 1000) (hm : n + 1 - kn K ≤ (kR K).cells ∧ sln (n + 1) - sln (kn K) ≤ (kR K).slots) (d : decode cc pc = .ok (.newarray .boolean, 2)) (kk : AW K (n + 1) M P (pc + 2) loc (.ref n :: st)) : AW K n M P pc loc (.int v :: st) := by
  intro ls H locs hl hP hS
  refine w_sized C hn hP hS fun hz => ?_
  have es : sln (n + 1) = sln n + N := by rw [sln_succ, hs]
  have em := sln_mono hn
  have ty := (C.2.2.2.2.2.1.1.2 1 _ rfl).2
  refine va_newaK (atype := .boolean) C.1 C.2.1 (C.2.2.2.2.1 _ hg) rfl d rfl hv.1 hv.2.1 (by show N * 1 ≤ _; omega) (by omega) (by omega) hz (fun H1 cA e1 z1 o1 hA hf => ?_)
  have o2 : ∀ q, q < H.size → H1[q]? = H[q]? := fun q hq => o1 q (by omega)
  have hcA : wA (kw K) 1 = cA := Option.some.inj (ty.symm.trans hf)
  have A := kk ls H1 locs hl (push_P hP o2 ?_) (push_S hS (by omega) o2)
  · rw [show n + 1 - kn K = n - kn K + 1 by omega, show sln (n + 1) - sln (kn K) = sln n - sln (kn K) + N by omega] at A
    rw [List.map_cons, cvr h1] at A
    exact A
  · rw [ent_ar (t := 1) hs (by decide), hcA, show M n = fun _ => 0 from funext hM]
    exact e1
theorem aw_anew (C : Ctx K own cc) (hn : kn K ≤ n) (t : Nat) {N lk : Nat} {v : Int32} {Cn : String} (hs : shf n = (t + 20, N)) (ht : 2 ≤ t) (h1 : n < 1000) (hty : (tysO (kw K))[t]? = some (wA (kw K) t, .object Cn)) (hQ : ∀ j, P n j = none) (hao : va_AO Cn (ks K)) (hg : Cond.classLink own lk Cn ∈ lw_gd) (hv : ¬ v < 0 ∧ v.toNatClampNeg = N ∧ N ≤ 1000) (hm : n + 1 - kn K ≤ (kR K).cells ∧ sln (n + 1) - sln (kn K) ≤ (kR K).slots) (d : decode cc pc = .ok (.anewarray lk, 3)) (kk : AW K (n + 1) M P (pc + 3) loc (.ref n :: st)) : AW K n M P pc loc (.int v :: st) := by
  intro ls H locs hl hP hS
  refine w_sized C hn hP hS fun hz => ?_
  have es : sln (n + 1) = sln n + N := by rw [sln_succ, hs]
  have em := sln_mono hn
  have ty := (C.2.2.2.2.2.1.1.2 t _ hty).2
  obtain ⟨kA0, comp0, t1, t2, t3, t4⟩ := ty
  refine W.anew C.1 C.2.1 C.2.2.2.1 (C.2.2.2.2.1 _ hg) (va_AO.use hao) rfl d rfl hv.1 (by rw [hv.2.1]; omega) (by omega) (by rw [hv.2.1]; omega) (fun cA kA comp f1 f2 f3 f4 => ?_)
  have hcA : wA (kw K) t = cA := Option.some.inj (t4.symm.trans f1)
  generalize hH1 : H.push ({ cls := cA, slots := Array.replicate v.toNatClampNeg .null, vm := .none } : Cell) = H1
  have z1 : H1.size = H.size + 1 := by rw [← hH1, Array.size_push]
  have e1 : H1[H.size]? = some (arrV cA v.toNatClampNeg (fun _ => .null)) := by rw [← hH1, Array.getElem?_push_size, ← arrV_new]
  have o2 : ∀ q : Nat, q < H.size → H1[q]? = H[q]? := fun q hq => by rw [← hH1, Array.getElem?_push, if_neg (Nat.ne_of_lt hq)]
  have A := kk ls H1 locs hl (push_P hP o2 ?_) (push_S hS (by omega) o2)
  · rw [show n + 1 - kn K = n - kn K + 1 by omega, show sln (n + 1) - sln (kn K) = sln n - sln (kn K) + v.toNatClampNeg by rw [hv.2.1]; omega] at A
    rw [List.map_cons, cvr h1, ← hz] at A
    exact A
  · rw [ent_rf hs ht, hcA, ← hz]
    show H1[H.size]? = some (vp_cell _ _)
    rw [vp_cell_q, e1, hv.2.1]
    refine congrArg some (congrArg (arrV cA N) (funext fun j => ?_))
    rw [hQ j]
    rfl
end R72
