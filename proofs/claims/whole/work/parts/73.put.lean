/-! 73: references that are laid -/
theorem ent_wrP {w : Wd} {M : Mem} {P : Pm} {k j q : Nat} {x : Option Nat} (h : q ≠ k) : ent w M (wrP P k j x) q = ent w M P q := by
  have e : wrP P k j x q = P q := wrP_ne h
  unfold ent fvl
  rw [e]
section R73
variable {K : Cx} {own : String} {cc : ByteArray} {n : Nat} {M : Mem} {P : Pm} {pc : Nat} {loc : List (Option Value)} {st : List Value}
theorem ent_putR {w : Wd} {k ci N j r : Nat} (hs : shf k = (ci, N)) (h9 : ci < 9) (hf : fso (vty ci j) = 1) : ent w M (wrP P k j (some r)) k = .inr (ci, ((List.range N).map (fvl w M P ci k)).set j (.ref (wad w r))) := by
  rw [ent_ob hs h9]
  refine congrArg (fun l => Sum.inr (ci, l)) (rng_set ?_ ?_).symm
  · simp [fvl, hf, wrP, va_rf]
  · intro i _ hi
    unfold fvl
    have a1 : wrP P k j (some r) k i = P k i := by simp [wrP, hi]
    rw [a1]
theorem aw_putRF (C : Ctx K own cc) {k ci N j ix r : Nat} {Cn : String} {T : u_T} (ob : OB n k ci N) (hc : vwCl[ci]? = some (Cn, T, N)) (hj : j < N) (hf : fso (vty ci j) = 1) (hfin : (T j).2.2.2 = true) (hin2 : (kmt K).name = "<init>") (hdecl : (T j).1 = own) (hn : ∀ x, narrow (vty ci j) (.ref x) = .ref x) (hfit : ∀ x, fits (vty ci j) (.ref x) = true) (hg : Cond.fieldLink own ix (T j).1 (T j).2.1 (T j).2.2.1 ∈ lw_gd) (d : decode cc pc = .ok (.putfield ix, 3)) (kk : AW K n M (wrP P k j (some r)) (pc + 3) loc st) : AW K n M P pc loc (.ref r :: .ref k :: st) := by
  intro ls H locs hl hP hS
  have h9 := cl_lt hc
  have he := wsO_at (w := kw K) (M := M) (P := P) ob.1
  rw [ent_ob ob.2.2 h9] at he
  have e : (List.map (cv (kw K)) (.ref r :: .ref k :: st)) = .ref (wad (kw K) r) :: .ref (wSz (kw K) + k) :: st.map (cv (kw K)) := by
    rw [List.map_cons, List.map_cons]; show _ :: Value.ref (wad (kw K) k) :: _ = _; rw [wad_lt ob.2.1]; rfl
  rw [e]
  refine va_putF C.1 C.2.1 C.2.2.2.2.1 (cl_words _ (List.mem_of_getElem? hc)) (vty ci) (vty_ok ci h9 _ hc) (vnm_ok ci h9 _ hc) C.2.2.2.1 C.2.2.2.2.2.1.1 hP wsO_D hS k he hc j hj (C.2.2.2.2.1 _ hg) (fun _ h => h) hfin hin2 hdecl (vty_ok ci h9 _ hc j hj) (hn _) (hfit _) (by simp; exact hj) d (fun H1 locs1 hP1 _ hS1 => kk ls H1 locs1 hl ?_ hS1)
  rw [← wsO_set (M' := M) (P' := wrP P k j (some r)) ob.1 (ent_putR ob.2.2 h9 hf) (fun q _ hq => ent_wrP hq)]
  exact hP1
theorem aw_putR (C : Ctx K own cc) {k ci N j ix r : Nat} {Cn : String} {T : u_T} (ob : OB n k ci N) (hc : vwCl[ci]? = some (Cn, T, N)) (hj : j < N) (hf : fso (vty ci j) = 1) (hfin : (T j).2.2.2 = false) (hn : ∀ x, narrow (vty ci j) (.ref x) = .ref x) (hfit : ∀ x, fits (vty ci j) (.ref x) = true) (hg : Cond.fieldLink own ix (T j).1 (T j).2.1 (T j).2.2.1 ∈ lw_gd) (d : decode cc pc = .ok (.putfield ix, 3)) (kk : AW K n M (wrP P k j (some r)) (pc + 3) loc st) : AW K n M P pc loc (.ref r :: .ref k :: st) := by
  intro ls H locs hl hP hS
  have h9 := cl_lt hc
  have he := wsO_at (w := kw K) (M := M) (P := P) ob.1
  rw [ent_ob ob.2.2 h9] at he
  have e : (List.map (cv (kw K)) (.ref r :: .ref k :: st)) = .ref (wad (kw K) r) :: .ref (wSz (kw K) + k) :: st.map (cv (kw K)) := by
    rw [List.map_cons, List.map_cons]; show _ :: Value.ref (wad (kw K) k) :: _ = _; rw [wad_lt ob.2.1]; rfl
  rw [e]
  refine va_put C.1 C.2.1 C.2.2.2.2.1 (cl_words _ (List.mem_of_getElem? hc)) (vty ci) (vty_ok ci h9 _ hc) (vnm_ok ci h9 _ hc) C.2.2.2.1 C.2.2.2.2.2.1.1 hP wsO_D hS k he hc j hj (C.2.2.2.2.1 _ hg) (fun _ h => h) hfin (vty_ok ci h9 _ hc j hj) (hn _) (hfit _) (by simp; exact hj) d (fun H1 locs1 hP1 _ hS1 => kk ls H1 locs1 hl ?_ hS1)
  rw [← wsO_set (M' := M) (P' := wrP P k j (some r)) ob.1 (ent_putR ob.2.2 h9 hf) (fun q _ hq => ent_wrP hq)]
  exact hP1
theorem aw_aast (C : Ctx K own cc) (t : Nat) {k N q ci Nq : Nat} {i : Int32} {r : vw_C} (ob : OB n k (t + 20) N) (ht : 2 ≤ t) (hty : (tysO (kw K))[t]? = some (wA (kw K) t, .object r.1)) (obq : OB n q ci Nq) (hcq : vwCl[ci]? = some r) (hin : ib i N) (d : decode cc pc = .ok (.aastore, 1)) (kk : AW K n M (wrP P k (ix i) (some q)) (pc + 1) loc st) : AW K n M P pc loc (.ref q :: .int i :: .ref k :: st) := by
  intro ls H locs hl hP hS
  have h9 := cl_lt hcq
  have he := wsO_at (w := kw K) (M := M) (P := P) ob.1
  have hq := wsO_at (w := kw K) (M := M) (P := P) obq.1
  rw [ent_rf ob.2.2 ht] at he
  rw [ent_ob obq.2.2 h9] at hq
  rw [List.map_cons, List.map_cons, List.map_cons, cvr ob.2.1, cvr obq.2.1]
  refine va_astq C.1 C.2.1 C.2.2.2.2.2.1.1 hP wsO_D hS k t q ci he hty hq hcq (ib_in hin) d (fun H1 locs1 hP1 _ hS1 => kk ls H1 locs1 hl ?_ hS1)
  rw [← wsO_set (M := M) (P := P) (M' := M) (P' := wrP P k (ix i) (some q)) ob.1 _ (fun q _ hq => ent_wrP hq)]
  · exact hP1
  · rw [ent_rf ob.2.2 ht]
    refine congrArg (fun f => Sum.inl (wA (kw K) t, N, Sum.inr (Sum.inr (Sum.inr (Sum.inr f))))) (funext fun j => ?_)
    unfold wrP va_up
    by_cases hj : j = ix i
    · subst hj
      simp [wad_lt obq.2.1]
    · rw [if_neg (fun z => hj z.2), if_neg (show ¬ j = i.toNatClampNeg from hj)]
end R73
