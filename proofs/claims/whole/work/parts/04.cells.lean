/-! 04: branches, cells, calls, returns, contracts -/
section R4
variable {K : Cx} {own : String} {cc : ByteArray} {n : Nat} {M : Mem} {P : Pm} {pc : Nat} {loc : List (Option Value)} {st : List Value}
variable {β : Type} {A B : Option β} {r : β}
theorem aw_if_eq (C : Ctx K own cc) {x : Int32} {off : Int} (tgt : Nat) (d : decode cc pc = .ok (.ifCond .eq off, 3)) (ht : (pc : Int) + off = (tgt : Int)) (h : (if x = 0 then A else B) = some r) (kt : A = some r → AW K n M P tgt loc st) (kf : B = some r → AW K n M P (pc + 3) loc st) : AW K n M P pc loc (.int x :: st) :=
  fun ls H locs hl hP hS => lv_if_eq C.1 C.2.1 d ht (fun c => kt ((if_pos c).symm.trans h) ls H locs hl hP hS) (fun c => kf ((if_neg c).symm.trans h) ls H locs hl hP hS)
theorem aw_icmp_eq (C : Ctx K own cc) {x y : Int32} {off : Int} (tgt : Nat) (d : decode cc pc = .ok (.if_icmp .eq off, 3)) (ht : (pc : Int) + off = (tgt : Int)) (h : (if x = y then A else B) = some r) (kt : A = some r → AW K n M P tgt loc st) (kf : B = some r → AW K n M P (pc + 3) loc st) : AW K n M P pc loc (.int y :: .int x :: st) :=
  fun ls H locs hl hP hS => lv_icmp_eq C.1 C.2.1 d ht (fun c => kt ((if_pos c).symm.trans h) ls H locs hl hP hS) (fun c => kf ((if_neg c).symm.trans h) ls H locs hl hP hS)
theorem aw_if_ne (C : Ctx K own cc) {x : Int32} {off : Int} (tgt : Nat) (d : decode cc pc = .ok (.ifCond .ne off, 3)) (ht : (pc : Int) + off = (tgt : Int)) (h : (if x = 0 then A else B) = some r) (kf : A = some r → AW K n M P (pc + 3) loc st) (kt : B = some r → AW K n M P tgt loc st) : AW K n M P pc loc (.int x :: st) :=
  fun ls H locs hl hP hS => lv_if_ne C.1 C.2.1 d ht (fun c => kt ((if_neg c).symm.trans h) ls H locs hl hP hS) (fun c => kf ((if_pos c).symm.trans h) ls H locs hl hP hS)
theorem aw_icmp_ne (C : Ctx K own cc) {x y : Int32} {off : Int} (tgt : Nat) (d : decode cc pc = .ok (.if_icmp .ne off, 3)) (ht : (pc : Int) + off = (tgt : Int)) (h : (if x = y then A else B) = some r) (kf : A = some r → AW K n M P (pc + 3) loc st) (kt : B = some r → AW K n M P tgt loc st) : AW K n M P pc loc (.int y :: .int x :: st) :=
  fun ls H locs hl hP hS => lv_icmp_ne C.1 C.2.1 d ht (fun c => kt ((if_neg c).symm.trans h) ls H locs hl hP hS) (fun c => kf ((if_pos c).symm.trans h) ls H locs hl hP hS)
theorem aw_if_lt (C : Ctx K own cc) {x : Int32} {off : Int} (tgt : Nat) (d : decode cc pc = .ok (.ifCond .lt off, 3)) (ht : (pc : Int) + off = (tgt : Int)) (h : (if x < 0 then A else B) = some r) (kt : A = some r → AW K n M P tgt loc st) (kf : B = some r → AW K n M P (pc + 3) loc st) : AW K n M P pc loc (.int x :: st) :=
  fun ls H locs hl hP hS => lv_if_lt C.1 C.2.1 d ht (fun c => kt ((if_pos c).symm.trans h) ls H locs hl hP hS) (fun c => kf ((if_neg c).symm.trans h) ls H locs hl hP hS)
theorem aw_icmp_lt (C : Ctx K own cc) {x y : Int32} {off : Int} (tgt : Nat) (d : decode cc pc = .ok (.if_icmp .lt off, 3)) (ht : (pc : Int) + off = (tgt : Int)) (h : (if x < y then A else B) = some r) (kt : A = some r → AW K n M P tgt loc st) (kf : B = some r → AW K n M P (pc + 3) loc st) : AW K n M P pc loc (.int y :: .int x :: st) :=
  fun ls H locs hl hP hS => lv_icmp_lt C.1 C.2.1 d ht (fun c => kt ((if_pos c).symm.trans h) ls H locs hl hP hS) (fun c => kf ((if_neg c).symm.trans h) ls H locs hl hP hS)
theorem aw_if_ge (C : Ctx K own cc) {x : Int32} {off : Int} (tgt : Nat) (d : decode cc pc = .ok (.ifCond .ge off, 3)) (ht : (pc : Int) + off = (tgt : Int)) (h : (if 0 ≤ x then A else B) = some r) (kt : A = some r → AW K n M P tgt loc st) (kf : B = some r → AW K n M P (pc + 3) loc st) : AW K n M P pc loc (.int x :: st) :=
  fun ls H locs hl hP hS => lv_if_ge C.1 C.2.1 d ht (fun c => kt ((if_pos c).symm.trans h) ls H locs hl hP hS) (fun c => kf ((if_neg c).symm.trans h) ls H locs hl hP hS)
theorem aw_icmp_ge (C : Ctx K own cc) {x y : Int32} {off : Int} (tgt : Nat) (d : decode cc pc = .ok (.if_icmp .ge off, 3)) (ht : (pc : Int) + off = (tgt : Int)) (h : (if y ≤ x then A else B) = some r) (kt : A = some r → AW K n M P tgt loc st) (kf : B = some r → AW K n M P (pc + 3) loc st) : AW K n M P pc loc (.int y :: .int x :: st) :=
  fun ls H locs hl hP hS => lv_icmp_ge C.1 C.2.1 d ht (fun c => kt ((if_pos c).symm.trans h) ls H locs hl hP hS) (fun c => kf ((if_neg c).symm.trans h) ls H locs hl hP hS)
theorem aw_if_gt (C : Ctx K own cc) {x : Int32} {off : Int} (tgt : Nat) (d : decode cc pc = .ok (.ifCond .gt off, 3)) (ht : (pc : Int) + off = (tgt : Int)) (h : (if 0 < x then A else B) = some r) (kt : A = some r → AW K n M P tgt loc st) (kf : B = some r → AW K n M P (pc + 3) loc st) : AW K n M P pc loc (.int x :: st) :=
  fun ls H locs hl hP hS => lv_if_gt C.1 C.2.1 d ht (fun c => kt ((if_pos c).symm.trans h) ls H locs hl hP hS) (fun c => kf ((if_neg c).symm.trans h) ls H locs hl hP hS)
theorem aw_icmp_gt (C : Ctx K own cc) {x y : Int32} {off : Int} (tgt : Nat) (d : decode cc pc = .ok (.if_icmp .gt off, 3)) (ht : (pc : Int) + off = (tgt : Int)) (h : (if y < x then A else B) = some r) (kt : A = some r → AW K n M P tgt loc st) (kf : B = some r → AW K n M P (pc + 3) loc st) : AW K n M P pc loc (.int y :: .int x :: st) :=
  fun ls H locs hl hP hS => lv_icmp_gt C.1 C.2.1 d ht (fun c => kt ((if_pos c).symm.trans h) ls H locs hl hP hS) (fun c => kf ((if_neg c).symm.trans h) ls H locs hl hP hS)
theorem aw_if_le (C : Ctx K own cc) {x : Int32} {off : Int} (tgt : Nat) (d : decode cc pc = .ok (.ifCond .le off, 3)) (ht : (pc : Int) + off = (tgt : Int)) (h : (if x ≤ 0 then A else B) = some r) (kt : A = some r → AW K n M P tgt loc st) (kf : B = some r → AW K n M P (pc + 3) loc st) : AW K n M P pc loc (.int x :: st) :=
  fun ls H locs hl hP hS => lv_if_le C.1 C.2.1 d ht (fun c => kt ((if_pos c).symm.trans h) ls H locs hl hP hS) (fun c => kf ((if_neg c).symm.trans h) ls H locs hl hP hS)
theorem aw_icmp_le (C : Ctx K own cc) {x y : Int32} {off : Int} (tgt : Nat) (d : decode cc pc = .ok (.if_icmp .le off, 3)) (ht : (pc : Int) + off = (tgt : Int)) (h : (if x ≤ y then A else B) = some r) (kt : A = some r → AW K n M P tgt loc st) (kf : B = some r → AW K n M P (pc + 3) loc st) : AW K n M P pc loc (.int y :: .int x :: st) :=
  fun ls H locs hl hP hS => lv_icmp_le C.1 C.2.1 d ht (fun c => kt ((if_pos c).symm.trans h) ls H locs hl hP hS) (fun c => kf ((if_neg c).symm.trans h) ls H locs hl hP hS)

theorem aw_lcmp (C : Ctx K own cc) {x y : Int64} (d : decode cc pc = .ok (.lcmp, 1)) (k : AW K n M P (pc + 1) loc (.int (lg_cmp x y) :: st)) : AW K n M P pc loc (.long y :: .long x :: st) :=
  fun ls H locs hl hP hS => W.lcmp C.1 C.2.1 d (k ls H locs hl hP hS)
theorem aw_tsIn (C : Ctx K own cc) {dflt lo hi : Int} {offs : Array Int} {len : Nat} {x : Int32} (off : Int) (tgt : Nat) (d : decode cc pc = .ok (.tableswitch dflt lo hi offs, len)) (h1 : ¬ x.toInt < lo) (h2 : ¬ hi < x.toInt) (ho : offs[(x.toInt - lo).toNat]? = some off) (ht : (pc : Int) + off = (tgt : Int)) (k : AW K n M P tgt loc st) : AW K n M P pc loc (.int x :: st) :=
  fun ls H locs hl hP hS => lv_tableIn C.1 C.2.1 d h1 h2 ho ht (k ls H locs hl hP hS)
theorem aw_tsOut (C : Ctx K own cc) {dflt lo hi : Int} {offs : Array Int} {len : Nat} {x : Int32} (tgt : Nat) (d : decode cc pc = .ok (.tableswitch dflt lo hi offs, len)) (h : x.toInt < lo ∨ hi < x.toInt) (ht : (pc : Int) + dflt = (tgt : Int)) (k : AW K n M P tgt loc st) : AW K n M P pc loc (.int x :: st) :=
  fun ls H locs hl hP hS => lv_tableOut C.1 C.2.1 d h ht (k ls H locs hl hP hS)
theorem aw_ls (C : Ctx K own cc) {dflt : Int} {ps : Array (Int × Int)} {len : Nat} {x : Int32} (off : Int) (tgt : Nat) (d : decode cc pc = .ok (.lookupswitch dflt ps, len)) (hp : (ps.toList.zip (ps.toList.drop 1)).all (fun (a, next) => a.1 < next.1) = true) (ho : Op.lookupswitch.offset ps.toList dflt x.toInt = off) (ht : (pc : Int) + off = (tgt : Int)) (k : AW K n M P tgt loc st) : AW K n M P pc loc (.int x :: st) :=
  fun ls H locs hl hP hS => lv_lookup C.1 C.2.1 d hp ho ht (k ls H locs hl hP hS)
/-- cell k is there, and of which kind and size -/
def OB (n k ci N : Nat) : Prop := k < n ∧ k < 1000 ∧ shf k = (ci, N)
theorem wad_lt {w : Wd} {k : Nat} (h : k < 1000) : wad w k = wSz w + k := if_pos h
theorem cl_lt {ci : Nat} {r : vw_C} (h : vwCl[ci]? = some r) : ci < 9 := (List.getElem?_eq_some_iff.mp h).1
theorem ent_ob {w : Wd} {M : Mem} {P : Pm} {k ci N : Nat} (hs : shf k = (ci, N)) (hc : ci < 9) : ent w M P k = .inr (ci, (List.range N).map (fvl w M P ci k)) := by
  unfold ent
  rw [hs, if_pos (show ci < 20 by omega)]
theorem ent_ar {w : Wd} {M : Mem} {P : Pm} {k t N : Nat} (hs : shf k = (t + 20, N)) (ht : t < 2) : ent w M P k = .inl (wA w t, N, .inl (M k)) := by
  unfold ent
  rw [hs, if_neg (show ¬ t + 20 < 20 by omega), if_pos (show t + 20 < 22 by omega), Nat.add_sub_cancel]
theorem ent_rf {w : Wd} {M : Mem} {P : Pm} {k t N : Nat} (hs : shf k = (t + 20, N)) (ht : 2 ≤ t) : ent w M P k = .inl (wA w t, N, .inr (.inr (.inr (.inr (fun j => (P k j).map (wad w)))))) := by
  unfold ent
  rw [hs, if_neg (show ¬ t + 20 < 20 by omega), if_neg (show ¬ t + 20 < 22 by omega), Nat.add_sub_cancel]
theorem ent_wr {w : Wd} {M : Mem} {P : Pm} {k j q : Nat} {x : Int32} (h : q ≠ k) : ent w (wr M k j x) P q = ent w M P q := by
  have e : wr M k j x q = M q := wr_ne h
  unfold ent fvl
  rw [e]
theorem rng_set {N j : Nat} {f g : Nat → Value} {v : Value} (hj : g j = v) (ho : ∀ i, i < N → i ≠ j → g i = f i) : ((List.range N).map f).set j v = (List.range N).map g := by
  apply List.ext_getElem?
  intro i
  by_cases hi : i < N
  · by_cases hij : j = i
    · subst hij
      rw [List.getElem?_set_self (by simpa using hi)]
      simp [hi, hj]
    · rw [List.getElem?_set_ne hij]
      simp [hi, ho i hi (fun z => hij z.symm)]
  · rw [List.getElem?_eq_none (by simp; omega), List.getElem?_eq_none (by simp; omega)]
theorem aw_get (C : Ctx K own cc) {k ci N j ix : Nat} {Cn : String} {T : u_T} (ob : OB n k ci N) (hc : vwCl[ci]? = some (Cn, T, N)) (hj : j < N) (hf : fso (vty ci j) = 0) (hg : Cond.fieldLink own ix (T j).1 (T j).2.1 (T j).2.2.1 ∈ lw_gd) (d : decode cc pc = .ok (.getfield ix, 3)) (kk : AW K n M P (pc + 3) loc (.int (M k j) :: st)) : AW K n M P pc loc (.ref k :: st) := by
  intro ls H locs hl hP hS
  have h9 := cl_lt hc
  have he := wsO_at (w := kw K) (M := M) (P := P) ob.1
  rw [ent_ob ob.2.2 h9] at he
  have e : (List.map (cv (kw K)) (.ref k :: st)) = .ref (wSz (kw K) + k) :: st.map (cv (kw K)) := by
    rw [List.map_cons]; show Value.ref (wad (kw K) k) :: _ = _; rw [wad_lt ob.2.1]
  rw [e]
  exact va_get C.1 C.2.1 C.2.2.2.2.1 (cl_words _ (List.mem_of_getElem? hc)) C.2.2.2.1 C.2.2.2.2.2.1.1 hP k he hc j hj (C.2.2.2.2.1 _ hg) (fun _ h => h) (v := .int (M k j)) (by simp [hj, fvl, hf]) d (kk ls H locs hl hP hS)
theorem aw_getL (C : Ctx K own cc) {k ci N j ix : Nat} {Cn : String} {T : u_T} (ob : OB n k ci N) (hc : vwCl[ci]? = some (Cn, T, N)) (hj : j < N) (hf : fso (vty ci j) = 2) (hg : Cond.fieldLink own ix (T j).1 (T j).2.1 (T j).2.2.1 ∈ lw_gd) (d : decode cc pc = .ok (.getfield ix, 3)) (kk : AW K n M P (pc + 3) loc (.long (lgc (M k (j + 100)) (M k j)) :: st)) : AW K n M P pc loc (.ref k :: st) := by
  intro ls H locs hl hP hS
  have h9 := cl_lt hc
  have he := wsO_at (w := kw K) (M := M) (P := P) ob.1
  rw [ent_ob ob.2.2 h9] at he
  have e : (List.map (cv (kw K)) (.ref k :: st)) = .ref (wSz (kw K) + k) :: st.map (cv (kw K)) := by
    rw [List.map_cons]; show Value.ref (wad (kw K) k) :: _ = _; rw [wad_lt ob.2.1]
  rw [e]
  exact va_get C.1 C.2.1 C.2.2.2.2.1 (cl_words _ (List.mem_of_getElem? hc)) C.2.2.2.1 C.2.2.2.2.2.1.1 hP k he hc j hj (C.2.2.2.2.1 _ hg) (fun _ h => h) (v := .long (lgc (M k (j + 100)) (M k j))) (by simp [hj, fvl, hf]) d (kk ls H locs hl hP hS)
theorem aw_getR (C : Ctx K own cc) {k ci N j ix r : Nat} {Cn : String} {T : u_T} (ob : OB n k ci N) (hc : vwCl[ci]? = some (Cn, T, N)) (hj : j < N) (hf : fso (vty ci j) = 1) (hr : P k j = some r) (hg : Cond.fieldLink own ix (T j).1 (T j).2.1 (T j).2.2.1 ∈ lw_gd) (d : decode cc pc = .ok (.getfield ix, 3)) (kk : AW K n M P (pc + 3) loc (.ref r :: st)) : AW K n M P pc loc (.ref k :: st) := by
  intro ls H locs hl hP hS
  have h9 := cl_lt hc
  have he := wsO_at (w := kw K) (M := M) (P := P) ob.1
  rw [ent_ob ob.2.2 h9] at he
  have e : (List.map (cv (kw K)) (.ref k :: st)) = .ref (wSz (kw K) + k) :: st.map (cv (kw K)) := by
    rw [List.map_cons]; show Value.ref (wad (kw K) k) :: _ = _; rw [wad_lt ob.2.1]
  rw [e]
  exact va_get C.1 C.2.1 C.2.2.2.2.1 (cl_words _ (List.mem_of_getElem? hc)) C.2.2.2.1 C.2.2.2.2.2.1.1 hP k he hc j hj (C.2.2.2.2.1 _ hg) (fun _ h => h) (v := .ref (wad (kw K) r)) (by simp [hj, fvl, hf, hr, va_rf]) d (kk ls H locs hl hP hS)
theorem aw_put (C : Ctx K own cc) {k ci N j ix : Nat} {x : Int32} {Cn : String} {T : u_T} (ob : OB n k ci N) (hc : vwCl[ci]? = some (Cn, T, N)) (hj : j < N) (hj2 : N ≤ 100) (hf : fso (vty ci j) = 0) (hfin : (T j).2.2.2 = false) (hn : narrow (vty ci j) (.int x) = .int x) (hfit : fits (vty ci j) (.int x) = true) (hg : Cond.fieldLink own ix (T j).1 (T j).2.1 (T j).2.2.1 ∈ lw_gd) (d : decode cc pc = .ok (.putfield ix, 3)) (kk : AW K n (wr M k j x) P (pc + 3) loc st) : AW K n M P pc loc (.int x :: .ref k :: st) := by
  intro ls H locs hl hP hS
  have h9 := cl_lt hc
  have he := wsO_at (w := kw K) (M := M) (P := P) ob.1
  rw [ent_ob ob.2.2 h9] at he
  have e : (List.map (cv (kw K)) (.int x :: .ref k :: st)) = .int x :: .ref (wSz (kw K) + k) :: st.map (cv (kw K)) := by
    rw [List.map_cons, List.map_cons]; show _ :: Value.ref (wad (kw K) k) :: _ = _; rw [wad_lt ob.2.1]; rfl
  rw [e]
  refine va_put C.1 C.2.1 C.2.2.2.2.1 (cl_words _ (List.mem_of_getElem? hc)) (vty ci) (vty_ok ci h9 _ hc) (vnm_ok ci h9 _ hc) C.2.2.2.1 C.2.2.2.2.2.1.1 hP wsO_D hS k he hc j hj (C.2.2.2.2.1 _ hg) (fun _ h => h) hfin (vty_ok ci h9 _ hc j hj) hn hfit (by simp; exact hj) d (fun H1 locs1 hP1 _ hS1 => kk ls H1 locs1 hl ?_ hS1)
  rw [← wsO_set (M' := wr M k j x) (P' := P) ob.1 _ (fun q _ hq => ent_wr hq)]
  · exact hP1
  · rw [ent_ob ob.2.2 h9]
    refine congrArg (fun l => Sum.inr (ci, l)) (rng_set ?_ ?_).symm
    · simp [fvl, hf, wr_same]
    · intro i _ hi
      unfold fvl
      have a1 : wr M k j x k i = M k i := wr_at hi
      have a2 : wr M k j x k (i + 100) = M k (i + 100) := wr_at (by omega)
      rw [a1, a2]
theorem aw_putL (C : Ctx K own cc) {k ci N j ix : Nat} {x : Int64} {Cn : String} {T : u_T} (ob : OB n k ci N) (hc : vwCl[ci]? = some (Cn, T, N)) (hj : j < N) (hj2 : N ≤ 100) (hf : vty ci j = .long) (hfin : (T j).2.2.2 = false) (hg : Cond.fieldLink own ix (T j).1 (T j).2.1 (T j).2.2.1 ∈ lw_gd) (d : decode cc pc = .ok (.putfield ix, 3)) (kk : AW K n (wr (wr M k (j + 100) (lgHi x)) k j (lgLo x)) P (pc + 3) loc st) : AW K n M P pc loc (.long x :: .ref k :: st) := by
  intro ls H locs hl hP hS
  have h9 := cl_lt hc
  have he := wsO_at (w := kw K) (M := M) (P := P) ob.1
  rw [ent_ob ob.2.2 h9] at he
  have e : (List.map (cv (kw K)) (.long x :: .ref k :: st)) = .long x :: .ref (wSz (kw K) + k) :: st.map (cv (kw K)) := by
    rw [List.map_cons, List.map_cons]; show _ :: Value.ref (wad (kw K) k) :: _ = _; rw [wad_lt ob.2.1]; rfl
  rw [e]
  refine va_put C.1 C.2.1 C.2.2.2.2.1 (cl_words _ (List.mem_of_getElem? hc)) (vty ci) (vty_ok ci h9 _ hc) (vnm_ok ci h9 _ hc) C.2.2.2.1 C.2.2.2.2.2.1.1 hP wsO_D hS k he hc j hj (C.2.2.2.2.1 _ hg) (fun _ h => h) hfin (vty_ok ci h9 _ hc j hj) (by rw [hf]; rfl) (by rw [hf]; rfl) (by simp; exact hj) d (fun H1 locs1 hP1 _ hS1 => kk ls H1 locs1 hl ?_ hS1)
  rw [← wsO_set (M := M) (P := P) (M' := wr (wr M k (j + 100) (lgHi x)) k j (lgLo x)) (P' := P) ob.1 _ (fun q _ hq => by rw [ent_wr hq, ent_wr hq])]
  · exact hP1
  · rw [ent_ob ob.2.2 h9]
    refine congrArg (fun l => Sum.inr (ci, l)) (rng_set ?_ ?_).symm
    · have a1 : wr (wr M k (j + 100) (lgHi x)) k j (lgLo x) k j = lgLo x := wr_same
      have a2 : wr (wr M k (j + 100) (lgHi x)) k j (lgLo x) k (j + 100) = lgHi x := by rw [wr_at (by omega)]; exact wr_same
      unfold fvl
      rw [a1, a2, hf, lgc_eq]
      rfl
    · intro i hi2 hi
      unfold fvl
      have a0 : ∀ b, b ≠ j → b ≠ j + 100 → wr (wr M k (j + 100) (lgHi x)) k j (lgLo x) k b = M k b := fun b h1 h2 => by rw [wr_at h1, wr_at h2]
      rw [a0 i hi (by omega), a0 (i + 100) (by omega) (by omega)]
/-- arrays -/
abbrev ib (i : Int32) (N : Nat) : Prop := 0 ≤ i.toInt ∧ i.toInt < N
abbrev ix (i : Int32) : Nat := i.toInt.toNat
theorem ib_in {i : Int32} {N : Nat} (h : ib i N) : vp_in i N := vp_in_iff.mpr h
theorem cvr {w : Wd} {k : Nat} (h : k < 1000) : cv w (.ref k) = .ref (wSz w + k) := by show Value.ref (wad w k) = _; rw [wad_lt h]
theorem ent_ro {w : Wd} {M : Mem} {P : Pm} {k q : Nat} {f : Nat → Int32} (h : q ≠ k) : ent w (fun a => if a = k then f else M a) P q = ent w M P q := by
  unfold ent fvl
  simp only [if_neg h]
/-- a whole row -/
def wrR (M : Mem) (k : Nat) (f : Nat → Int32) : Mem := fun a => if a = k then f else M a
theorem aw_iald (C : Ctx K own cc) {k N : Nat} {i : Int32} (ob : OB n k 20 N) (d : decode cc pc = .ok (.iaload, 1)) (h : (if ib i N then A else none) = some r) (kk : A = some r → AW K n M P (pc + 1) loc (.int (M k (ix i)) :: st)) : AW K n M P pc loc (.int i :: .ref k :: st) := by
  intro ls H locs hl hP hS
  have he := wsO_at (w := kw K) (M := M) (P := P) ob.1
  rw [ent_ar (t := 0) ob.2.2 (by decide)] at he
  rw [List.map_cons, List.map_cons, cvr ob.2.1]
  by_cases hin : ib i N
  · rw [if_pos hin] at h
    exact va_iald C.1 C.2.1 C.2.2.2.2.2.1.1 hP k 0 he rfl (ib_in hin) d (kk h ls H locs hl hP hS)
  · rw [if_neg hin] at h
    cases h
theorem aw_zald (C : Ctx K own cc) {k N : Nat} {i : Int32} (ob : OB n k 21 N) (d : decode cc pc = .ok (.baload, 1)) (h : (if ib i N then A else none) = some r) (kk : A = some r → AW K n M P (pc + 1) loc (.int (M k (ix i)) :: st)) : AW K n M P pc loc (.int i :: .ref k :: st) := by
  intro ls H locs hl hP hS
  have he := wsO_at (w := kw K) (M := M) (P := P) ob.1
  rw [ent_ar (t := 1) ob.2.2 (by decide)] at he
  rw [List.map_cons, List.map_cons, cvr ob.2.1]
  by_cases hin : ib i N
  · rw [if_pos hin] at h
    exact va_zald C.1 C.2.1 C.2.2.2.2.2.1.1 hP k 1 he rfl (ib_in hin) d (kk h ls H locs hl hP hS)
  · rw [if_neg hin] at h
    cases h
theorem aw_iast (C : Ctx K own cc) {k N : Nat} {i x : Int32} (ob : OB n k 20 N) (d : decode cc pc = .ok (.iastore, 1)) (h : (if ib i N then A else none) = some r) (kk : A = some r → AW K n (wr M k (ix i) x) P (pc + 1) loc st) : AW K n M P pc loc (.int x :: .int i :: .ref k :: st) := by
  intro ls H locs hl hP hS
  have he := wsO_at (w := kw K) (M := M) (P := P) ob.1
  rw [ent_ar (t := 0) ob.2.2 (by decide)] at he
  rw [List.map_cons, List.map_cons, List.map_cons, cvr ob.2.1]
  by_cases hin : ib i N
  · rw [if_pos hin] at h
    refine va_iast C.1 C.2.1 C.2.2.2.2.2.1.1 hP wsO_D hS k 0 he rfl (ib_in hin) d (fun H1 locs1 hP1 _ hS1 => kk h ls H1 locs1 hl ?_ hS1)
    rw [← wsO_set (M := M) (P := P) (M' := wr M k (ix i) x) (P' := P) ob.1 _ (fun q _ hq => ent_wr hq)]
    · exact hP1
    · rw [ent_ar (t := 0) ob.2.2 (by decide), wr_row]; rfl
  · rw [if_neg hin] at h
    cases h
theorem aw_zast (C : Ctx K own cc) {k N : Nat} {i x : Int32} (ob : OB n k 21 N) (d : decode cc pc = .ok (.bastore, 1)) (h : (if ib i N then A else none) = some r) (kk : A = some r → AW K n (wr M k (ix i) (vp_nar .boolean x)) P (pc + 1) loc st) : AW K n M P pc loc (.int x :: .int i :: .ref k :: st) := by
  intro ls H locs hl hP hS
  have he := wsO_at (w := kw K) (M := M) (P := P) ob.1
  rw [ent_ar (t := 1) ob.2.2 (by decide)] at he
  rw [List.map_cons, List.map_cons, List.map_cons, cvr ob.2.1]
  by_cases hin : ib i N
  · rw [if_pos hin] at h
    refine va_zast C.1 C.2.1 C.2.2.2.2.2.1.1 hP wsO_D hS k 1 he rfl (ib_in hin) d (fun H1 locs1 hP1 _ hS1 => kk h ls H1 locs1 hl ?_ hS1)
    rw [← wsO_set (M := M) (P := P) (M' := wr M k (ix i) (vp_nar .boolean x)) (P' := P) ob.1 _ (fun q _ hq => ent_wr hq)]
    · exact hP1
    · rw [ent_ar (t := 1) ob.2.2 (by decide), wr_row]; rfl
  · rw [if_neg hin] at h
    cases h
theorem tys_at {w : Wd} {t : Nat} (ht : t < 5) : ∃ ty, (tysO w)[t]? = some (wA w t, ty) := by
  match t, ht with
  | 0, _ => exact ⟨_, rfl⟩
  | 1, _ => exact ⟨_, rfl⟩
  | 2, _ => exact ⟨_, rfl⟩
  | 3, _ => exact ⟨_, rfl⟩
  | 4, _ => exact ⟨_, rfl⟩
theorem aw_alen (C : Ctx K own cc) (t : Nat) {k N : Nat} {v : Int32} (ob : OB n k (t + 20) N) (ht : t < 2) (hv : Int32.ofNat N = v) (d : decode cc pc = .ok (.arraylength, 1)) (kk : AW K n M P (pc + 1) loc (.int v :: st)) : AW K n M P pc loc (.ref k :: st) := by
  intro ls H locs hl hP hS
  have he := wsO_at (w := kw K) (M := M) (P := P) ob.1
  rw [ent_ar ob.2.2 ht] at he
  rw [List.map_cons, cvr ob.2.1]
  obtain ⟨ty, hty⟩ := tys_at (w := kw K) (show t < 5 by omega)
  exact va_alen C.1 C.2.1 C.2.2.2.2.2.1.1 hP k t he hty hv d (kk ls H locs hl hP hS)
theorem aw_aald (C : Ctx K own cc) (t : Nat) {k N q : Nat} {i : Int32} {Cn : String} (ob : OB n k (t + 20) N) (ht : 2 ≤ t) (hty : (tysO (kw K))[t]? = some (wA (kw K) t, .object Cn)) (d : decode cc pc = .ok (.aaload, 1)) (h : (if ib i N then A else none) = some r) (hq : ib i N → P k (ix i) = some q) (kk : A = some r → AW K n M P (pc + 1) loc (.ref q :: st)) : AW K n M P pc loc (.int i :: .ref k :: st) := by
  intro ls H locs hl hP hS
  have he := wsO_at (w := kw K) (M := M) (P := P) ob.1
  rw [ent_rf ob.2.2 ht] at he
  rw [List.map_cons, List.map_cons, cvr ob.2.1]
  by_cases hin : ib i N
  · rw [if_pos hin] at h
    refine va_aldq C.1 C.2.1 C.2.2.2.2.2.1.1 hP k t he hty (ib_in hin) d ?_
    rw [show P k i.toNatClampNeg = some q from hq hin]
    exact kk h ls H locs hl hP hS
  · rw [if_neg hin] at h
    cases h
/-- the copy of a stretch of an int array -/
theorem aw_copy (C : Ctx K own cc) {k1 k2 N1 N2 lk : Nat} {sp dp m : Int32} (ob1 : OB n k1 20 N1) (ob2 : OB n k2 20 N2) (hg : Cond.methodLink own lk arraycopyName ∈ lw_gd) (hst : (st.map fun v => v.category).sum ≤ 20) (d : decode cc pc = .ok (.invokestatic lk, 3)) (h : (if 0 ≤ sp.toInt ∧ 0 ≤ dp.toInt ∧ 0 ≤ m.toInt ∧ sp.toInt + m.toInt ≤ N1 ∧ dp.toInt + m.toInt ≤ N2 then A else none) = some r) (hw : Cond.native arraycopyName ∈ lw_gd ∧ Cond.static arraycopyName ∈ lw_gd ∧ Cond.initialized "java/lang/System" ∈ lw_gd)
    (kk : A = some r → AW K n (wrR M k2 (va_cpy (M k1) (M k2) (ix sp) (ix dp) (ix m))) P (pc + 3) loc st) : AW K n M P pc loc (.int m :: .int dp :: .ref k2 :: .int sp :: .ref k1 :: st) := by
  intro ls H locs hl hP hS
  have he1 := wsO_at (w := kw K) (M := M) (P := P) ob1.1
  have he2 := wsO_at (w := kw K) (M := M) (P := P) ob2.1
  rw [ent_ar (t := 0) ob1.2.2 (by decide)] at he1
  rw [ent_ar (t := 0) ob2.2.2 (by decide)] at he2
  rw [List.map_cons, List.map_cons, List.map_cons, List.map_cons, List.map_cons, cvr ob1.2.1, cvr ob2.2.1]
  split at h
  · rename_i hc
    obtain ⟨c1, c2, c3, c4, c5⟩ := hc
    have hR := C.2.2.2.2.2.2.2.2
    refine va_copyi C.1 C.2.1 (C.2.2.1.trans hl.1.symm) C.2.2.2.1 (C.2.2.2.2.1 _ hg) (C.2.2.2.2.1 _ hw.1) (C.2.2.2.2.1 _ hw.2.1) (C.2.2.2.2.1 _ hw.2.2) C.2.2.2.2.2.1.1 hP wsO_D hS k1 k2 0 0 he1 he2 rfl rfl rfl (by rw [Int32.lt_iff_toInt_lt]; exact Int.not_lt.mpr c1) (by rw [Int32.lt_iff_toInt_lt]; exact Int.not_lt.mpr c2) (by rw [Int32.lt_iff_toInt_lt]; exact Int.not_lt.mpr c3) (show ix sp + ix m ≤ N1 by simp only [ix]; omega) (show ix dp + ix m ≤ N2 by simp only [ix]; omega) (fun i _ => rfl) hR.1 ?_ d (fun H1 locs1 hP1 _ hS1 => kk h ls H1 locs1 hl ?_ hS1)
    · have e : ((st.map (cv (kw K))).map fun v => v.category) = st.map fun v => v.category := by
        rw [List.map_map]
        exact List.map_congr_left (fun v _ => cv_cat _ v)
      rw [e]
      have : nativeFrameWords "java/lang/System" "arraycopy" 5 = 7 := by decide +kernel
      omega
    · rw [← wsO_set (M := M) (P := P) (M' := wrR M k2 (va_cpy (M k1) (M k2) (ix sp) (ix dp) (ix m))) (P' := P) ob2.1 _ (fun q _ hq => ent_ro hq)]
      · exact hP1
      · rw [ent_ar (t := 0) ob2.2.2 (by decide)]
        simp only [wrR, if_true]
        rfl
  · cases h
/-- static arrays and what was there before -/
theorem wad_x {w : Wd} {j : Nat} : wad w (1000 + j) = wX w j := by
  unfold wad
  rw [if_neg (by omega), Nat.add_sub_cancel_left]
theorem aw_gets (C : Ctx K own cc) (nm : String) (j : Nat) (vs : List Int32) {lk : Nat} (hm : (nm, j, vs) ∈ ownStat) (hg : Cond.fieldLink own lk RX7 nm "[I" ∈ lw_gd) (d : decode cc pc = .ok (.getstatic lk, 3)) (kk : AW K n M P (pc + 3) loc (.ref (1000 + j) :: st)) : AW K n M P pc loc st := by
  intro ls H locs hl hP hS
  refine va_gets C.1 C.2.1 (C.2.2.2.2.2.1.2.2.1 _ hm).1 hS C.2.2.2.1 (C.2.2.2.2.1 _ hg) (fun _ h => h) d ?_
  have := kk ls H locs hl hP hS
  rw [List.map_cons] at this
  show W _ _ _ _ _ _ _ _ _ _ _ _ _ _ _ (F0 _ _ _ (.ref (wX (kw K) j) :: _))
  rw [← wad_x]
  exact this
theorem aw_getsN (C : Ctx K own cc) (nm : String) (j : Nat) (vs : List Int32) {host : String} {lk : Nat} (hm : (nm, j, vs) ∈ ownStat) (hg : (own, lk, RX7, nm, "[I", host) ∈ nstF) (d : decode cc pc = .ok (.getstatic lk, 3)) (kk : AW K n M P (pc + 3) loc (.ref (1000 + j) :: st)) : AW K n M P pc loc st := by
  intro ls H locs hl hP hS
  refine va_getsN C.1 C.2.1 (C.2.2.2.2.2.1.2.2.1 _ hm).1 hS C.2.2.2.1 (va_Nw.use rfl (C.2.2.2.2.2.1.2.1.2 _ hg)) (fun _ h => h) d ?_
  have := kk ls H locs hl hP hS
  rw [List.map_cons] at this
  show W _ _ _ _ _ _ _ _ _ _ _ _ _ _ _ (F0 _ _ _ (.ref (wX (kw K) j) :: _))
  rw [← wad_x]
  exact this
theorem aw_ialdS (C : Ctx K own cc) (nm : String) (j : Nat) (vs : List Int32) {i : Int32} (hm : (nm, j, vs) ∈ ownStat) (d : decode cc pc = .ok (.iaload, 1)) (h : (if ib i 6 then A else none) = some r) (kk : A = some r → AW K n M P (pc + 1) loc (.int (vs.getD (ix i) 0) :: st)) : AW K n M P pc loc (.int i :: .ref (1000 + j) :: st) := by
  intro ls H locs hl hP hS
  have e : (List.map (cv (kw K)) (.int i :: .ref (1000 + j) :: st)) = .int i :: .ref (wX (kw K) j) :: st.map (cv (kw K)) := by
    rw [List.map_cons, List.map_cons]; show _ :: Value.ref (wad (kw K) (1000 + j)) :: _ = _; rw [wad_x]; rfl
  rw [e]
  by_cases hin : ib i 6
  · rw [if_pos hin] at h
    exact va_ti C.1 C.2.1 (C.2.2.2.2.2.1.2.2.1 _ hm).2 hS (ib_in hin) rfl d (kk h ls H locs hl hP hS)
  · rw [if_neg hin] at h
    cases h
theorem aw_alenS (C : Ctx K own cc) (nm : String) (j : Nat) (vs : List Int32) (hm : (nm, j, vs) ∈ ownStat) (d : decode cc pc = .ok (.arraylength, 1)) (kk : AW K n M P (pc + 1) loc (.int 6 :: st)) : AW K n M P pc loc (.ref (1000 + j) :: st) := by
  intro ls H locs hl hP hS
  have e : (List.map (cv (kw K)) (.ref (1000 + j) :: st)) = .ref (wX (kw K) j) :: st.map (cv (kw K)) := by
    rw [List.map_cons]; show Value.ref (wad (kw K) (1000 + j)) :: _ = _; rw [wad_x]
  rw [e]
  exact va_tlen C.1 C.2.1 (C.2.2.2.2.2.1.2.2.1 _ hm).2 hS rfl d (kk ls H locs hl hP hS)
/-- the script -/
theorem aw_ialdX (C : Ctx K own cc) {i : Int32} (d : decode cc pc = .ok (.iaload, 1)) (hin : ib i (wL (kw K))) (kk : AW K n M P (pc + 1) loc (.int (wS (kw K) (ix i)) :: st)) : AW K n M P pc loc (.int i :: .ref 1000 :: st) := by
  intro ls H locs hl hP hS
  have e : (List.map (cv (kw K)) (.int i :: .ref 1000 :: st)) = .int i :: .ref (wX (kw K) 0) :: st.map (cv (kw K)) := by
    rw [List.map_cons, List.map_cons]; show _ :: Value.ref (wad (kw K) (1000 + 0)) :: _ = _; rw [wad_x]; rfl
  rw [e]
  have g := C.2.2.2.2.2.1.2.2.2.2.2.2.2.1
  exact va_sld C.1 C.2.1 g.1 g.2.1 g.2.2 hS (ib_in hin) d (kk ls H locs hl hP hS)
theorem aw_alenX (C : Ctx K own cc) (d : decode cc pc = .ok (.arraylength, 1)) (kk : AW K n M P (pc + 1) loc (.int (Int32.ofNat (wL (kw K))) :: st)) : AW K n M P pc loc (.ref 1000 :: st) := by
  intro ls H locs hl hP hS
  have e : (List.map (cv (kw K)) (.ref 1000 :: st)) = .ref (wX (kw K) 0) :: st.map (cv (kw K)) := by
    rw [List.map_cons]; show Value.ref (wad (kw K) (1000 + 0)) :: _ = _; rw [wad_x]
  rw [e]
  have g := C.2.2.2.2.2.1.2.2.2.2.2.2.2.1
  exact va_slen C.1 C.2.1 g.1 g.2.1 g.2.2 hS d (kk ls H locs hl hP hS)
/-- Math -/
theorem cat_map {w : Wd} : (((st.map (cv w)).map fun v => v.category) : List Nat) = st.map fun v => v.category := by
  rw [List.map_map]
  exact List.map_congr_left (fun v _ => cv_cat _ v)
theorem aw_max (C : Ctx K own cc) {lk : Nat} {x y : Int32} (hg : Cond.methodLink own lk Lib.Math.max.name ∈ lw_gd) (hw : Cond.static Lib.Math.max.name ∈ lw_gd ∧ Cond.initialized "java/lang/Math" ∈ lw_gd ∧ Cond.code Lib.Math.max.name Lib.Math.max.code 2 (some .int) ∈ lw_gd) (hst : (st.map fun v => v.category).sum ≤ 20) (hc : n - kn K ≤ (kR K).cells ∧ sln n - sln (kn K) ≤ (kR K).slots) (d : decode cc pc = .ok (.invokestatic lk, 3)) (kk : AW K n M P (pc + 3) loc (.int (if x < y then y else x) :: st)) : AW K n M P pc loc (.int y :: .int x :: st) := by
  intro ls H locs hl hP hS
  have hR := C.2.2.2.2.2.2.2.2
  exact va_mmax C.1 C.2.1 (C.2.2.1.trans hl.1.symm) C.2.2.2.1 (C.2.2.2.2.1 _ hg) (C.2.2.2.2.1 _ hw.1) (C.2.2.2.2.1 _ hw.2.1) (C.2.2.2.2.1 _ hw.2.2) hR.1 (by rw [cat_map]; omega) hc.1 hc.2 d (kk ls H locs hl hP hS)
theorem aw_min (C : Ctx K own cc) {lk : Nat} {x y : Int32} (hg : Cond.methodLink own lk Lib.Math.min.name ∈ lw_gd) (hw : Cond.static Lib.Math.min.name ∈ lw_gd ∧ Cond.initialized "java/lang/Math" ∈ lw_gd ∧ Cond.code Lib.Math.min.name Lib.Math.min.code 2 (some .int) ∈ lw_gd) (hst : (st.map fun v => v.category).sum ≤ 20) (hc : n - kn K ≤ (kR K).cells ∧ sln n - sln (kn K) ≤ (kR K).slots) (d : decode cc pc = .ok (.invokestatic lk, 3)) (kk : AW K n M P (pc + 3) loc (.int (if y < x then y else x) :: st)) : AW K n M P pc loc (.int y :: .int x :: st) := by
  intro ls H locs hl hP hS
  have hR := C.2.2.2.2.2.2.2.2
  exact va_mmin C.1 C.2.1 (C.2.2.1.trans hl.1.symm) C.2.2.2.1 (C.2.2.2.2.1 _ hg) (C.2.2.2.2.1 _ hw.1) (C.2.2.2.2.1 _ hw.2.1) (C.2.2.2.2.1 _ hw.2.2) hR.1 (by rw [cat_map]; omega) hc.1 hc.2 d (kk ls H locs hl hP hS)
theorem aw_abs (C : Ctx K own cc) {lk : Nat} {x : Int32} (hg : Cond.methodLink own lk Lib.Math.abs.name ∈ lw_gd) (hw : Cond.static Lib.Math.abs.name ∈ lw_gd ∧ Cond.initialized "java/lang/Math" ∈ lw_gd ∧ Cond.code Lib.Math.abs.name Lib.Math.abs.code 1 (some .int) ∈ lw_gd) (hst : (st.map fun v => v.category).sum ≤ 20) (hc : n - kn K ≤ (kR K).cells ∧ sln n - sln (kn K) ≤ (kR K).slots) (d : decode cc pc = .ok (.invokestatic lk, 3)) (kk : AW K n M P (pc + 3) loc (.int (if 0 ≤ x then x else 0 - x) :: st)) : AW K n M P pc loc (.int x :: st) := by
  intro ls H locs hl hP hS
  have hR := C.2.2.2.2.2.2.2.2
  exact va_mabs C.1 C.2.1 (C.2.2.1.trans hl.1.symm) C.2.2.2.1 (C.2.2.2.2.1 _ hg) (C.2.2.2.2.1 _ hw.1) (C.2.2.2.2.1 _ hw.2.1) (C.2.2.2.2.1 _ hw.2.2) hR.1 (by rw [cat_map]; omega) hc.1 hc.2 d (kk ls H locs hl hP hS)
end R4
