/-! 05: calls, returns, contracts -/
def rm (lv mc ms : Nat) : Room := { frames := lv, cells := mc, slots := ms, locals := 40 * lv }
abbrev Tg : Type := Option Value → Nat → Mem → Pm → Prop
def Qm (w : Wd) (T : Tg) : Array Value → State → Outcome → State → Prop := fun _ st oc t => ∃ (rv : Option Value) (n1 : Nat) (M1 : Mem) (P1 : Pm), oc = .returned (rv.map (cv w)) ∧ T rv n1 M1 P1 ∧ va_P (wG w) vwCl (wsO w n1 M1 P1) t.heap ∧ va_F (fun q => wSz w ≤ q) st t
/-- a method's contract from the world (n, M, P) on: it ends, and T holds of what it answers and of the world behind it -/
def CM (l : Launch) (w : Wd) (y : MethodName) (cc : ByteArray) (maxL : Nat) (ret : Option FieldType) (lv mc ms : Nat) (as : List Value) (n : Nat) (M : Mem) (P : Pm) (T : Tg) : Prop :=
  Met l y (.code y cc maxL ret :: lw_gd) (rm lv mc ms) (va_Pc (as.map (cv w)) (fun U => GW w U ∧ U.heap.size = wSz w + n ∧ va_P (wG w) vwCl (wsO w n M P) U.heap)) (Qm w T) mc ms (fun q => wSz w ≤ q)
/-- what is asked of a method that is called -/
def MF (y : MethodName) (cc : ByteArray) (maxL : Nat) (ret : Option FieldType) (na : Nat) : Prop :=
  Cond.code y cc maxL ret ∈ lw_gd ∧ Cond.initialized y.cls ∈ lw_gd ∧ (y.cls ≠ "java/lang/invoke/MethodHandle" ∧ y.cls ≠ "java/lang/invoke/VarHandle" ∧ (parseMethodDescriptor y.desc).map (fun d => d.parameters.length) = some na) ∧ plainName y.cls = true ∧ maxL ≤ 20
def RT (K : Cx) (ret : Option FieldType) (T : Tg) (mc ms : Nat) : Prop := kQ K = MQ (kb K) (Qm (kw K) T) (ka K) (ks K) mc ms (fun q => wSz (kw K) ≤ q) ∧ (kmt K).sig.returnType = ret
def Rm (K : Cx) (n : Nat) : Prop := kn K ≤ n ∧ n - kn K ≤ (kR K).cells ∧ sln n - sln (kn K) ≤ (kR K).slots
theorem sln_mono {a b : Nat} (h : a ≤ b) : sln a ≤ sln b := by
  unfold sln
  obtain ⟨c, rfl⟩ := Nat.le.dest h
  rw [List.take_add, List.map_append, List.sum_append]
  omega
theorem gd_cons {y : MethodName} {cc : ByteArray} {maxL : Nat} {ret : Option FieldType} (h : Cond.code y cc maxL ret ∈ lw_gd) : GoodIn lw_gd (Cond.code y cc maxL ret :: lw_gd) := by
  intro w hw
  rcases List.mem_cons.mp hw with rfl | hw
  · exact gd_good _ h
  · exact gd_good _ hw
def entL : List Value → List (Option Value)
  | [] => []
  | v :: vs => some v :: (if v.category = 2 then none :: entL vs else entL vs)
def padL (n : Nat) (l : List (Option Value)) : List (Option Value) := l ++ List.replicate (n - l.length) none
theorem entL_len (w : Wd) : ∀ as : List Value, (lg_sl (as.map (cv w))).length = (entL as).length
  | [] => rfl
  | v :: vs => by
    have ih := entL_len w vs
    unfold lg_sl at ih ⊢
    rw [List.map_cons, List.flatMap_cons, List.length_append, ih]
    by_cases hc : v.category = 2
    · simp [entL, cv_cat, hc]; omega
    · simp [entL, cv_cat, hc]; omega
theorem entL_args (w : Wd) : ∀ (as : List Value) (b i : Nat) (v : Value), (entL as)[i]? = some (some v) → (b + i, cv w v) ∈ lv_args b (as.map (cv w))
  | [], b, i, v, h => by simp [entL] at h
  | u :: vs, b, i, v, h => by
    rw [List.map_cons]
    unfold lv_args
    rw [cv_cat]
    by_cases hc : u.category = 2
    · rw [if_pos hc]
      simp only [entL, hc, if_true] at h
      match i, h with
      | 0, h => simp at h; subst h; exact List.mem_cons_self
      | 1, h => simp at h
      | i + 2, h =>
        have := entL_args w vs (b + 2) i v (by simpa using h)
        rw [show b + 2 + i = b + (i + 2) by omega] at this
        exact List.mem_cons_of_mem _ this
    · rw [if_neg hc]
      simp only [entL, hc, if_false] at h
      match i, h with
      | 0, h => simp at h; subst h; exact List.mem_cons_self
      | i + 1, h =>
        have := entL_args w vs (b + 1) i v (by simpa using h)
        rw [show b + 1 + i = b + (i + 1) by omega] at this
        exact List.mem_cons_of_mem _ this
theorem padL_at {n i : Nat} {l : List (Option Value)} {v : Value} (h : (padL n l)[i]? = some (some v)) : l[i]? = some (some v) := by
  unfold padL at h
  by_cases hi : i < l.length
  · rw [List.getElem?_append_left hi] at h
    exact h
  · rw [List.getElem?_append_right (by omega)] at h
    have := List.eq_of_mem_replicate (List.mem_of_getElem? h)
    cases this
/-- a contract out of a walk -/
theorem cm_of {l : Launch} {w : Wd} {y : MethodName} {cc : ByteArray} {maxL : Nat} {ret : Option FieldType} {lv mc ms na : Nat} {as : List Value} {n : Nat} {M : Mem} {P : Pm} {T : Tg} {loc : List (Option Value)} (mf : MF y cc maxL ret na) (hlv : 1 ≤ lv) (has : (entL as).length ≤ maxL) (hloc : padL maxL (entL as) = loc)
    (body : ∀ K : Cx, Ctx K y.cls cc → RT K ret T mc ms → kl K = l → kw K = w → kL K = maxL → kn K = n → kR K = rm lv mc ms → (∀ z, (y.name = z) → (kmt K).name = z) → AW K n M P 0 loc []) : CM l w y cc maxL ret lv mc ms as n M P T := by
  refine Met.ofW (cc := cc) (maxL := maxL) (ret := ret) mf.2.2.2.1 rfl ?_
  intro p e s m args below meth c s₁ B hml hv
  obtain ⟨rfl, hG, hz, hP⟩ := hv
  have hts := atoms_spec (ws := Cond.code y cc maxL ret :: lw_gd) B.pre
  have C : Ctx (p, l, e, rm lv mc ms, s, m, (as.map (cv w)).toArray, below, meth, c, MQ below (Qm w T) (as.map (cv w)).toArray s mc ms (fun q => wSz w ≤ q), w, n, maxL) y.cls cc :=
    ⟨B.exec, B.bytes, hml, findClass_of_methodNamed B.named, fun u hu => hts u (List.mem_cons_of_mem _ hu), hG, hz, B.notSynchronized, hlv, Nat.le_refl _⟩
  have A := body _ C ⟨rfl, B.returns⟩ rfl rfl rfl rfl rfl (fun z hz => (name_of_methodNamed B.named B.method).1.trans hz)
  rw [lg_entry_eq]
  have h0 := lv_entry (as.map (cv w)) (n := maxL) (by rw [entL_len]; exact has)
  have hl : LOK w maxL ((lg_sl (as.map (cv w)) ++ List.replicate (maxL - (lg_sl (as.map (cv w))).length) Slot.unset).toArray) loc := by
    refine ⟨h0.1, h0.2.1, fun i v hv => ?_⟩
    rw [← hloc] at hv
    have := entL_args w as 0 i v (padL_at hv)
    rw [Nat.zero_add] at this
    exact h0.2.2 _ this
  have A2 := A _ s.heap [] hl hP va_S.rf
  simp only [Nat.sub_self] at A2
  exact A2
section R5
variable {K : Cx} {own : String} {cc : ByteArray} {n : Nat} {M : Mem} {P : Pm} {pc : Nat} {loc : List (Option Value)} {st : List Value}
theorem aw_size (C : Ctx K own cc) (hn : kn K ≤ n) {H : Heap} {locs : List Loc} {T : State} {sl : Nat} (hP : va_P (wG (kw K)) vwCl (wsO (kw K) n M P) H) (hS : va_S (fun q => wSz (kw K) ≤ q) (ks K).heap H locs) (hT : T.heap = H) (X : Stand (kp K) (kl K) (ke K) (kR K) (ks K) (km K) (ka K) (kb K) (kmt K) (kc K) T locs (n - kn K) sl) : H.size = wSz (kw K) + n := by
  have h1 := X.heapSize
  have h2 := C.2.2.2.2.2.2.1
  rw [hT] at h1
  have h3 := hS.1
  rcases Nat.lt_or_ge (kn K) n with q | q
  · have h4 := (hP (n - 1) _ (wsO_at (show n - 1 < n by omega))).lt
    dsimp only at h4
    omega
  · omega
theorem aw_after (hn : kn K ≤ n) {H : Heap} {locs : List Loc} {ls : Array Slot} {st0 : List Value} {rest : List Value} {mc ms : Nat} {T : Tg} {a : Array Value} {T0 : State} (hT0 : T0.heap = H) (X : Stand (kp K) (kl K) (ke K) (kR K) (ks K) (km K) (ka K) (kb K) (kmt K) (kc K) T0 locs (n - kn K) (sln n - sln (kn K)))
    (hr : va_Run (kp K) (kl K) (ke K) (kR K) (ks K) (km K) (ka K) (kb K) (kmt K) (kc K) H locs (n - kn K) (sln n - sln (kn K)) mc ms (F0 (km K) pc ls st0) (rest.map (cv (kw K))) (Qm (kw K) T a) (fun q => wSz (kw K) ≤ q)) (hS : va_S (fun q => wSz (kw K) ≤ q) (ks K).heap H locs) (hl : LOK (kw K) (kL K) ls loc)
    (hT : ∀ rv n1 M1 P1, T rv n1 M1 P1 → n1 = n + mc ∧ sln n1 = sln n + ms) (kk : ∀ rv n1 M1 P1, T rv n1 M1 P1 → AW K n1 M1 P1 (pc + 3) loc (rv.toList ++ rest)) :
    ∃ t, Steps (kp K).tables (ke K) (kb K) (T0.setTop (F0 (km K) pc ls st0)) t ∧ kQ K t := by
  obtain ⟨v, st₀, t, T', L, h0, X', hL, e1, e2, ⟨rv, n1, M1, P1, ho, ht, hP1, hz, hk⟩, st⟩ := hr T0 hT0 X
  cases ho
  rw [h0] at hz hk
  obtain ⟨z1, z2⟩ := hT _ _ _ _ ht
  have hm := sln_mono hn
  have hS' : va_S (fun q => wSz (kw K) ≤ q) (ks K).heap T'.heap (locs ++ L) := by
    refine ⟨Nat.le_trans hS.1 (by rw [e1]; exact hz), fun q h1 h2 => ?_, fun q hq => ?_⟩
    · rw [e1, hk q (Nat.lt_of_lt_of_le h1 hS.1) h2]
      exact hS.2.1 q h1 h2
    · rcases List.mem_append.mp hq with h | h
      · exact hS.2.2 q h
      · exact hL q h
  have A := kk rv n1 M1 P1 ht ls T'.heap (locs ++ L) hl (by rw [e1]; exact hP1) hS' T' rfl (by rw [show n1 - kn K = n - kn K + mc by omega, show sln n1 - sln (kn K) = sln n - sln (kn K) + ms by omega]; exact X')
  obtain ⟨t2, a1, b1⟩ := A
  refine ⟨t2, st t2 ?_, b1⟩
  have e : (rv.map (cv (kw K))).toList ++ rest.map (cv (kw K)) = (rv.toList ++ rest).map (cv (kw K)) := by cases rv <;> simp
  rw [e]
  exact a1
theorem pc_blind {w : Wd} {av : List Value} {n : Nat} {M : Mem} {P : Pm} : FrameBlind (va_Pc av (fun U => GW w U ∧ U.heap.size = wSz w + n ∧ va_P (wG w) vwCl (wsO w n M P) U.heap)) := fun _ _ _ _ q => ⟨q.1, q.2.1.blind, q.2.2⟩
theorem callB_gd (C : Ctx K own cc) {y : MethodName} {bytes : ByteArray} {maxL na lv mc ms lk : Nat} {ret : Option FieldType} (mf : MF y bytes maxL ret na) (hl : Cond.methodLink own lk y ∈ lw_gd) (hlv : lv + 1 ≤ (kR K).frames) : CallB (kR K) (ks K) (ka K) own lk y bytes maxL ret (Cond.code y bytes maxL ret :: lw_gd) (rm lv mc ms) mc ms na := by
  have h := C.2.2.2.2.2.2.2.2.2
  have hm := mf.2.2.2.2
  exact callB_of na C.2.2.2.2.1 (gd_cons mf.1) rfl rfl rfl (C.2.2.2.2.1 _ mf.2.1) (C.2.2.2.2.1 _ hl) mf.2.2.1 ⟨hlv, by show 8 + (maxL + 11) + 40 * lv ≤ _; omega⟩
theorem callN_gd (C : Ctx K own cc) {y : MethodName} {bytes : ByteArray} {maxL na lv mc ms lk : Nat} {host : String} {ret : Option FieldType} (mf : MF y bytes maxL ret na) (hl : (own, lk, y, host) ∈ nstM) (hlv : lv + 1 ≤ (kR K).frames) : va_CN (kR K) (ks K) (ka K) own lk y host bytes maxL ret (Cond.code y bytes maxL ret :: lw_gd) (rm lv mc ms) mc ms na := by
  have h := C.2.2.2.2.2.2.2.2.2
  have hm := mf.2.2.2.2
  exact va_cnB na C.2.2.2.2.1 (gd_cons mf.1) rfl rfl rfl (C.2.2.2.2.2.1.2.1.1 _ hl) (C.2.2.2.2.1 _ mf.2.1) mf.2.2.1 ⟨hlv, by show 8 + (maxL + 11) + 40 * lv ≤ _; omega⟩
theorem fix_of (C : Ctx K own cc) : CallFix (kp K) (km K) (kc K) cc (kL K) (ks K) (ka K) lw_gd own := ⟨C.1, C.2.1, C.2.2.1, C.2.2.2.1, C.2.2.2.2.1⟩
/-- invokevirtual of a method of ours -/
theorem aw_cV (C : Ctx K own cc) (hR : Rm K n) {k ci N lk na maxL lv mc ms : Nat} {y : MethodName} {bytes : ByteArray} {ret : Option FieldType} {Cn : String} {TT : u_T} {as rest : List Value} {T : Tg} (d : decode cc pc = .ok (.invokevirtual lk, 3)) (hM : CM (kl K) (kw K) y bytes maxL ret lv mc ms (.ref k :: as) n M P T) (mf : MF y bytes maxL ret na) (ob : OB n k ci N) (hc : vwCl[ci]? = some (Cn, TT, N)) (hy : y.cls = Cn) (hw : Cond.methodLink own lk y ∈ lw_gd ∧ Cond.instanceMethod y ∈ lw_gd ∧ Cond.selects y.cls y y ∈ lw_gd) (hna : as.length = na) (hlv : lv + 1 ≤ (kR K).frames) (hs : st = as.reverse ++ .ref k :: rest) (hst : (rest.map fun v => v.category).sum ≤ 8) (hroom : n - kn K + mc ≤ (kR K).cells ∧ sln n - sln (kn K) + ms ≤ (kR K).slots)
    (hT : ∀ rv n1 M1 P1, T rv n1 M1 P1 → n1 = n + mc ∧ sln n1 = sln n + ms) (kk : ∀ rv n1 M1 P1, T rv n1 M1 P1 → AW K n1 M1 P1 (pc + 3) loc (rv.toList ++ rest)) : AW K n M P pc loc st := by
  intro ls H locs hl hP hS T0 hT0 X
  have hz := aw_size C hR.1 hP hS hT0 X
  have h9 := cl_lt hc
  have he := wsO_at (w := kw K) (M := M) (P := P) ob.1
  rw [ent_ob ob.2.2 h9] at he
  subst hy
  refine aw_after hR.1 hT0 X (va_runV (As := as.map (cv (kw K))) (rest := rest.map (cv (kw K))) (b := wSz (kw K) + k) (C := y.cls) (fix_of C) hM ⟨callB_gd C mf hw.1 hlv, C.2.2.2.2.1 _ hw.2.1, C.2.2.2.2.1 _ hw.2.2⟩ ⟨pc_blind, va_recv C.2.2.2.2.2.1.1 hP hc he, fun U hU hW => ⟨?_, C.2.2.2.2.2.1.move hS hU hW, by rw [hU]; exact hz, by rw [hU]; exact hP⟩⟩ rfl (by rw [List.length_map]; exact hna) hl.1 ?_ (lv_room (by rw [cat_map]; exact hst)) d hroom) hS hl hT kk
  · rw [List.map_cons, cvr ob.2.1]
  · show st.map (cv (kw K)) = _
    rw [hs, List.map_append, List.map_cons, List.map_reverse, cvr ob.2.1]
/-- invokestatic of a method of the same class -/
theorem aw_cS (C : Ctx K own cc) (hR : Rm K n) {lk na maxL lv mc ms : Nat} {y : MethodName} {bytes : ByteArray} {ret : Option FieldType} {as rest : List Value} {T : Tg} (d : decode cc pc = .ok (.invokestatic lk, 3)) (hM : CM (kl K) (kw K) y bytes maxL ret lv mc ms as n M P T) (mf : MF y bytes maxL ret na) (hw : Cond.methodLink own lk y ∈ lw_gd ∧ Cond.static y ∈ lw_gd) (hna : as.length = na) (hlv : lv + 1 ≤ (kR K).frames) (hs : st = as.reverse ++ rest) (hst : (rest.map fun v => v.category).sum ≤ 8) (hroom : n - kn K + mc ≤ (kR K).cells ∧ sln n - sln (kn K) + ms ≤ (kR K).slots)
    (hT : ∀ rv n1 M1 P1, T rv n1 M1 P1 → n1 = n + mc ∧ sln n1 = sln n + ms) (kk : ∀ rv n1 M1 P1, T rv n1 M1 P1 → AW K n1 M1 P1 (pc + 3) loc (rv.toList ++ rest)) : AW K n M P pc loc st := by
  intro ls H locs hl hP hS T0 hT0 X
  have hz := aw_size C hR.1 hP hS hT0 X
  refine aw_after hR.1 hT0 X (va_runS (As := as.map (cv (kw K))) (rest := rest.map (cv (kw K))) (fix_of C) hM ⟨callB_gd C mf hw.1 hlv, C.2.2.2.2.1 _ hw.2⟩ ⟨pc_blind, fun U hU hW => ⟨rfl, C.2.2.2.2.2.1.move hS hU hW, by rw [hU]; exact hz, by rw [hU]; exact hP⟩⟩ rfl (by rw [List.length_map]; exact hna) hl.1 ?_ (lv_room (by rw [cat_map]; exact hst)) d hroom) hS hl hT kk
  show st.map (cv (kw K)) = _
  rw [hs, List.map_append, List.map_reverse]
/-- invokestatic of a nest mate's private method -/
theorem aw_cSN (C : Ctx K own cc) (hR : Rm K n) {lk na maxL lv mc ms : Nat} {y : MethodName} {host : String} {bytes : ByteArray} {ret : Option FieldType} {as rest : List Value} {T : Tg} (d : decode cc pc = .ok (.invokestatic lk, 3)) (hM : CM (kl K) (kw K) y bytes maxL ret lv mc ms as n M P T) (mf : MF y bytes maxL ret na) (hw : (own, lk, y, host) ∈ nstM ∧ Cond.static y ∈ lw_gd) (hna : as.length = na) (hlv : lv + 1 ≤ (kR K).frames) (hs : st = as.reverse ++ rest) (hst : (rest.map fun v => v.category).sum ≤ 8) (hroom : n - kn K + mc ≤ (kR K).cells ∧ sln n - sln (kn K) + ms ≤ (kR K).slots)
    (hT : ∀ rv n1 M1 P1, T rv n1 M1 P1 → n1 = n + mc ∧ sln n1 = sln n + ms) (kk : ∀ rv n1 M1 P1, T rv n1 M1 P1 → AW K n1 M1 P1 (pc + 3) loc (rv.toList ++ rest)) : AW K n M P pc loc st := by
  intro ls H locs hl hP hS T0 hT0 X
  have hz := aw_size C hR.1 hP hS hT0 X
  refine aw_after hR.1 hT0 X (va_runSN (As := as.map (cv (kw K))) (rest := rest.map (cv (kw K))) (fix_of C) hM ⟨callN_gd C mf hw.1 hlv, C.2.2.2.2.1 _ hw.2, trivial⟩ ⟨pc_blind, fun U hU hW => ⟨rfl, C.2.2.2.2.2.1.move hS hU hW, by rw [hU]; exact hz, by rw [hU]; exact hP⟩⟩ rfl (by rw [List.length_map]; exact hna) hl.1 ?_ (lv_room (by rw [cat_map]; exact hst)) d hroom) hS hl hT kk
  show st.map (cv (kw K)) = _
  rw [hs, List.map_append, List.map_reverse]
/-- invokespecial of a constructor -/
theorem aw_cI (C : Ctx K own cc) (hR : Rm K n) {k lk na maxL lv mc ms : Nat} {y : MethodName} {bytes : ByteArray} {as rest : List Value} {T : Tg} (d : decode cc pc = .ok (.invokespecial lk, 3)) (hM : CM (kl K) (kw K) y bytes maxL none lv mc ms (.ref k :: as) n M P T) (mf : MF y bytes maxL none na) (hk : k < 1000) (hw : Cond.methodLink own lk y ∈ lw_gd ∧ Cond.instanceMethod y ∈ lw_gd) (hy1 : y.name = "<init>") (hna : as.length = na) (hlv : lv + 1 ≤ (kR K).frames) (hs : st = as.reverse ++ .ref k :: rest) (hst : (rest.map fun v => v.category).sum ≤ 8) (hroom : n - kn K + mc ≤ (kR K).cells ∧ sln n - sln (kn K) + ms ≤ (kR K).slots)
    (hT : ∀ rv n1 M1 P1, T rv n1 M1 P1 → n1 = n + mc ∧ sln n1 = sln n + ms) (kk : ∀ rv n1 M1 P1, T rv n1 M1 P1 → AW K n1 M1 P1 (pc + 3) loc (rv.toList ++ rest)) : AW K n M P pc loc st := by
  intro ls H locs hl hP hS T0 hT0 X
  have hz := aw_size C hR.1 hP hS hT0 X
  refine aw_after hR.1 hT0 X (va_runI (As := as.map (cv (kw K))) (rest := rest.map (cv (kw K))) (b := wSz (kw K) + k) (fix_of C) hM ⟨callB_gd C mf hw.1 hlv, hy1, C.2.2.2.2.1 _ hw.2⟩ ⟨pc_blind, fun U hU hW => ⟨?_, C.2.2.2.2.2.1.move hS hU hW, by rw [hU]; exact hz, by rw [hU]; exact hP⟩⟩ rfl (by rw [List.length_map]; exact hna) hl.1 ?_ (lv_room (by rw [cat_map]; exact hst)) d hroom) hS hl hT kk
  · rw [List.map_cons, cvr hk]
  · show st.map (cv (kw K)) = _
    rw [hs, List.map_append, List.map_cons, List.map_reverse, cvr hk]
theorem aw_cIN (C : Ctx K own cc) (hR : Rm K n) {k lk na maxL lv mc ms : Nat} {y : MethodName} {host : String} {bytes : ByteArray} {as rest : List Value} {T : Tg} (d : decode cc pc = .ok (.invokespecial lk, 3)) (hM : CM (kl K) (kw K) y bytes maxL none lv mc ms (.ref k :: as) n M P T) (mf : MF y bytes maxL none na) (hk : k < 1000) (hw : (own, lk, y, host) ∈ nstM ∧ Cond.instanceMethod y ∈ lw_gd) (hy1 : y.name = "<init>") (hna : as.length = na) (hlv : lv + 1 ≤ (kR K).frames) (hs : st = as.reverse ++ .ref k :: rest) (hst : (rest.map fun v => v.category).sum ≤ 8) (hroom : n - kn K + mc ≤ (kR K).cells ∧ sln n - sln (kn K) + ms ≤ (kR K).slots)
    (hT : ∀ rv n1 M1 P1, T rv n1 M1 P1 → n1 = n + mc ∧ sln n1 = sln n + ms) (kk : ∀ rv n1 M1 P1, T rv n1 M1 P1 → AW K n1 M1 P1 (pc + 3) loc (rv.toList ++ rest)) : AW K n M P pc loc st := by
  intro ls H locs hl hP hS T0 hT0 X
  have hz := aw_size C hR.1 hP hS hT0 X
  refine aw_after hR.1 hT0 X (va_runIN (As := as.map (cv (kw K))) (rest := rest.map (cv (kw K))) (b := wSz (kw K) + k) (fix_of C) hM ⟨callN_gd C mf hw.1 hlv, hy1, C.2.2.2.2.1 _ hw.2⟩ ⟨pc_blind, fun U hU hW => ⟨?_, C.2.2.2.2.2.1.move hS hU hW, by rw [hU]; exact hz, by rw [hU]; exact hP⟩⟩ rfl (by rw [List.length_map]; exact hna) hl.1 ?_ (lv_room (by rw [cat_map]; exact hst)) d hroom) hS hl hT kk
  · rw [List.map_cons, cvr hk]
  · show st.map (cv (kw K)) = _
    rw [hs, List.map_append, List.map_cons, List.map_reverse, cvr hk]
theorem aw_objInit (C : Ctx K own cc) {k lk : Nat} (hw : Cond.methodLink own lk Lib.objectInit ∈ lw_gd ∧ Cond.instanceMethod Lib.objectInit ∈ lw_gd ∧ Cond.code Lib.objectInit ⟨#[0xb1]⟩ 1 none ∈ lw_gd) (hst : (st.map fun v => v.category).sum ≤ 8) (d : decode cc pc = .ok (.invokespecial lk, 3)) (kk : AW K n M P (pc + 3) loc st) : AW K n M P pc loc (.ref k :: st) := by
  intro ls H locs hl hP hS
  have hR := C.2.2.2.2.2.2.2.2
  exact W.objInit C.1 C.2.1 C.2.2.2.1 (C.2.2.2.2.1 _ hw.1) (C.2.2.2.2.1 _ hw.2.1) (C.2.2.2.2.1 _ hw.2.2) rfl (hl.1.trans C.2.2.1.symm) (a := wad (kw K) k) (rest := st.map (cv (kw K))) rfl d hR.1 (by rw [cat_map]; show 2 * 0 + _ + 12 ≤ _; omega) (kk ls H locs hl hP hS)
/-- returns -/
theorem aw_iret (C : Ctx K own cc) {ty : FieldType} {T : Tg} {mc ms : Nat} {x : Int32} (rt : RT K (some ty) T mc ms) (hnar : narrow ty (.int x) = .int x) (hm : n - kn K ≤ mc ∧ sln n - sln (kn K) ≤ ms) (d : decode cc pc = .ok (.ireturn, 1)) (hT : T (some (.int x)) n M P) : AW K n M P pc loc [.int x] := by
  intro ls H locs hl hP hS
  rw [rt.1]
  exact W.widen hm.1 hm.2 (W.zret (Qc := Qm (kw K) T) C.1 C.2.1 rt.2 hnar (fun t ht _ => ⟨some (.int x), n, M, P, rfl, hT, by rw [ht]; exact hP, hS.F ht⟩) hS.2.2 d C.2.2.2.2.2.2.2.1)
theorem aw_lret (C : Ctx K own cc) {T : Tg} {mc ms : Nat} {x : Int64} (rt : RT K (some .long) T mc ms) (hm : n - kn K ≤ mc ∧ sln n - sln (kn K) ≤ ms) (d : decode cc pc = .ok (.lreturn, 1)) (hT : T (some (.long x)) n M P) : AW K n M P pc loc [.long x] := by
  intro ls H locs hl hP hS
  rw [rt.1]
  exact W.widen hm.1 hm.2 (W.lret (Qc := Qm (kw K) T) C.1 C.2.1 rt.2 (fun t ht _ => ⟨some (.long x), n, M, P, rfl, hT, by rw [ht]; exact hP, hS.F ht⟩) hS.2.2 d C.2.2.2.2.2.2.2.1)
theorem aw_vret (C : Ctx K own cc) {T : Tg} {mc ms : Nat} (rt : RT K none T mc ms) (hm : n - kn K ≤ mc ∧ sln n - sln (kn K) ≤ ms) (d : decode cc pc = .ok (.return_, 1)) (hT : T none n M P) : AW K n M P pc loc [] := by
  intro ls H locs hl hP hS
  rw [rt.1]
  exact W.widen hm.1 hm.2 (W.vret (Qc := Qm (kw K) T) C.1 C.2.1 rt.2 (fun t ht _ => ⟨none, n, M, P, rfl, hT, by rw [ht]; exact hP, hS.F ht⟩) hS.2.2 d C.2.2.2.2.2.2.2.1)
end R5
