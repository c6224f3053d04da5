/-! 03: THE ROWS OF THE ABSTRACT MACHINE -/
abbrev Cx : Type := Program × Launch × Env × Room × State × MethodId × Array Value × List Frame × Method × Code × (State → Prop) × Wd × Nat × Nat
abbrev kp (K : Cx) : Program := K.1
abbrev kl (K : Cx) : Launch := K.2.1
abbrev ke (K : Cx) : Env := K.2.2.1
abbrev kR (K : Cx) : Room := K.2.2.2.1
abbrev ks (K : Cx) : State := K.2.2.2.2.1
abbrev km (K : Cx) : MethodId := K.2.2.2.2.2.1
abbrev ka (K : Cx) : Array Value := K.2.2.2.2.2.2.1
abbrev kb (K : Cx) : List Frame := K.2.2.2.2.2.2.2.1
abbrev kmt (K : Cx) : Method := K.2.2.2.2.2.2.2.2.1
abbrev kc (K : Cx) : Code := K.2.2.2.2.2.2.2.2.2.1
abbrev kQ (K : Cx) : State → Prop := K.2.2.2.2.2.2.2.2.2.2.1
abbrev kw (K : Cx) : Wd := K.2.2.2.2.2.2.2.2.2.2.2.1
abbrev kn (K : Cx) : Nat := K.2.2.2.2.2.2.2.2.2.2.2.2.1
abbrev kL (K : Cx) : Nat := K.2.2.2.2.2.2.2.2.2.2.2.2.2
def LOK (w : Wd) (nL : Nat) (ls : Array Slot) (loc : List (Option Value)) : Prop := ls.size = nL ∧ lv_wf ls ∧ ∀ (i : Nat) (v : Value), loc[i]? = some (some v) → ls[i]? = some (.val (cv w v))
def setL (loc : List (Option Value)) (i : Nat) (v : Value) : List (Option Value) := (match i with
  | 0 => loc
  | i' + 1 => match loc[i']? with
    | some (some u) => if u.category = 2 then loc.set i' none else loc
    | _ => loc).set i (some v)
def setL2 (loc : List (Option Value)) (i : Nat) (v : Value) : List (Option Value) := (setL loc i v).set (i + 1) none
def asc (w : Wd) (loc : List (Option Value)) : List (Nat × Value) := (List.range loc.length).filterMap (fun i => match loc[i]? with
  | some (some v) => some (i, cv w v)
  | _ => none)
theorem asc_mem {w : Wd} {loc : List (Option Value)} {q : Nat × Value} : q ∈ asc w loc ↔ ∃ v, loc[q.1]? = some (some v) ∧ q.2 = cv w v := by
  constructor
  · intro h
    obtain ⟨i, hi, he⟩ := List.mem_filterMap.mp h
    cases hl : loc[i]? with
    | none => rw [hl] at he; cases he
    | some o =>
      cases o with
      | none => rw [hl] at he; cases he
      | some v => rw [hl] at he; cases he; exact ⟨v, hl, rfl⟩
  · rintro ⟨v, h1, h2⟩
    refine List.mem_filterMap.mpr ⟨q.1, List.mem_range.mpr (List.getElem?_eq_some_iff.mp h1).1, ?_⟩
    rw [h1]
    show some (q.1, cv w v) = some q
    rw [← h2]
theorem LOK.has {w : Wd} {nL : Nat} {ls : Array Slot} {loc : List (Option Value)} (h : LOK w nL ls loc) : lv_has ls nL (asc w loc) := by
  refine ⟨h.1, h.2.1, fun q hq => ?_⟩
  obtain ⟨v, h1, h2⟩ := asc_mem.mp hq
  rw [h2]
  exact h.2.2 _ _ h1
theorem LOK.sub {w : Wd} {nL : Nat} {ls : Array Slot} {loc loc' : List (Option Value)} (h : LOK w nL ls loc) (hs : ∀ (i : Nat) (v : Value), loc'[i]? = some (some v) → loc[i]? = some (some v)) : LOK w nL ls loc' := ⟨h.1, h.2.1, fun i v hv => h.2.2 i v (hs i v hv)⟩
theorem setL_at {loc : List (Option Value)} {i j : Nat} {v u : Value} (h : (setL loc i v)[j]? = some (some u)) : (j = i ∧ u = v) ∨ (j ≠ i ∧ loc[j]? = some (some u) ∧ ¬ (j + 1 = i ∧ u.category = 2)) := by
  unfold setL at h
  by_cases hj : i = j
  · subst hj
    rw [List.getElem?_set_self'] at h
    left
    refine ⟨rfl, ?_⟩
    revert h
    generalize ((match i with
      | 0 => loc
      | i' + 1 => match loc[i']? with
        | some (some u) => if u.category = 2 then loc.set i' none else loc
        | _ => loc)[i]?) = z
    cases z with
    | none => intro h; cases h
    | some z => intro h; cases h; rfl
  · rw [List.getElem?_set_ne hj] at h
    right
    refine ⟨fun e => hj e.symm, ?_⟩
    cases i with
    | zero => exact ⟨h, fun z => by omega⟩
    | succ i' =>
      dsimp only at h
      cases hl : loc[i']? with
      | none => rw [hl] at h; refine ⟨h, fun z => ?_⟩; rw [show j = i' by omega, hl] at h; cases h
      | some o =>
        rw [hl] at h
        cases o with
        | none => refine ⟨h, fun z => ?_⟩; rw [show j = i' by omega] at h; dsimp only at h; rw [hl] at h; cases h
        | some u' =>
          dsimp only at h
          by_cases hc : u'.category = 2
          · rw [if_pos hc] at h
            by_cases hji : i' = j
            · subst hji
              rw [List.getElem?_set_self'] at h
              rw [hl] at h
              cases h
            · rw [List.getElem?_set_ne hji] at h
              exact ⟨h, fun z => by omega⟩
          · rw [if_neg hc] at h
            refine ⟨h, fun z => hc ?_⟩
            have : j = i' := by omega
            subst this
            rw [hl] at h
            cases h
            exact z.2
theorem LOK.set1 {w : Wd} {nL : Nat} {ls' : Array Slot} {loc : List (Option Value)} {i : Nat} {v : Value} (h' : lv_has ls' nL ((i, cv w v) :: (asc w loc).filter (fun q => !(q.1 == i) && !(q.1 + 1 == i && q.2.category == 2)))) : LOK w nL ls' (setL loc i v) := by
  refine ⟨h'.1, h'.2.1, fun j u hu => ?_⟩
  rcases setL_at hu with ⟨rfl, rfl⟩ | ⟨h1, h2, h3⟩
  · exact h'.2.2 (j, cv w u) List.mem_cons_self
  · refine h'.2.2 (j, cv w u) (List.mem_cons_of_mem _ (List.mem_filter.mpr ⟨asc_mem.mpr ⟨u, h2, rfl⟩, ?_⟩))
    simp only [cv_cat, Bool.and_eq_true, Bool.not_eq_true', beq_eq_false_iff_ne, ne_eq, Bool.and_eq_false_iff]
    refine ⟨h1, ?_⟩
    by_cases hj : j + 1 = i
    · exact Or.inr (fun z => h3 ⟨hj, z⟩)
    · exact Or.inl hj
theorem LOK.set2 {w : Wd} {nL : Nat} {ls' : Array Slot} {loc : List (Option Value)} {i : Nat} {v : Value} (h' : lv_has ls' nL ((i, cv w v) :: (asc w loc).filter (fun q => !(q.1 == i) && (!(q.1 == i + 1) && !(q.1 + 1 == i && q.2.category == 2))))) : LOK w nL ls' (setL2 loc i v) := by
  refine ⟨h'.1, h'.2.1, fun j u hu => ?_⟩
  unfold setL2 at hu
  by_cases hj1 : i + 1 = j
  · subst hj1
    rw [List.getElem?_set_self'] at hu
    cases hz : (setL loc i v)[i + 1]? with
    | none => rw [hz] at hu; cases hu
    | some z => rw [hz] at hu; cases hu
  · rw [List.getElem?_set_ne hj1] at hu
    rcases setL_at hu with ⟨rfl, rfl⟩ | ⟨h1, h2, h3⟩
    · exact h'.2.2 (j, cv w u) List.mem_cons_self
    · refine h'.2.2 (j, cv w u) (List.mem_cons_of_mem _ (List.mem_filter.mpr ⟨asc_mem.mpr ⟨u, h2, rfl⟩, ?_⟩))
      simp only [cv_cat, Bool.and_eq_true, Bool.not_eq_true', beq_eq_false_iff_ne, ne_eq, Bool.and_eq_false_iff]
      refine ⟨h1, fun z => hj1 z.symm, ?_⟩
      by_cases hj : j + 1 = i
      · exact Or.inr (fun z => h3 ⟨hj, z⟩)
      · exact Or.inl hj
/-- what stands fixed in a method's walk -/
def Ctx (K : Cx) (own : String) (cc : ByteArray) : Prop :=
  (kp K).tables.exec = Jvm.exec ∧ (kc K).code = cc ∧ (kc K).maxLocals = kL K ∧ (ks K).vm.findClass own = some (km K).cls ∧ (∀ w ∈ lw_gd, w.before (ka K) (ks K) = true) ∧ GW (kw K) (ks K) ∧ (ks K).heap.size = wSz (kw K) + kn K ∧ (kmt K).locks = false ∧ 1 ≤ (kR K).frames ∧ 40 * (kR K).frames ≤ (kR K).locals
/-- the goal from a point of the walk on: n cells, memory M, references P, code place pc, locals loc, operand stack st -/
def AW (K : Cx) (n : Nat) (M : Mem) (P : Pm) (pc : Nat) (loc : List (Option Value)) (st : List Value) : Prop :=
  ∀ (ls : Array Slot) (H : Heap) (locs : List Loc), LOK (kw K) (kL K) ls loc → va_P (wG (kw K)) vwCl (wsO (kw K) n M P) H → va_S (fun q => wSz (kw K) ≤ q) (ks K).heap H locs →
    W (kp K) (kl K) (ke K) (kR K) (ks K) (km K) (ka K) (kb K) (kmt K) (kc K) H locs (n - kn K) (sln n - sln (kn K)) (kQ K) (F0 (km K) pc ls (st.map (cv (kw K))))
section R
variable {K : Cx} {own : String} {cc : ByteArray} {n : Nat} {M : Mem} {P : Pm} {pc : Nat} {loc : List (Option Value)} {st : List Value}
theorem aw_loc (loc' : List (Option Value)) (hs : ∀ (i : Nat) (v : Value), loc'[i]? = some (some v) → loc[i]? = some (some v)) (k : AW K n M P pc loc' st) : AW K n M P pc loc st := fun ls H locs hl hP hS => k ls H locs (hl.sub hs) hP hS
theorem aw_iconst (C : Ctx K own cc) {i : Int} {v : Int32} (d : decode cc pc = .ok (.iconst i, 1)) (hv : Int32.ofInt i = v) (k : AW K n M P (pc + 1) loc (.int v :: st)) : AW K n M P pc loc st :=
  fun ls H locs hl hP hS => lv_iconst C.1 C.2.1 d hv (k ls H locs hl hP hS)
theorem aw_bipush (C : Ctx K own cc) {i : Int} {v : Int32} (d : decode cc pc = .ok (.bipush i, 2)) (hv : (Int8.ofInt i).toInt32 = v) (k : AW K n M P (pc + 2) loc (.int v :: st)) : AW K n M P pc loc st :=
  fun ls H locs hl hP hS => lv_bipush C.1 C.2.1 d hv (k ls H locs hl hP hS)
theorem aw_sipush (C : Ctx K own cc) {i : Int} {v : Int32} (d : decode cc pc = .ok (.sipush i, 3)) (hv : (Int16.ofInt i).toInt32 = v) (k : AW K n M P (pc + 3) loc (.int v :: st)) : AW K n M P pc loc st :=
  fun ls H locs hl hP hS => lv_sipush C.1 C.2.1 d hv (k ls H locs hl hP hS)
theorem aw_lconst (C : Ctx K own cc) {i : Fin 2} {v : Int64} (d : decode cc pc = .ok (.lconst i, 1)) (hv : Int64.ofNat (i : Nat) = v) (k : AW K n M P (pc + 1) loc (.long v :: st)) : AW K n M P pc loc st :=
  fun ls H locs hl hP hS => lv_lconst C.1 C.2.1 d hv (k ls H locs hl hP hS)
theorem aw_ldc (C : Ctx K own cc) {ix : Nat} {v : Int32} (hg : Cond.constant own ix v ∈ lw_gd) (d : decode cc pc = .ok (.ldc ix, 2)) (k : AW K n M P (pc + 2) loc (.int v :: st)) : AW K n M P pc loc st :=
  fun ls H locs hl hP hS => lv_ldc C.1 C.2.1 C.2.2.2.1 (C.2.2.2.2.1 _ hg) d (k ls H locs hl hP hS)
theorem aw_ldcw (C : Ctx K own cc) {ix : Nat} {v : Int32} (hg : Cond.constant own ix v ∈ lw_gd) (d : decode cc pc = .ok (.ldc_w ix, 3)) (k : AW K n M P (pc + 3) loc (.int v :: st)) : AW K n M P pc loc st :=
  fun ls H locs hl hP hS => lv_ldcw C.1 C.2.1 C.2.2.2.1 (C.2.2.2.2.1 _ hg) d (k ls H locs hl hP hS)
theorem aw_ldc2 (C : Ctx K own cc) {ix : Nat} {v : Int64} (hg : Cond.constantLong own ix v ∈ lw_gd) (d : decode cc pc = .ok (.ldc2_w ix, 3)) (k : AW K n M P (pc + 3) loc (.long v :: st)) : AW K n M P pc loc st :=
  fun ls H locs hl hP hS => lv_ldc2 C.1 C.2.1 C.2.2.2.1 (C.2.2.2.2.1 _ hg) d (k ls H locs hl hP hS)
theorem aw_iload_n (C : Ctx K own cc) {i : Fin 4} {x : Int32} (d : decode cc pc = .ok (.iload_n i, 1)) (h : loc[(i : Nat)]? = some (some (.int x))) (k : AW K n M P (pc + 1) loc (.int x :: st)) : AW K n M P pc loc st :=
  fun ls H locs hl hP hS => lv_iload_n C.1 C.2.1 d rfl (hl.2.2 _ _ h) (k ls H locs hl hP hS)
theorem aw_iload (C : Ctx K own cc) {i : Nat} {x : Int32} (d : decode cc pc = .ok (.iload i, 2)) (h : loc[i]? = some (some (.int x))) (k : AW K n M P (pc + 2) loc (.int x :: st)) : AW K n M P pc loc st :=
  fun ls H locs hl hP hS => lv_iload C.1 C.2.1 d (hl.2.2 _ _ h) (k ls H locs hl hP hS)
theorem aw_lload_n (C : Ctx K own cc) {i : Fin 4} {x : Int64} (d : decode cc pc = .ok (.lload_n i, 1)) (h : loc[(i : Nat)]? = some (some (.long x))) (k : AW K n M P (pc + 1) loc (.long x :: st)) : AW K n M P pc loc st :=
  fun ls H locs hl hP hS => lv_lload_n C.1 C.2.1 d rfl (hl.2.2 _ _ h) (k ls H locs hl hP hS)
theorem aw_lload (C : Ctx K own cc) {i : Nat} {x : Int64} (d : decode cc pc = .ok (.lload i, 2)) (h : loc[i]? = some (some (.long x))) (k : AW K n M P (pc + 2) loc (.long x :: st)) : AW K n M P pc loc st :=
  fun ls H locs hl hP hS => lv_lload C.1 C.2.1 d (hl.2.2 _ _ h) (k ls H locs hl hP hS)
theorem aw_aload_n (C : Ctx K own cc) {i : Fin 4} {x : Nat} (d : decode cc pc = .ok (.aload_n i, 1)) (h : loc[(i : Nat)]? = some (some (.ref x))) (k : AW K n M P (pc + 1) loc (.ref x :: st)) : AW K n M P pc loc st :=
  fun ls H locs hl hP hS => lv_aload_n C.1 C.2.1 d rfl (hl.2.2 _ _ h) (k ls H locs hl hP hS)
theorem aw_aload (C : Ctx K own cc) {i : Nat} {x : Nat} (d : decode cc pc = .ok (.aload i, 2)) (h : loc[i]? = some (some (.ref x))) (k : AW K n M P (pc + 2) loc (.ref x :: st)) : AW K n M P pc loc st :=
  fun ls H locs hl hP hS => lv_aload C.1 C.2.1 d (hl.2.2 _ _ h) (k ls H locs hl hP hS)
theorem aw_istore_n (C : Ctx K own cc) (loc' : List (Option Value)) {i : Fin 4} {x : Int32} (d : decode cc pc = .ok (.istore_n i, 1)) {L : Nat} (hL : kL K = L) (hi : (i : Nat) < L) (he : setL loc (i : Nat) (.int x) = loc') (k : AW K n M P (pc + 1) loc' st) : AW K n M P pc loc (.int x :: st) :=
  fun _ H locs hl hP hS => lv_istore_n C.1 C.2.1 d rfl hl.has (hL ▸ hi) rfl (fun ls' h' => k ls' H locs (he ▸ LOK.set1 (v := .int x) h') hP hS)
theorem aw_istore (C : Ctx K own cc) (loc' : List (Option Value)) {i : Nat} {x : Int32} (d : decode cc pc = .ok (.istore i, 2)) {L : Nat} (hL : kL K = L) (hi : i < L) (he : setL loc i (.int x) = loc') (k : AW K n M P (pc + 2) loc' st) : AW K n M P pc loc (.int x :: st) :=
  fun _ H locs hl hP hS => lv_istore C.1 C.2.1 d hl.has (hL ▸ hi) rfl (fun ls' h' => k ls' H locs (he ▸ LOK.set1 (v := .int x) h') hP hS)
theorem aw_astore_n (C : Ctx K own cc) (loc' : List (Option Value)) {i : Fin 4} {x : Nat} (d : decode cc pc = .ok (.astore_n i, 1)) {L : Nat} (hL : kL K = L) (hi : (i : Nat) < L) (he : setL loc (i : Nat) (.ref x) = loc') (k : AW K n M P (pc + 1) loc' st) : AW K n M P pc loc (.ref x :: st) :=
  fun _ H locs hl hP hS => lv_astore_n C.1 C.2.1 d rfl hl.has (hL ▸ hi) rfl (fun ls' h' => k ls' H locs (he ▸ LOK.set1 (v := .ref x) h') hP hS)
theorem aw_astore (C : Ctx K own cc) (loc' : List (Option Value)) {i : Nat} {x : Nat} (d : decode cc pc = .ok (.astore i, 2)) {L : Nat} (hL : kL K = L) (hi : i < L) (he : setL loc i (.ref x) = loc') (k : AW K n M P (pc + 2) loc' st) : AW K n M P pc loc (.ref x :: st) :=
  fun _ H locs hl hP hS => lv_astore C.1 C.2.1 d hl.has (hL ▸ hi) rfl (fun ls' h' => k ls' H locs (he ▸ LOK.set1 (v := .ref x) h') hP hS)
theorem aw_lstore_n (C : Ctx K own cc) (loc' : List (Option Value)) {i : Fin 4} {x : Int64} (d : decode cc pc = .ok (.lstore_n i, 1)) {L : Nat} (hL : kL K = L) (hi : (i : Nat) + 1 < L) (he : setL2 loc (i : Nat) (.long x) = loc') (k : AW K n M P (pc + 1) loc' st) : AW K n M P pc loc (.long x :: st) :=
  fun _ H locs hl hP hS => lv_lstore_n C.1 C.2.1 d rfl hl.has (hL ▸ hi) rfl (fun ls' h' => k ls' H locs (he ▸ LOK.set2 (v := .long x) h') hP hS)
theorem aw_lstore (C : Ctx K own cc) (loc' : List (Option Value)) {i : Nat} {x : Int64} (d : decode cc pc = .ok (.lstore i, 2)) {L : Nat} (hL : kL K = L) (hi : i + 1 < L) (he : setL2 loc i (.long x) = loc') (k : AW K n M P (pc + 2) loc' st) : AW K n M P pc loc (.long x :: st) :=
  fun _ H locs hl hP hS => lv_lstore C.1 C.2.1 d hl.has (hL ▸ hi) rfl (fun ls' h' => k ls' H locs (he ▸ LOK.set2 (v := .long x) h') hP hS)
theorem aw_iinc (C : Ctx K own cc) (loc' : List (Option Value)) {i : Nat} {c : Int} {x v : Int32} (d : decode cc pc = .ok (.iinc i c, 3)) (h : loc[i]? = some (some (.int x))) {L : Nat} (hL : kL K = L) (hi : i < L) (hv : Int32.ofInt c = v) (he : setL loc i (.int (x + v)) = loc') (k : AW K n M P (pc + 3) loc' st) : AW K n M P pc loc st := by
  intro ls H locs hl hP hS
  obtain ⟨q, hq⟩ := List.getElem?_of_mem (asc_mem (w := kw K) (q := (i, cv (kw K) (.int x))) |>.mpr ⟨_, h, rfl⟩)
  exact lv_iinc (k := q) C.1 C.2.1 d hl.has hq (by rw [hv]) (hL ▸ hi) rfl (fun ls' h' => k ls' H locs (he ▸ LOK.set1 (v := .int (x + v)) h') hP hS)
theorem aw_iadd (C : Ctx K own cc) {x y : Int32} (d : decode cc pc = .ok (.iadd, 1)) (k : AW K n M P (pc + 1) loc (.int (x + y) :: st)) : AW K n M P pc loc (.int y :: .int x :: st) :=
  fun ls H locs hl hP hS => lv_iadd C.1 C.2.1 d (k ls H locs hl hP hS)
theorem aw_isub (C : Ctx K own cc) {x y : Int32} (d : decode cc pc = .ok (.isub, 1)) (k : AW K n M P (pc + 1) loc (.int (x - y) :: st)) : AW K n M P pc loc (.int y :: .int x :: st) :=
  fun ls H locs hl hP hS => lv_isub C.1 C.2.1 d (k ls H locs hl hP hS)
theorem aw_imul (C : Ctx K own cc) {x y : Int32} (d : decode cc pc = .ok (.imul, 1)) (k : AW K n M P (pc + 1) loc (.int (x * y) :: st)) : AW K n M P pc loc (.int y :: .int x :: st) :=
  fun ls H locs hl hP hS => lv_imul C.1 C.2.1 d (k ls H locs hl hP hS)
theorem aw_iand (C : Ctx K own cc) {x y : Int32} (d : decode cc pc = .ok (.iand, 1)) (k : AW K n M P (pc + 1) loc (.int (x &&& y) :: st)) : AW K n M P pc loc (.int y :: .int x :: st) :=
  fun ls H locs hl hP hS => lv_iand C.1 C.2.1 d (k ls H locs hl hP hS)
theorem aw_ior (C : Ctx K own cc) {x y : Int32} (d : decode cc pc = .ok (.ior, 1)) (k : AW K n M P (pc + 1) loc (.int (x ||| y) :: st)) : AW K n M P pc loc (.int y :: .int x :: st) :=
  fun ls H locs hl hP hS => lv_ior C.1 C.2.1 d (k ls H locs hl hP hS)
theorem aw_ineg (C : Ctx K own cc) {x : Int32} (d : decode cc pc = .ok (.ineg, 1)) (k : AW K n M P (pc + 1) loc (.int (-x) :: st)) : AW K n M P pc loc (.int x :: st) :=
  fun ls H locs hl hP hS => lv_ineg C.1 C.2.1 d (k ls H locs hl hP hS)
theorem aw_idiv (C : Ctx K own cc) {x y : Int32} (hne : ¬ y = 0) (d : decode cc pc = .ok (.idiv, 1)) (k : AW K n M P (pc + 1) loc (.int (x / y) :: st)) : AW K n M P pc loc (.int y :: .int x :: st) :=
  fun ls H locs hl hP hS => lv_idiv C.1 C.2.1 d hne (k ls H locs hl hP hS)
theorem aw_irem (C : Ctx K own cc) {x y : Int32} (hne : ¬ y = 0) (d : decode cc pc = .ok (.irem, 1)) (k : AW K n M P (pc + 1) loc (.int (x - x / y * y) :: st)) : AW K n M P pc loc (.int y :: .int x :: st) :=
  fun ls H locs hl hP hS => lv_irem C.1 C.2.1 d hne (k ls H locs hl hP hS)
theorem aw_ishl (C : Ctx K own cc) {x y : Int32} (d : decode cc pc = .ok (.ishl, 1)) (k : AW K n M P (pc + 1) loc (.int (x <<< (y &&& 31)) :: st)) : AW K n M P pc loc (.int y :: .int x :: st) :=
  fun ls H locs hl hP hS => lv_ishl C.1 C.2.1 d (k ls H locs hl hP hS)
theorem aw_ishr (C : Ctx K own cc) {x y : Int32} (d : decode cc pc = .ok (.ishr, 1)) (k : AW K n M P (pc + 1) loc (.int (x >>> (y &&& 31)) :: st)) : AW K n M P pc loc (.int y :: .int x :: st) :=
  fun ls H locs hl hP hS => lv_ishr C.1 C.2.1 d (k ls H locs hl hP hS)
theorem aw_iushr (C : Ctx K own cc) {x y : Int32} (d : decode cc pc = .ok (.iushr, 1)) (k : AW K n M P (pc + 1) loc (.int ((x.toUInt32 >>> (y.toUInt32 &&& Int32.toUInt32 31)).toInt32) :: st)) : AW K n M P pc loc (.int y :: .int x :: st) :=
  fun ls H locs hl hP hS => lv_iushr C.1 C.2.1 d rfl (k ls H locs hl hP hS)
theorem aw_i2l (C : Ctx K own cc) {x : Int32} (d : decode cc pc = .ok (.i2l, 1)) (k : AW K n M P (pc + 1) loc (.long x.toInt64 :: st)) : AW K n M P pc loc (.int x :: st) :=
  fun ls H locs hl hP hS => lv_i2l C.1 C.2.1 d rfl (k ls H locs hl hP hS)
theorem aw_l2i (C : Ctx K own cc) {x : Int64} (d : decode cc pc = .ok (.l2i, 1)) (k : AW K n M P (pc + 1) loc (.int x.toInt32 :: st)) : AW K n M P pc loc (.long x :: st) :=
  fun ls H locs hl hP hS => lv_l2i C.1 C.2.1 d rfl (k ls H locs hl hP hS)
theorem aw_i2b (C : Ctx K own cc) {x : Int32} (d : decode cc pc = .ok (.i2b, 1)) (k : AW K n M P (pc + 1) loc (.int x.toInt8.toInt32 :: st)) : AW K n M P pc loc (.int x :: st) :=
  fun ls H locs hl hP hS => lv_i2b C.1 C.2.1 d rfl (k ls H locs hl hP hS)
theorem aw_i2s (C : Ctx K own cc) {x : Int32} (d : decode cc pc = .ok (.i2s, 1)) (k : AW K n M P (pc + 1) loc (.int x.toInt16.toInt32 :: st)) : AW K n M P pc loc (.int x :: st) :=
  fun ls H locs hl hP hS => lv_i2s C.1 C.2.1 d rfl (k ls H locs hl hP hS)
theorem aw_i2c (C : Ctx K own cc) {x : Int32} (d : decode cc pc = .ok (.i2c, 1)) (k : AW K n M P (pc + 1) loc (.int (x.toUInt32 % 65536).toInt32 :: st)) : AW K n M P pc loc (.int x :: st) :=
  fun ls H locs hl hP hS => lv_i2c C.1 C.2.1 d rfl (k ls H locs hl hP hS)
theorem aw_ladd (C : Ctx K own cc) {x y : Int64} (d : decode cc pc = .ok (.ladd, 1)) (k : AW K n M P (pc + 1) loc (.long (x + y) :: st)) : AW K n M P pc loc (.long y :: .long x :: st) :=
  fun ls H locs hl hP hS => lv_ladd C.1 C.2.1 d (k ls H locs hl hP hS)
theorem aw_lsub (C : Ctx K own cc) {x y : Int64} (d : decode cc pc = .ok (.lsub, 1)) (k : AW K n M P (pc + 1) loc (.long (x - y) :: st)) : AW K n M P pc loc (.long y :: .long x :: st) :=
  fun ls H locs hl hP hS => lv_lsub C.1 C.2.1 d (k ls H locs hl hP hS)
theorem aw_lmul (C : Ctx K own cc) {x y : Int64} (d : decode cc pc = .ok (.lmul, 1)) (k : AW K n M P (pc + 1) loc (.long (x * y) :: st)) : AW K n M P pc loc (.long y :: .long x :: st) :=
  fun ls H locs hl hP hS => lv_lmul C.1 C.2.1 d (k ls H locs hl hP hS)
theorem aw_ldiv (C : Ctx K own cc) {x y : Int64} (hne : ¬ y = 0) (d : decode cc pc = .ok (.ldiv, 1)) (k : AW K n M P (pc + 1) loc (.long (x / y) :: st)) : AW K n M P pc loc (.long y :: .long x :: st) :=
  fun ls H locs hl hP hS => lv_ldiv C.1 C.2.1 d hne (k ls H locs hl hP hS)
theorem aw_lrem (C : Ctx K own cc) {x y : Int64} (hne : ¬ y = 0) (d : decode cc pc = .ok (.lrem, 1)) (k : AW K n M P (pc + 1) loc (.long (x - x / y * y) :: st)) : AW K n M P pc loc (.long y :: .long x :: st) :=
  fun ls H locs hl hP hS => lv_lrem C.1 C.2.1 d hne (k ls H locs hl hP hS)
theorem aw_dup (C : Ctx K own cc) {v : Value} (d : decode cc pc = .ok (.dup, 1)) (hv : v.category = 1) (k : AW K n M P (pc + 1) loc (v :: v :: st)) : AW K n M P pc loc (v :: st) :=
  fun ls H locs hl hP hS => lv_dup C.1 C.2.1 d (by rw [cv_cat]; exact hv) (k ls H locs hl hP hS)
theorem aw_dup2 (C : Ctx K own cc) {v u : Value} (d : decode cc pc = .ok (.dup2, 1)) (hv : v.category = 1) (hu : u.category = 1) (k : AW K n M P (pc + 1) loc (v :: u :: v :: u :: st)) : AW K n M P pc loc (v :: u :: st) :=
  fun ls H locs hl hP hS => lv_dup2_11 C.1 C.2.1 d (by rw [cv_cat]; exact hv) (by rw [cv_cat]; exact hu) (k ls H locs hl hP hS)
theorem aw_pop (C : Ctx K own cc) {v : Value} (d : decode cc pc = .ok (.pop, 1)) (hv : v.category = 1) (k : AW K n M P (pc + 1) loc st) : AW K n M P pc loc (v :: st) :=
  fun ls H locs hl hP hS => lv_pop C.1 C.2.1 d (by rw [cv_cat]; exact hv) (k ls H locs hl hP hS)
theorem aw_goto (C : Ctx K own cc) {off : Int} (tgt : Nat) (d : decode cc pc = .ok (.goto off, 3)) (ht : (pc : Int) + off = (tgt : Int)) (k : AW K n M P tgt loc st) : AW K n M P pc loc st :=
  fun ls H locs hl hP hS => lv_goto C.1 C.2.1 d ht (k ls H locs hl hP hS)
end R
