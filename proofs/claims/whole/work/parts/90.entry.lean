/-! 90: what holds at the law's entry (laid by wip/gen/entry.py) -/
def wlE : List (Nat × Cond) := [(211, Jvm.Cond.instantiable "NeverSeen$Day" (15 : Nat)), (92, Jvm.Cond.instantiable "NeverSeen$House" (8 : Nat)), (99, Jvm.Cond.instantiable "NeverSeen$Maid" (5 : Nat)), (171, Jvm.Cond.instantiable "NeverSeen$Reader" (10 : Nat)), (293, Jvm.Cond.instantiable "NeverSeen$Sheet" (3 : Nat)), (217, Jvm.Cond.instantiable "NeverSeen$Ways" (2 : Nat)), (281, Jvm.Cond.instantiable "NeverSeen$Wording" (2 : Nat)), (84, Jvm.Cond.instantiable "NeverSeen" (10 : Nat)), (815, Jvm.Cond.instantiable "NeverSeenModel" (59 : Nat)), (131, Jvm.Cond.arrayClass Jvm.ClassFile.FieldType.int), (1001, Jvm.Cond.arrayClass Jvm.ClassFile.FieldType.boolean), (98, Jvm.Cond.arrayOver (Jvm.ClassFile.FieldType.object "NeverSeen$Maid")), (280, Jvm.Cond.arrayOver (Jvm.ClassFile.FieldType.object "NeverSeen$Sheet")), (209, Jvm.Cond.arrayOver (Jvm.ClassFile.FieldType.object "NeverSeen$Wording")), (813, Jvm.Cond.laysStatic "NeverSeen" "UNDER" "[I"), (68, Jvm.Cond.initialized "NeverSeen"), (483, Jvm.Cond.laysStatic "NeverSeen" "LEAST" "[I"), (486, Jvm.Cond.laysStatic "NeverSeen" "MOST" "[I"), (321, Jvm.Cond.laysStatic "java/lang/String" "COMPACT_STRINGS" "Z"), (76, Jvm.Cond.initialized "java/lang/String"), (337, Jvm.Cond.laysStatic "jdk/internal/util/Preconditions" "SIOOBE_FORMATTER" "Ljava/util/function/BiFunction;"), (78, Jvm.Cond.initialized "jdk/internal/util/Preconditions"), (311, Jvm.Cond.stringRef "NeverSeen" (64 : Nat) "steps 1 ; does 1 + maids ; costs 1 ;"), (383, Jvm.Cond.stringRef "NeverSeen$Reader" (104 : Nat) "minute room left number beside maids steps does costs or and not ")]
theorem wlE_ok : ∀ q ∈ wlE, lw_tbl[q.1]? = some q.2 := by decide +kernel
theorem we_at (i : Nat) {k : Nat} {w : Cond} (h : wlE[i]? = some (k, w)) : w ∈ lw_tbl := List.mem_of_getElem? (wlE_ok (k, w) (List.mem_of_getElem? h))
theorem in_tbl {w : Cond} (h : w ∈ lw_gd) : w ∈ lw_tbl := (List.mem_filter.mp h).1
theorem ins_0 : Cond.instantiable RX0 15 ∈ lw_tbl := we_at 0 rfl
theorem ins_1 : Cond.instantiable RX1 8 ∈ lw_tbl := we_at 1 rfl
theorem ins_2 : Cond.instantiable RX2 5 ∈ lw_tbl := we_at 2 rfl
theorem ins_3 : Cond.instantiable RX3 10 ∈ lw_tbl := we_at 3 rfl
theorem ins_4 : Cond.instantiable RX4 3 ∈ lw_tbl := we_at 4 rfl
theorem ins_5 : Cond.instantiable RX5 2 ∈ lw_tbl := we_at 5 rfl
theorem ins_6 : Cond.instantiable RX6 2 ∈ lw_tbl := we_at 6 rfl
theorem ins_7 : Cond.instantiable RX7 10 ∈ lw_tbl := we_at 7 rfl
theorem ins_8 : Cond.instantiable RX8 59 ∈ lw_tbl := we_at 8 rfl
theorem cls_all : ∀ (k : Nat) (r : vw_C), vwCl[k]? = some r → Cond.instantiable r.1 r.2.2 ∈ lw_tbl := by
  intro k r h
  match k, h with
  | 0, h => cases h; exact ins_0
  | 1, h => cases h; exact ins_1
  | 2, h => cases h; exact ins_2
  | 3, h => cases h; exact ins_3
  | 4, h => cases h; exact ins_4
  | 5, h => cases h; exact ins_5
  | 6, h => cases h; exact ins_6
  | 7, h => cases h; exact ins_7
  | 8, h => cases h; exact ins_8
  | n + 9, h => simp [vwCl] at h
theorem e_cls {s : State} {a : Array Value} (hts : ∀ w ∈ lw_tbl, w.before a s = true) : ∃ D : va_G, ∀ (k : Nat) (r : vw_C), vwCl[k]? = some r → u_Kn s r.1 r.2.1 r.2.2 (D.1 k) (D.2 k) := by
  have h : ∀ k : Nat, ∃ q : ClassId × (Nat → Nat), ∀ r : vw_C, vwCl[k]? = some r → u_Kn s r.1 r.2.1 r.2.2 q.1 q.2 := by
    intro k
    cases hk : vwCl[k]? with
    | none => exact ⟨(0, fun _ => 0), fun r h => by cases h⟩
    | some r =>
      obtain ⟨c, i, h⟩ := u_known (C := r.1) (T := r.2.1) (N := r.2.2) (n := r.2.2) hts (fun w hw => in_tbl (cl_words r (List.mem_of_getElem? hk) w hw)) (hts _ (cls_all k r hk))
      exact ⟨(c, i), fun r' h' => by cases h'; exact h⟩
  obtain ⟨f, hf⟩ := Classical.axiomOfChoice h
  exact ⟨(fun k => (f k).1, fun k => (f k).2), fun k r hk => hf k r hk⟩
theorem e_int {s : State} {a : Array Value} (hts : ∀ w ∈ lw_tbl, w.before a s = true) : ∃ c : ClassId, ArrOfT s c .int ∧ va_RA s c .int := by
  obtain ⟨c, k, comp, h1, h2, h3⟩ := Cond.arrayClass_spec (hts (.arrayClass .int) (we_at 9 rfl))
  exact ⟨c, fun n z => ⟨(fun k h => by cases h), k, h2, comp, h3⟩, h1⟩
theorem e_bool {s : State} {a : Array Value} (hts : ∀ w ∈ lw_tbl, w.before a s = true) : ∃ c : ClassId, ArrOfT s c .boolean ∧ va_RA s c .boolean := by
  obtain ⟨c, k, comp, h1, h2, h3⟩ := Cond.arrayClass_spec (hts (.arrayClass .boolean) (we_at 10 rfl))
  exact ⟨c, fun n z => ⟨(fun k h => by cases h), k, h2, comp, h3⟩, h1⟩
theorem e_obj {s : State} {a : Array Value} {Cn : String} (h : (Cond.arrayOver (.object Cn)).before a s = true) : ∃ c : ClassId, ArrOfT s c (.object Cn) ∧ va_RA s c (.object Cn) := by
  obtain ⟨comp, c, k, h1, h2, h3, h4, h5⟩ := Cond.arrayOver_spec h
  exact ⟨c, fun n z => ⟨(fun k h => by cases h), k, h3, comp, h4⟩, k, comp, h3, h4, h1, h5⟩
theorem ov_2 : Cond.arrayOver (.object RX2) ∈ lw_tbl := we_at 11 rfl
theorem ov_4 : Cond.arrayOver (.object RX4) ∈ lw_tbl := we_at 12 rfl
theorem ov_6 : Cond.arrayOver (.object RX6) ∈ lw_tbl := we_at 13 rfl
def gn1 : Cond := Jvm.Cond.and given_1 narrow_1
def fl1 : List Cond := flatC gn1
theorem fl_at {a : Array Value} {s : State} (h : gn1.before a s = true) (k : Nat) {c : Cond} (e : fl1[k]? = some c) : c.before a s = true := flat_of_before _ h _ (List.mem_of_getElem? e)
theorem fa_UNDER : fl1[28]? = some (Cond.arrayOf (Term.static RX7 "UNDER" "[I") .int) := by decide +kernel
theorem fb_UNDER : fl1[29]? = some (Cond.eq (.length (Term.static RX7 "UNDER" "[I")) (.int (Int32.ofNat 6))) := by decide +kernel
theorem fc_UNDER : ∀ j, j < 6 → fl1[30 + j]? = some (Cond.eq (.elem (Term.static RX7 "UNDER" "[I") (.int (Int32.ofNat j))) (.int (([-1, 0, 0, 1, 2, 0] : List Int32).getD j 0))) := by decide +kernel
theorem e_UNDER {s : State} {a : Array Value} {A : Nat → Prop} (hts : ∀ w ∈ lw_tbl, w.before a s = true) (hg : gn1.before a s = true) (hA : ∀ a : Nat, a < s.heap.size → ¬ A a) : ∃ t : Nat, va_Z RX7 "UNDER" "[I" (.ref t) A s s.heap ∧ va_T .int t 6 (fun j => .int (([-1, 0, 0, 1, 2, 0] : List Int32).getD j 0)) A s s.heap := by
  obtain ⟨t, h1, h2⟩ := va_Tof (N := 6) (f := fun j => .int (([-1, 0, 0, 1, 2, 0] : List Int32).getD j 0)) (A := A) (by decide) (fl_at hg 28 fa_UNDER) (va_eqt (fl_at hg 29 fb_UNDER)) (fun j hj => va_eqt (fl_at hg (30 + j) (fc_UNDER j hj))) hA
  exact ⟨t, va_Zof (hts (.laysStatic RX7 "UNDER" "[I") (we_at 14 rfl)) (hts (.initialized RX7) (we_at 15 rfl)) h1 hA, h2⟩
theorem fa_LEAST : fl1[10]? = some (Cond.arrayOf (Term.static RX7 "LEAST" "[I") .int) := by decide +kernel
theorem fb_LEAST : fl1[11]? = some (Cond.eq (.length (Term.static RX7 "LEAST" "[I")) (.int (Int32.ofNat 6))) := by decide +kernel
theorem fc_LEAST : ∀ j, j < 6 → fl1[12 + j]? = some (Cond.eq (.elem (Term.static RX7 "LEAST" "[I") (.int (Int32.ofNat j))) (.int (([0, 0, 0, 1, 0, 0] : List Int32).getD j 0))) := by decide +kernel
theorem e_LEAST {s : State} {a : Array Value} {A : Nat → Prop} (hts : ∀ w ∈ lw_tbl, w.before a s = true) (hg : gn1.before a s = true) (hA : ∀ a : Nat, a < s.heap.size → ¬ A a) : ∃ t : Nat, va_Z RX7 "LEAST" "[I" (.ref t) A s s.heap ∧ va_T .int t 6 (fun j => .int (([0, 0, 0, 1, 0, 0] : List Int32).getD j 0)) A s s.heap := by
  obtain ⟨t, h1, h2⟩ := va_Tof (N := 6) (f := fun j => .int (([0, 0, 0, 1, 0, 0] : List Int32).getD j 0)) (A := A) (by decide) (fl_at hg 10 fa_LEAST) (va_eqt (fl_at hg 11 fb_LEAST)) (fun j hj => va_eqt (fl_at hg (12 + j) (fc_LEAST j hj))) hA
  exact ⟨t, va_Zof (hts (.laysStatic RX7 "LEAST" "[I") (we_at 16 rfl)) (hts (.initialized RX7) (we_at 15 rfl)) h1 hA, h2⟩
theorem fa_MOST : fl1[19]? = some (Cond.arrayOf (Term.static RX7 "MOST" "[I") .int) := by decide +kernel
theorem fb_MOST : fl1[20]? = some (Cond.eq (.length (Term.static RX7 "MOST" "[I")) (.int (Int32.ofNat 6))) := by decide +kernel
theorem fc_MOST : ∀ j, j < 6 → fl1[21 + j]? = some (Cond.eq (.elem (Term.static RX7 "MOST" "[I") (.int (Int32.ofNat j))) (.int (([3, 99, 7, 50, 9, 7] : List Int32).getD j 0))) := by decide +kernel
theorem e_MOST {s : State} {a : Array Value} {A : Nat → Prop} (hts : ∀ w ∈ lw_tbl, w.before a s = true) (hg : gn1.before a s = true) (hA : ∀ a : Nat, a < s.heap.size → ¬ A a) : ∃ t : Nat, va_Z RX7 "MOST" "[I" (.ref t) A s s.heap ∧ va_T .int t 6 (fun j => .int (([3, 99, 7, 50, 9, 7] : List Int32).getD j 0)) A s s.heap := by
  obtain ⟨t, h1, h2⟩ := va_Tof (N := 6) (f := fun j => .int (([3, 99, 7, 50, 9, 7] : List Int32).getD j 0)) (A := A) (by decide) (fl_at hg 19 fa_MOST) (va_eqt (fl_at hg 20 fb_MOST)) (fun j hj => va_eqt (fl_at hg (21 + j) (fc_MOST j hj))) hA
  exact ⟨t, va_Zof (hts (.laysStatic RX7 "MOST" "[I") (we_at 17 rfl)) (hts (.initialized RX7) (we_at 15 rfl)) h1 hA, h2⟩
def tmS : Nat → Term := fun i => if i = 0 then .string RX7 64 else .string RX3 104
theorem sx_0 : fl1[63]? = some (Cond.exactly (tmS 0) "java/lang/String") := by decide +kernel
theorem sc_0 : fl1[64]? = some (Cond.eq (.field (tmS 0) "java/lang/String" "coder" "B") (.int 0)) := by decide +kernel
theorem sa_0 : fl1[65]? = some (Cond.arrayOf (.field (tmS 0) "java/lang/String" "value" "[B") .byte) := by decide +kernel
theorem se_0 : fl1[66]? = some (Cond.eq (.length (.field (tmS 0) "java/lang/String" "value" "[B")) (.int (Int32.ofNat (txLen.getD 0 0)))) := by decide +kernel
theorem sl_0x : ∀ j, j < txLen.getD 0 0 → fl1[67 + j]? = some (Cond.eq (.elem (.field (tmS 0) "java/lang/String" "value" "[B") (.int (Int32.ofNat j))) (.int ((txByt.getD 0 []).getD j 0))) := by decide +kernel
theorem sx_1 : fl1[103]? = some (Cond.exactly (tmS 1) "java/lang/String") := by decide +kernel
theorem sc_1 : fl1[104]? = some (Cond.eq (.field (tmS 1) "java/lang/String" "coder" "B") (.int 0)) := by decide +kernel
theorem sa_1 : fl1[105]? = some (Cond.arrayOf (.field (tmS 1) "java/lang/String" "value" "[B") .byte) := by decide +kernel
theorem se_1 : fl1[106]? = some (Cond.eq (.length (.field (tmS 1) "java/lang/String" "value" "[B")) (.int (Int32.ofNat (txLen.getD 1 0)))) := by decide +kernel
theorem sl_1x : ∀ j, j < txLen.getD 1 0 → fl1[107 + j]? = some (Cond.eq (.elem (.field (tmS 1) "java/lang/String" "value" "[B") (.int (Int32.ofNat j))) (.int ((txByt.getD 1 []).getD j 0))) := by decide +kernel
theorem sn_x : fl1[172]? = some (Cond.not (Cond.eq (tmS 0) (tmS 1))) := by decide +kernel
theorem e_txt {s : State} {a : Array Value} {A : Nat → Prop} (hg : gn1.before a s = true) (hA : ∀ a : Nat, a < s.heap.size → ¬ A a) : ∃ adK adV : Nat → Nat, vk_S 2 txLen txByt adK adV A s s.heap ∧ ∀ i : Nat, i < 2 → (tmS i).eval a s none [] s = some (.ref (adK i)) := by
  refine vk_Sof (tm := tmS) ?_ ?_ ?_ ?_ ?_ ?_ ?_ hA
  · decide
  · intro i hi
    match i, hi with
    | 0, _ => exact fl_at hg 63 sx_0
    | 1, _ => exact fl_at hg 103 sx_1
  · intro i hi
    match i, hi with
    | 0, _ => exact fl_at hg 64 sc_0
    | 1, _ => exact fl_at hg 104 sc_1
  · intro i hi
    match i, hi with
    | 0, _ => exact fl_at hg 65 sa_0
    | 1, _ => exact fl_at hg 105 sa_1
  · intro i hi
    match i, hi with
    | 0, _ => exact fl_at hg 66 se_0
    | 1, _ => exact fl_at hg 106 se_1
  · intro i hi
    match i, hi with
    | 0, _ => exact fun j hj => fl_at hg (67 + j) (sl_0x j hj)
    | 1, _ => exact fun j hj => fl_at hg (107 + j) (sl_1x j hj)
  · intro i j hi hj hij
    match i, hi, j, hj, hij with
    | 0, _, 0, _, hij => exact absurd rfl hij
    | 1, _, 1, _, hij => exact absurd rfl hij
    | 0, _, 1, _, _ => exact Or.inl (fl_at hg 172 sn_x)
    | 1, _, 0, _, _ => exact Or.inr (fl_at hg 172 sn_x)
theorem sy_c : fl1[4]? = some (Cond.eq (.static RJ0 "COMPACT_STRINGS" "Z") (.int 1)) := by decide +kernel
theorem sy_f : fl1[5]? = some (Cond.isRef (.static RJ3 "SIOOBE_FORMATTER" "Ljava/util/function/BiFunction;")) := by decide +kernel
theorem e_sys {s : State} {a : Array Value} {A : Nat → Prop} (hts : ∀ w ∈ lw_tbl, w.before a s = true) (hg : gn1.before a s = true) (hA : ∀ a : Nat, a < s.heap.size → ¬ A a) : va_Z RJ0 "COMPACT_STRINGS" "Z" (.int 1) A s s.heap ∧ ∃ t : Nat, va_Z RJ3 "SIOOBE_FORMATTER" "Ljava/util/function/BiFunction;" .null A s s.heap ∨ va_Z RJ3 "SIOOBE_FORMATTER" "Ljava/util/function/BiFunction;" (.ref t) A s s.heap := by
  refine ⟨va_Zof (hts (.laysStatic RJ0 "COMPACT_STRINGS" "Z") (we_at 18 rfl)) (hts (.initialized RJ0) (we_at 19 rfl)) (va_eqi (fl_at hg 4 sy_c)) hA, ?_⟩
  rcases va_Zqof (A := A) (hts (.laysStatic RJ3 "SIOOBE_FORMATTER" "Ljava/util/function/BiFunction;") (we_at 20 rfl)) (hts (.initialized RJ3) (we_at 21 rfl)) (fl_at hg 5 sy_f) hA with h | ⟨t, h⟩
  · exact ⟨0, Or.inl h⟩
  · exact ⟨t, Or.inr h⟩
theorem sr_0 : Cond.stringRef RX7 64 txt0 ∈ lw_tbl := we_at 22 rfl
theorem sr_1 : Cond.stringRef RX3 104 txt1 ∈ lw_tbl := we_at 23 rfl
/-- the steady facts hold where the law is entered -/
theorem gw_entry {s : State} {b L : Nat} {xs : Nat → Int32} {a : Array Value} (hts : ∀ w ∈ lw_tbl, w.before a s = true) (hg : gn1.before a s = true) (hX : va_X b L xs s s.heap) (hb : b < s.heap.size) : ∃ w : Wd, GW w s ∧ wSz w = s.heap.size ∧ wX w 0 = b ∧ wL w = L ∧ wS w = xs := by
  have hA : ∀ a : Nat, a < s.heap.size → ¬ s.heap.size ≤ a := fun a h => Nat.not_le.mpr h
  obtain ⟨D, hD⟩ := e_cls hts
  obtain ⟨c0, h0, h0'⟩ := e_int hts
  obtain ⟨c1, h1, h1'⟩ := e_bool hts
  obtain ⟨c2, h2, h2'⟩ := e_obj (hts _ ov_2)
  obtain ⟨c3, h3, h3'⟩ := e_obj (hts _ ov_4)
  obtain ⟨c4, h4, h4'⟩ := e_obj (hts _ ov_6)
  obtain ⟨t1, u1, v1⟩ := e_UNDER (A := fun q => s.heap.size ≤ q) hts hg hA
  obtain ⟨t2, u2, v2⟩ := e_LEAST (A := fun q => s.heap.size ≤ q) hts hg hA
  obtain ⟨t3, u3, v3⟩ := e_MOST (A := fun q => s.heap.size ≤ q) hts hg hA
  obtain ⟨k, v, hS, hE⟩ := e_txt (A := fun q => s.heap.size ≤ q) hg hA
  obtain ⟨hC, f, hF⟩ := e_sys (A := fun q => s.heap.size ≤ q) hts hg hA
  refine ⟨(s.heap.size, D, (fun t => [c0, c1, c2, c3, c4].getD t 0), (fun j => [b, t1, t2, t3, k 0, k 1, v 0, v 1, 0, f].getD j 0), L, xs), ⟨⟨hD, ?_⟩, ⟨fun q hq => va_Nw.of rfl (hts _ (nstM_in q hq)), fun q hq => va_Nw.of rfl (hts _ (nstF_in q hq))⟩, ?_, ⟨vk_R.of (hts _ sr_0) (hE 0 (by decide)), vk_R.of (hts _ sr_1) (hE 1 (by decide))⟩, ?_, ⟨hC, hF⟩, ⟨va_AO.of (hts _ ov_2), va_AO.of (hts _ ov_4), va_AO.of (hts _ ov_6)⟩, ⟨hX, hb, hA b hb⟩, Nat.le_refl _⟩, rfl, rfl, rfl, rfl⟩
  · intro k q hq
    match k, hq with
    | 0, hq => cases hq; exact ⟨h0, h0'⟩
    | 1, hq => cases hq; exact ⟨h1, h1'⟩
    | 2, hq => cases hq; exact ⟨h2, h2'⟩
    | 3, hq => cases hq; exact ⟨h3, h3'⟩
    | 4, hq => cases hq; exact ⟨h4, h4'⟩
    | n + 5, hq => simp [tysO] at hq
  · intro q hq
    have hq : q = ("UNDER", 1, [-1, 0, 0, 1, 2, 0]) ∨ q = ("LEAST", 2, [0, 0, 0, 1, 0, 0]) ∨ q = ("MOST", 3, [3, 99, 7, 50, 9, 7]) := by simpa [ownStat] using hq
    rcases hq with rfl | rfl | rfl
    · exact ⟨u1, v1⟩
    · exact ⟨u2, v2⟩
    · exact ⟨u3, v3⟩
  · refine ⟨fun i hi => ?_, fun i j hi hj e => ?_⟩
    · match i, hi with
      | 0, _ => exact hS.1 0 (by decide)
      | 1, _ => exact hS.1 1 (by decide)
    · refine hS.2 i j hi hj ?_
      match i, hi, j, hj, e with
      | 0, _, 0, _, _ => rfl
      | 1, _, 1, _, _ => rfl
      | 0, _, 1, _, e => exact e
      | 1, _, 0, _, e => exact e
