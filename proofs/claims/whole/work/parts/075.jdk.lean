/-! 067: the JDK's length() and charAt() of the two texts -/
abbrev Tk (n : Nat) (M : Mem) (P : Pm) (v : Option Value) : Tg := fun rv n1 M1 P1 => rv = v ∧ n1 = n ∧ M1 = M ∧ P1 = P
theorem dJ0_length_8abf5_0 : decode cJ0_length_8abf5 0 = .ok (.aload_n 0, 1) := by decide +kernel
theorem dJ0_length_8abf5_1 : decode cJ0_length_8abf5 1 = .ok (.getfield 9, 3) := by decide +kernel
theorem dJ0_length_8abf5_4 : decode cJ0_length_8abf5 4 = .ok (.arraylength, 1) := by decide +kernel
theorem dJ0_length_8abf5_5 : decode cJ0_length_8abf5 5 = .ok (.aload_n 0, 1) := by decide +kernel
theorem dJ0_length_8abf5_6 : decode cJ0_length_8abf5 6 = .ok (.invokevirtual 335, 3) := by decide +kernel
theorem dJ0_length_8abf5_9 : decode cJ0_length_8abf5 9 = .ok (.ishr, 1) := by decide +kernel
theorem dJ0_length_8abf5_10 : decode cJ0_length_8abf5 10 = .ok (.ireturn, 1) := by decide +kernel
theorem dJ0_charAt_5068e_0 : decode cJ0_charAt_5068e 0 = .ok (.aload_n 0, 1) := by decide +kernel
theorem dJ0_charAt_5068e_1 : decode cJ0_charAt_5068e 1 = .ok (.invokevirtual 492, 3) := by decide +kernel
theorem dJ0_charAt_5068e_4 : decode cJ0_charAt_5068e 4 = .ok (.ifCond .eq 12, 3) := by decide +kernel
theorem dJ0_charAt_5068e_7 : decode cJ0_charAt_5068e 7 = .ok (.aload_n 0, 1) := by decide +kernel
theorem dJ0_charAt_5068e_8 : decode cJ0_charAt_5068e 8 = .ok (.getfield 9, 3) := by decide +kernel
theorem dJ0_charAt_5068e_11 : decode cJ0_charAt_5068e 11 = .ok (.iload_n 1, 1) := by decide +kernel
theorem dJ0_charAt_5068e_12 : decode cJ0_charAt_5068e 12 = .ok (.invokestatic 495, 3) := by decide +kernel
theorem dJ0_charAt_5068e_15 : decode cJ0_charAt_5068e 15 = .ok (.ireturn, 1) := by decide +kernel
theorem dJ0_charAt_5068e_16 : decode cJ0_charAt_5068e 16 = .ok (.aload_n 0, 1) := by decide +kernel
theorem dJ0_charAt_5068e_17 : decode cJ0_charAt_5068e 17 = .ok (.getfield 9, 3) := by decide +kernel
theorem dJ0_charAt_5068e_20 : decode cJ0_charAt_5068e 20 = .ok (.iload_n 1, 1) := by decide +kernel
theorem dJ0_charAt_5068e_21 : decode cJ0_charAt_5068e 21 = .ok (.invokestatic 498, 3) := by decide +kernel
theorem dJ0_charAt_5068e_24 : decode cJ0_charAt_5068e 24 = .ok (.ireturn, 1) := by decide +kernel
theorem dJ0_coder_7d493_0 : decode cJ0_coder_7d493 0 = .ok (.getstatic 38, 3) := by decide +kernel
theorem dJ0_coder_7d493_3 : decode cJ0_coder_7d493 3 = .ok (.ifCond .eq 10, 3) := by decide +kernel
theorem dJ0_coder_7d493_6 : decode cJ0_coder_7d493 6 = .ok (.aload_n 0, 1) := by decide +kernel
theorem dJ0_coder_7d493_7 : decode cJ0_coder_7d493 7 = .ok (.getfield 15, 3) := by decide +kernel
theorem dJ0_coder_7d493_10 : decode cJ0_coder_7d493 10 = .ok (.goto 4, 3) := by decide +kernel
theorem dJ0_coder_7d493_13 : decode cJ0_coder_7d493 13 = .ok (.iconst 1, 1) := by decide +kernel
theorem dJ0_coder_7d493_14 : decode cJ0_coder_7d493 14 = .ok (.ireturn, 1) := by decide +kernel
theorem dJ0_isLatin1_aae02_0 : decode cJ0_isLatin1_aae02 0 = .ok (.getstatic 38, 3) := by decide +kernel
theorem dJ0_isLatin1_aae02_3 : decode cJ0_isLatin1_aae02 3 = .ok (.ifCond .eq 14, 3) := by decide +kernel
theorem dJ0_isLatin1_aae02_6 : decode cJ0_isLatin1_aae02 6 = .ok (.aload_n 0, 1) := by decide +kernel
theorem dJ0_isLatin1_aae02_7 : decode cJ0_isLatin1_aae02 7 = .ok (.getfield 15, 3) := by decide +kernel
theorem dJ0_isLatin1_aae02_10 : decode cJ0_isLatin1_aae02 10 = .ok (.ifCond .ne 7, 3) := by decide +kernel
theorem dJ0_isLatin1_aae02_13 : decode cJ0_isLatin1_aae02 13 = .ok (.iconst 1, 1) := by decide +kernel
theorem dJ0_isLatin1_aae02_14 : decode cJ0_isLatin1_aae02 14 = .ok (.goto 4, 3) := by decide +kernel
theorem dJ0_isLatin1_aae02_17 : decode cJ0_isLatin1_aae02 17 = .ok (.iconst 0, 1) := by decide +kernel
theorem dJ0_isLatin1_aae02_18 : decode cJ0_isLatin1_aae02 18 = .ok (.ireturn, 1) := by decide +kernel
theorem dJ0_checkIndex_df160_0 : decode cJ0_checkIndex_df160 0 = .ok (.iload_n 0, 1) := by decide +kernel
theorem dJ0_checkIndex_df160_1 : decode cJ0_checkIndex_df160 1 = .ok (.iload_n 1, 1) := by decide +kernel
theorem dJ0_checkIndex_df160_2 : decode cJ0_checkIndex_df160 2 = .ok (.getstatic 1053, 3) := by decide +kernel
theorem dJ0_checkIndex_df160_5 : decode cJ0_checkIndex_df160 5 = .ok (.invokestatic 1059, 3) := by decide +kernel
theorem dJ0_checkIndex_df160_8 : decode cJ0_checkIndex_df160 8 = .ok (.pop, 1) := by decide +kernel
theorem dJ0_checkIndex_df160_9 : decode cJ0_checkIndex_df160 9 = .ok (.return_, 1) := by decide +kernel
theorem dJ1_charAt_3b067_0 : decode cJ1_charAt_3b067 0 = .ok (.iload_n 1, 1) := by decide +kernel
theorem dJ1_charAt_3b067_1 : decode cJ1_charAt_3b067 1 = .ok (.aload_n 0, 1) := by decide +kernel
theorem dJ1_charAt_3b067_2 : decode cJ1_charAt_3b067 2 = .ok (.arraylength, 1) := by decide +kernel
theorem dJ1_charAt_3b067_3 : decode cJ1_charAt_3b067 3 = .ok (.invokestatic 9, 3) := by decide +kernel
theorem dJ1_charAt_3b067_6 : decode cJ1_charAt_3b067 6 = .ok (.aload_n 0, 1) := by decide +kernel
theorem dJ1_charAt_3b067_7 : decode cJ1_charAt_3b067 7 = .ok (.iload_n 1, 1) := by decide +kernel
theorem dJ1_charAt_3b067_8 : decode cJ1_charAt_3b067 8 = .ok (.baload, 1) := by decide +kernel
theorem dJ1_charAt_3b067_9 : decode cJ1_charAt_3b067 9 = .ok (.sipush 255, 3) := by decide +kernel
theorem dJ1_charAt_3b067_12 : decode cJ1_charAt_3b067 12 = .ok (.iand, 1) := by decide +kernel
theorem dJ1_charAt_3b067_13 : decode cJ1_charAt_3b067 13 = .ok (.i2c, 1) := by decide +kernel
theorem dJ1_charAt_3b067_14 : decode cJ1_charAt_3b067 14 = .ok (.ireturn, 1) := by decide +kernel
theorem dJ3_checkIndex_8e157_0 : decode cJ3_checkIndex_8e157 0 = .ok (.iload_n 0, 1) := by decide +kernel
theorem dJ3_checkIndex_8e157_1 : decode cJ3_checkIndex_8e157 1 = .ok (.ifCond .lt 8, 3) := by decide +kernel
theorem dJ3_checkIndex_8e157_4 : decode cJ3_checkIndex_8e157 4 = .ok (.iload_n 0, 1) := by decide +kernel
theorem dJ3_checkIndex_8e157_5 : decode cJ3_checkIndex_8e157 5 = .ok (.iload_n 1, 1) := by decide +kernel
theorem dJ3_checkIndex_8e157_6 : decode cJ3_checkIndex_8e157 6 = .ok (.if_icmp .lt 10, 3) := by decide +kernel
theorem dJ3_checkIndex_8e157_9 : decode cJ3_checkIndex_8e157 9 = .ok (.aload_n 2, 1) := by decide +kernel
theorem dJ3_checkIndex_8e157_10 : decode cJ3_checkIndex_8e157 10 = .ok (.iload_n 0, 1) := by decide +kernel
theorem dJ3_checkIndex_8e157_11 : decode cJ3_checkIndex_8e157 11 = .ok (.iload_n 1, 1) := by decide +kernel
theorem dJ3_checkIndex_8e157_12 : decode cJ3_checkIndex_8e157 12 = .ok (.invokestatic 95, 3) := by decide +kernel
theorem dJ3_checkIndex_8e157_15 : decode cJ3_checkIndex_8e157 15 = .ok (.athrow, 1) := by decide +kernel
theorem dJ3_checkIndex_8e157_16 : decode cJ3_checkIndex_8e157 16 = .ok (.iload_n 0, 1) := by decide +kernel
theorem dJ3_checkIndex_8e157_17 : decode cJ3_checkIndex_8e157 17 = .ok (.ireturn, 1) := by decide +kernel

section RJ
variable {K : Cx} {own : String} {cc : ByteArray} {n : Nat} {M : Mem} {P : Pm} {pc : Nat} {loc : List (Option Value)} {st : List Value}
theorem wad_4 {w : Wd} {i : Nat} : cv w (.ref (1004 + i)) = .ref (wX w (4 + i)) := by
  show Value.ref (wad w (1004 + i)) = _
  rw [show 1004 + i = 1000 + (4 + i) by omega, wad_x]
theorem wad_6 {w : Wd} {i : Nat} : cv w (.ref (1006 + i)) = .ref (wX w (6 + i)) := by
  show Value.ref (wad w (1006 + i)) = _
  rw [show 1006 + i = 1000 + (6 + i) by omega, wad_x]
theorem aw_strval (C : Ctx K RJ0 cc) {i : Nat} (hi : i < 2) (d : decode cc pc = .ok (.getfield 9, 3)) (kk : AW K n M P (pc + 3) loc (.ref (1006 + i) :: st)) : AW K n M P pc loc (.ref (1004 + i) :: st) := by
  intro ls H locs hl hP hS
  have g := (C.2.2.2.2.2.1.2.2.2.2.1.1 i hi).2.2.1
  have k := kk ls H locs hl hP hS
  rw [List.map_cons, wad_6] at k
  rw [List.map_cons, wad_4]
  exact vk_getf C.1 C.2.1 g hS C.2.2.2.1 (C.2.2.2.2.1 _ flj_9) (fun _ h => h) d k
theorem aw_strcod (C : Ctx K RJ0 cc) {i : Nat} (hi : i < 2) (d : decode cc pc = .ok (.getfield 15, 3)) (kk : AW K n M P (pc + 3) loc (.int 0 :: st)) : AW K n M P pc loc (.ref (1004 + i) :: st) := by
  intro ls H locs hl hP hS
  have g := (C.2.2.2.2.2.1.2.2.2.2.1.1 i hi).2.1
  have k := kk ls H locs hl hP hS
  rw [List.map_cons, wad_4]
  exact vk_getf C.1 C.2.1 g hS C.2.2.2.1 (C.2.2.2.2.1 _ flj_15) (fun _ h => h) d k
theorem aw_strarl (C : Ctx K own cc) {i : Nat} (hi : i < 2) (d : decode cc pc = .ok (.arraylength, 1)) (kk : AW K n M P (pc + 1) loc (.int (Int32.ofNat (txLen.getD i 0)) :: st)) : AW K n M P pc loc (.ref (1006 + i) :: st) := by
  intro ls H locs hl hP hS
  have g := (C.2.2.2.2.2.1.2.2.2.2.1.1 i hi).2.2.2
  have k := kk ls H locs hl hP hS
  rw [List.map_cons, wad_6]
  exact va_tlen C.1 C.2.1 g hS rfl d k
theorem aw_strbal (C : Ctx K own cc) {i : Nat} {x : Int32} (hi : i < 2) (hx : ib x (txLen.getD i 0)) (d : decode cc pc = .ok (.baload, 1)) (kk : AW K n M P (pc + 1) loc (.int ((txByt.getD i []).getD (ix x) 0) :: st)) : AW K n M P pc loc (.int x :: .ref (1006 + i) :: st) := by
  intro ls H locs hl hP hS
  have g := (C.2.2.2.2.2.1.2.2.2.2.1.1 i hi).2.2.2
  have k := kk ls H locs hl hP hS
  rw [List.map_cons, List.map_cons, wad_6]
  exact va_tb C.1 C.2.1 g hS (ib_in hx) rfl d k
theorem aw_compact (C : Ctx K RJ0 cc) (d : decode cc pc = .ok (.getstatic 38, 3)) (kk : AW K n M P (pc + 3) loc (.int 1 :: st)) : AW K n M P pc loc st := by
  intro ls H locs hl hP hS
  exact va_gets C.1 C.2.1 C.2.2.2.2.2.1.2.2.2.2.2.1.1 hS C.2.2.2.1 (C.2.2.2.2.1 _ flj_38) (fun _ h => h) d (kk ls H locs hl hP hS)
theorem aw_fmt (C : Ctx K RJ0 cc) (d : decode cc pc = .ok (.getstatic 1053, 3)) (k1 : AW K n M P (pc + 3) loc (.null :: st)) (k2 : AW K n M P (pc + 3) loc (.ref 1009 :: st)) : AW K n M P pc loc st := by
  intro ls H locs hl hP hS
  rcases C.2.2.2.2.2.1.2.2.2.2.2.1.2 with g | g
  · exact va_gets C.1 C.2.1 g hS C.2.2.2.1 (C.2.2.2.2.1 _ flj_1053) (fun _ h => h) d (k1 ls H locs hl hP hS)
  · have k := k2 ls H locs hl hP hS
    rw [List.map_cons, show cv (kw K) (.ref 1009) = .ref (wX (kw K) 9) from congrArg Value.ref (wad_x (j := 9))] at k
    exact va_gets C.1 C.2.1 g hS C.2.2.2.1 (C.2.2.2.2.1 _ flj_1053) (fun _ h => h) d k
/-- invokevirtual on one of the texts -/
theorem aw_cVs (C : Ctx K own cc) (hR : Rm K n) {i lk na maxL lv : Nat} {y : MethodName} {bytes : ByteArray} {ret : Option FieldType} (as rest : List Value) {T : Tg} (hi : i < 2) (d : decode cc pc = .ok (.invokevirtual lk, 3)) (hM : CM (kl K) (kw K) y bytes maxL ret lv 0 0 (.ref (1004 + i) :: as) n M P T) (mf : MF y bytes maxL ret na) (hy : y.cls = "java/lang/String") (hw : Cond.methodLink own lk y ∈ lw_gd ∧ Cond.instanceMethod y ∈ lw_gd ∧ Cond.selects y.cls y y ∈ lw_gd) (hna : as.length = na) (hlv : lv + 1 ≤ (kR K).frames) (hs : st = as.reverse ++ .ref (1004 + i) :: rest) (hst : (rest.map fun v => v.category).sum ≤ 8)
    (hT : ∀ rv n1 M1 P1, T rv n1 M1 P1 → n1 = n + 0 ∧ sln n1 = sln n + 0) (kk : ∀ rv n1 M1 P1, T rv n1 M1 P1 → AW K n1 M1 P1 (pc + 3) loc (rv.toList ++ rest)) : AW K n M P pc loc st := by
  intro ls H locs hl hP hS T0 hT0 X
  have hz := aw_size C hR.1 hP hS hT0 X
  refine aw_after hR.1 hT0 X (va_runV (As := as.map (cv (kw K))) (rest := rest.map (cv (kw K))) (b := wX (kw K) (4 + i)) (C := "java/lang/String") (fix_of C) hM ⟨callB_gd C mf hw.1 hlv, C.2.2.2.2.1 _ hw.2.1, by have h := hw.2.2; rw [hy] at h; exact C.2.2.2.2.1 _ h⟩ ⟨pc_blind, vk_recv (adK := fun i => wX (kw K) (4 + i)) (i := i) C.2.2.2.2.2.1.2.2.2.2.1 hi hS, fun U hU hW => ⟨?_, C.2.2.2.2.2.1.move hS hU hW, by rw [hU]; exact hz, by rw [hU]; exact hP⟩⟩ rfl (by rw [List.length_map]; exact hna) hl.1 ?_ (lv_room (by rw [cat_map]; exact hst)) d hR.2) hS hl hT kk
  · rw [List.map_cons, wad_4]
  · show st.map (cv (kw K)) = _
    rw [hs, List.map_append, List.map_cons, List.map_reverse, wad_4]
end RJ
section CJ
variable {l : Launch} {w : Wd} {n : Nat} {M : Mem} {P : Pm}
theorem rm_of {K : Cx} (hn : kn K = n) : Rm K n := ⟨by rw [hn]; exact Nat.le_refl _, by rw [hn, Nat.sub_self]; exact Nat.zero_le _, by rw [hn, Nat.sub_self]; exact Nat.zero_le _⟩
theorem hm_of {K : Cx} (hn : kn K = n) : n - kn K ≤ 0 ∧ sln n - sln (kn K) ≤ 0 := ⟨by rw [hn, Nat.sub_self]; exact Nat.le_refl _, by rw [hn, Nat.sub_self]; exact Nat.le_refl _⟩
theorem Tk0 {v : Option Value} : ∀ rv n1 M1 P1, Tk n M P v rv n1 M1 P1 → n1 = n + 0 ∧ sln n1 = sln n + 0 := fun _ _ _ _ t => ⟨t.2.1, by rw [t.2.1, Nat.add_zero]⟩
theorem m_pci {i N : Int32} {v : Value} (hi : 0 ≤ i) (hN : i < N) (hv : v = .null ∨ v = .ref 1009) : CM l w yJ3_checkIndex_8e157 cJ3_checkIndex_8e157 3 (some .int) 1 0 0 [.int i, .int N, v] n M P (Tk n M P (some (.int i))) := by
  have key : ∀ K : Cx, Ctx K yJ3_checkIndex_8e157.cls cJ3_checkIndex_8e157 → RT K (some .int) (Tk n M P (some (.int i))) 0 0 → kn K = n → AW K n M P 0 [some (.int i), some (.int N), none] [] := by
    intro K C rt hn
    refine aw_iload_n C dJ3_checkIndex_8e157_0 rfl ?_
    refine aw_if_lt (A := (none : Option Unit)) (B := some ()) (r := ()) C 9 dJ3_checkIndex_8e157_1 (by decide) (if_neg (Int32.not_lt.mpr hi)) (fun h => by cases h) (fun _ => ?_)
    refine aw_iload_n C dJ3_checkIndex_8e157_4 rfl ?_
    refine aw_iload_n C dJ3_checkIndex_8e157_5 rfl ?_
    refine aw_icmp_lt (A := some ()) (B := (none : Option Unit)) (r := ()) C 16 dJ3_checkIndex_8e157_6 (by decide) (if_pos hN) (fun _ => ?_) (fun h => by cases h)
    refine aw_iload_n C dJ3_checkIndex_8e157_16 rfl ?_
    exact aw_iret C rt rfl (hm_of hn) dJ3_checkIndex_8e157_17 ⟨rfl, rfl, rfl, rfl⟩
  rcases hv with rfl | rfl
  · exact cm_of (loc := [some (.int i), some (.int N), some .null]) mf_pci (by decide) (Nat.le_of_ble_eq_true rfl) rfl (fun K C rt _ _ _ hn _ _ => aw_loc _ (sl_k (sl_k (sl_n sl_0))) (key K C rt hn))
  · exact cm_of (loc := [some (.int i), some (.int N), some (.ref 1009)]) mf_pci (by decide) (Nat.le_of_ble_eq_true rfl) rfl (fun K C rt _ _ _ hn _ _ => aw_loc _ (sl_k (sl_k (sl_n sl_0))) (key K C rt hn))
theorem m_sci {i N : Int32} (hi : 0 ≤ i) (hN : i < N) : CM l w yJ0_checkIndex_df160 cJ0_checkIndex_df160 2 none 2 0 0 [.int i, .int N] n M P (Tk n M P none) := by
  refine cm_of (loc := [some (.int i), some (.int N)]) mf_sci (by decide) (Nat.le_of_ble_eq_true rfl) rfl (fun K C rt _ _ _ hn hR _ => ?_)
  refine aw_iload_n C dJ0_checkIndex_df160_0 rfl ?_
  refine aw_iload_n C dJ0_checkIndex_df160_1 rfl ?_
  have go : ∀ v : Value, v = .null ∨ v = .ref 1009 → AW K n M P 5 [some (.int i), some (.int N)] [v, .int N, .int i] := by
    intro v hv
    refine aw_cS (as := [.int i, .int N, v]) (rest := []) C (rm_of hn) dJ0_checkIndex_df160_5 (m_pci hi hN hv) mf_pci cwj_95 rfl (by rw [hR]; decide) rfl (Nat.le_of_ble_eq_true rfl) (rm_of hn).2 Tk0 (fun rv n1 M1 P1 t => ?_)
    obtain ⟨rfl, rfl, rfl, rfl⟩ := t
    refine aw_pop C dJ0_checkIndex_df160_8 rfl ?_
    exact aw_vret C rt (hm_of hn) dJ0_checkIndex_df160_9 ⟨rfl, rfl, rfl, rfl⟩
  exact aw_fmt C dJ0_checkIndex_df160_2 (go _ (Or.inl rfl)) (go _ (Or.inr rfl))
theorem tx_len : ∀ i, i < 2 → txLen.getD i 0 < 100 ∧ ∀ k, k < 100 → (txByt.getD i []).getD k 0 &&& 255 = (txByt.getD i []).getD k 0 ∧ ((txByt.getD i []).getD k 0).toUInt32 % 65536 = ((txByt.getD i []).getD k 0).toUInt32 := by decide +kernel
theorem ib_pos {i : Int32} {N : Nat} (h : ib i N) : 0 ≤ i := by rw [Int32.le_iff_toInt_le]; exact h.1
theorem ib_lt {i : Int32} {N : Nat} (hN : N < 2 ^ 31) (h : ib i N) : i < Int32.ofNat N := by
  rw [Int32.lt_iff_toInt_lt]
  have : (Int32.ofNat N).toInt = (N : Int) := nI_toInt hN
  rw [this]
  exact h.2
theorem m_lch {i : Nat} {x : Int32} (hi : i < 2) (hx : ib x (txLen.getD i 0)) : CM l w yJ1_charAt_3b067 cJ1_charAt_3b067 2 (some .char) 3 0 0 [.ref (1006 + i), .int x] n M P (Tk n M P (some (.int ((txByt.getD i []).getD (ix x) 0)))) := by
  have hL := (tx_len i hi).1
  have hb := (tx_len i hi).2 (ix x) (Nat.lt_trans (ix_lt hx) hL)
  refine cm_of (loc := [some (.ref (1006 + i)), some (.int x)]) mf_lch (by decide) (Nat.le_of_ble_eq_true rfl) rfl (fun K C rt _ _ _ hn hR _ => ?_)
  refine aw_iload_n C dJ1_charAt_3b067_0 rfl ?_
  refine aw_aload_n C dJ1_charAt_3b067_1 rfl ?_
  refine aw_strarl C hi dJ1_charAt_3b067_2 ?_
  refine aw_cS (as := [.int x, .int (Int32.ofNat (txLen.getD i 0))]) (rest := []) C (rm_of hn) dJ1_charAt_3b067_3 (m_sci (ib_pos hx) (ib_lt (by omega) hx)) mf_sci cwj_9 rfl (by rw [hR]; decide) rfl (Nat.le_of_ble_eq_true rfl) (rm_of hn).2 Tk0 (fun rv n1 M1 P1 t => ?_)
  obtain ⟨rfl, rfl, rfl, rfl⟩ := t
  refine aw_aload_n C dJ1_charAt_3b067_6 rfl ?_
  refine aw_iload_n C dJ1_charAt_3b067_7 rfl ?_
  refine aw_strbal C hi hx dJ1_charAt_3b067_8 ?_
  refine aw_sipush (v := 255) C dJ1_charAt_3b067_9 (by decide) ?_
  refine aw_iand C dJ1_charAt_3b067_12 ?_
  rw [hb.1]
  refine aw_i2c C dJ1_charAt_3b067_13 ?_
  have e : (((txByt.getD i []).getD (ix x) 0).toUInt32 % 65536).toInt32 = (txByt.getD i []).getD (ix x) 0 := by rw [hb.2]; rfl
  rw [e]
  refine aw_iret C rt ?_ (hm_of hn) dJ1_charAt_3b067_14 ⟨rfl, rfl, rfl, rfl⟩
  have hnar : narrow .char (.int ((((txByt.getD i []).getD (ix x) 0).toUInt32 % 65536).toInt32)) = .int ((((txByt.getD i []).getD (ix x) 0).toUInt32 % 65536).toInt32) := pk_nc _
  rw [e] at hnar
  exact hnar
theorem m_cod {i : Nat} (hi : i < 2) : CM l w yJ0_coder_7d493 cJ0_coder_7d493 1 (some .byte) 1 0 0 [.ref (1004 + i)] n M P (Tk n M P (some (.int 0))) := by
  refine cm_of (loc := [some (.ref (1004 + i))]) mf_cod (by decide) (Nat.le_of_ble_eq_true rfl) rfl (fun K C rt _ _ _ hn hR _ => ?_)
  refine aw_compact C dJ0_coder_7d493_0 ?_
  refine aw_if_eq (A := (none : Option Unit)) (B := some ()) (r := ()) C 13 dJ0_coder_7d493_3 (by decide) (if_neg (by decide)) (fun h => by cases h) (fun _ => ?_)
  refine aw_aload_n C dJ0_coder_7d493_6 rfl ?_
  refine aw_strcod C hi dJ0_coder_7d493_7 ?_
  refine aw_goto C 14 dJ0_coder_7d493_10 (by decide) ?_
  exact aw_iret C rt rfl (hm_of hn) dJ0_coder_7d493_14 ⟨rfl, rfl, rfl, rfl⟩
theorem m_isl {i : Nat} (hi : i < 2) : CM l w yJ0_isLatin1_aae02 cJ0_isLatin1_aae02 1 (some .boolean) 1 0 0 [.ref (1004 + i)] n M P (Tk n M P (some (.int 1))) := by
  refine cm_of (loc := [some (.ref (1004 + i))]) mf_isl (by decide) (Nat.le_of_ble_eq_true rfl) rfl (fun K C rt _ _ _ hn hR _ => ?_)
  refine aw_compact C dJ0_isLatin1_aae02_0 ?_
  refine aw_if_eq (A := (none : Option Unit)) (B := some ()) (r := ()) C 17 dJ0_isLatin1_aae02_3 (by decide) (if_neg (by decide)) (fun h => by cases h) (fun _ => ?_)
  refine aw_aload_n C dJ0_isLatin1_aae02_6 rfl ?_
  refine aw_strcod C hi dJ0_isLatin1_aae02_7 ?_
  refine aw_if_ne (A := some ()) (B := (none : Option Unit)) (r := ()) C 17 dJ0_isLatin1_aae02_10 (by decide) (if_pos rfl) (fun _ => ?_) (fun h => by cases h)
  refine aw_iconst C dJ0_isLatin1_aae02_13 (v := 1) (by decide) ?_
  refine aw_goto C 18 dJ0_isLatin1_aae02_14 (by decide) ?_
  exact aw_iret C rt rfl (hm_of hn) dJ0_isLatin1_aae02_18 ⟨rfl, rfl, rfl, rfl⟩
theorem m_len {i : Nat} (hi : i < 2) : CM l w yJ0_length_8abf5 cJ0_length_8abf5 1 (some .int) 2 0 0 [.ref (1004 + i)] n M P (Tk n M P (some (.int (Int32.ofNat (txLen.getD i 0))))) := by
  refine cm_of (loc := [some (.ref (1004 + i))]) mf_len (by decide) (Nat.le_of_ble_eq_true rfl) rfl (fun K C rt _ _ _ hn hR _ => ?_)
  refine aw_aload_n C dJ0_length_8abf5_0 rfl ?_
  refine aw_strval C hi dJ0_length_8abf5_1 ?_
  refine aw_strarl C hi dJ0_length_8abf5_4 ?_
  refine aw_aload_n C dJ0_length_8abf5_5 rfl ?_
  refine aw_cVs C (rm_of hn) [] [.int (Int32.ofNat (txLen.getD i 0))] hi dJ0_length_8abf5_6 (m_cod hi) mf_cod rfl cwj_335 rfl (by rw [hR]; decide) rfl (Nat.le_of_ble_eq_true rfl) Tk0 (fun rv n1 M1 P1 t => ?_)
  obtain ⟨rfl, rfl, rfl, rfl⟩ := t
  refine aw_ishr C dJ0_length_8abf5_9 ?_
  rw [sb_shr0]
  exact aw_iret C rt rfl (hm_of hn) dJ0_length_8abf5_10 ⟨rfl, rfl, rfl, rfl⟩
theorem m_cha {i : Nat} {x : Int32} (hi : i < 2) (hx : ib x (txLen.getD i 0)) : CM l w yJ0_charAt_5068e cJ0_charAt_5068e 2 (some .char) 4 0 0 [.ref (1004 + i), .int x] n M P (Tk n M P (some (.int ((txByt.getD i []).getD (ix x) 0)))) := by
  have hL := (tx_len i hi).1
  have hb := (tx_len i hi).2 (ix x) (Nat.lt_trans (ix_lt hx) hL)
  refine cm_of (loc := [some (.ref (1004 + i)), some (.int x)]) mf_cha (by decide) (Nat.le_of_ble_eq_true rfl) rfl (fun K C rt _ _ _ hn hR _ => ?_)
  refine aw_aload_n C dJ0_charAt_5068e_0 rfl ?_
  refine aw_cVs C (rm_of hn) [] [] hi dJ0_charAt_5068e_1 (m_isl hi) mf_isl rfl cwj_492 rfl (by rw [hR]; decide) rfl (Nat.le_of_ble_eq_true rfl) Tk0 (fun rv n1 M1 P1 t => ?_)
  obtain ⟨rfl, rfl, rfl, rfl⟩ := t
  refine aw_if_eq (A := (none : Option Unit)) (B := some ()) (r := ()) C 16 dJ0_charAt_5068e_4 (by decide) (if_neg (by decide)) (fun h => by cases h) (fun _ => ?_)
  refine aw_aload_n C dJ0_charAt_5068e_7 rfl ?_
  refine aw_strval C hi dJ0_charAt_5068e_8 ?_
  refine aw_iload_n C dJ0_charAt_5068e_11 rfl ?_
  refine aw_cS (as := [.ref (1006 + i), .int x]) (rest := []) C (rm_of hn) dJ0_charAt_5068e_12 (m_lch hi hx) mf_lch cwj_495 rfl (by rw [hR]; decide) rfl (Nat.le_of_ble_eq_true rfl) (rm_of hn).2 Tk0 (fun rv n1 M1 P1 t => ?_)
  obtain ⟨rfl, rfl, rfl, rfl⟩ := t
  have e : (((txByt.getD i []).getD (ix x) 0).toUInt32 % 65536).toInt32 = (txByt.getD i []).getD (ix x) 0 := by rw [hb.2]; rfl
  have hnar : narrow .char (.int ((((txByt.getD i []).getD (ix x) 0).toUInt32 % 65536).toInt32)) = .int ((((txByt.getD i []).getD (ix x) 0).toUInt32 % 65536).toInt32) := pk_nc _
  rw [e] at hnar
  exact aw_iret C rt hnar (hm_of hn) dJ0_charAt_5068e_15 ⟨rfl, rfl, rfl, rfl⟩
end CJ
section SJ
variable {K : Cx} {own : String} {cc : ByteArray} {n : Nat} {M : Mem} {pc : Nat} {loc : List (Option Value)} {st rest : List Value} {lv0 nL0 : Nat} {ret0 : Option FieldType} {T0 : Tg}
variable {β : Type} {A B : Option β} {r : β}
theorem sw_ldcS0 {P : Pm} (C : Ctx K RX7 cc) (d : decode cc pc = .ok (.ldc 64, 2)) (kk : AW K n M P (pc + 2) loc (.ref 1004 :: st)) : AW K n M P pc loc st := by
  intro ls H locs hl hP hS
  have k := kk ls H locs hl hP hS
  rw [List.map_cons, show cv (kw K) (.ref 1004) = .ref (wX (kw K) 4) from wad_4 (i := 0)] at k
  exact va_ldcS C.1 C.2.1 C.2.2.2.1 C.2.2.2.2.2.1.2.2.2.1.1 d k
theorem sw_ldcS1 {P : Pm} (C : Ctx K RX3 cc) (d : decode cc pc = .ok (.ldc 104, 2)) (kk : AW K n M P (pc + 2) loc (.ref 1005 :: st)) : AW K n M P pc loc st := by
  intro ls H locs hl hP hS
  have k := kk ls H locs hl hP hS
  rw [List.map_cons, show cv (kw K) (.ref 1005) = .ref (wX (kw K) 5) from wad_4 (i := 1)] at k
  exact va_ldcS C.1 C.2.1 C.2.2.2.1 C.2.2.2.2.2.1.2.2.2.1.2 d k
theorem sw_strlen (C : Ctx K own cc) (j : Nat) (S : SS K n lv0 nL0 ret0 T0) (hj : j < 2) {lk : Nat} (hw : Cond.methodLink own lk yJ0_length_8abf5 ∈ lw_gd ∧ Cond.instanceMethod yJ0_length_8abf5 ∈ lw_gd ∧ Cond.selects yJ0_length_8abf5.cls yJ0_length_8abf5 yJ0_length_8abf5 ∈ lw_gd) (hlv : 3 ≤ lv0) (d : decode cc pc = .ok (.invokevirtual lk, 3)) (hst : (rest.map fun v => v.category).sum ≤ 8) (kk : AS K n M (pc + 3) loc (.int (Int32.ofNat (txLen.getD j 0)) :: rest)) : AS K n M pc loc (.ref (1004 + j) :: rest) := by
  refine aw_cVs C S.1 [] rest hj d (m_len hj) mf_len rfl hw rfl (Nat.le_trans hlv S.2.2.1) rfl hst Tk0 (fun rv n1 M1 P1 t => ?_)
  obtain ⟨rfl, rfl, rfl, rfl⟩ := t
  exact kk
theorem sw_charAt (C : Ctx K own cc) (j N : Nat) (S : SS K n lv0 nL0 ret0 T0) (hj : j < 2) (hN : txLen.getD j 0 = N) {lk : Nat} {x : Int32} (hw : Cond.methodLink own lk yJ0_charAt_5068e ∈ lw_gd ∧ Cond.instanceMethod yJ0_charAt_5068e ∈ lw_gd ∧ Cond.selects yJ0_charAt_5068e.cls yJ0_charAt_5068e yJ0_charAt_5068e ∈ lw_gd) (hlv : 5 ≤ lv0) (d : decode cc pc = .ok (.invokevirtual lk, 3)) (hst : (rest.map fun v => v.category).sum ≤ 8) (h : (if ib x N then A else none) = some r) (kk : A = some r → AS K n M (pc + 3) loc (.int ((txByt.getD j []).getD (ix x) 0) :: rest)) : AS K n M pc loc (.int x :: .ref (1004 + j) :: rest) := by
  by_cases hx : ib x N
  · rw [if_pos hx] at h
    subst hN
    refine aw_cVs C S.1 [.int x] rest hj d (m_cha hj hx) mf_cha rfl hw rfl (Nat.le_trans hlv S.2.2.1) rfl hst Tk0 (fun rv n1 M1 P1 t => ?_)
    obtain ⟨rfl, rfl, rfl, rfl⟩ := t
    exact kk h
  · rw [if_neg hx] at h
    cases h
end SJ
