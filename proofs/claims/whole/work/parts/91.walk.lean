/-! 91: the law's loop and its start (laid by wip/gen/ends.py) -/
theorem and31 (a : Int32) : ∃ t : Nat, t < 32 ∧ a &&& 31 = nI t := by
  have h1 : (a &&& 31).toBitVec.toNat < 32 := by
    rw [Int32.toBitVec_and, BitVec.toNat_and]
    exact Nat.lt_of_le_of_lt Nat.and_le_right (by decide)
  refine ⟨(a &&& 31).toBitVec.toNat, h1, ?_⟩
  rw [i_eq, nI_t (by omega)]
  show (a &&& 31).toBitVec.toInt = _
  exact BitVec.toInt_eq_toNat_of_lt (by omega)
theorem l_sw : decode code 33 = .ok (.tableswitch 1170 0 31 #[143, 186, 219, 262, 295, 318, 351, 394, 417, 430, 453, 476, 509, 542, 565, 598, 631, 664, 687, 700, 733, 776, 819, 842, 886, 899, 912, 935, 978, 1021, 1084, 1137], 143) := tb_at ok_LH 21 rfl
theorem l_turn {K : Cx} (C : Ctx K RL code) (hR : Rm K 113) (hlv : 2000 ≤ (kR K).frames) {i : Int32} (h0 : ib i (wL (kw K))) (hg : ∀ j, j < 6 → ib (i + nI j) (wL (kw K))) {M : Mem} (hM : Rel M) (nxt : ∀ N, Rel N → AS K 113 N 1203 (ll i) []) : AS K 113 M 27 (ll i) [] := by
  refine aw_aload_n C (tb_at ok_LH 16 rfl) rfl ?_
  refine aw_iload_n C (tb_at ok_LH 17 rfl) rfl ?_
  refine aw_ialdX C (tb_at ok_LH 18 rfl) h0 ?_
  refine aw_bipush C (tb_at ok_LH 19 rfl) kb_31 ?_
  refine aw_iand C (tb_at ok_LH 20 rfl) ?_
  obtain ⟨t, ht, e⟩ := and31 (wS (kw K) (ix i))
  rw [e]
  match t, ht with
  | 0, _ => exact aw_tsIn C 143 176 l_sw (by decide +kernel) (by decide +kernel) (by decide +kernel) (by decide) (lb_0 C hR hlv hg hM nxt)
  | 1, _ => exact aw_tsIn C 186 219 l_sw (by decide +kernel) (by decide +kernel) (by decide +kernel) (by decide) (lb_1 C hR hlv hg hM nxt)
  | 2, _ => exact aw_tsIn C 219 252 l_sw (by decide +kernel) (by decide +kernel) (by decide +kernel) (by decide) (lb_2 C hR hlv hg hM nxt)
  | 3, _ => exact aw_tsIn C 262 295 l_sw (by decide +kernel) (by decide +kernel) (by decide +kernel) (by decide) (lb_3 C hR hlv hg hM nxt)
  | 4, _ => exact aw_tsIn C 295 328 l_sw (by decide +kernel) (by decide +kernel) (by decide +kernel) (by decide) (lb_4 C hR hlv hg hM nxt)
  | 5, _ => exact aw_tsIn C 318 351 l_sw (by decide +kernel) (by decide +kernel) (by decide +kernel) (by decide) (lb_5 C hR hlv hg hM nxt)
  | 6, _ => exact aw_tsIn C 351 384 l_sw (by decide +kernel) (by decide +kernel) (by decide +kernel) (by decide) (lb_6 C hR hlv hg hM nxt)
  | 7, _ => exact aw_tsIn C 394 427 l_sw (by decide +kernel) (by decide +kernel) (by decide +kernel) (by decide) (lb_7 C hR hlv hg hM nxt)
  | 8, _ => exact aw_tsIn C 417 450 l_sw (by decide +kernel) (by decide +kernel) (by decide +kernel) (by decide) (lb_8 C hR hlv hg hM nxt)
  | 9, _ => exact aw_tsIn C 430 463 l_sw (by decide +kernel) (by decide +kernel) (by decide +kernel) (by decide) (lb_9 C hR hlv hg hM nxt)
  | 10, _ => exact aw_tsIn C 453 486 l_sw (by decide +kernel) (by decide +kernel) (by decide +kernel) (by decide) (lb_10 C hR hlv hg hM nxt)
  | 11, _ => exact aw_tsIn C 476 509 l_sw (by decide +kernel) (by decide +kernel) (by decide +kernel) (by decide) (lb_11 C hR hlv hg hM nxt)
  | 12, _ => exact aw_tsIn C 509 542 l_sw (by decide +kernel) (by decide +kernel) (by decide +kernel) (by decide) (lb_12 C hR hlv hg hM nxt)
  | 13, _ => exact aw_tsIn C 542 575 l_sw (by decide +kernel) (by decide +kernel) (by decide +kernel) (by decide) (lb_13 C hR hlv hg hM nxt)
  | 14, _ => exact aw_tsIn C 565 598 l_sw (by decide +kernel) (by decide +kernel) (by decide +kernel) (by decide) (lb_14 C hR hlv hg hM nxt)
  | 15, _ => exact aw_tsIn C 598 631 l_sw (by decide +kernel) (by decide +kernel) (by decide +kernel) (by decide) (lb_15 C hR hlv hg hM nxt)
  | 16, _ => exact aw_tsIn C 631 664 l_sw (by decide +kernel) (by decide +kernel) (by decide +kernel) (by decide) (lb_16 C hR hlv hg hM nxt)
  | 17, _ => exact aw_tsIn C 664 697 l_sw (by decide +kernel) (by decide +kernel) (by decide +kernel) (by decide) (lb_17 C hR hlv hg hM nxt)
  | 18, _ => exact aw_tsIn C 687 720 l_sw (by decide +kernel) (by decide +kernel) (by decide +kernel) (by decide) (lb_18 C hR hlv hg hM nxt)
  | 19, _ => exact aw_tsIn C 700 733 l_sw (by decide +kernel) (by decide +kernel) (by decide +kernel) (by decide) (lb_19 C hR hlv hg hM nxt)
  | 20, _ => exact aw_tsIn C 733 766 l_sw (by decide +kernel) (by decide +kernel) (by decide +kernel) (by decide) (lb_20 C hR hlv hg hM nxt)
  | 21, _ => exact aw_tsIn C 776 809 l_sw (by decide +kernel) (by decide +kernel) (by decide +kernel) (by decide) (lb_21 C hR hlv hg hM nxt)
  | 22, _ => exact aw_tsIn C 819 852 l_sw (by decide +kernel) (by decide +kernel) (by decide +kernel) (by decide) (lb_22 C hR hlv hg hM nxt)
  | 23, _ => exact aw_tsIn C 842 875 l_sw (by decide +kernel) (by decide +kernel) (by decide +kernel) (by decide) (lb_23 C hR hlv hg hM nxt)
  | 24, _ => exact aw_tsIn C 886 919 l_sw (by decide +kernel) (by decide +kernel) (by decide +kernel) (by decide) (lb_24 C hR hlv hg hM nxt)
  | 25, _ => exact aw_tsIn C 899 932 l_sw (by decide +kernel) (by decide +kernel) (by decide +kernel) (by decide) (lb_25 C hR hlv hg hM nxt)
  | 26, _ => exact aw_tsIn C 912 945 l_sw (by decide +kernel) (by decide +kernel) (by decide +kernel) (by decide) (lb_26 C hR hlv hg hM nxt)
  | 27, _ => exact aw_tsIn C 935 968 l_sw (by decide +kernel) (by decide +kernel) (by decide +kernel) (by decide) (lb_27 C hR hlv hg hM nxt)
  | 28, _ => exact aw_tsIn C 978 1011 l_sw (by decide +kernel) (by decide +kernel) (by decide +kernel) (by decide) (lb_28 C hR hlv hg hM nxt)
  | 29, _ => exact aw_tsIn C 1021 1054 l_sw (by decide +kernel) (by decide +kernel) (by decide +kernel) (by decide) (lb_29 C hR hlv hg hM nxt)
  | 30, _ => exact aw_tsIn C 1084 1117 l_sw (by decide +kernel) (by decide +kernel) (by decide +kernel) (by decide) (lb_30 C hR hlv hg hM nxt)
  | 31, _ => exact aw_tsIn C 1137 1170 l_sw (by decide +kernel) (by decide +kernel) (by decide +kernel) (by decide) (lb_31 C hR hlv hg hM nxt)
  | n + 32, h => exact absurd h (by omega)
theorem l_head {K : Cx} (C : Ctx K RL code) (hX : wL (kw K) ≤ 3072) {i : Nat} (hi : i ≤ 4000) {M : Mem} (out : wL (kw K) < i + 6 → AS K 113 M 1209 (ll (nI i)) []) (go : i + 6 ≤ wL (kw K) → AS K 113 M 27 (ll (nI i)) []) : AS K 113 M 18 (ll (nI i)) [] := by
  refine aw_iload_n C (tb_at ok_LH 10 rfl) rfl ?_
  refine aw_aload_n C (tb_at ok_LH 11 rfl) rfl ?_
  refine aw_alenX C (tb_at ok_LH 12 rfl) ?_
  refine aw_bipush C (tb_at ok_LH 13 rfl) kb_6 ?_
  refine aw_isub C (tb_at ok_LH 14 rfl) ?_
  have t6 : (6 : Int32).toInt = 6 := rfl
  have tL : (Int32.ofNat (wL (kw K))).toInt = wL (kw K) := nI_t (by omega)
  have ts : (Int32.ofNat (wL (kw K)) - 6).toInt = (wL (kw K) : Int) - 6 := by rw [t_sub (by rw [tL, t6]; omega) (by rw [tL, t6]; omega), tL, t6]
  by_cases h : i + 6 ≤ wL (kw K)
  · refine aw_icmp_gt (A := none) (B := some ()) (r := ()) C 1209 (tb_at ok_LH 15 rfl) (by decide) (if_neg ?_) (fun e => by cases e) (fun _ => go h)
    rw [i_lt, ts, nI_t (by omega)]
    omega
  · refine aw_icmp_gt (A := some ()) (B := none) (r := ()) C 1209 (tb_at ok_LH 15 rfl) (by decide) (if_pos ?_) (fun _ => out (by omega)) (fun e => by cases e)
    rw [i_lt, ts, nI_t (by omega)]
    omega
theorem law_loop {K : Cx} (C : Ctx K RL code) (hR : Rm K 113) (hlv : 2000 ≤ (kR K).frames) (hL : kL K = 4) (hX : wL (kw K) ≤ 3072) (fin : ∀ (M : Mem) (i : Int32), AS K 113 M 1209 (ll i) []) : ∀ (c k : Nat) (M : Mem), Rel M → 6 * k ≤ wL (kw K) + 5 → wL (kw K) < 6 * k + 6 * c → AS K 113 M 18 (ll (nI (6 * k))) [] := by
  intro c
  induction c with
  | zero =>
    intro k M hM h1 h2
    exact l_head C hX (by omega) (fun _ => fin M _) (fun h => absurd h (by omega))
  | succ c ih =>
    intro k M hM h1 h2
    refine l_head C hX (by omega) (fun _ => fin M _) (fun h => ?_)
    refine l_turn C hR hlv (ib_nI (by omega) (by omega)) (fun j hj => by rw [nI_add]; exact ib_nI (by omega) (by omega)) hM (fun N hN => ?_)
    have e : nI (6 * k) + 6 = nI (6 * (k + 1)) := by rw [show (6 : Int32) = nI 6 from rfl, nI_add, Nat.mul_succ]
    refine aw_iinc C [some (.ref 1000), some (.ref 0), some (.ref 85), some (.int (nI (6 * k) + 6))] (tb_at ok_LE 0 rfl) rfl hL (by decide) ki_6 rfl ?_
    refine aw_goto C 18 (tb_at ok_LE 1 rfl) (by decide) ?_
    rw [e]
    exact ih (k + 1) N hN (by omega) (by omega)
theorem law_end {K : Cx} (C : Ctx K RL code) {b : Nat} (hn : kn K = 0) (hK : ka K = #[Value.ref b] ∧ kR K = room_1 ∧ kQ K = lw_Z (kb K) #[Value.ref b] (ks K)) (hr : (kmt K).sig.returnType = ret) {M : Mem} {P : Pm} {loc : List (Option Value)} : AW K 113 M P 1209 loc [] := by
  refine aw_iconst C (tb_at ok_LE 2 rfl) ki_1 ?_
  intro ls H locs hl hP hS
  obtain ⟨h1, h2, h3⟩ := hK
  rw [h1, h2, h3, hn]
  refine va_forget (fun q hq => ?_) ?_
  · have e := C.2.2.2.2.2.2.1
    have h : wSz (kw K) ≤ q.base := hS.2.2 q hq
    rw [hn] at e
    omega
  · exact W.widen (k := 600000) (n := 7302250) (by decide +kernel) (by decide +kernel) (lw_ret C.1 C.2.1 hr C.2.2.2.2.2.2.2.1 (tb_at ok_LE 3 rfl))
theorem law_new {K : Cx} (C : Ctx K RL code) (hn : kn K = 0) (hRm : kR K = room_1) (hL : kL K = 4) (hX : wL (kw K) ≤ 3072) (fin : ∀ (M : Mem) (i : Int32), AS K 113 M 1209 (ll i) []) : AW K 0 Z0 N0 0 [some (.ref 1000), none, none, none] [] := by
  obtain ⟨Mx, e1, hRel, hz⟩ := start_all
  have rmN : ∀ n, n ≤ 113 → n - kn K ≤ (kR K).cells ∧ sln n - sln (kn K) ≤ (kR K).slots := by
    intro n h
    rw [hn, hRm]
    have h2 : sln n ≤ sln 113 := sln_mono h
    have h3 : sln 113 ≤ 7302250 := by decide +kernel
    exact ⟨by show n - 0 ≤ 600000; omega, by show sln n - sln 0 ≤ 7302250; omega⟩
  refine aw_new (n := 0) (ci := 7) (N := 10) C (by rw [hn]; decide) rfl (by decide) rfl (fun _ => rfl) (fun _ => rfl) nw_RL_7 (rmN 1 (by decide)) dv_RX7 (tb_at ok_LH 0 rfl) ?_
  refine aw_dup C (tb_at ok_LH 1 rfl) rfl ?_
  refine aw_cI (k := 0) (as := []) (rest := [.ref 0]) C ⟨by rw [hn]; decide, rmN 1 (by decide)⟩ (tb_at ok_LH 2 rfl) (m_X7_init e1) mf_X7_init (by decide) cw_RL_9 rfl rfl (by rw [hRm]; exact Nat.le_of_ble_eq_true rfl) rfl (Nat.le_of_ble_eq_true rfl) (by rw [hn, hRm]; exact ⟨by decide +kernel, by decide +kernel⟩) (fun rv n1 M1 P1 t => ⟨t.2.1, by rw [t.2.1]; decide +kernel⟩) (fun rv n1 M1 P1 t => ?_)
  rw [t.1, t.2.1, t.2.2.1, t.2.2.2]
  show AS K 85 Mx 7 [some (.ref 1000), none, none, none] [.ref 0]
  refine aw_astore_n C [some (.ref 1000), some (.ref 0), none, none] (tb_at ok_LH 3 rfl) hL (by decide) rfl ?_
  refine aw_PR ?_
  refine aw_new (n := 85) (ci := 8) (N := 59) C (by rw [hn]; decide) rfl (by decide) rfl (hz 85 (Nat.le_refl 85)) (fun _ => if_neg (by decide)) nw_RL_10 (rmN 86 (by decide)) dv_RX8 (tb_at ok_LH 4 rfl) ?_
  refine aw_dup C (tb_at ok_LH 5 rfl) rfl ?_
  refine aw_cI (k := 85) (as := []) (rest := [.ref 85]) C ⟨by rw [hn]; decide, rmN 86 (by decide)⟩ (tb_at ok_LH 6 rfl) (m_X8_init hz) mf_X8_init (by decide) cw_RL_12 rfl rfl (by rw [hRm]; exact Nat.le_of_ble_eq_true rfl) rfl (Nat.le_of_ble_eq_true rfl) (by rw [hn, hRm]; exact ⟨by decide +kernel, by decide +kernel⟩) (fun rv n1 M1 P1 t => ⟨t.2.1, by rw [t.2.1]; decide +kernel⟩) (fun rv n1 M1 P1 t => ?_)
  rw [t.1, t.2.1, t.2.2.1, t.2.2.2]
  show AS K 113 (mdl Mx) 15 [some (.ref 1000), some (.ref 0), none, none] [.ref 85]
  refine aw_astore_n C [some (.ref 1000), some (.ref 0), some (.ref 85), none] (tb_at ok_LH 7 rfl) hL (by decide) rfl ?_
  refine aw_iconst C (tb_at ok_LH 8 rfl) ki_0 ?_
  refine aw_istore_n C (ll 0) (tb_at ok_LH 9 rfl) hL (by decide) rfl ?_
  have e := law_loop C ⟨by rw [hn]; decide, rmN 113 (by decide)⟩ (by rw [hRm]; exact Nat.le_of_ble_eq_true rfl) hL hX fin (wL (kw K) + 1) 0 (mdl Mx) hRel (by omega) (by omega)
  rw [Nat.mul_zero] at e
  exact e
/-- YOUR PART: from the entry, for every script of at most 3072 ints, the law comes to its end with true ('hflags': the launch's flags, for a law that throws: no stack traces) -/
theorem whole_start {p : Program} {e : Env} {s : State} {m : MethodId} {below : List Frame} {meth : Method} {c : Code} (l : Launch) (hflags : l.flags = flags0) {b L : Nat} {xs : Nat → Int32} (hL : L ≤ 3072) (C0 : lw_At p s m meth c b L xs) : W p l e room_1 s m #[Value.ref b] below meth c s.heap [] 0 0 (lw_Z below #[Value.ref b] s) (entryFrame m ([Value.ref b] : List Value).toArray 4) := by
  obtain ⟨hx, hb, hr, hml, hown, hts, hX, hbl, hlocks, hgv⟩ := C0
  obtain ⟨w, hG, w1, w2, w3, w4⟩ := gw_entry hts hgv hX hbl
  have C : Ctx (p, l, e, room_1, s, m, #[Value.ref b], below, meth, c, lw_Z below #[Value.ref b] s, w, 0, 4) RL code := ⟨hx, hb, hml, hown, fun u hu => hts u (in_tbl hu), hG, w1.symm, hlocks, Nat.le_of_ble_eq_true rfl, Nat.le_of_ble_eq_true rfl⟩
  have A := law_new C rfl rfl rfl (by show wL w ≤ 3072; rw [w3]; exact hL) (fun M i => law_end C (b := b) rfl ⟨rfl, rfl, rfl⟩ hr)
  have hl := lv_entry ([.ref b]) (n := 4) (Nat.le_of_ble_eq_true rfl)
  rw [lg_entry_eq]
  generalize (lg_sl ([.ref b]) ++ List.replicate (4 - (lg_sl ([.ref b])).length) Slot.unset).toArray = ls at hl ⊢
  have hl : lv_has ls 4 [(0, .ref b)] := hl
  have hk : LOK w 4 ls [some (.ref 1000), none, none, none] := by
    refine ⟨hl.1, hl.2.1, fun i v hv => ?_⟩
    match i, hv with
    | 0, hv =>
      cases hv
      show ls[0]? = some (.val (.ref (wad w (1000 + 0))))
      rw [wad_x, w2]
      exact hl.2.2 (0, .ref b) List.mem_cons_self
    | 1, hv => cases hv
    | 2, hv => cases hv
    | 3, hv => cases hv
    | n + 4, hv => simp at hv
  exact A ls s.heap [] hk (fun k q h => by cases h) va_S.rf
