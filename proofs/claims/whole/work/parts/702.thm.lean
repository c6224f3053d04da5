/-! theorems 2 -/
def tb_X3_expect : List (Nat × Instr × Nat) := [(0, .aload_n 0, 1), (1, .getfield 25, 3), (4, .iload_n 1, 1), (5, .if_icmp .eq 10, 3), (8, .aload_n 0, 1), (9, .invokevirtual 81, 3), (12, .goto 13, 3), (15, .iload_n 1, 1), (16, .bipush 13, 2), (18, .if_icmp .eq 7, 3), (21, .aload_n 0, 1), (22, .invokevirtual 43, 3), (25, .return_, 1)]
theorem ok_X3_expect : TB cX3_expect tb_X3_expect := (by decide +kernel : tb_X3_expect.all (fun q => tbq cX3_expect q) = true)
set_option maxHeartbeats 4000000 in
set_option maxRecDepth 20000 in
theorem t_fR_expect {K : Cx} {n : Nat} {a1 : Int32} {M : Mem} {r : Mem} (C : Ctx K RX3 cX3_expect) (S : SS K n 12 2 none (Tv n r)) (hn : 85 ≤ n) (h : fR_expect a1 M = some r) : AS K n M 0 [some (.ref 40), some (.int a1)] [] := by
  refine aw_aload_n C (tb_at ok_X3_expect 0 rfl) rfl ?_
  refine aw_get C (ob_40 hn) rfl (by decide) rfl fl_RX3_25 (tb_at ok_X3_expect 1 rfl) ?_
  refine aw_iload_n C (tb_at ok_X3_expect 2 rfl) rfl ?_
  refine aw_icmp_eq C 15 (tb_at ok_X3_expect 3 rfl) (by decide) h (fun h => ?_) (fun h => ?_)
  · refine aw_iload_n C (tb_at ok_X3_expect 7 rfl) rfl ?_
    refine aw_bipush C (tb_at ok_X3_expect 8 rfl) kb_13 ?_
    refine aw_icmp_eq C 25 (tb_at ok_X3_expect 9 rfl) (by decide) h (fun h => ?_) (fun h => ?_)
    · exact sw_vret C S (tb_at ok_X3_expect 12 rfl) h
    · refine aw_aload_n C (tb_at ok_X3_expect 10 rfl) rfl ?_
      refine sw_cVv C S [] [] (tb_at ok_X3_expect 11 rfl) h (fun q e => m_fR_advance hn e) mf_X3_advance (ob_40 hn) rfl rfl cw_RX3_43 rfl (by decide) rfl (Nat.le_of_ble_eq_true rfl) (fun M1 h => ?_)
      exact sw_vret C S (tb_at ok_X3_expect 12 rfl) h
  · refine aw_aload_n C (tb_at ok_X3_expect 4 rfl) rfl ?_
    refine sw_cVv C S [] [] (tb_at ok_X3_expect 5 rfl) h (fun q e => m_fR_refuse hn e) mf_X3_refuse (ob_40 hn) rfl rfl cw_RX3_81 rfl (by decide) rfl (Nat.le_of_ble_eq_true rfl) (fun M2 h => ?_)
    refine aw_goto C 25 (tb_at ok_X3_expect 6 rfl) (by decide) ?_
    exact sw_vret C S (tb_at ok_X3_expect 12 rfl) h
theorem m_fR_expect {l : Launch} {w : Wd} {n : Nat} {a1 : Int32} {M : Mem} {r : Mem} (hn : 85 ≤ n) (h : fR_expect a1 M = some r) : CM l w yX3_expect cX3_expect 2 none 12 0 0 [.ref 40, .int a1] n M (PD M) (Tv n r) := sm_of (loc := [some (.ref 40), some (.int a1)]) mf_X3_expect (by decide) (Nat.le_of_ble_eq_true rfl) rfl (fun K _ _ C S => t_fR_expect C S hn h)
def tb_X3_write : List (Nat × Instr × Nat) := [(0, .aload_n 0, 1), (1, .getfield 40, 3), (4, .sipush 160, 3), (7, .if_icmp .ge 23, 3), (10, .aload_n 0, 1), (11, .getfield 34, 3), (14, .aload_n 0, 1), (15, .getfield 40, 3), (18, .iload_n 1, 1), (19, .iastore, 1), (20, .aload_n 0, 1), (21, .dup, 1), (22, .getfield 40, 3), (25, .iconst 1, 1), (26, .iadd, 1), (27, .putfield 40, 3), (30, .return_, 1)]
theorem ok_X3_write : TB cX3_write tb_X3_write := (by decide +kernel : tb_X3_write.all (fun q => tbq cX3_write q) = true)
set_option maxHeartbeats 4000000 in
set_option maxRecDepth 20000 in
theorem t_fR_write {K : Cx} {n : Nat} {a1 : Int32} {M : Mem} {r : Mem} (C : Ctx K RX3 cX3_write) (S : SS K n 1 2 none (Tv n r)) (hn : 85 ≤ n) (h : fR_write a1 M = some r) : AS K n M 0 [some (.ref 40), some (.int a1)] [] := by
  refine aw_aload_n C (tb_at ok_X3_write 0 rfl) rfl ?_
  refine aw_get C (ob_40 hn) rfl (by decide) rfl fl_RX3_40 (tb_at ok_X3_write 1 rfl) ?_
  refine aw_sipush C (tb_at ok_X3_write 2 rfl) ks_160 ?_
  refine aw_icmp_ge C 30 (tb_at ok_X3_write 3 rfl) (by decide) h (fun h => ?_) (fun h => ?_)
  · exact sw_vret C S (tb_at ok_X3_write 16 rfl) h
  · refine aw_aload_n C (tb_at ok_X3_write 4 rfl) rfl ?_
    refine aw_getR C (ob_40 hn) rfl (by decide) rfl p_40_7 fl_RX3_34 (tb_at ok_X3_write 5 rfl) ?_
    refine aw_aload_n C (tb_at ok_X3_write 6 rfl) rfl ?_
    refine aw_get C (ob_40 hn) rfl (by decide) rfl fl_RX3_40 (tb_at ok_X3_write 7 rfl) ?_
    refine aw_iload_n C (tb_at ok_X3_write 8 rfl) rfl ?_
    refine sw_iast C (ob_42 hn) (tb_at ok_X3_write 9 rfl) h (fun h => ?_)
    refine aw_aload_n C (tb_at ok_X3_write 10 rfl) rfl ?_
    refine aw_dup C (tb_at ok_X3_write 11 rfl) rfl ?_
    refine aw_get C (ob_40 hn) rfl (by decide) rfl fl_RX3_40 (tb_at ok_X3_write 12 rfl) ?_
    refine aw_iconst C (tb_at ok_X3_write 13 rfl) ki_1 ?_
    refine aw_iadd C (tb_at ok_X3_write 14 rfl) ?_
    refine sw_put C (ob_40 hn) rfl (by decide) (by decide) (Or.inr (by decide)) rfl rfl rfl rfl fl_RX3_40 (tb_at ok_X3_write 15 rfl) ?_
    exact sw_vret C S (tb_at ok_X3_write 16 rfl) h
theorem m_fR_write {l : Launch} {w : Wd} {n : Nat} {a1 : Int32} {M : Mem} {r : Mem} (hn : 85 ≤ n) (h : fR_write a1 M = some r) : CM l w yX3_write cX3_write 2 none 1 0 0 [.ref 40, .int a1] n M (PD M) (Tv n r) := sm_of (loc := [some (.ref 40), some (.int a1)]) mf_X3_write (by decide) (Nat.le_of_ble_eq_true rfl) rfl (fun K _ _ C S => t_fR_write C S hn h)
def HR0 (l : Launch) (w : Wd) (n lv : Nat) (rc : Nat → Int32 → Mem → Option Mem) : Prop :=
  (∀ (M : Mem) (a1 : Int32) q, rc 0 a1 M = some q → CM l w yX3_readEither cX3_readEither 3 none lv 0 0 [.ref 40, .int a1] n M (PD M) (Tv n q)) ∧
  (∀ (M : Mem) (a1 : Int32) q, rc 1 a1 M = some q → CM l w yX3_readBoth cX3_readBoth 3 none lv 0 0 [.ref 40, .int a1] n M (PD M) (Tv n q)) ∧
  (∀ (M : Mem) (a1 : Int32) q, rc 2 a1 M = some q → CM l w yX3_readNot cX3_readNot 3 none lv 0 0 [.ref 40, .int a1] n M (PD M) (Tv n q)) ∧
  (∀ (M : Mem) (a1 : Int32) q, rc 3 a1 M = some q → CM l w yX3_readSum cX3_readSum 4 none lv 0 0 [.ref 40, .int a1] n M (PD M) (Tv n q)) ∧
  (∀ (M : Mem) (a1 : Int32) q, rc 4 a1 M = some q → CM l w yX3_readTerm cX3_readTerm 3 none lv 0 0 [.ref 40, .int a1] n M (PD M) (Tv n q)) ∧
  (∀ (M : Mem) (a1 : Int32) q, rc 5 a1 M = some q → CM l w yX3_readOne cX3_readOne 2 none lv 0 0 [.ref 40, .int a1] n M (PD M) (Tv n q))
def tb_X3_readOne : List (Nat × Instr × Nat) := [(0, .aload_n 0, 1), (1, .getfield 25, 3), (4, .bipush 12, 2), (6, .if_icmp .ne 18, 3), (9, .aload_n 0, 1), (10, .aload_n 0, 1), (11, .getfield 28, 3), (14, .invokevirtual 62, 3), (17, .aload_n 0, 1), (18, .invokevirtual 43, 3), (21, .goto 104, 3), (24, .aload_n 0, 1), (25, .getfield 25, 3), (28, .bipush 6, 2), (30, .invokestatic 77, 3), (33, .ifCond .eq 20, 3), (36, .aload_n 0, 1), (37, .iconst (-1), 1), (38, .aload_n 0, 1), (39, .getfield 25, 3), (42, .isub, 1), (43, .invokevirtual 62, 3), (46, .aload_n 0, 1), (47, .invokevirtual 43, 3), (50, .goto 75, 3), (53, .aload_n 0, 1), (54, .getfield 25, 3), (57, .bipush 45, 2), (59, .if_icmp .ne 28, 3), (62, .iload_n 1, 1), (63, .iconst 5, 1), (64, .if_icmp .ge 23, 3), (67, .aload_n 0, 1), (68, .invokevirtual 43, 3), (71, .aload_n 0, 1), (72, .iload_n 1, 1), (73, .iconst 1, 1), (74, .iadd, 1), (75, .invokevirtual 74, 3), (78, .aload_n 0, 1), (79, .bipush (-12), 2), (81, .invokevirtual 62, 3), (84, .goto 41, 3), (87, .aload_n 0, 1), (88, .getfield 25, 3), (91, .bipush 40, 2), (93, .if_icmp .ne 28, 3), (96, .iload_n 1, 1), (97, .iconst 5, 1), (98, .if_icmp .ge 23, 3), (101, .aload_n 0, 1), (102, .invokevirtual 43, 3), (105, .aload_n 0, 1), (106, .iload_n 1, 1), (107, .iconst 1, 1), (108, .iadd, 1), (109, .invokevirtual 50, 3), (112, .aload_n 0, 1), (113, .bipush 41, 2), (115, .invokevirtual 46, 3), (118, .goto 7, 3), (121, .aload_n 0, 1), (122, .invokevirtual 81, 3), (125, .return_, 1)]
theorem ok_X3_readOne : TB cX3_readOne tb_X3_readOne := (by decide +kernel : tb_X3_readOne.all (fun q => tbq cX3_readOne q) = true)
set_option maxHeartbeats 4000000 in
set_option maxRecDepth 20000 in
theorem t_fR_readOne_b121 {K : Cx} {n : Nat} {M : Mem} {r : Mem} {lvd : Nat} {rc : Nat → Int32 → Mem → Option Mem} (C : Ctx K RX3 cX3_readOne) (S : SS K n (lvd + 1) 2 none (Tv n r)) (hB : 12 ≤ lvd) (hn : 85 ≤ n) (hrc : HR0 (kl K) (kw K) n lvd rc) (h : fR_readOne_b121 rc M = some r) : AS K n M 121 [some (.ref 40), none] [] := by
  refine aw_aload_n C (tb_at ok_X3_readOne 61 rfl) rfl ?_
  refine sw_cVv C S [] [] (tb_at ok_X3_readOne 62 rfl) h (fun q e => m_fR_refuse hn e) mf_X3_refuse (ob_40 hn) rfl rfl cw_RX3_81 rfl (Nat.succ_le_succ (Nat.le_trans (by decide) hB)) rfl (Nat.le_of_ble_eq_true rfl) (fun M4 h => ?_)
  exact sw_vret C S (tb_at ok_X3_readOne 63 rfl) h
set_option maxHeartbeats 4000000 in
set_option maxRecDepth 20000 in
theorem t_fR_readOne_b87 {K : Cx} {n : Nat} {a1 : Int32} {M : Mem} {r : Mem} {lvd : Nat} {rc : Nat → Int32 → Mem → Option Mem} (C : Ctx K RX3 cX3_readOne) (S : SS K n (lvd + 1) 2 none (Tv n r)) (hB : 12 ≤ lvd) (hn : 85 ≤ n) (hrc : HR0 (kl K) (kw K) n lvd rc) (h : fR_readOne_b87 rc a1 M = some r) : AS K n M 87 [some (.ref 40), some (.int a1)] [] := by
  refine aw_aload_n C (tb_at ok_X3_readOne 43 rfl) rfl ?_
  refine aw_get C (ob_40 hn) rfl (by decide) rfl fl_RX3_25 (tb_at ok_X3_readOne 44 rfl) ?_
  refine aw_bipush C (tb_at ok_X3_readOne 45 rfl) kb_40 ?_
  refine aw_icmp_ne C 121 (tb_at ok_X3_readOne 46 rfl) (by decide) h (fun h => ?_) (fun h => ?_)
  · refine aw_iload_n C (tb_at ok_X3_readOne 47 rfl) rfl ?_
    refine aw_iconst C (tb_at ok_X3_readOne 48 rfl) ki_5 ?_
    refine aw_icmp_ge C 121 (tb_at ok_X3_readOne 49 rfl) (by decide) h (fun h => ?_) (fun h => ?_)
    · exact aw_loc [some (.ref 40), none] (sl_k (sl_n sl_0)) (t_fR_readOne_b121 C S hB hn hrc h)
    · refine aw_aload_n C (tb_at ok_X3_readOne 50 rfl) rfl ?_
      refine sw_cVv C S [] [] (tb_at ok_X3_readOne 51 rfl) h (fun q e => m_fR_advance hn e) mf_X3_advance (ob_40 hn) rfl rfl cw_RX3_43 rfl (Nat.succ_le_succ (Nat.le_trans (by decide) hB)) rfl (Nat.le_of_ble_eq_true rfl) (fun M5 h => ?_)
      refine aw_aload_n C (tb_at ok_X3_readOne 52 rfl) rfl ?_
      refine aw_iload_n C (tb_at ok_X3_readOne 53 rfl) rfl ?_
      refine aw_iconst C (tb_at ok_X3_readOne 54 rfl) ki_1 ?_
      refine aw_iadd C (tb_at ok_X3_readOne 55 rfl) ?_
      refine sw_cVv C S [.int (a1 + 1)] [] (tb_at ok_X3_readOne 56 rfl) h (fun q e => hrc.1 _ _ _ e) mf_X3_readEither (ob_40 hn) rfl rfl cw_RX3_50 rfl (Nat.le_refl _) rfl (Nat.le_of_ble_eq_true rfl) (fun M6 h => ?_)
      refine aw_aload_n C (tb_at ok_X3_readOne 57 rfl) rfl ?_
      refine aw_bipush C (tb_at ok_X3_readOne 58 rfl) kb_41 ?_
      refine sw_cVv C S [.int 41] [] (tb_at ok_X3_readOne 59 rfl) h (fun q e => m_fR_expect hn e) mf_X3_expect (ob_40 hn) rfl rfl cw_RX3_46 rfl (Nat.succ_le_succ (Nat.le_trans (by decide) hB)) rfl (Nat.le_of_ble_eq_true rfl) (fun M7 h => ?_)
      refine aw_goto C 125 (tb_at ok_X3_readOne 60 rfl) (by decide) ?_
      exact sw_vret C S (tb_at ok_X3_readOne 63 rfl) h
  · exact aw_loc [some (.ref 40), none] (sl_k (sl_n sl_0)) (t_fR_readOne_b121 C S hB hn hrc h)
set_option maxHeartbeats 4000000 in
set_option maxRecDepth 20000 in
theorem t_fR_readOne {K : Cx} {n : Nat} {a1 : Int32} {M : Mem} {r : Mem} {lvd : Nat} {rc : Nat → Int32 → Mem → Option Mem} (C : Ctx K RX3 cX3_readOne) (S : SS K n (lvd + 1) 2 none (Tv n r)) (hB : 12 ≤ lvd) (hn : 85 ≤ n) (hrc : HR0 (kl K) (kw K) n lvd rc) (h : fR_readOne rc a1 M = some r) : AS K n M 0 [some (.ref 40), some (.int a1)] [] := by
  refine aw_aload_n C (tb_at ok_X3_readOne 0 rfl) rfl ?_
  refine aw_get C (ob_40 hn) rfl (by decide) rfl fl_RX3_25 (tb_at ok_X3_readOne 1 rfl) ?_
  refine aw_bipush C (tb_at ok_X3_readOne 2 rfl) kb_12 ?_
  refine aw_icmp_ne C 24 (tb_at ok_X3_readOne 3 rfl) (by decide) h (fun h => ?_) (fun h => ?_)
  · refine aw_aload_n C (tb_at ok_X3_readOne 4 rfl) rfl ?_
    refine aw_aload_n C (tb_at ok_X3_readOne 5 rfl) rfl ?_
    refine aw_get C (ob_40 hn) rfl (by decide) rfl fl_RX3_28 (tb_at ok_X3_readOne 6 rfl) ?_
    refine sw_cVv C S [.int (M 40 5)] [] (tb_at ok_X3_readOne 7 rfl) h (fun q e => m_fR_write hn e) mf_X3_write (ob_40 hn) rfl rfl cw_RX3_62 rfl (Nat.succ_le_succ (Nat.le_trans (by decide) hB)) rfl (Nat.le_of_ble_eq_true rfl) (fun M1 h => ?_)
    refine aw_aload_n C (tb_at ok_X3_readOne 8 rfl) rfl ?_
    refine sw_cVv C S [] [] (tb_at ok_X3_readOne 9 rfl) h (fun q e => m_fR_advance hn e) mf_X3_advance (ob_40 hn) rfl rfl cw_RX3_43 rfl (Nat.succ_le_succ (Nat.le_trans (by decide) hB)) rfl (Nat.le_of_ble_eq_true rfl) (fun M2 h => ?_)
    refine aw_goto C 125 (tb_at ok_X3_readOne 10 rfl) (by decide) ?_
    exact sw_vret C S (tb_at ok_X3_readOne 63 rfl) h
  · refine aw_aload_n C (tb_at ok_X3_readOne 11 rfl) rfl ?_
    refine aw_get C (ob_40 hn) rfl (by decide) rfl fl_RX3_25 (tb_at ok_X3_readOne 12 rfl) ?_
    refine aw_bipush C (tb_at ok_X3_readOne 13 rfl) kb_6 ?_
    refine sw_cSNi C S [.int (M 40 4), .int 6] [] (tb_at ok_X3_readOne 14 rfl) h (fun q e => m_fN_within hn e) mf_X7_within cw_RX3_77 rfl (Nat.succ_le_succ (Nat.le_trans (by decide) hB)) rfl (Nat.le_of_ble_eq_true rfl) (fun r3 M3 h => ?_)
    refine aw_if_eq C 53 (tb_at ok_X3_readOne 15 rfl) (by decide) h (fun h => ?_) (fun h => ?_)
    · refine aw_aload_n C (tb_at ok_X3_readOne 25 rfl) rfl ?_
      refine aw_get C (ob_40 hn) rfl (by decide) rfl fl_RX3_25 (tb_at ok_X3_readOne 26 rfl) ?_
      refine aw_bipush C (tb_at ok_X3_readOne 27 rfl) kb_45 ?_
      refine aw_icmp_ne C 87 (tb_at ok_X3_readOne 28 rfl) (by decide) h (fun h => ?_) (fun h => ?_)
      · refine aw_iload_n C (tb_at ok_X3_readOne 29 rfl) rfl ?_
        refine aw_iconst C (tb_at ok_X3_readOne 30 rfl) ki_5 ?_
        refine aw_icmp_ge C 87 (tb_at ok_X3_readOne 31 rfl) (by decide) h (fun h => ?_) (fun h => ?_)
        · exact aw_loc [some (.ref 40), some (.int a1)] (sl_k (sl_k sl_0)) (t_fR_readOne_b87 C S hB hn hrc h)
        · refine aw_aload_n C (tb_at ok_X3_readOne 32 rfl) rfl ?_
          refine sw_cVv C S [] [] (tb_at ok_X3_readOne 33 rfl) h (fun q e => m_fR_advance hn e) mf_X3_advance (ob_40 hn) rfl rfl cw_RX3_43 rfl (Nat.succ_le_succ (Nat.le_trans (by decide) hB)) rfl (Nat.le_of_ble_eq_true rfl) (fun M8 h => ?_)
          refine aw_aload_n C (tb_at ok_X3_readOne 34 rfl) rfl ?_
          refine aw_iload_n C (tb_at ok_X3_readOne 35 rfl) rfl ?_
          refine aw_iconst C (tb_at ok_X3_readOne 36 rfl) ki_1 ?_
          refine aw_iadd C (tb_at ok_X3_readOne 37 rfl) ?_
          refine sw_cVv C S [.int (a1 + 1)] [] (tb_at ok_X3_readOne 38 rfl) h (fun q e => hrc.2.2.2.2.2 _ _ _ e) mf_X3_readOne (ob_40 hn) rfl rfl cw_RX3_74 rfl (Nat.le_refl _) rfl (Nat.le_of_ble_eq_true rfl) (fun M9 h => ?_)
          refine aw_aload_n C (tb_at ok_X3_readOne 39 rfl) rfl ?_
          refine aw_bipush C (tb_at ok_X3_readOne 40 rfl) kb_m12 ?_
          refine sw_cVv C S [.int (-12)] [] (tb_at ok_X3_readOne 41 rfl) h (fun q e => m_fR_write hn e) mf_X3_write (ob_40 hn) rfl rfl cw_RX3_62 rfl (Nat.succ_le_succ (Nat.le_trans (by decide) hB)) rfl (Nat.le_of_ble_eq_true rfl) (fun M10 h => ?_)
          refine aw_goto C 125 (tb_at ok_X3_readOne 42 rfl) (by decide) ?_
          exact sw_vret C S (tb_at ok_X3_readOne 63 rfl) h
      · exact aw_loc [some (.ref 40), some (.int a1)] (sl_k (sl_k sl_0)) (t_fR_readOne_b87 C S hB hn hrc h)
    · refine aw_aload_n C (tb_at ok_X3_readOne 16 rfl) rfl ?_
      refine aw_iconst C (tb_at ok_X3_readOne 17 rfl) ki_m1 ?_
      refine aw_aload_n C (tb_at ok_X3_readOne 18 rfl) rfl ?_
      refine aw_get C (ob_40 hn) rfl (by decide) rfl fl_RX3_25 (tb_at ok_X3_readOne 19 rfl) ?_
      refine aw_isub C (tb_at ok_X3_readOne 20 rfl) ?_
      refine sw_cVv C S [.int ((-1) - (M3 40 4))] [] (tb_at ok_X3_readOne 21 rfl) h (fun q e => m_fR_write hn e) mf_X3_write (ob_40 hn) rfl rfl cw_RX3_62 rfl (Nat.succ_le_succ (Nat.le_trans (by decide) hB)) rfl (Nat.le_of_ble_eq_true rfl) (fun M11 h => ?_)
      refine aw_aload_n C (tb_at ok_X3_readOne 22 rfl) rfl ?_
      refine sw_cVv C S [] [] (tb_at ok_X3_readOne 23 rfl) h (fun q e => m_fR_advance hn e) mf_X3_advance (ob_40 hn) rfl rfl cw_RX3_43 rfl (Nat.succ_le_succ (Nat.le_trans (by decide) hB)) rfl (Nat.le_of_ble_eq_true rfl) (fun M12 h => ?_)
      refine aw_goto C 125 (tb_at ok_X3_readOne 24 rfl) (by decide) ?_
      exact sw_vret C S (tb_at ok_X3_readOne 63 rfl) h
def tb_X3_readTerm : List (Nat × Instr × Nat) := [(0, .aload_n 0, 1), (1, .iload_n 1, 1), (2, .invokevirtual 74, 3), (5, .iconst 0, 1), (6, .istore_n 2, 1), (7, .iload_n 2, 1), (8, .sipush 160, 3), (11, .if_icmp .ge 33, 3), (14, .aload_n 0, 1), (15, .getfield 25, 3), (18, .bipush 42, 2), (20, .if_icmp .ne 24, 3), (23, .aload_n 0, 1), (24, .invokevirtual 43, 3), (27, .aload_n 0, 1), (28, .iload_n 1, 1), (29, .invokevirtual 74, 3), (32, .aload_n 0, 1), (33, .bipush (-42), 2), (35, .invokevirtual 62, 3), (38, .iinc 2 1, 3), (41, .goto (-34), 3), (44, .return_, 1)]
theorem ok_X3_readTerm : TB cX3_readTerm tb_X3_readTerm := (by decide +kernel : tb_X3_readTerm.all (fun q => tbq cX3_readTerm q) = true)
set_option maxHeartbeats 4000000 in
set_option maxRecDepth 20000 in
theorem t_fR_readTerm_b7 {K : Cx} {n : Nat} {a1 : Int32} {r : Mem} {lvd : Nat} {rc : Nat → Int32 → Mem → Option Mem} (C : Ctx K RX3 cX3_readTerm) (S : SS K n (lvd + 1) 3 none (Tv n r)) (hB : 12 ≤ lvd) (hn : 85 ≤ n) (hrc : HR0 (kl K) (kw K) n lvd rc) : ∀ (z : Nat) (a2 : Int32) (M : Mem), fR_readTerm_b7 rc a1 z a2 M = some r → AS K n M 7 [some (.ref 40), some (.int a1), some (.int a2)] [] := by
  intro z
  induction z with
  | zero => intro a2 M h; cases h
  | succ z ih =>
    intro a2 M h
    refine aw_iload_n C (tb_at ok_X3_readTerm 5 rfl) rfl ?_
    refine aw_sipush C (tb_at ok_X3_readTerm 6 rfl) ks_160 ?_
    refine aw_icmp_ge C 44 (tb_at ok_X3_readTerm 7 rfl) (by decide) h (fun h => ?_) (fun h => ?_)
    · exact sw_vret C S (tb_at ok_X3_readTerm 22 rfl) h
    · refine aw_aload_n C (tb_at ok_X3_readTerm 8 rfl) rfl ?_
      refine aw_get C (ob_40 hn) rfl (by decide) rfl fl_RX3_25 (tb_at ok_X3_readTerm 9 rfl) ?_
      refine aw_bipush C (tb_at ok_X3_readTerm 10 rfl) kb_42 ?_
      refine aw_icmp_ne C 44 (tb_at ok_X3_readTerm 11 rfl) (by decide) h (fun h => ?_) (fun h => ?_)
      · refine aw_aload_n C (tb_at ok_X3_readTerm 12 rfl) rfl ?_
        refine sw_cVv C S [] [] (tb_at ok_X3_readTerm 13 rfl) h (fun q e => m_fR_advance hn e) mf_X3_advance (ob_40 hn) rfl rfl cw_RX3_43 rfl (Nat.succ_le_succ (Nat.le_trans (by decide) hB)) rfl (Nat.le_of_ble_eq_true rfl) (fun M2 h => ?_)
        refine aw_aload_n C (tb_at ok_X3_readTerm 14 rfl) rfl ?_
        refine aw_iload_n C (tb_at ok_X3_readTerm 15 rfl) rfl ?_
        refine sw_cVv C S [.int a1] [] (tb_at ok_X3_readTerm 16 rfl) h (fun q e => hrc.2.2.2.2.2 _ _ _ e) mf_X3_readOne (ob_40 hn) rfl rfl cw_RX3_74 rfl (Nat.le_refl _) rfl (Nat.le_of_ble_eq_true rfl) (fun M3 h => ?_)
        refine aw_aload_n C (tb_at ok_X3_readTerm 17 rfl) rfl ?_
        refine aw_bipush C (tb_at ok_X3_readTerm 18 rfl) kb_m42 ?_
        refine sw_cVv C S [.int (-42)] [] (tb_at ok_X3_readTerm 19 rfl) h (fun q e => m_fR_write hn e) mf_X3_write (ob_40 hn) rfl rfl cw_RX3_62 rfl (Nat.succ_le_succ (Nat.le_trans (by decide) hB)) rfl (Nat.le_of_ble_eq_true rfl) (fun M4 h => ?_)
        refine aw_iinc C [some (.ref 40), some (.int a1), some (.int (a2 + 1))] (tb_at ok_X3_readTerm 20 rfl) rfl S.2.2.2.1 (by decide) ki_1 rfl ?_
        refine aw_goto C 7 (tb_at ok_X3_readTerm 21 rfl) (by decide) ?_
        exact aw_loc [some (.ref 40), some (.int a1), some (.int (a2 + 1))] (sl_k (sl_k (sl_k sl_0))) (ih _ _ h)
      · exact sw_vret C S (tb_at ok_X3_readTerm 22 rfl) h
set_option maxHeartbeats 4000000 in
set_option maxRecDepth 20000 in
theorem t_fR_readTerm {K : Cx} {n : Nat} {a1 : Int32} {M : Mem} {r : Mem} {lvd : Nat} {rc : Nat → Int32 → Mem → Option Mem} (C : Ctx K RX3 cX3_readTerm) (S : SS K n (lvd + 1) 3 none (Tv n r)) (hB : 12 ≤ lvd) (hn : 85 ≤ n) (hrc : HR0 (kl K) (kw K) n lvd rc) (h : fR_readTerm rc a1 M = some r) : AS K n M 0 [some (.ref 40), some (.int a1), none] [] := by
  refine aw_aload_n C (tb_at ok_X3_readTerm 0 rfl) rfl ?_
  refine aw_iload_n C (tb_at ok_X3_readTerm 1 rfl) rfl ?_
  refine sw_cVv C S [.int a1] [] (tb_at ok_X3_readTerm 2 rfl) h (fun q e => hrc.2.2.2.2.2 _ _ _ e) mf_X3_readOne (ob_40 hn) rfl rfl cw_RX3_74 rfl (Nat.le_refl _) rfl (Nat.le_of_ble_eq_true rfl) (fun M1 h => ?_)
  refine aw_iconst C (tb_at ok_X3_readTerm 3 rfl) ki_0 ?_
  refine aw_istore_n C [some (.ref 40), some (.int a1), some (.int 0)] (tb_at ok_X3_readTerm 4 rfl) S.2.2.2.1 (by decide) rfl ?_
  exact aw_loc [some (.ref 40), some (.int a1), some (.int 0)] (sl_k (sl_k (sl_k sl_0))) (t_fR_readTerm_b7 C S hB hn hrc 1000 _ _ h)
def tb_X3_readSum : List (Nat × Instr × Nat) := [(0, .aload_n 0, 1), (1, .iload_n 1, 1), (2, .invokevirtual 71, 3), (5, .iconst 0, 1), (6, .istore_n 2, 1), (7, .iload_n 2, 1), (8, .sipush 160, 3), (11, .if_icmp .ge 47, 3), (14, .aload_n 0, 1), (15, .getfield 25, 3), (18, .bipush 43, 2), (20, .if_icmp .eq 12, 3), (23, .aload_n 0, 1), (24, .getfield 25, 3), (27, .bipush 45, 2), (29, .if_icmp .ne 29, 3), (32, .aload_n 0, 1), (33, .getfield 25, 3), (36, .istore_n 3, 1), (37, .aload_n 0, 1), (38, .invokevirtual 43, 3), (41, .aload_n 0, 1), (42, .iload_n 1, 1), (43, .invokevirtual 71, 3), (46, .aload_n 0, 1), (47, .iload_n 3, 1), (48, .ineg, 1), (49, .invokevirtual 62, 3), (52, .iinc 2 1, 3), (55, .goto (-48), 3), (58, .return_, 1)]
theorem ok_X3_readSum : TB cX3_readSum tb_X3_readSum := (by decide +kernel : tb_X3_readSum.all (fun q => tbq cX3_readSum q) = true)
set_option maxHeartbeats 4000000 in
set_option maxRecDepth 20000 in
theorem t_fR_readSum_b32 {K : Cx} {n : Nat} {k7 : Int32 → Mem → Option (Mem)} {a1 : Int32} {a2 : Int32} {M : Mem} {r : Mem} {lvd : Nat} {rc : Nat → Int32 → Mem → Option Mem} (C : Ctx K RX3 cX3_readSum) (S : SS K n (lvd + 1) 4 none (Tv n r)) (hB : 12 ≤ lvd) (hn : 85 ≤ n) (hrc : HR0 (kl K) (kw K) n lvd rc) (hk7 : ∀ (va2 : Int32) (M1 : Mem), k7 va2 M1 = some r → AS K n M1 7 [some (.ref 40), some (.int a1), some (.int va2), none] []) (h : fR_readSum_b32 rc k7 a1 a2 M = some r) : AS K n M 32 [some (.ref 40), some (.int a1), some (.int a2), none] [] := by
  refine aw_aload_n C (tb_at ok_X3_readSum 16 rfl) rfl ?_
  refine aw_get C (ob_40 hn) rfl (by decide) rfl fl_RX3_25 (tb_at ok_X3_readSum 17 rfl) ?_
  refine aw_istore_n C [some (.ref 40), some (.int a1), some (.int a2), some (.int (M 40 4))] (tb_at ok_X3_readSum 18 rfl) S.2.2.2.1 (by decide) rfl ?_
  refine aw_aload_n C (tb_at ok_X3_readSum 19 rfl) rfl ?_
  refine sw_cVv C S [] [] (tb_at ok_X3_readSum 20 rfl) h (fun q e => m_fR_advance hn e) mf_X3_advance (ob_40 hn) rfl rfl cw_RX3_43 rfl (Nat.succ_le_succ (Nat.le_trans (by decide) hB)) rfl (Nat.le_of_ble_eq_true rfl) (fun M2 h => ?_)
  refine aw_aload_n C (tb_at ok_X3_readSum 21 rfl) rfl ?_
  refine aw_iload_n C (tb_at ok_X3_readSum 22 rfl) rfl ?_
  refine sw_cVv C S [.int a1] [] (tb_at ok_X3_readSum 23 rfl) h (fun q e => hrc.2.2.2.2.1 _ _ _ e) mf_X3_readTerm (ob_40 hn) rfl rfl cw_RX3_71 rfl (Nat.le_refl _) rfl (Nat.le_of_ble_eq_true rfl) (fun M3 h => ?_)
  refine aw_aload_n C (tb_at ok_X3_readSum 24 rfl) rfl ?_
  refine aw_iload_n C (tb_at ok_X3_readSum 25 rfl) rfl ?_
  refine aw_ineg C (tb_at ok_X3_readSum 26 rfl) ?_
  refine sw_cVv C S [.int (-(M 40 4))] [] (tb_at ok_X3_readSum 27 rfl) h (fun q e => m_fR_write hn e) mf_X3_write (ob_40 hn) rfl rfl cw_RX3_62 rfl (Nat.succ_le_succ (Nat.le_trans (by decide) hB)) rfl (Nat.le_of_ble_eq_true rfl) (fun M4 h => ?_)
  refine aw_iinc C [some (.ref 40), some (.int a1), some (.int (a2 + 1)), some (.int (M 40 4))] (tb_at ok_X3_readSum 28 rfl) rfl S.2.2.2.1 (by decide) ki_1 rfl ?_
  refine aw_goto C 7 (tb_at ok_X3_readSum 29 rfl) (by decide) ?_
  exact aw_loc [some (.ref 40), some (.int a1), some (.int (a2 + 1)), none] (sl_k (sl_k (sl_k (sl_n sl_0)))) (hk7 _ _ h)
set_option maxHeartbeats 4000000 in
set_option maxRecDepth 20000 in
theorem t_fR_readSum_b7 {K : Cx} {n : Nat} {a1 : Int32} {r : Mem} {lvd : Nat} {rc : Nat → Int32 → Mem → Option Mem} (C : Ctx K RX3 cX3_readSum) (S : SS K n (lvd + 1) 4 none (Tv n r)) (hB : 12 ≤ lvd) (hn : 85 ≤ n) (hrc : HR0 (kl K) (kw K) n lvd rc) : ∀ (z : Nat) (a2 : Int32) (M : Mem), fR_readSum_b7 rc a1 z a2 M = some r → AS K n M 7 [some (.ref 40), some (.int a1), some (.int a2), none] [] := by
  intro z
  induction z with
  | zero => intro a2 M h; cases h
  | succ z ih =>
    intro a2 M h
    refine aw_iload_n C (tb_at ok_X3_readSum 5 rfl) rfl ?_
    refine aw_sipush C (tb_at ok_X3_readSum 6 rfl) ks_160 ?_
    refine aw_icmp_ge C 58 (tb_at ok_X3_readSum 7 rfl) (by decide) h (fun h => ?_) (fun h => ?_)
    · exact sw_vret C S (tb_at ok_X3_readSum 30 rfl) h
    · refine aw_aload_n C (tb_at ok_X3_readSum 8 rfl) rfl ?_
      refine aw_get C (ob_40 hn) rfl (by decide) rfl fl_RX3_25 (tb_at ok_X3_readSum 9 rfl) ?_
      refine aw_bipush C (tb_at ok_X3_readSum 10 rfl) kb_43 ?_
      refine aw_icmp_eq C 32 (tb_at ok_X3_readSum 11 rfl) (by decide) h (fun h => ?_) (fun h => ?_)
      · exact aw_loc [some (.ref 40), some (.int a1), some (.int a2), none] (sl_k (sl_k (sl_k (sl_n sl_0)))) (t_fR_readSum_b32 C S hB hn hrc ih h)
      · refine aw_aload_n C (tb_at ok_X3_readSum 12 rfl) rfl ?_
        refine aw_get C (ob_40 hn) rfl (by decide) rfl fl_RX3_25 (tb_at ok_X3_readSum 13 rfl) ?_
        refine aw_bipush C (tb_at ok_X3_readSum 14 rfl) kb_45 ?_
        refine aw_icmp_ne C 58 (tb_at ok_X3_readSum 15 rfl) (by decide) h (fun h => ?_) (fun h => ?_)
        · exact aw_loc [some (.ref 40), some (.int a1), some (.int a2), none] (sl_k (sl_k (sl_k (sl_n sl_0)))) (t_fR_readSum_b32 C S hB hn hrc ih h)
        · exact sw_vret C S (tb_at ok_X3_readSum 30 rfl) h
set_option maxHeartbeats 4000000 in
set_option maxRecDepth 20000 in
theorem t_fR_readSum {K : Cx} {n : Nat} {a1 : Int32} {M : Mem} {r : Mem} {lvd : Nat} {rc : Nat → Int32 → Mem → Option Mem} (C : Ctx K RX3 cX3_readSum) (S : SS K n (lvd + 1) 4 none (Tv n r)) (hB : 12 ≤ lvd) (hn : 85 ≤ n) (hrc : HR0 (kl K) (kw K) n lvd rc) (h : fR_readSum rc a1 M = some r) : AS K n M 0 [some (.ref 40), some (.int a1), none, none] [] := by
  refine aw_aload_n C (tb_at ok_X3_readSum 0 rfl) rfl ?_
  refine aw_iload_n C (tb_at ok_X3_readSum 1 rfl) rfl ?_
  refine sw_cVv C S [.int a1] [] (tb_at ok_X3_readSum 2 rfl) h (fun q e => hrc.2.2.2.2.1 _ _ _ e) mf_X3_readTerm (ob_40 hn) rfl rfl cw_RX3_71 rfl (Nat.le_refl _) rfl (Nat.le_of_ble_eq_true rfl) (fun M1 h => ?_)
  refine aw_iconst C (tb_at ok_X3_readSum 3 rfl) ki_0 ?_
  refine aw_istore_n C [some (.ref 40), some (.int a1), some (.int 0), none] (tb_at ok_X3_readSum 4 rfl) S.2.2.2.1 (by decide) rfl ?_
  exact aw_loc [some (.ref 40), some (.int a1), some (.int 0), none] (sl_k (sl_k (sl_k (sl_n sl_0)))) (t_fR_readSum_b7 C S hB hn hrc 1000 _ _ h)
def tb_X3_readNot : List (Nat × Instr × Nat) := [(0, .aload_n 0, 1), (1, .getfield 25, 3), (4, .bipush 11, 2), (6, .if_icmp .ne 26, 3), (9, .iload_n 1, 1), (10, .iconst 5, 1), (11, .if_icmp .ge 21, 3), (14, .aload_n 0, 1), (15, .invokevirtual 43, 3), (18, .aload_n 0, 1), (19, .iload_n 1, 1), (20, .iconst 1, 1), (21, .iadd, 1), (22, .invokevirtual 65, 3), (25, .aload_n 0, 1), (26, .bipush (-11), 2), (28, .invokevirtual 62, 3), (31, .return_, 1), (32, .aload_n 0, 1), (33, .iload_n 1, 1), (34, .invokevirtual 68, 3), (37, .aload_n 0, 1), (38, .getfield 25, 3), (41, .bipush 60, 2), (43, .if_icmp .eq 12, 3), (46, .aload_n 0, 1), (47, .getfield 25, 3), (50, .bipush 61, 2), (52, .if_icmp .ne 23, 3), (55, .aload_n 0, 1), (56, .getfield 25, 3), (59, .istore_n 2, 1), (60, .aload_n 0, 1), (61, .invokevirtual 43, 3), (64, .aload_n 0, 1), (65, .iload_n 1, 1), (66, .invokevirtual 68, 3), (69, .aload_n 0, 1), (70, .iload_n 2, 1), (71, .ineg, 1), (72, .invokevirtual 62, 3), (75, .return_, 1)]
theorem ok_X3_readNot : TB cX3_readNot tb_X3_readNot := (by decide +kernel : tb_X3_readNot.all (fun q => tbq cX3_readNot q) = true)
set_option maxHeartbeats 4000000 in
set_option maxRecDepth 20000 in
theorem t_fR_readNot_b55 {K : Cx} {n : Nat} {a1 : Int32} {M : Mem} {r : Mem} {lvd : Nat} {rc : Nat → Int32 → Mem → Option Mem} (C : Ctx K RX3 cX3_readNot) (S : SS K n (lvd + 1) 3 none (Tv n r)) (hB : 12 ≤ lvd) (hn : 85 ≤ n) (hrc : HR0 (kl K) (kw K) n lvd rc) (h : fR_readNot_b55 rc a1 M = some r) : AS K n M 55 [some (.ref 40), some (.int a1), none] [] := by
  refine aw_aload_n C (tb_at ok_X3_readNot 29 rfl) rfl ?_
  refine aw_get C (ob_40 hn) rfl (by decide) rfl fl_RX3_25 (tb_at ok_X3_readNot 30 rfl) ?_
  refine aw_istore_n C [some (.ref 40), some (.int a1), some (.int (M 40 4))] (tb_at ok_X3_readNot 31 rfl) S.2.2.2.1 (by decide) rfl ?_
  refine aw_aload_n C (tb_at ok_X3_readNot 32 rfl) rfl ?_
  refine sw_cVv C S [] [] (tb_at ok_X3_readNot 33 rfl) h (fun q e => m_fR_advance hn e) mf_X3_advance (ob_40 hn) rfl rfl cw_RX3_43 rfl (Nat.succ_le_succ (Nat.le_trans (by decide) hB)) rfl (Nat.le_of_ble_eq_true rfl) (fun M2 h => ?_)
  refine aw_aload_n C (tb_at ok_X3_readNot 34 rfl) rfl ?_
  refine aw_iload_n C (tb_at ok_X3_readNot 35 rfl) rfl ?_
  refine sw_cVv C S [.int a1] [] (tb_at ok_X3_readNot 36 rfl) h (fun q e => hrc.2.2.2.1 _ _ _ e) mf_X3_readSum (ob_40 hn) rfl rfl cw_RX3_68 rfl (Nat.le_refl _) rfl (Nat.le_of_ble_eq_true rfl) (fun M3 h => ?_)
  refine aw_aload_n C (tb_at ok_X3_readNot 37 rfl) rfl ?_
  refine aw_iload_n C (tb_at ok_X3_readNot 38 rfl) rfl ?_
  refine aw_ineg C (tb_at ok_X3_readNot 39 rfl) ?_
  refine sw_cVv C S [.int (-(M 40 4))] [] (tb_at ok_X3_readNot 40 rfl) h (fun q e => m_fR_write hn e) mf_X3_write (ob_40 hn) rfl rfl cw_RX3_62 rfl (Nat.succ_le_succ (Nat.le_trans (by decide) hB)) rfl (Nat.le_of_ble_eq_true rfl) (fun M4 h => ?_)
  exact sw_vret C S (tb_at ok_X3_readNot 41 rfl) h
set_option maxHeartbeats 4000000 in
set_option maxRecDepth 20000 in
theorem t_fR_readNot_b32 {K : Cx} {n : Nat} {a1 : Int32} {M : Mem} {r : Mem} {lvd : Nat} {rc : Nat → Int32 → Mem → Option Mem} (C : Ctx K RX3 cX3_readNot) (S : SS K n (lvd + 1) 3 none (Tv n r)) (hB : 12 ≤ lvd) (hn : 85 ≤ n) (hrc : HR0 (kl K) (kw K) n lvd rc) (h : fR_readNot_b32 rc a1 M = some r) : AS K n M 32 [some (.ref 40), some (.int a1), none] [] := by
  refine aw_aload_n C (tb_at ok_X3_readNot 18 rfl) rfl ?_
  refine aw_iload_n C (tb_at ok_X3_readNot 19 rfl) rfl ?_
  refine sw_cVv C S [.int a1] [] (tb_at ok_X3_readNot 20 rfl) h (fun q e => hrc.2.2.2.1 _ _ _ e) mf_X3_readSum (ob_40 hn) rfl rfl cw_RX3_68 rfl (Nat.le_refl _) rfl (Nat.le_of_ble_eq_true rfl) (fun M1 h => ?_)
  refine aw_aload_n C (tb_at ok_X3_readNot 21 rfl) rfl ?_
  refine aw_get C (ob_40 hn) rfl (by decide) rfl fl_RX3_25 (tb_at ok_X3_readNot 22 rfl) ?_
  refine aw_bipush C (tb_at ok_X3_readNot 23 rfl) kb_60 ?_
  refine aw_icmp_eq C 55 (tb_at ok_X3_readNot 24 rfl) (by decide) h (fun h => ?_) (fun h => ?_)
  · exact aw_loc [some (.ref 40), some (.int a1), none] (sl_k (sl_k (sl_n sl_0))) (t_fR_readNot_b55 C S hB hn hrc h)
  · refine aw_aload_n C (tb_at ok_X3_readNot 25 rfl) rfl ?_
    refine aw_get C (ob_40 hn) rfl (by decide) rfl fl_RX3_25 (tb_at ok_X3_readNot 26 rfl) ?_
    refine aw_bipush C (tb_at ok_X3_readNot 27 rfl) kb_61 ?_
    refine aw_icmp_ne C 75 (tb_at ok_X3_readNot 28 rfl) (by decide) h (fun h => ?_) (fun h => ?_)
    · exact aw_loc [some (.ref 40), some (.int a1), none] (sl_k (sl_k (sl_n sl_0))) (t_fR_readNot_b55 C S hB hn hrc h)
    · exact sw_vret C S (tb_at ok_X3_readNot 41 rfl) h
set_option maxHeartbeats 4000000 in
set_option maxRecDepth 20000 in
theorem t_fR_readNot {K : Cx} {n : Nat} {a1 : Int32} {M : Mem} {r : Mem} {lvd : Nat} {rc : Nat → Int32 → Mem → Option Mem} (C : Ctx K RX3 cX3_readNot) (S : SS K n (lvd + 1) 3 none (Tv n r)) (hB : 12 ≤ lvd) (hn : 85 ≤ n) (hrc : HR0 (kl K) (kw K) n lvd rc) (h : fR_readNot rc a1 M = some r) : AS K n M 0 [some (.ref 40), some (.int a1), none] [] := by
  refine aw_aload_n C (tb_at ok_X3_readNot 0 rfl) rfl ?_
  refine aw_get C (ob_40 hn) rfl (by decide) rfl fl_RX3_25 (tb_at ok_X3_readNot 1 rfl) ?_
  refine aw_bipush C (tb_at ok_X3_readNot 2 rfl) kb_11 ?_
  refine aw_icmp_ne C 32 (tb_at ok_X3_readNot 3 rfl) (by decide) h (fun h => ?_) (fun h => ?_)
  · refine aw_iload_n C (tb_at ok_X3_readNot 4 rfl) rfl ?_
    refine aw_iconst C (tb_at ok_X3_readNot 5 rfl) ki_5 ?_
    refine aw_icmp_ge C 32 (tb_at ok_X3_readNot 6 rfl) (by decide) h (fun h => ?_) (fun h => ?_)
    · exact aw_loc [some (.ref 40), some (.int a1), none] (sl_k (sl_k (sl_n sl_0))) (t_fR_readNot_b32 C S hB hn hrc h)
    · refine aw_aload_n C (tb_at ok_X3_readNot 7 rfl) rfl ?_
      refine sw_cVv C S [] [] (tb_at ok_X3_readNot 8 rfl) h (fun q e => m_fR_advance hn e) mf_X3_advance (ob_40 hn) rfl rfl cw_RX3_43 rfl (Nat.succ_le_succ (Nat.le_trans (by decide) hB)) rfl (Nat.le_of_ble_eq_true rfl) (fun M5 h => ?_)
      refine aw_aload_n C (tb_at ok_X3_readNot 9 rfl) rfl ?_
      refine aw_iload_n C (tb_at ok_X3_readNot 10 rfl) rfl ?_
      refine aw_iconst C (tb_at ok_X3_readNot 11 rfl) ki_1 ?_
      refine aw_iadd C (tb_at ok_X3_readNot 12 rfl) ?_
      refine sw_cVv C S [.int (a1 + 1)] [] (tb_at ok_X3_readNot 13 rfl) h (fun q e => hrc.2.2.1 _ _ _ e) mf_X3_readNot (ob_40 hn) rfl rfl cw_RX3_65 rfl (Nat.le_refl _) rfl (Nat.le_of_ble_eq_true rfl) (fun M6 h => ?_)
      refine aw_aload_n C (tb_at ok_X3_readNot 14 rfl) rfl ?_
      refine aw_bipush C (tb_at ok_X3_readNot 15 rfl) kb_m11 ?_
      refine sw_cVv C S [.int (-11)] [] (tb_at ok_X3_readNot 16 rfl) h (fun q e => m_fR_write hn e) mf_X3_write (ob_40 hn) rfl rfl cw_RX3_62 rfl (Nat.succ_le_succ (Nat.le_trans (by decide) hB)) rfl (Nat.le_of_ble_eq_true rfl) (fun M7 h => ?_)
      exact sw_vret C S (tb_at ok_X3_readNot 17 rfl) h
  · exact aw_loc [some (.ref 40), some (.int a1), none] (sl_k (sl_k (sl_n sl_0))) (t_fR_readNot_b32 C S hB hn hrc h)
def tb_X3_readBoth : List (Nat × Instr × Nat) := [(0, .aload_n 0, 1), (1, .iload_n 1, 1), (2, .invokevirtual 65, 3), (5, .iconst 0, 1), (6, .istore_n 2, 1), (7, .iload_n 2, 1), (8, .sipush 160, 3), (11, .if_icmp .ge 33, 3), (14, .aload_n 0, 1), (15, .getfield 25, 3), (18, .bipush 10, 2), (20, .if_icmp .ne 24, 3), (23, .aload_n 0, 1), (24, .invokevirtual 43, 3), (27, .aload_n 0, 1), (28, .iload_n 1, 1), (29, .invokevirtual 65, 3), (32, .aload_n 0, 1), (33, .bipush (-10), 2), (35, .invokevirtual 62, 3), (38, .iinc 2 1, 3), (41, .goto (-34), 3), (44, .return_, 1)]
theorem ok_X3_readBoth : TB cX3_readBoth tb_X3_readBoth := (by decide +kernel : tb_X3_readBoth.all (fun q => tbq cX3_readBoth q) = true)
set_option maxHeartbeats 4000000 in
set_option maxRecDepth 20000 in
theorem t_fR_readBoth_b7 {K : Cx} {n : Nat} {a1 : Int32} {r : Mem} {lvd : Nat} {rc : Nat → Int32 → Mem → Option Mem} (C : Ctx K RX3 cX3_readBoth) (S : SS K n (lvd + 1) 3 none (Tv n r)) (hB : 12 ≤ lvd) (hn : 85 ≤ n) (hrc : HR0 (kl K) (kw K) n lvd rc) : ∀ (z : Nat) (a2 : Int32) (M : Mem), fR_readBoth_b7 rc a1 z a2 M = some r → AS K n M 7 [some (.ref 40), some (.int a1), some (.int a2)] [] := by
  intro z
  induction z with
  | zero => intro a2 M h; cases h
  | succ z ih =>
    intro a2 M h
    refine aw_iload_n C (tb_at ok_X3_readBoth 5 rfl) rfl ?_
    refine aw_sipush C (tb_at ok_X3_readBoth 6 rfl) ks_160 ?_
    refine aw_icmp_ge C 44 (tb_at ok_X3_readBoth 7 rfl) (by decide) h (fun h => ?_) (fun h => ?_)
    · exact sw_vret C S (tb_at ok_X3_readBoth 22 rfl) h
    · refine aw_aload_n C (tb_at ok_X3_readBoth 8 rfl) rfl ?_
      refine aw_get C (ob_40 hn) rfl (by decide) rfl fl_RX3_25 (tb_at ok_X3_readBoth 9 rfl) ?_
      refine aw_bipush C (tb_at ok_X3_readBoth 10 rfl) kb_10 ?_
      refine aw_icmp_ne C 44 (tb_at ok_X3_readBoth 11 rfl) (by decide) h (fun h => ?_) (fun h => ?_)
      · refine aw_aload_n C (tb_at ok_X3_readBoth 12 rfl) rfl ?_
        refine sw_cVv C S [] [] (tb_at ok_X3_readBoth 13 rfl) h (fun q e => m_fR_advance hn e) mf_X3_advance (ob_40 hn) rfl rfl cw_RX3_43 rfl (Nat.succ_le_succ (Nat.le_trans (by decide) hB)) rfl (Nat.le_of_ble_eq_true rfl) (fun M2 h => ?_)
        refine aw_aload_n C (tb_at ok_X3_readBoth 14 rfl) rfl ?_
        refine aw_iload_n C (tb_at ok_X3_readBoth 15 rfl) rfl ?_
        refine sw_cVv C S [.int a1] [] (tb_at ok_X3_readBoth 16 rfl) h (fun q e => hrc.2.2.1 _ _ _ e) mf_X3_readNot (ob_40 hn) rfl rfl cw_RX3_65 rfl (Nat.le_refl _) rfl (Nat.le_of_ble_eq_true rfl) (fun M3 h => ?_)
        refine aw_aload_n C (tb_at ok_X3_readBoth 17 rfl) rfl ?_
        refine aw_bipush C (tb_at ok_X3_readBoth 18 rfl) kb_m10 ?_
        refine sw_cVv C S [.int (-10)] [] (tb_at ok_X3_readBoth 19 rfl) h (fun q e => m_fR_write hn e) mf_X3_write (ob_40 hn) rfl rfl cw_RX3_62 rfl (Nat.succ_le_succ (Nat.le_trans (by decide) hB)) rfl (Nat.le_of_ble_eq_true rfl) (fun M4 h => ?_)
        refine aw_iinc C [some (.ref 40), some (.int a1), some (.int (a2 + 1))] (tb_at ok_X3_readBoth 20 rfl) rfl S.2.2.2.1 (by decide) ki_1 rfl ?_
        refine aw_goto C 7 (tb_at ok_X3_readBoth 21 rfl) (by decide) ?_
        exact aw_loc [some (.ref 40), some (.int a1), some (.int (a2 + 1))] (sl_k (sl_k (sl_k sl_0))) (ih _ _ h)
      · exact sw_vret C S (tb_at ok_X3_readBoth 22 rfl) h
set_option maxHeartbeats 4000000 in
set_option maxRecDepth 20000 in
theorem t_fR_readBoth {K : Cx} {n : Nat} {a1 : Int32} {M : Mem} {r : Mem} {lvd : Nat} {rc : Nat → Int32 → Mem → Option Mem} (C : Ctx K RX3 cX3_readBoth) (S : SS K n (lvd + 1) 3 none (Tv n r)) (hB : 12 ≤ lvd) (hn : 85 ≤ n) (hrc : HR0 (kl K) (kw K) n lvd rc) (h : fR_readBoth rc a1 M = some r) : AS K n M 0 [some (.ref 40), some (.int a1), none] [] := by
  refine aw_aload_n C (tb_at ok_X3_readBoth 0 rfl) rfl ?_
  refine aw_iload_n C (tb_at ok_X3_readBoth 1 rfl) rfl ?_
  refine sw_cVv C S [.int a1] [] (tb_at ok_X3_readBoth 2 rfl) h (fun q e => hrc.2.2.1 _ _ _ e) mf_X3_readNot (ob_40 hn) rfl rfl cw_RX3_65 rfl (Nat.le_refl _) rfl (Nat.le_of_ble_eq_true rfl) (fun M1 h => ?_)
  refine aw_iconst C (tb_at ok_X3_readBoth 3 rfl) ki_0 ?_
  refine aw_istore_n C [some (.ref 40), some (.int a1), some (.int 0)] (tb_at ok_X3_readBoth 4 rfl) S.2.2.2.1 (by decide) rfl ?_
  exact aw_loc [some (.ref 40), some (.int a1), some (.int 0)] (sl_k (sl_k (sl_k sl_0))) (t_fR_readBoth_b7 C S hB hn hrc 1000 _ _ h)
def tb_X3_readEither : List (Nat × Instr × Nat) := [(0, .aload_n 0, 1), (1, .iload_n 1, 1), (2, .invokevirtual 59, 3), (5, .iconst 0, 1), (6, .istore_n 2, 1), (7, .iload_n 2, 1), (8, .sipush 160, 3), (11, .if_icmp .ge 33, 3), (14, .aload_n 0, 1), (15, .getfield 25, 3), (18, .bipush 9, 2), (20, .if_icmp .ne 24, 3), (23, .aload_n 0, 1), (24, .invokevirtual 43, 3), (27, .aload_n 0, 1), (28, .iload_n 1, 1), (29, .invokevirtual 59, 3), (32, .aload_n 0, 1), (33, .bipush (-9), 2), (35, .invokevirtual 62, 3), (38, .iinc 2 1, 3), (41, .goto (-34), 3), (44, .return_, 1)]
theorem ok_X3_readEither : TB cX3_readEither tb_X3_readEither := (by decide +kernel : tb_X3_readEither.all (fun q => tbq cX3_readEither q) = true)
set_option maxHeartbeats 4000000 in
set_option maxRecDepth 20000 in
theorem t_fR_readEither_b7 {K : Cx} {n : Nat} {a1 : Int32} {r : Mem} {lvd : Nat} {rc : Nat → Int32 → Mem → Option Mem} (C : Ctx K RX3 cX3_readEither) (S : SS K n (lvd + 1) 3 none (Tv n r)) (hB : 12 ≤ lvd) (hn : 85 ≤ n) (hrc : HR0 (kl K) (kw K) n lvd rc) : ∀ (z : Nat) (a2 : Int32) (M : Mem), fR_readEither_b7 rc a1 z a2 M = some r → AS K n M 7 [some (.ref 40), some (.int a1), some (.int a2)] [] := by
  intro z
  induction z with
  | zero => intro a2 M h; cases h
  | succ z ih =>
    intro a2 M h
    refine aw_iload_n C (tb_at ok_X3_readEither 5 rfl) rfl ?_
    refine aw_sipush C (tb_at ok_X3_readEither 6 rfl) ks_160 ?_
    refine aw_icmp_ge C 44 (tb_at ok_X3_readEither 7 rfl) (by decide) h (fun h => ?_) (fun h => ?_)
    · exact sw_vret C S (tb_at ok_X3_readEither 22 rfl) h
    · refine aw_aload_n C (tb_at ok_X3_readEither 8 rfl) rfl ?_
      refine aw_get C (ob_40 hn) rfl (by decide) rfl fl_RX3_25 (tb_at ok_X3_readEither 9 rfl) ?_
      refine aw_bipush C (tb_at ok_X3_readEither 10 rfl) kb_9 ?_
      refine aw_icmp_ne C 44 (tb_at ok_X3_readEither 11 rfl) (by decide) h (fun h => ?_) (fun h => ?_)
      · refine aw_aload_n C (tb_at ok_X3_readEither 12 rfl) rfl ?_
        refine sw_cVv C S [] [] (tb_at ok_X3_readEither 13 rfl) h (fun q e => m_fR_advance hn e) mf_X3_advance (ob_40 hn) rfl rfl cw_RX3_43 rfl (Nat.succ_le_succ (Nat.le_trans (by decide) hB)) rfl (Nat.le_of_ble_eq_true rfl) (fun M2 h => ?_)
        refine aw_aload_n C (tb_at ok_X3_readEither 14 rfl) rfl ?_
        refine aw_iload_n C (tb_at ok_X3_readEither 15 rfl) rfl ?_
        refine sw_cVv C S [.int a1] [] (tb_at ok_X3_readEither 16 rfl) h (fun q e => hrc.2.1 _ _ _ e) mf_X3_readBoth (ob_40 hn) rfl rfl cw_RX3_59 rfl (Nat.le_refl _) rfl (Nat.le_of_ble_eq_true rfl) (fun M3 h => ?_)
        refine aw_aload_n C (tb_at ok_X3_readEither 17 rfl) rfl ?_
        refine aw_bipush C (tb_at ok_X3_readEither 18 rfl) kb_m9 ?_
        refine sw_cVv C S [.int (-9)] [] (tb_at ok_X3_readEither 19 rfl) h (fun q e => m_fR_write hn e) mf_X3_write (ob_40 hn) rfl rfl cw_RX3_62 rfl (Nat.succ_le_succ (Nat.le_trans (by decide) hB)) rfl (Nat.le_of_ble_eq_true rfl) (fun M4 h => ?_)
        refine aw_iinc C [some (.ref 40), some (.int a1), some (.int (a2 + 1))] (tb_at ok_X3_readEither 20 rfl) rfl S.2.2.2.1 (by decide) ki_1 rfl ?_
        refine aw_goto C 7 (tb_at ok_X3_readEither 21 rfl) (by decide) ?_
        exact aw_loc [some (.ref 40), some (.int a1), some (.int (a2 + 1))] (sl_k (sl_k (sl_k sl_0))) (ih _ _ h)
      · exact sw_vret C S (tb_at ok_X3_readEither 22 rfl) h
set_option maxHeartbeats 4000000 in
set_option maxRecDepth 20000 in
theorem t_fR_readEither {K : Cx} {n : Nat} {a1 : Int32} {M : Mem} {r : Mem} {lvd : Nat} {rc : Nat → Int32 → Mem → Option Mem} (C : Ctx K RX3 cX3_readEither) (S : SS K n (lvd + 1) 3 none (Tv n r)) (hB : 12 ≤ lvd) (hn : 85 ≤ n) (hrc : HR0 (kl K) (kw K) n lvd rc) (h : fR_readEither rc a1 M = some r) : AS K n M 0 [some (.ref 40), some (.int a1), none] [] := by
  refine aw_aload_n C (tb_at ok_X3_readEither 0 rfl) rfl ?_
  refine aw_iload_n C (tb_at ok_X3_readEither 1 rfl) rfl ?_
  refine sw_cVv C S [.int a1] [] (tb_at ok_X3_readEither 2 rfl) h (fun q e => hrc.2.1 _ _ _ e) mf_X3_readBoth (ob_40 hn) rfl rfl cw_RX3_59 rfl (Nat.le_refl _) rfl (Nat.le_of_ble_eq_true rfl) (fun M1 h => ?_)
  refine aw_iconst C (tb_at ok_X3_readEither 3 rfl) ki_0 ?_
  refine aw_istore_n C [some (.ref 40), some (.int a1), some (.int 0)] (tb_at ok_X3_readEither 4 rfl) S.2.2.2.1 (by decide) rfl ?_
  exact aw_loc [some (.ref 40), some (.int a1), some (.int 0)] (sl_k (sl_k (sl_k sl_0))) (t_fR_readEither_b7 C S hB hn hrc 1000 _ _ h)
theorem m_rR {l : Launch} {w : Wd} {n : Nat} (hn : 85 ≤ n) : ∀ d : Nat, HR0 l w n (12 + d) (f_rR d) := by
  intro d
  induction d with
  | zero => exact ⟨fun _ _ _ h => (by cases h), fun _ _ _ h => (by cases h), fun _ _ _ h => (by cases h), fun _ _ _ h => (by cases h), fun _ _ _ h => (by cases h), fun _ _ _ h => (by cases h)⟩
  | succ d ih =>
    exact ⟨fun M a1 q h => sm_of (loc := [some (.ref 40), some (.int a1), none]) mf_X3_readEither (by omega) (Nat.le_of_ble_eq_true rfl) rfl (fun K hl hw C S => t_fR_readEither C S (Nat.le_add_right _ _) hn (by rw [hl, hw]; exact ih) h),
      fun M a1 q h => sm_of (loc := [some (.ref 40), some (.int a1), none]) mf_X3_readBoth (by omega) (Nat.le_of_ble_eq_true rfl) rfl (fun K hl hw C S => t_fR_readBoth C S (Nat.le_add_right _ _) hn (by rw [hl, hw]; exact ih) h),
      fun M a1 q h => sm_of (loc := [some (.ref 40), some (.int a1), none]) mf_X3_readNot (by omega) (Nat.le_of_ble_eq_true rfl) rfl (fun K hl hw C S => t_fR_readNot C S (Nat.le_add_right _ _) hn (by rw [hl, hw]; exact ih) h),
      fun M a1 q h => sm_of (loc := [some (.ref 40), some (.int a1), none, none]) mf_X3_readSum (by omega) (Nat.le_of_ble_eq_true rfl) rfl (fun K hl hw C S => t_fR_readSum C S (Nat.le_add_right _ _) hn (by rw [hl, hw]; exact ih) h),
      fun M a1 q h => sm_of (loc := [some (.ref 40), some (.int a1), none]) mf_X3_readTerm (by omega) (Nat.le_of_ble_eq_true rfl) rfl (fun K hl hw C S => t_fR_readTerm C S (Nat.le_add_right _ _) hn (by rw [hl, hw]; exact ih) h),
      fun M a1 q h => sm_of (loc := [some (.ref 40), some (.int a1)]) mf_X3_readOne (by omega) (Nat.le_of_ble_eq_true rfl) rfl (fun K hl hw C S => t_fR_readOne C S (Nat.le_add_right _ _) hn (by rw [hl, hw]; exact ih) h)⟩
def tb_X6_become : List (Nat × Instr × Nat) := [(0, .aload_n 1, 1), (1, .iconst 0, 1), (2, .aload_n 0, 1), (3, .getfield 9, 3), (6, .iconst 0, 1), (7, .sipush 160, 3), (10, .invokestatic 18, 3), (13, .aload_n 2, 1), (14, .iconst 0, 1), (15, .aload_n 0, 1), (16, .getfield 15, 3), (19, .iconst 0, 1), (20, .iconst 3, 1), (21, .invokestatic 18, 3), (24, .return_, 1)]
theorem ok_X6_become : TB cX6_become tb_X6_become := (by decide +kernel : tb_X6_become.all (fun q => tbq cX6_become q) = true)
set_option maxHeartbeats 4000000 in
set_option maxRecDepth 20000 in
theorem t_fG_become {K : Cx} {n : Nat} {q0 : Nat} {M : Mem} {r : Mem} (C : Ctx K RX6 cX6_become) (S : SS K n 1 3 none (Tv n r)) (hn : 85 ≤ n) (hq0 : gOK q0) (h : fG_become q0 M = some r) : AS K n M 0 [some (.ref q0), some (.ref 42), some (.ref 43)] [] := by
  refine aw_aload_n C (tb_at ok_X6_become 0 rfl) rfl ?_
  refine aw_iconst C (tb_at ok_X6_become 1 rfl) ki_0 ?_
  refine aw_aload_n C (tb_at ok_X6_become 2 rfl) rfl ?_
  refine aw_getR C (gO hn hq0) rfl (by decide) rfl (gP0 hq0) fl_RX6_9 (tb_at ok_X6_become 3 rfl) ?_
  refine aw_iconst C (tb_at ok_X6_become 4 rfl) ki_0 ?_
  refine aw_sipush C (tb_at ok_X6_become 5 rfl) ks_160 ?_
  refine sw_copy C (ob_42 hn) (gO1 hn hq0) ml_RX6_18 (Nat.le_of_ble_eq_true rfl) (tb_at ok_X6_become 6 rfl) h w_copy (fun h => ?_)
  refine aw_aload_n C (tb_at ok_X6_become 7 rfl) rfl ?_
  refine aw_iconst C (tb_at ok_X6_become 8 rfl) ki_0 ?_
  refine aw_aload_n C (tb_at ok_X6_become 9 rfl) rfl ?_
  refine aw_getR C (gO hn hq0) rfl (by decide) rfl (gP1 hq0) fl_RX6_15 (tb_at ok_X6_become 10 rfl) ?_
  refine aw_iconst C (tb_at ok_X6_become 11 rfl) ki_0 ?_
  refine aw_iconst C (tb_at ok_X6_become 12 rfl) ki_3 ?_
  refine sw_copy C (ob_43 hn) (gO2 hn hq0) ml_RX6_18 (Nat.le_of_ble_eq_true rfl) (tb_at ok_X6_become 13 rfl) h w_copy (fun h => ?_)
  exact sw_vret C S (tb_at ok_X6_become 14 rfl) h
theorem m_fG_become {l : Launch} {w : Wd} {n : Nat} {q0 : Nat} {M : Mem} {r : Mem} (hn : 85 ≤ n) (hq0 : gOK q0) (h : fG_become q0 M = some r) : CM l w yX6_become cX6_become 3 none 1 0 0 [.ref q0, .ref 42, .ref 43] n M (PD M) (Tv n r) := sm_of (loc := [some (.ref q0), some (.ref 42), some (.ref 43)]) mf_X6_become (by decide) (Nat.le_of_ble_eq_true rfl) rfl (fun K _ _ C S => t_fG_become C S hn hq0 h)
def tb_X3_read : List (Nat × Instr × Nat) := [(0, .aload_n 0, 1), (1, .iconst 0, 1), (2, .putfield 40, 3), (5, .aload_n 0, 1), (6, .iconst 0, 1), (7, .putfield 22, 3), (10, .aload_n 0, 1), (11, .iconst (-1), 1), (12, .putfield 31, 3), (15, .aload_n 0, 1), (16, .invokevirtual 43, 3), (19, .iconst 0, 1), (20, .istore_n 2, 1), (21, .iload_n 2, 1), (22, .iconst 3, 1), (23, .if_icmp .ge 38, 3), (26, .aload_n 0, 1), (27, .bipush 6, 2), (29, .iload_n 2, 1), (30, .iadd, 1), (31, .invokevirtual 46, 3), (34, .aload_n 0, 1), (35, .iconst 0, 1), (36, .invokevirtual 50, 3), (39, .aload_n 0, 1), (40, .bipush 59, 2), (42, .invokevirtual 46, 3), (45, .aload_n 0, 1), (46, .getfield 37, 3), (49, .iload_n 2, 1), (50, .aload_n 0, 1), (51, .getfield 40, 3), (54, .iastore, 1), (55, .iinc 2 1, 3), (58, .goto (-37), 3), (61, .aload_n 0, 1), (62, .bipush 13, 2), (64, .invokevirtual 46, 3), (67, .aload_n 0, 1), (68, .getfield 31, 3), (71, .iconst (-1), 1), (72, .if_icmp .ne 15, 3), (75, .aload_n 1, 1), (76, .aload_n 0, 1), (77, .getfield 34, 3), (80, .aload_n 0, 1), (81, .getfield 37, 3), (84, .invokevirtual 53, 3), (87, .aload_n 0, 1), (88, .iconst 0, 1), (89, .putfield 15, 3), (92, .aload_n 0, 1), (93, .getfield 31, 3), (96, .ireturn, 1)]
theorem ok_X3_read : TB cX3_read tb_X3_read := (by decide +kernel : tb_X3_read.all (fun q => tbq cX3_read q) = true)
set_option maxHeartbeats 4000000 in
set_option maxRecDepth 20000 in
theorem t_fR_read_b87 {K : Cx} {n : Nat} {M : Mem} {r : Int32 × Mem} (C : Ctx K RX3 cX3_read) (S : SS K n 73 3 (some .int) (Ti n r)) (hn : 85 ≤ n) (h : fR_read_b87 M = some r) : AS K n M 87 [some (.ref 40), none, none] [] := by
  refine aw_aload_n C (tb_at ok_X3_read 48 rfl) rfl ?_
  refine aw_iconst C (tb_at ok_X3_read 49 rfl) ki_0 ?_
  refine sw_put C (ob_40 hn) rfl (by decide) (by decide) (Or.inr (by decide)) rfl rfl rfl rfl fl_RX3_15 (tb_at ok_X3_read 50 rfl) ?_
  refine aw_aload_n C (tb_at ok_X3_read 51 rfl) rfl ?_
  refine aw_get C (ob_40 hn) rfl (by decide) rfl fl_RX3_31 (tb_at ok_X3_read 52 rfl) ?_
  exact sw_iret C S rfl (tb_at ok_X3_read 53 rfl) h
set_option maxHeartbeats 4000000 in
set_option maxRecDepth 20000 in
theorem t_fR_read_b21 {K : Cx} {n : Nat} {q1 : Nat} {r : Int32 × Mem} (C : Ctx K RX3 cX3_read) (S : SS K n 73 3 (some .int) (Ti n r)) (hn : 85 ≤ n) (hq1 : gOK q1) : ∀ (z : Nat) (a2 : Int32) (M : Mem), fR_read_b21 q1 z a2 M = some r → AS K n M 21 [some (.ref 40), some (.ref q1), some (.int a2)] [] := by
  intro z
  induction z with
  | zero => intro a2 M h; cases h
  | succ z ih =>
    intro a2 M h
    refine aw_iload_n C (tb_at ok_X3_read 13 rfl) rfl ?_
    refine aw_iconst C (tb_at ok_X3_read 14 rfl) ki_3 ?_
    refine aw_icmp_ge C 61 (tb_at ok_X3_read 15 rfl) (by decide) h (fun h => ?_) (fun h => ?_)
    · refine aw_aload_n C (tb_at ok_X3_read 35 rfl) rfl ?_
      refine aw_bipush C (tb_at ok_X3_read 36 rfl) kb_13 ?_
      refine sw_cVv C S [.int 13] [] (tb_at ok_X3_read 37 rfl) h (fun q e => m_fR_expect hn e) mf_X3_expect (ob_40 hn) rfl rfl cw_RX3_46 rfl (by decide) rfl (Nat.le_of_ble_eq_true rfl) (fun M2 h => ?_)
      refine aw_aload_n C (tb_at ok_X3_read 38 rfl) rfl ?_
      refine aw_get C (ob_40 hn) rfl (by decide) rfl fl_RX3_31 (tb_at ok_X3_read 39 rfl) ?_
      refine aw_iconst C (tb_at ok_X3_read 40 rfl) ki_m1 ?_
      refine aw_icmp_ne C 87 (tb_at ok_X3_read 41 rfl) (by decide) h (fun h => ?_) (fun h => ?_)
      · refine aw_aload_n C (tb_at ok_X3_read 42 rfl) rfl ?_
        refine aw_aload_n C (tb_at ok_X3_read 43 rfl) rfl ?_
        refine aw_getR C (ob_40 hn) rfl (by decide) rfl p_40_7 fl_RX3_34 (tb_at ok_X3_read 44 rfl) ?_
        refine aw_aload_n C (tb_at ok_X3_read 45 rfl) rfl ?_
        refine aw_getR C (ob_40 hn) rfl (by decide) rfl p_40_8 fl_RX3_37 (tb_at ok_X3_read 46 rfl) ?_
        refine sw_cVv C S [.ref 42, .ref 43] [] (tb_at ok_X3_read 47 rfl) h (fun q e => m_fG_become hn hq1 e) mf_X6_become (gO hn hq1) rfl rfl cw_RX3_53 rfl (by decide) rfl (Nat.le_of_ble_eq_true rfl) (fun M3 h => ?_)
        exact aw_loc [some (.ref 40), none, none] (sl_k (sl_n (sl_n sl_0))) (t_fR_read_b87 C S hn h)
      · exact aw_loc [some (.ref 40), none, none] (sl_k (sl_n (sl_n sl_0))) (t_fR_read_b87 C S hn h)
    · refine aw_aload_n C (tb_at ok_X3_read 16 rfl) rfl ?_
      refine aw_bipush C (tb_at ok_X3_read 17 rfl) kb_6 ?_
      refine aw_iload_n C (tb_at ok_X3_read 18 rfl) rfl ?_
      refine aw_iadd C (tb_at ok_X3_read 19 rfl) ?_
      refine sw_cVv C S [.int (6 + a2)] [] (tb_at ok_X3_read 20 rfl) h (fun q e => m_fR_expect hn e) mf_X3_expect (ob_40 hn) rfl rfl cw_RX3_46 rfl (by decide) rfl (Nat.le_of_ble_eq_true rfl) (fun M4 h => ?_)
      refine aw_aload_n C (tb_at ok_X3_read 21 rfl) rfl ?_
      refine aw_iconst C (tb_at ok_X3_read 22 rfl) ki_0 ?_
      refine sw_cVv C S [.int 0] [] (tb_at ok_X3_read 23 rfl) h (fun q e => (m_rR hn 60).1 _ _ _ e) mf_X3_readEither (ob_40 hn) rfl rfl cw_RX3_50 rfl (by decide) rfl (Nat.le_of_ble_eq_true rfl) (fun M5 h => ?_)
      refine aw_aload_n C (tb_at ok_X3_read 24 rfl) rfl ?_
      refine aw_bipush C (tb_at ok_X3_read 25 rfl) kb_59 ?_
      refine sw_cVv C S [.int 59] [] (tb_at ok_X3_read 26 rfl) h (fun q e => m_fR_expect hn e) mf_X3_expect (ob_40 hn) rfl rfl cw_RX3_46 rfl (by decide) rfl (Nat.le_of_ble_eq_true rfl) (fun M6 h => ?_)
      refine aw_aload_n C (tb_at ok_X3_read 27 rfl) rfl ?_
      refine aw_getR C (ob_40 hn) rfl (by decide) rfl p_40_8 fl_RX3_37 (tb_at ok_X3_read 28 rfl) ?_
      refine aw_iload_n C (tb_at ok_X3_read 29 rfl) rfl ?_
      refine aw_aload_n C (tb_at ok_X3_read 30 rfl) rfl ?_
      refine aw_get C (ob_40 hn) rfl (by decide) rfl fl_RX3_40 (tb_at ok_X3_read 31 rfl) ?_
      refine sw_iast C (ob_43 hn) (tb_at ok_X3_read 32 rfl) h (fun h => ?_)
      refine aw_iinc C [some (.ref 40), some (.ref q1), some (.int (a2 + 1))] (tb_at ok_X3_read 33 rfl) rfl S.2.2.2.1 (by decide) ki_1 rfl ?_
      refine aw_goto C 21 (tb_at ok_X3_read 34 rfl) (by decide) ?_
      exact aw_loc [some (.ref 40), some (.ref q1), some (.int (a2 + 1))] (sl_k (sl_k (sl_k sl_0))) (ih _ _ h)
set_option maxHeartbeats 4000000 in
set_option maxRecDepth 20000 in
theorem t_fR_read {K : Cx} {n : Nat} {q1 : Nat} {M : Mem} {r : Int32 × Mem} (C : Ctx K RX3 cX3_read) (S : SS K n 73 3 (some .int) (Ti n r)) (hn : 85 ≤ n) (hq1 : gOK q1) (h : fR_read q1 M = some r) : AS K n M 0 [some (.ref 40), some (.ref q1), none] [] := by
  refine aw_aload_n C (tb_at ok_X3_read 0 rfl) rfl ?_
  refine aw_iconst C (tb_at ok_X3_read 1 rfl) ki_0 ?_
  refine sw_put C (ob_40 hn) rfl (by decide) (by decide) (Or.inr (by decide)) rfl rfl rfl rfl fl_RX3_40 (tb_at ok_X3_read 2 rfl) ?_
  refine aw_aload_n C (tb_at ok_X3_read 3 rfl) rfl ?_
  refine aw_iconst C (tb_at ok_X3_read 4 rfl) ki_0 ?_
  refine sw_put C (ob_40 hn) rfl (by decide) (by decide) (Or.inr (by decide)) rfl rfl rfl rfl fl_RX3_22 (tb_at ok_X3_read 5 rfl) ?_
  refine aw_aload_n C (tb_at ok_X3_read 6 rfl) rfl ?_
  refine aw_iconst C (tb_at ok_X3_read 7 rfl) ki_m1 ?_
  refine sw_put C (ob_40 hn) rfl (by decide) (by decide) (Or.inr (by decide)) rfl rfl rfl rfl fl_RX3_31 (tb_at ok_X3_read 8 rfl) ?_
  refine aw_aload_n C (tb_at ok_X3_read 9 rfl) rfl ?_
  refine sw_cVv C S [] [] (tb_at ok_X3_read 10 rfl) h (fun q e => m_fR_advance hn e) mf_X3_advance (ob_40 hn) rfl rfl cw_RX3_43 rfl (by decide) rfl (Nat.le_of_ble_eq_true rfl) (fun M1 h => ?_)
  refine aw_iconst C (tb_at ok_X3_read 11 rfl) ki_0 ?_
  refine aw_istore_n C [some (.ref 40), some (.ref q1), some (.int 0)] (tb_at ok_X3_read 12 rfl) S.2.2.2.1 (by decide) rfl ?_
  exact aw_loc [some (.ref 40), some (.ref q1), some (.int 0)] (sl_k (sl_k (sl_k sl_0))) (t_fR_read_b21 C S hn hq1 1000 _ _ h)
theorem m_fR_read {l : Launch} {w : Wd} {n : Nat} {q1 : Nat} {M : Mem} {r : Int32 × Mem} (hn : 85 ≤ n) (hq1 : gOK q1) (h : fR_read q1 M = some r) : CM l w yX3_read cX3_read 3 (some .int) 73 0 0 [.ref 40, .ref q1] n M (PD M) (Ti n r) := sm_of (loc := [some (.ref 40), some (.ref q1), none]) mf_X3_read (by decide) (Nat.le_of_ble_eq_true rfl) rfl (fun K _ _ C S => t_fR_read C S hn hq1 h)
def tb_X4_isMissing : List (Nat × Instr × Nat) := [(0, .aload_n 0, 1), (1, .getfield 9, 3), (4, .iconst (-1), 1), (5, .if_icmp .ne 7, 3), (8, .iconst 1, 1), (9, .goto 4, 3), (12, .iconst 0, 1), (13, .ireturn, 1)]
theorem ok_X4_isMissing : TB cX4_isMissing tb_X4_isMissing := (by decide +kernel : tb_X4_isMissing.all (fun q => tbq cX4_isMissing q) = true)
set_option maxHeartbeats 4000000 in
set_option maxRecDepth 20000 in
theorem t_fS_isMissing {K : Cx} {n : Nat} {q0 : Nat} {M : Mem} {r : Int32 × Mem} (C : Ctx K RX4 cX4_isMissing) (S : SS K n 1 1 (some .boolean) (Ti n r)) (hn : 85 ≤ n) (hq0 : sOK q0) (h : fS_isMissing q0 M = some r) : AS K n M 0 [some (.ref q0)] [] := by
  refine aw_aload_n C (tb_at ok_X4_isMissing 0 rfl) rfl ?_
  refine aw_get C (sO hn hq0) rfl (by decide) rfl fl_RX4_9 (tb_at ok_X4_isMissing 1 rfl) ?_
  refine aw_iconst C (tb_at ok_X4_isMissing 2 rfl) ki_m1 ?_
  refine aw_icmp_ne C 12 (tb_at ok_X4_isMissing 3 rfl) (by decide) h (fun h => ?_) (fun h => ?_)
  · refine aw_iconst C (tb_at ok_X4_isMissing 4 rfl) ki_1 ?_
    refine aw_goto C 13 (tb_at ok_X4_isMissing 5 rfl) (by decide) ?_
    exact sw_iret C S rfl (tb_at ok_X4_isMissing 7 rfl) h
  · refine aw_iconst C (tb_at ok_X4_isMissing 6 rfl) ki_0 ?_
    exact sw_iret C S rfl (tb_at ok_X4_isMissing 7 rfl) h
theorem m_fS_isMissing {l : Launch} {w : Wd} {n : Nat} {q0 : Nat} {M : Mem} {r : Int32 × Mem} (hn : 85 ≤ n) (hq0 : sOK q0) (h : fS_isMissing q0 M = some r) : CM l w yX4_isMissing cX4_isMissing 1 (some .boolean) 1 0 0 [.ref q0] n M (PD M) (Ti n r) := sm_of (loc := [some (.ref q0)]) mf_X4_isMissing (by decide) (Nat.le_of_ble_eq_true rfl) rfl (fun K _ _ C S => t_fS_isMissing C S hn hq0 h)
def tb_X4_become : List (Nat × Instr × Nat) := [(0, .aload_n 0, 1), (1, .iload_n 1, 1), (2, .putfield 9, 3), (5, .aload_n 0, 1), (6, .iload_n 2, 1), (7, .putfield 15, 3), (10, .iconst 0, 1), (11, .istore_n 3, 1), (12, .iload_n 3, 1), (13, .bipush 40, 2), (15, .if_icmp .ge 16, 3), (18, .aload_n 0, 1), (19, .getfield 18, 3), (22, .iload_n 3, 1), (23, .iconst 0, 1), (24, .iastore, 1), (25, .iinc 3 1, 3), (28, .goto (-16), 3), (31, .return_, 1)]
theorem ok_X4_become : TB cX4_become tb_X4_become := (by decide +kernel : tb_X4_become.all (fun q => tbq cX4_become q) = true)
set_option maxHeartbeats 4000000 in
set_option maxRecDepth 20000 in
theorem t_fS_become_b12 {K : Cx} {n : Nat} {q0 : Nat} {r : Mem} (C : Ctx K RX4 cX4_become) (S : SS K n 1 4 none (Tv n r)) (hn : 85 ≤ n) (hq0 : sOK q0) : ∀ (z : Nat) (a3 : Int32) (M : Mem), fS_become_b12 q0 z a3 M = some r → AS K n M 12 [some (.ref q0), none, none, some (.int a3)] [] := by
  intro z
  induction z with
  | zero => intro a3 M h; cases h
  | succ z ih =>
    intro a3 M h
    refine aw_iload_n C (tb_at ok_X4_become 8 rfl) rfl ?_
    refine aw_bipush C (tb_at ok_X4_become 9 rfl) kb_40 ?_
    refine aw_icmp_ge C 31 (tb_at ok_X4_become 10 rfl) (by decide) h (fun h => ?_) (fun h => ?_)
    · exact sw_vret C S (tb_at ok_X4_become 18 rfl) h
    · refine aw_aload_n C (tb_at ok_X4_become 11 rfl) rfl ?_
      refine aw_getR C (sO hn hq0) rfl (by decide) rfl (sP2 hq0) fl_RX4_18 (tb_at ok_X4_become 12 rfl) ?_
      refine aw_iload_n C (tb_at ok_X4_become 13 rfl) rfl ?_
      refine aw_iconst C (tb_at ok_X4_become 14 rfl) ki_0 ?_
      refine sw_iast C (sO1 hn hq0) (tb_at ok_X4_become 15 rfl) h (fun h => ?_)
      refine aw_iinc C [some (.ref q0), none, none, some (.int (a3 + 1))] (tb_at ok_X4_become 16 rfl) rfl S.2.2.2.1 (by decide) ki_1 rfl ?_
      refine aw_goto C 12 (tb_at ok_X4_become 17 rfl) (by decide) ?_
      exact aw_loc [some (.ref q0), none, none, some (.int (a3 + 1))] (sl_k (sl_n (sl_n (sl_k sl_0)))) (ih _ _ h)
set_option maxHeartbeats 4000000 in
set_option maxRecDepth 20000 in
theorem t_fS_become {K : Cx} {n : Nat} {q0 : Nat} {a1 : Int32} {a2 : Int32} {M : Mem} {r : Mem} (C : Ctx K RX4 cX4_become) (S : SS K n 1 4 none (Tv n r)) (hn : 85 ≤ n) (hq0 : sOK q0) (h : fS_become q0 a1 a2 M = some r) : AS K n M 0 [some (.ref q0), some (.int a1), some (.int a2), none] [] := by
  refine aw_aload_n C (tb_at ok_X4_become 0 rfl) rfl ?_
  refine aw_iload_n C (tb_at ok_X4_become 1 rfl) rfl ?_
  refine sw_put C (sO hn hq0) rfl (by decide) (by decide) (Or.inl (sN45 hq0)) rfl rfl rfl rfl fl_RX4_9 (tb_at ok_X4_become 2 rfl) ?_
  refine aw_aload_n C (tb_at ok_X4_become 3 rfl) rfl ?_
  refine aw_iload_n C (tb_at ok_X4_become 4 rfl) rfl ?_
  refine sw_put C (sO hn hq0) rfl (by decide) (by decide) (Or.inr (by decide)) rfl rfl rfl rfl fl_RX4_15 (tb_at ok_X4_become 5 rfl) ?_
  refine aw_iconst C (tb_at ok_X4_become 6 rfl) ki_0 ?_
  refine aw_istore_n C [some (.ref q0), some (.int a1), some (.int a2), some (.int 0)] (tb_at ok_X4_become 7 rfl) S.2.2.2.1 (by decide) rfl ?_
  exact aw_loc [some (.ref q0), none, none, some (.int 0)] (sl_k (sl_n (sl_n (sl_k sl_0)))) (t_fS_become_b12 C S hn hq0 1000 _ _ h)
theorem m_fS_become {l : Launch} {w : Wd} {n : Nat} {q0 : Nat} {a1 : Int32} {a2 : Int32} {M : Mem} {r : Mem} (hn : 85 ≤ n) (hq0 : sOK q0) (h : fS_become q0 a1 a2 M = some r) : CM l w yX4_become cX4_become 4 none 1 0 0 [.ref q0, .int a1, .int a2] n M (PD M) (Tv n r) := sm_of (loc := [some (.ref q0), some (.int a1), some (.int a2), none]) mf_X4_become (by decide) (Nat.le_of_ble_eq_true rfl) rfl (fun K _ _ C S => t_fS_become C S hn hq0 h)
def tb_X4_put : List (Nat × Instr × Nat) := [(0, .iload_n 1, 1), (1, .aload_n 0, 1), (2, .getfield 15, 3), (5, .invokestatic 22, 3), (8, .ifCond .ne 4, 3), (11, .return_, 1), (12, .aload_n 0, 1), (13, .getfield 9, 3), (16, .ifCond .ne 14, 3), (19, .aload_n 0, 1), (20, .getfield 18, 3), (23, .iload_n 1, 1), (24, .iload_n 2, 1), (25, .i2b, 1), (26, .iastore, 1), (27, .goto 29, 3), (30, .aload_n 0, 1), (31, .getfield 9, 3), (34, .iconst 1, 1), (35, .if_icmp .ne 14, 3), (38, .aload_n 0, 1), (39, .getfield 18, 3), (42, .iload_n 1, 1), (43, .iload_n 2, 1), (44, .i2s, 1), (45, .iastore, 1), (46, .goto 10, 3), (49, .aload_n 0, 1), (50, .getfield 18, 3), (53, .iload_n 1, 1), (54, .iload_n 2, 1), (55, .iastore, 1), (56, .return_, 1)]
theorem ok_X4_put : TB cX4_put tb_X4_put := (by decide +kernel : tb_X4_put.all (fun q => tbq cX4_put q) = true)
set_option maxHeartbeats 4000000 in
set_option maxRecDepth 20000 in
theorem t_fS_put {K : Cx} {n : Nat} {q0 : Nat} {a1 : Int32} {a2 : Int32} {M : Mem} {r : Mem} (C : Ctx K RX4 cX4_put) (S : SS K n 2 3 none (Tv n r)) (hn : 85 ≤ n) (hq0 : sOK q0) (h : fS_put q0 a1 a2 M = some r) : AS K n M 0 [some (.ref q0), some (.int a1), some (.int a2)] [] := by
  refine aw_iload_n C (tb_at ok_X4_put 0 rfl) rfl ?_
  refine aw_aload_n C (tb_at ok_X4_put 1 rfl) rfl ?_
  refine aw_get C (sO hn hq0) rfl (by decide) rfl fl_RX4_15 (tb_at ok_X4_put 2 rfl) ?_
  refine sw_cSNi C S [.int a1, .int (M q0 1)] [] (tb_at ok_X4_put 3 rfl) h (fun q e => m_fN_within hn e) mf_X7_within cw_RX4_22 rfl (by decide) rfl (Nat.le_of_ble_eq_true rfl) (fun r1 M1 h => ?_)
  refine aw_if_ne C 12 (tb_at ok_X4_put 4 rfl) (by decide) h (fun h => ?_) (fun h => ?_)
  · exact sw_vret C S (tb_at ok_X4_put 5 rfl) h
  · refine aw_aload_n C (tb_at ok_X4_put 6 rfl) rfl ?_
    refine aw_get C (sO hn hq0) rfl (by decide) rfl fl_RX4_9 (tb_at ok_X4_put 7 rfl) ?_
    refine aw_if_ne C 30 (tb_at ok_X4_put 8 rfl) (by decide) h (fun h => ?_) (fun h => ?_)
    · refine aw_aload_n C (tb_at ok_X4_put 9 rfl) rfl ?_
      refine aw_getR C (sO hn hq0) rfl (by decide) rfl (sP2 hq0) fl_RX4_18 (tb_at ok_X4_put 10 rfl) ?_
      refine aw_iload_n C (tb_at ok_X4_put 11 rfl) rfl ?_
      refine aw_iload_n C (tb_at ok_X4_put 12 rfl) rfl ?_
      refine aw_i2b C (tb_at ok_X4_put 13 rfl) ?_
      refine sw_iast C (sO1 hn hq0) (tb_at ok_X4_put 14 rfl) h (fun h => ?_)
      refine aw_goto C 56 (tb_at ok_X4_put 15 rfl) (by decide) ?_
      exact sw_vret C S (tb_at ok_X4_put 32 rfl) h
    · refine aw_aload_n C (tb_at ok_X4_put 16 rfl) rfl ?_
      refine aw_get C (sO hn hq0) rfl (by decide) rfl fl_RX4_9 (tb_at ok_X4_put 17 rfl) ?_
      refine aw_iconst C (tb_at ok_X4_put 18 rfl) ki_1 ?_
      refine aw_icmp_ne C 49 (tb_at ok_X4_put 19 rfl) (by decide) h (fun h => ?_) (fun h => ?_)
      · refine aw_aload_n C (tb_at ok_X4_put 20 rfl) rfl ?_
        refine aw_getR C (sO hn hq0) rfl (by decide) rfl (sP2 hq0) fl_RX4_18 (tb_at ok_X4_put 21 rfl) ?_
        refine aw_iload_n C (tb_at ok_X4_put 22 rfl) rfl ?_
        refine aw_iload_n C (tb_at ok_X4_put 23 rfl) rfl ?_
        refine aw_i2s C (tb_at ok_X4_put 24 rfl) ?_
        refine sw_iast C (sO1 hn hq0) (tb_at ok_X4_put 25 rfl) h (fun h => ?_)
        refine aw_goto C 56 (tb_at ok_X4_put 26 rfl) (by decide) ?_
        exact sw_vret C S (tb_at ok_X4_put 32 rfl) h
      · refine aw_aload_n C (tb_at ok_X4_put 27 rfl) rfl ?_
        refine aw_getR C (sO hn hq0) rfl (by decide) rfl (sP2 hq0) fl_RX4_18 (tb_at ok_X4_put 28 rfl) ?_
        refine aw_iload_n C (tb_at ok_X4_put 29 rfl) rfl ?_
        refine aw_iload_n C (tb_at ok_X4_put 30 rfl) rfl ?_
        refine sw_iast C (sO1 hn hq0) (tb_at ok_X4_put 31 rfl) h (fun h => ?_)
        exact sw_vret C S (tb_at ok_X4_put 32 rfl) h
theorem m_fS_put {l : Launch} {w : Wd} {n : Nat} {q0 : Nat} {a1 : Int32} {a2 : Int32} {M : Mem} {r : Mem} (hn : 85 ≤ n) (hq0 : sOK q0) (h : fS_put q0 a1 a2 M = some r) : CM l w yX4_put cX4_put 3 none 2 0 0 [.ref q0, .int a1, .int a2] n M (PD M) (Tv n r) := sm_of (loc := [some (.ref q0), some (.int a1), some (.int a2)]) mf_X4_put (by decide) (Nat.le_of_ble_eq_true rfl) rfl (fun K _ _ C S => t_fS_put C S hn hq0 h)
def tb_X4_has : List (Nat × Instr × Nat) := [(0, .iload_n 1, 1), (1, .ifCond .lt 29, 3), (4, .iload_n 2, 1), (5, .ifCond .lt 25, 3), (8, .iload_n 2, 1), (9, .aload_n 0, 1), (10, .getfield 15, 3), (13, .if_icmp .gt 17, 3), (16, .iload_n 1, 1), (17, .aload_n 0, 1), (18, .getfield 15, 3), (21, .iload_n 2, 1), (22, .isub, 1), (23, .if_icmp .gt 7, 3), (26, .iconst 1, 1), (27, .goto 4, 3), (30, .iconst 0, 1), (31, .ireturn, 1)]
theorem ok_X4_has : TB cX4_has tb_X4_has := (by decide +kernel : tb_X4_has.all (fun q => tbq cX4_has q) = true)
set_option maxHeartbeats 4000000 in
set_option maxRecDepth 20000 in
theorem t_fS_has {K : Cx} {n : Nat} {q0 : Nat} {a1 : Int32} {a2 : Int32} {M : Mem} {r : Int32 × Mem} (C : Ctx K RX4 cX4_has) (S : SS K n 1 3 (some .boolean) (Ti n r)) (hn : 85 ≤ n) (hq0 : sOK q0) (h : fS_has q0 a1 a2 M = some r) : AS K n M 0 [some (.ref q0), some (.int a1), some (.int a2)] [] := by
  refine aw_iload_n C (tb_at ok_X4_has 0 rfl) rfl ?_
  refine aw_if_lt C 30 (tb_at ok_X4_has 1 rfl) (by decide) h (fun h => ?_) (fun h => ?_)
  · refine aw_iconst C (tb_at ok_X4_has 16 rfl) ki_0 ?_
    exact sw_iret C S rfl (tb_at ok_X4_has 17 rfl) h
  · refine aw_iload_n C (tb_at ok_X4_has 2 rfl) rfl ?_
    refine aw_if_lt C 30 (tb_at ok_X4_has 3 rfl) (by decide) h (fun h => ?_) (fun h => ?_)
    · refine aw_iconst C (tb_at ok_X4_has 16 rfl) ki_0 ?_
      exact sw_iret C S rfl (tb_at ok_X4_has 17 rfl) h
    · refine aw_iload_n C (tb_at ok_X4_has 4 rfl) rfl ?_
      refine aw_aload_n C (tb_at ok_X4_has 5 rfl) rfl ?_
      refine aw_get C (sO hn hq0) rfl (by decide) rfl fl_RX4_15 (tb_at ok_X4_has 6 rfl) ?_
      refine aw_icmp_gt C 30 (tb_at ok_X4_has 7 rfl) (by decide) h (fun h => ?_) (fun h => ?_)
      · refine aw_iconst C (tb_at ok_X4_has 16 rfl) ki_0 ?_
        exact sw_iret C S rfl (tb_at ok_X4_has 17 rfl) h
      · refine aw_iload_n C (tb_at ok_X4_has 8 rfl) rfl ?_
        refine aw_aload_n C (tb_at ok_X4_has 9 rfl) rfl ?_
        refine aw_get C (sO hn hq0) rfl (by decide) rfl fl_RX4_15 (tb_at ok_X4_has 10 rfl) ?_
        refine aw_iload_n C (tb_at ok_X4_has 11 rfl) rfl ?_
        refine aw_isub C (tb_at ok_X4_has 12 rfl) ?_
        refine aw_icmp_gt C 30 (tb_at ok_X4_has 13 rfl) (by decide) h (fun h => ?_) (fun h => ?_)
        · refine aw_iconst C (tb_at ok_X4_has 16 rfl) ki_0 ?_
          exact sw_iret C S rfl (tb_at ok_X4_has 17 rfl) h
        · refine aw_iconst C (tb_at ok_X4_has 14 rfl) ki_1 ?_
          refine aw_goto C 31 (tb_at ok_X4_has 15 rfl) (by decide) ?_
          exact sw_iret C S rfl (tb_at ok_X4_has 17 rfl) h
theorem m_fS_has {l : Launch} {w : Wd} {n : Nat} {q0 : Nat} {a1 : Int32} {a2 : Int32} {M : Mem} {r : Int32 × Mem} (hn : 85 ≤ n) (hq0 : sOK q0) (h : fS_has q0 a1 a2 M = some r) : CM l w yX4_has cX4_has 3 (some .boolean) 1 0 0 [.ref q0, .int a1, .int a2] n M (PD M) (Ti n r) := sm_of (loc := [some (.ref q0), some (.int a1), some (.int a2)]) mf_X4_has (by decide) (Nat.le_of_ble_eq_true rfl) rfl (fun K _ _ C S => t_fS_has C S hn hq0 h)
def tb_X7_toldOfMaid : List (Nat × Instr × Nat) := [(0, .iload_n 1, 1), (1, .tableswitch 51 4 7 #[31, 36, 41, 46], 31), (32, .aload_n 0, 1), (33, .getfield 139, 3), (36, .ireturn, 1), (37, .aload_n 0, 1), (38, .getfield 142, 3), (41, .ireturn, 1), (42, .aload_n 0, 1), (43, .getfield 145, 3), (46, .ireturn, 1), (47, .aload_n 0, 1), (48, .getfield 123, 3), (51, .ireturn, 1), (52, .iload_n 1, 1), (53, .bipush 10, 2), (55, .isub, 1), (56, .iconst 5, 1), (57, .invokestatic 87, 3), (60, .ifCond .eq 14, 3), (63, .aload_n 0, 1), (64, .iload_n 1, 1), (65, .bipush 10, 2), (67, .isub, 1), (68, .invokevirtual 148, 3), (71, .goto 5, 3), (74, .bipush (-2), 2), (76, .ireturn, 1)]
theorem ok_X7_toldOfMaid : TB cX7_toldOfMaid tb_X7_toldOfMaid := (by decide +kernel : tb_X7_toldOfMaid.all (fun q => tbq cX7_toldOfMaid q) = true)
set_option maxHeartbeats 4000000 in
set_option maxRecDepth 20000 in
theorem t_fN_toldOfMaid {K : Cx} {n : Nat} {q0 : Nat} {a1 : Int32} {M : Mem} {r : Int32 × Mem} (C : Ctx K RX7 cX7_toldOfMaid) (S : SS K n 3 2 (some .int) (Ti n r)) (hn : 85 ≤ n) (hq0 : aOK q0) (h : fN_toldOfMaid q0 a1 M = some r) : AS K n M 0 [some (.ref q0), some (.int a1)] [] := by
  refine aw_iload_n C (tb_at ok_X7_toldOfMaid 0 rfl) rfl ?_
  by_cases c1 : a1 = 4
  · refine aw_tsIn C 31 32 (tb_at ok_X7_toldOfMaid 1 rfl) (by rw [c1]; decide) (by rw [c1]; decide) (by rw [c1]; rfl) (by decide) ?_
    have h := (if_pos c1).symm.trans h
    refine aw_aload_n C (tb_at ok_X7_toldOfMaid 2 rfl) rfl ?_
    refine aw_get C (aO hn hq0) rfl (by decide) rfl fl_RX7_139 (tb_at ok_X7_toldOfMaid 3 rfl) ?_
    exact sw_iret C S rfl (tb_at ok_X7_toldOfMaid 4 rfl) h
  have h := (if_neg c1).symm.trans h
  by_cases c2 : a1 = 5
  · refine aw_tsIn C 36 37 (tb_at ok_X7_toldOfMaid 1 rfl) (by rw [c2]; decide) (by rw [c2]; decide) (by rw [c2]; rfl) (by decide) ?_
    have h := (if_pos c2).symm.trans h
    refine aw_aload_n C (tb_at ok_X7_toldOfMaid 5 rfl) rfl ?_
    refine aw_get C (aO hn hq0) rfl (by decide) rfl fl_RX7_142 (tb_at ok_X7_toldOfMaid 6 rfl) ?_
    exact sw_iret C S rfl (tb_at ok_X7_toldOfMaid 7 rfl) h
  have h := (if_neg c2).symm.trans h
  by_cases c3 : a1 = 6
  · refine aw_tsIn C 41 42 (tb_at ok_X7_toldOfMaid 1 rfl) (by rw [c3]; decide) (by rw [c3]; decide) (by rw [c3]; rfl) (by decide) ?_
    have h := (if_pos c3).symm.trans h
    refine aw_aload_n C (tb_at ok_X7_toldOfMaid 8 rfl) rfl ?_
    refine aw_get C (aO hn hq0) rfl (by decide) rfl fl_RX7_145 (tb_at ok_X7_toldOfMaid 9 rfl) ?_
    exact sw_iret C S rfl (tb_at ok_X7_toldOfMaid 10 rfl) h
  have h := (if_neg c3).symm.trans h
  by_cases c4 : a1 = 7
  · refine aw_tsIn C 46 47 (tb_at ok_X7_toldOfMaid 1 rfl) (by rw [c4]; decide) (by rw [c4]; decide) (by rw [c4]; rfl) (by decide) ?_
    have h := (if_pos c4).symm.trans h
    refine aw_aload_n C (tb_at ok_X7_toldOfMaid 11 rfl) rfl ?_
    refine aw_get C (aO hn hq0) rfl (by decide) rfl fl_RX7_123 (tb_at ok_X7_toldOfMaid 12 rfl) ?_
    exact sw_iret C S rfl (tb_at ok_X7_toldOfMaid 13 rfl) h
  have h := (if_neg c4).symm.trans h
  refine aw_tsOut C 52 (tb_at ok_X7_toldOfMaid 1 rfl) ?_ (by decide) ?_
  · rcases Int.lt_or_le (a1).toInt 4 with q | q
    · exact Or.inl q
    · refine Or.inr (Int.lt_of_not_ge (fun q2 => ?_))
      have q3 : (a1).toInt = 4 ∨ (a1).toInt = 5 ∨ (a1).toInt = 6 ∨ (a1).toInt = 7 := by omega
      rcases q3 with e | e | e | e
      · exact c1 (Int32.toInt_inj.mp (e.trans (by decide)))
      · exact c2 (Int32.toInt_inj.mp (e.trans (by decide)))
      · exact c3 (Int32.toInt_inj.mp (e.trans (by decide)))
      · exact c4 (Int32.toInt_inj.mp (e.trans (by decide)))
  refine aw_iload_n C (tb_at ok_X7_toldOfMaid 14 rfl) rfl ?_
  refine aw_bipush C (tb_at ok_X7_toldOfMaid 15 rfl) kb_10 ?_
  refine aw_isub C (tb_at ok_X7_toldOfMaid 16 rfl) ?_
  refine aw_iconst C (tb_at ok_X7_toldOfMaid 17 rfl) ki_5 ?_
  refine sw_cSi C S [.int (a1 - 10), .int 5] [] (tb_at ok_X7_toldOfMaid 18 rfl) h (fun q e => m_fN_within hn e) mf_X7_within cw_RX7_87 rfl (by decide) rfl (Nat.le_of_ble_eq_true rfl) (fun r5 M5 h => ?_)
  refine aw_if_eq C 74 (tb_at ok_X7_toldOfMaid 19 rfl) (by decide) h (fun h => ?_) (fun h => ?_)
  · refine aw_bipush C (tb_at ok_X7_toldOfMaid 26 rfl) kb_m2 ?_
    exact sw_iret C S rfl (tb_at ok_X7_toldOfMaid 27 rfl) h
  · refine aw_aload_n C (tb_at ok_X7_toldOfMaid 20 rfl) rfl ?_
    refine aw_iload_n C (tb_at ok_X7_toldOfMaid 21 rfl) rfl ?_
    refine aw_bipush C (tb_at ok_X7_toldOfMaid 22 rfl) kb_10 ?_
    refine aw_isub C (tb_at ok_X7_toldOfMaid 23 rfl) ?_
    refine sw_cVi C S [.int (a1 - 10)] [] (tb_at ok_X7_toldOfMaid 24 rfl) h (fun q e => m_fA_roomListed hn hq0 e) mf_X2_roomListed (aO hn hq0) rfl rfl cw_RX7_148 rfl (by decide) rfl (Nat.le_of_ble_eq_true rfl) (fun r6 M6 h => ?_)
    refine aw_goto C 76 (tb_at ok_X7_toldOfMaid 25 rfl) (by decide) ?_
    exact sw_iret C S rfl (tb_at ok_X7_toldOfMaid 27 rfl) h
theorem m_fN_toldOfMaid {l : Launch} {w : Wd} {n : Nat} {q0 : Nat} {a1 : Int32} {M : Mem} {r : Int32 × Mem} (hn : 85 ≤ n) (hq0 : aOK q0) (h : fN_toldOfMaid q0 a1 M = some r) : CM l w yX7_toldOfMaid cX7_toldOfMaid 2 (some .int) 3 0 0 [.ref q0, .int a1] n M (PD M) (Ti n r) := sm_of (loc := [some (.ref q0), some (.int a1)]) mf_X7_toldOfMaid (by decide) (Nat.le_of_ble_eq_true rfl) rfl (fun K _ _ C S => t_fN_toldOfMaid C S hn hq0 h)
def tb_X7_told : List (Nat × Instr × Nat) := [(0, .iload_n 2, 1), (1, .tableswitch 121 0 3 #[31, 39, 63, 92], 31), (32, .aload_n 0, 1), (33, .getfield 10, 3), (36, .getfield 129, 3), (39, .ireturn, 1), (40, .iload_n 1, 1), (41, .bipush 8, 2), (43, .invokestatic 87, 3), (46, .ifCond .eq 15, 3), (49, .aload_n 0, 1), (50, .getfield 10, 3), (53, .getfield 132, 3), (56, .iload_n 1, 1), (57, .iaload, 1), (58, .goto 5, 3), (61, .bipush (-2), 2), (63, .ireturn, 1), (64, .iload_n 1, 1), (65, .aload_n 0, 1), (66, .getfield 10, 3), (69, .getfield 102, 3), (72, .invokestatic 87, 3), (75, .ifCond .eq 15, 3), (78, .aload_n 0, 1), (79, .getfield 10, 3), (82, .getfield 105, 3), (85, .iload_n 1, 1), (86, .iaload, 1), (87, .goto 5, 3), (90, .bipush (-2), 2), (92, .ireturn, 1), (93, .iload_n 1, 1), (94, .aload_n 0, 1), (95, .getfield 10, 3), (98, .getfield 102, 3), (101, .invokestatic 87, 3), (104, .ifCond .eq 15, 3), (107, .aload_n 0, 1), (108, .getfield 10, 3), (111, .getfield 108, 3), (114, .iload_n 1, 1), (115, .iaload, 1), (116, .goto 5, 3), (119, .bipush (-2), 2), (121, .ireturn, 1), (122, .iload_n 1, 1), (123, .aload_n 0, 1), (124, .getfield 10, 3), (127, .getfield 111, 3), (130, .invokestatic 87, 3), (133, .ifCond .eq 19, 3), (136, .aload_n 0, 1), (137, .getfield 10, 3), (140, .getfield 114, 3), (143, .iload_n 1, 1), (144, .aaload, 1), (145, .iload_n 2, 1), (146, .invokestatic 135, 3), (149, .goto 5, 3), (152, .bipush (-2), 2), (154, .ireturn, 1)]
theorem ok_X7_told : TB cX7_told tb_X7_told := (by decide +kernel : tb_X7_told.all (fun q => tbq cX7_told q) = true)
set_option maxHeartbeats 4000000 in
set_option maxRecDepth 20000 in
theorem t_fN_told {K : Cx} {n : Nat} {a1 : Int32} {a2 : Int32} {M : Mem} {r : Int32 × Mem} (C : Ctx K RX7 cX7_told) (S : SS K n 4 3 (some .int) (Ti n r)) (hn : 85 ≤ n) (h : fN_told a1 a2 M = some r) : AS K n M 0 [some (.ref 0), some (.int a1), some (.int a2)] [] := by
  refine aw_iload_n C (tb_at ok_X7_told 0 rfl) rfl ?_
  by_cases c1 : a2 = 0
  · refine aw_tsIn C 31 32 (tb_at ok_X7_told 1 rfl) (by rw [c1]; decide) (by rw [c1]; decide) (by rw [c1]; rfl) (by decide) ?_
    have h := (if_pos c1).symm.trans h
    refine aw_aload_n C (tb_at ok_X7_told 2 rfl) rfl ?_
    refine aw_getR C (ob_0 hn) rfl (by decide) rfl p_0_0 fl_RX7_10 (tb_at ok_X7_told 3 rfl) ?_
    refine aw_get C (ob_1 hn) rfl (by decide) rfl fl_RX7_129 (tb_at ok_X7_told 4 rfl) ?_
    exact sw_iret C S rfl (tb_at ok_X7_told 5 rfl) h
  have h := (if_neg c1).symm.trans h
  by_cases c3 : a2 = 1
  · refine aw_tsIn C 39 40 (tb_at ok_X7_told 1 rfl) (by rw [c3]; decide) (by rw [c3]; decide) (by rw [c3]; rfl) (by decide) ?_
    have h := (if_pos c3).symm.trans h
    refine aw_iload_n C (tb_at ok_X7_told 6 rfl) rfl ?_
    refine aw_bipush C (tb_at ok_X7_told 7 rfl) kb_8 ?_
    refine sw_cSi C S [.int a1, .int 8] [] (tb_at ok_X7_told 8 rfl) h (fun q e => m_fN_within hn e) mf_X7_within cw_RX7_87 rfl (by decide) rfl (Nat.le_of_ble_eq_true rfl) (fun r2 M2 h => ?_)
    refine aw_if_eq C 61 (tb_at ok_X7_told 9 rfl) (by decide) h (fun h => ?_) (fun h => ?_)
    · refine aw_bipush C (tb_at ok_X7_told 16 rfl) kb_m2 ?_
      exact sw_iret C S rfl (tb_at ok_X7_told 17 rfl) h
    · refine aw_aload_n C (tb_at ok_X7_told 10 rfl) rfl ?_
      refine aw_getR C (ob_0 hn) rfl (by decide) rfl p_0_0 fl_RX7_10 (tb_at ok_X7_told 11 rfl) ?_
      refine aw_getR C (ob_1 hn) rfl (by decide) rfl p_1_6 fl_RX7_132 (tb_at ok_X7_told 12 rfl) ?_
      refine aw_iload_n C (tb_at ok_X7_told 13 rfl) rfl ?_
      refine aw_iald C (ob_4 hn) (tb_at ok_X7_told 14 rfl) h (fun h => ?_)
      refine aw_goto C 63 (tb_at ok_X7_told 15 rfl) (by decide) ?_
      exact sw_iret C S rfl (tb_at ok_X7_told 17 rfl) h
  have h := (if_neg c3).symm.trans h
  by_cases c5 : a2 = 2
  · refine aw_tsIn C 63 64 (tb_at ok_X7_told 1 rfl) (by rw [c5]; decide) (by rw [c5]; decide) (by rw [c5]; rfl) (by decide) ?_
    have h := (if_pos c5).symm.trans h
    refine aw_iload_n C (tb_at ok_X7_told 18 rfl) rfl ?_
    refine aw_aload_n C (tb_at ok_X7_told 19 rfl) rfl ?_
    refine aw_getR C (ob_0 hn) rfl (by decide) rfl p_0_0 fl_RX7_10 (tb_at ok_X7_told 20 rfl) ?_
    refine aw_get C (ob_1 hn) rfl (by decide) rfl fl_RX7_102 (tb_at ok_X7_told 21 rfl) ?_
    refine sw_cSi C S [.int a1, .int (M 1 1)] [] (tb_at ok_X7_told 22 rfl) h (fun q e => m_fN_within hn e) mf_X7_within cw_RX7_87 rfl (by decide) rfl (Nat.le_of_ble_eq_true rfl) (fun r4 M4 h => ?_)
    refine aw_if_eq C 90 (tb_at ok_X7_told 23 rfl) (by decide) h (fun h => ?_) (fun h => ?_)
    · refine aw_bipush C (tb_at ok_X7_told 30 rfl) kb_m2 ?_
      exact sw_iret C S rfl (tb_at ok_X7_told 31 rfl) h
    · refine aw_aload_n C (tb_at ok_X7_told 24 rfl) rfl ?_
      refine aw_getR C (ob_0 hn) rfl (by decide) rfl p_0_0 fl_RX7_10 (tb_at ok_X7_told 25 rfl) ?_
      refine aw_getR C (ob_1 hn) rfl (by decide) rfl p_1_4 fl_RX7_105 (tb_at ok_X7_told 26 rfl) ?_
      refine aw_iload_n C (tb_at ok_X7_told 27 rfl) rfl ?_
      refine aw_iald C (ob_2 hn) (tb_at ok_X7_told 28 rfl) h (fun h => ?_)
      refine aw_goto C 92 (tb_at ok_X7_told 29 rfl) (by decide) ?_
      exact sw_iret C S rfl (tb_at ok_X7_told 31 rfl) h
  have h := (if_neg c5).symm.trans h
  by_cases c7 : a2 = 3
  · refine aw_tsIn C 92 93 (tb_at ok_X7_told 1 rfl) (by rw [c7]; decide) (by rw [c7]; decide) (by rw [c7]; rfl) (by decide) ?_
    have h := (if_pos c7).symm.trans h
    refine aw_iload_n C (tb_at ok_X7_told 32 rfl) rfl ?_
    refine aw_aload_n C (tb_at ok_X7_told 33 rfl) rfl ?_
    refine aw_getR C (ob_0 hn) rfl (by decide) rfl p_0_0 fl_RX7_10 (tb_at ok_X7_told 34 rfl) ?_
    refine aw_get C (ob_1 hn) rfl (by decide) rfl fl_RX7_102 (tb_at ok_X7_told 35 rfl) ?_
    refine sw_cSi C S [.int a1, .int (M 1 1)] [] (tb_at ok_X7_told 36 rfl) h (fun q e => m_fN_within hn e) mf_X7_within cw_RX7_87 rfl (by decide) rfl (Nat.le_of_ble_eq_true rfl) (fun r6 M6 h => ?_)
    refine aw_if_eq C 119 (tb_at ok_X7_told 37 rfl) (by decide) h (fun h => ?_) (fun h => ?_)
    · refine aw_bipush C (tb_at ok_X7_told 44 rfl) kb_m2 ?_
      exact sw_iret C S rfl (tb_at ok_X7_told 45 rfl) h
    · refine aw_aload_n C (tb_at ok_X7_told 38 rfl) rfl ?_
      refine aw_getR C (ob_0 hn) rfl (by decide) rfl p_0_0 fl_RX7_10 (tb_at ok_X7_told 39 rfl) ?_
      refine aw_getR C (ob_1 hn) rfl (by decide) rfl p_1_5 fl_RX7_108 (tb_at ok_X7_told 40 rfl) ?_
      refine aw_iload_n C (tb_at ok_X7_told 41 rfl) rfl ?_
      refine aw_iald C (ob_3 hn) (tb_at ok_X7_told 42 rfl) h (fun h => ?_)
      refine aw_goto C 121 (tb_at ok_X7_told 43 rfl) (by decide) ?_
      exact sw_iret C S rfl (tb_at ok_X7_told 45 rfl) h
  have h := (if_neg c7).symm.trans h
  refine aw_tsOut C 122 (tb_at ok_X7_told 1 rfl) ?_ (by decide) ?_
  · rcases Int.lt_or_le (a2).toInt 0 with q | q
    · exact Or.inl q
    · refine Or.inr (Int.lt_of_not_ge (fun q2 => ?_))
      have q3 : (a2).toInt = 0 ∨ (a2).toInt = 1 ∨ (a2).toInt = 2 ∨ (a2).toInt = 3 := by omega
      rcases q3 with e | e | e | e
      · exact c1 (Int32.toInt_inj.mp (e.trans (by decide)))
      · exact c3 (Int32.toInt_inj.mp (e.trans (by decide)))
      · exact c5 (Int32.toInt_inj.mp (e.trans (by decide)))
      · exact c7 (Int32.toInt_inj.mp (e.trans (by decide)))
  refine aw_iload_n C (tb_at ok_X7_told 46 rfl) rfl ?_
  refine aw_aload_n C (tb_at ok_X7_told 47 rfl) rfl ?_
  refine aw_getR C (ob_0 hn) rfl (by decide) rfl p_0_0 fl_RX7_10 (tb_at ok_X7_told 48 rfl) ?_
  refine aw_get C (ob_1 hn) rfl (by decide) rfl fl_RX7_111 (tb_at ok_X7_told 49 rfl) ?_
  refine sw_cSi C S [.int a1, .int (M 1 2)] [] (tb_at ok_X7_told 50 rfl) h (fun q e => m_fN_within hn e) mf_X7_within cw_RX7_87 rfl (by decide) rfl (Nat.le_of_ble_eq_true rfl) (fun r8 M8 h => ?_)
  refine aw_if_eq C 152 (tb_at ok_X7_told 51 rfl) (by decide) h (fun h => ?_) (fun h => ?_)
  · refine aw_bipush C (tb_at ok_X7_told 60 rfl) kb_m2 ?_
    exact sw_iret C S rfl (tb_at ok_X7_told 61 rfl) h
  · refine aw_aload_n C (tb_at ok_X7_told 52 rfl) rfl ?_
    refine aw_getR C (ob_0 hn) rfl (by decide) rfl p_0_0 fl_RX7_10 (tb_at ok_X7_told 53 rfl) ?_
    refine aw_getR C (ob_1 hn) rfl (by decide) rfl p_1_7 fl_RX7_114 (tb_at ok_X7_told 54 rfl) ?_
    refine aw_iload_n C (tb_at ok_X7_told 55 rfl) rfl ?_
    refine sw_aald C 2 (ob_5 hn) (by decide) rfl (tb_at ok_X7_told 56 rfl) (fun z => hPA_5 z) h (fun hi9 h => ?_)
    refine aw_iload_n C (tb_at ok_X7_told 57 rfl) rfl ?_
    refine sw_cSi C S [.ref (6 + 2 * ix a1), .int a2] [] (tb_at ok_X7_told 58 rfl) h (fun q e => m_fN_toldOfMaid hn (hA_5 hi9) e) mf_X7_toldOfMaid cw_RX7_135 rfl (by decide) rfl (Nat.le_of_ble_eq_true rfl) (fun r10 M10 h => ?_)
    refine aw_goto C 154 (tb_at ok_X7_told 59 rfl) (by decide) ?_
    exact sw_iret C S rfl (tb_at ok_X7_told 61 rfl) h
theorem m_fN_told {l : Launch} {w : Wd} {n : Nat} {a1 : Int32} {a2 : Int32} {M : Mem} {r : Int32 × Mem} (hn : 85 ≤ n) (h : fN_told a1 a2 M = some r) : CM l w yX7_told cX7_told 3 (some .int) 4 0 0 [.ref 0, .int a1, .int a2] n M (PD M) (Ti n r) := sm_of (loc := [some (.ref 0), some (.int a1), some (.int a2)]) mf_X7_told (by decide) (Nat.le_of_ble_eq_true rfl) rfl (fun K _ _ C S => t_fN_told C S hn h)
def tb_X7_set : List (Nat × Instr × Nat) := [(0, .iload_n 1, 1), (1, .getstatic 84, 3), (4, .arraylength, 1), (5, .invokestatic 87, 3), (8, .ifCond .eq 21, 3), (11, .iload_n 3, 1), (12, .getstatic 84, 3), (15, .iload_n 1, 1), (16, .iaload, 1), (17, .if_icmp .lt 12, 3), (20, .iload_n 3, 1), (21, .getstatic 91, 3), (24, .iload_n 1, 1), (25, .iaload, 1), (26, .if_icmp .le 6, 3), (29, .bipush (-2), 2), (31, .ireturn, 1), (32, .aload_n 0, 1), (33, .iload_n 2, 1), (34, .iload_n 1, 1), (35, .invokevirtual 94, 3), (38, .istore 4, 2), (40, .iload 4, 2), (42, .bipush (-2), 2), (44, .if_icmp .eq 13, 3), (47, .aload_n 0, 1), (48, .getfield 10, 3), (51, .iload_n 1, 1), (52, .iload_n 2, 1), (53, .iload_n 3, 1), (54, .invokevirtual 98, 3), (57, .iload 4, 2), (59, .ireturn, 1)]
theorem ok_X7_set : TB cX7_set tb_X7_set := (by decide +kernel : tb_X7_set.all (fun q => tbq cX7_set q) = true)
set_option maxHeartbeats 4000000 in
set_option maxRecDepth 20000 in
theorem t_fN_set_b57 {K : Cx} {n : Nat} {a4 : Int32} {M : Mem} {r : Int32 × Mem} (C : Ctx K RX7 cX7_set) (S : SS K n 5 5 (some .int) (Ti n r)) (hn : 85 ≤ n) (h : fN_set_b57 a4 M = some r) : AS K n M 57 [none, none, none, none, some (.int a4)] [] := by
  refine aw_iload C (tb_at ok_X7_set 31 rfl) rfl ?_
  exact sw_iret C S rfl (tb_at ok_X7_set 32 rfl) h
set_option maxHeartbeats 4000000 in
set_option maxRecDepth 20000 in
theorem t_fN_set {K : Cx} {n : Nat} {a1 : Int32} {a2 : Int32} {a3 : Int32} {M : Mem} {r : Int32 × Mem} (C : Ctx K RX7 cX7_set) (S : SS K n 5 5 (some .int) (Ti n r)) (hn : 85 ≤ n) (h : fN_set a1 a2 a3 M = some r) : AS K n M 0 [some (.ref 0), some (.int a1), some (.int a2), some (.int a3), none] [] := by
  refine aw_iload_n C (tb_at ok_X7_set 0 rfl) rfl ?_
  refine aw_gets C "LEAST" 2 [0, 0, 0, 1, 0, 0] (by decide +kernel) fl_RX7_84 (tb_at ok_X7_set 1 rfl) ?_
  refine aw_alenS C "LEAST" 2 [0, 0, 0, 1, 0, 0] (by decide +kernel) (tb_at ok_X7_set 2 rfl) ?_
  refine sw_cSi C S [.int a1, .int 6] [] (tb_at ok_X7_set 3 rfl) h (fun q e => m_fN_within hn e) mf_X7_within cw_RX7_87 rfl (by decide) rfl (Nat.le_of_ble_eq_true rfl) (fun r1 M1 h => ?_)
  refine aw_if_eq C 29 (tb_at ok_X7_set 4 rfl) (by decide) h (fun h => ?_) (fun h => ?_)
  · refine aw_bipush C (tb_at ok_X7_set 15 rfl) kb_m2 ?_
    exact sw_iret C S rfl (tb_at ok_X7_set 16 rfl) h
  · refine aw_iload_n C (tb_at ok_X7_set 5 rfl) rfl ?_
    refine aw_gets C "LEAST" 2 [0, 0, 0, 1, 0, 0] (by decide +kernel) fl_RX7_84 (tb_at ok_X7_set 6 rfl) ?_
    refine aw_iload_n C (tb_at ok_X7_set 7 rfl) rfl ?_
    refine aw_ialdS C "LEAST" 2 [0, 0, 0, 1, 0, 0] (by decide +kernel) (tb_at ok_X7_set 8 rfl) h (fun h => ?_)
    refine aw_icmp_lt C 29 (tb_at ok_X7_set 9 rfl) (by decide) h (fun h => ?_) (fun h => ?_)
    · refine aw_bipush C (tb_at ok_X7_set 15 rfl) kb_m2 ?_
      exact sw_iret C S rfl (tb_at ok_X7_set 16 rfl) h
    · refine aw_iload_n C (tb_at ok_X7_set 10 rfl) rfl ?_
      refine aw_gets C "MOST" 3 [3, 99, 7, 50, 9, 7] (by decide +kernel) fl_RX7_91 (tb_at ok_X7_set 11 rfl) ?_
      refine aw_iload_n C (tb_at ok_X7_set 12 rfl) rfl ?_
      refine aw_ialdS C "MOST" 3 [3, 99, 7, 50, 9, 7] (by decide +kernel) (tb_at ok_X7_set 13 rfl) h (fun h => ?_)
      refine aw_icmp_le C 32 (tb_at ok_X7_set 14 rfl) (by decide) h (fun h => ?_) (fun h => ?_)
      · refine aw_aload_n C (tb_at ok_X7_set 17 rfl) rfl ?_
        refine aw_iload_n C (tb_at ok_X7_set 18 rfl) rfl ?_
        refine aw_iload_n C (tb_at ok_X7_set 19 rfl) rfl ?_
        refine sw_cVi C S [.int a2, .int a1] [] (tb_at ok_X7_set 20 rfl) h (fun q e => m_fN_told hn e) mf_X7_told (ob_0 hn) rfl rfl cw_RX7_94 rfl (by decide) rfl (Nat.le_of_ble_eq_true rfl) (fun r2 M2 h => ?_)
        refine aw_istore C [some (.ref 0), some (.int a1), some (.int a2), some (.int a3), some (.int r2)] (tb_at ok_X7_set 21 rfl) S.2.2.2.1 (by decide) rfl ?_
        refine aw_iload C (tb_at ok_X7_set 22 rfl) rfl ?_
        refine aw_bipush C (tb_at ok_X7_set 23 rfl) kb_m2 ?_
        refine aw_icmp_eq C 57 (tb_at ok_X7_set 24 rfl) (by decide) h (fun h => ?_) (fun h => ?_)
        · exact aw_loc [none, none, none, none, some (.int r2)] (sl_n (sl_n (sl_n (sl_n (sl_k sl_0))))) (t_fN_set_b57 C S hn h)
        · refine aw_aload_n C (tb_at ok_X7_set 25 rfl) rfl ?_
          refine aw_getR C (ob_0 hn) rfl (by decide) rfl p_0_0 fl_RX7_10 (tb_at ok_X7_set 26 rfl) ?_
          refine aw_iload_n C (tb_at ok_X7_set 27 rfl) rfl ?_
          refine aw_iload_n C (tb_at ok_X7_set 28 rfl) rfl ?_
          refine aw_iload_n C (tb_at ok_X7_set 29 rfl) rfl ?_
          refine sw_cVv C S [.int a1, .int a2, .int a3] [] (tb_at ok_X7_set 30 rfl) h (fun q e => m_fH_put hn (by decide) e) mf_X1_put (ob_1 hn) rfl rfl cw_RX7_98 rfl (by decide) rfl (Nat.le_of_ble_eq_true rfl) (fun M3 h => ?_)
          exact aw_loc [none, none, none, none, some (.int r2)] (sl_n (sl_n (sl_n (sl_n (sl_k sl_0))))) (t_fN_set_b57 C S hn h)
      · refine aw_bipush C (tb_at ok_X7_set 15 rfl) kb_m2 ?_
        exact sw_iret C S rfl (tb_at ok_X7_set 16 rfl) h
theorem m_fN_set {l : Launch} {w : Wd} {n : Nat} {a1 : Int32} {a2 : Int32} {a3 : Int32} {M : Mem} {r : Int32 × Mem} (hn : 85 ≤ n) (h : fN_set a1 a2 a3 M = some r) : CM l w yX7_set cX7_set 5 (some .int) 5 0 0 [.ref 0, .int a1, .int a2, .int a3] n M (PD M) (Ti n r) := sm_of (loc := [some (.ref 0), some (.int a1), some (.int a2), some (.int a3), none]) mf_X7_set (by decide) (Nat.le_of_ble_eq_true rfl) rfl (fun K _ _ C S => t_fN_set C S hn h)
def tb_X7_stay : List (Nat × Instr × Nat) := [(0, .iload_n 1, 1), (1, .bipush 8, 2), (3, .invokestatic 87, 3), (6, .ifCond .eq 21, 3), (9, .iload_n 2, 1), (10, .getstatic 84, 3), (13, .iconst 3, 1), (14, .iaload, 1), (15, .if_icmp .lt 12, 3), (18, .iload_n 2, 1), (19, .getstatic 91, 3), (22, .iconst 3, 1), (23, .iaload, 1), (24, .if_icmp .le 6, 3), (27, .bipush (-2), 2), (29, .ireturn, 1), (30, .aload_n 0, 1), (31, .getfield 10, 3), (34, .getfield 102, 3), (37, .bipush 8, 2), (39, .if_icmp .lt 6, 3), (42, .bipush (-4), 2), (44, .ireturn, 1), (45, .aload_n 0, 1), (46, .getfield 10, 3), (49, .getfield 105, 3), (52, .aload_n 0, 1), (53, .getfield 10, 3), (56, .getfield 102, 3), (59, .iload_n 1, 1), (60, .iastore, 1), (61, .aload_n 0, 1), (62, .getfield 10, 3), (65, .getfield 108, 3), (68, .aload_n 0, 1), (69, .getfield 10, 3), (72, .getfield 102, 3), (75, .iload_n 2, 1), (76, .iastore, 1), (77, .aload_n 0, 1), (78, .getfield 10, 3), (81, .dup, 1), (82, .getfield 102, 3), (85, .iconst 1, 1), (86, .iadd, 1), (87, .putfield 102, 3), (90, .aload_n 0, 1), (91, .getfield 10, 3), (94, .getfield 102, 3), (97, .ireturn, 1)]
theorem ok_X7_stay : TB cX7_stay tb_X7_stay := (by decide +kernel : tb_X7_stay.all (fun q => tbq cX7_stay q) = true)
set_option maxHeartbeats 4000000 in
set_option maxRecDepth 20000 in
theorem t_fN_stay {K : Cx} {n : Nat} {a1 : Int32} {a2 : Int32} {M : Mem} {r : Int32 × Mem} (C : Ctx K RX7 cX7_stay) (S : SS K n 2 3 (some .int) (Ti n r)) (hn : 85 ≤ n) (h : fN_stay a1 a2 M = some r) : AS K n M 0 [some (.ref 0), some (.int a1), some (.int a2)] [] := by
  refine aw_iload_n C (tb_at ok_X7_stay 0 rfl) rfl ?_
  refine aw_bipush C (tb_at ok_X7_stay 1 rfl) kb_8 ?_
  refine sw_cSi C S [.int a1, .int 8] [] (tb_at ok_X7_stay 2 rfl) h (fun q e => m_fN_within hn e) mf_X7_within cw_RX7_87 rfl (by decide) rfl (Nat.le_of_ble_eq_true rfl) (fun r1 M1 h => ?_)
  refine aw_if_eq C 27 (tb_at ok_X7_stay 3 rfl) (by decide) h (fun h => ?_) (fun h => ?_)
  · refine aw_bipush C (tb_at ok_X7_stay 14 rfl) kb_m2 ?_
    exact sw_iret C S rfl (tb_at ok_X7_stay 15 rfl) h
  · refine aw_iload_n C (tb_at ok_X7_stay 4 rfl) rfl ?_
    refine aw_gets C "LEAST" 2 [0, 0, 0, 1, 0, 0] (by decide +kernel) fl_RX7_84 (tb_at ok_X7_stay 5 rfl) ?_
    refine aw_iconst C (tb_at ok_X7_stay 6 rfl) ki_3 ?_
    refine aw_ialdS C "LEAST" 2 [0, 0, 0, 1, 0, 0] (by decide +kernel) (tb_at ok_X7_stay 7 rfl) h (fun h => ?_)
    refine aw_icmp_lt C 27 (tb_at ok_X7_stay 8 rfl) (by decide) h (fun h => ?_) (fun h => ?_)
    · refine aw_bipush C (tb_at ok_X7_stay 14 rfl) kb_m2 ?_
      exact sw_iret C S rfl (tb_at ok_X7_stay 15 rfl) h
    · refine aw_iload_n C (tb_at ok_X7_stay 9 rfl) rfl ?_
      refine aw_gets C "MOST" 3 [3, 99, 7, 50, 9, 7] (by decide +kernel) fl_RX7_91 (tb_at ok_X7_stay 10 rfl) ?_
      refine aw_iconst C (tb_at ok_X7_stay 11 rfl) ki_3 ?_
      refine aw_ialdS C "MOST" 3 [3, 99, 7, 50, 9, 7] (by decide +kernel) (tb_at ok_X7_stay 12 rfl) h (fun h => ?_)
      refine aw_icmp_le C 30 (tb_at ok_X7_stay 13 rfl) (by decide) h (fun h => ?_) (fun h => ?_)
      · refine aw_aload_n C (tb_at ok_X7_stay 16 rfl) rfl ?_
        refine aw_getR C (ob_0 hn) rfl (by decide) rfl p_0_0 fl_RX7_10 (tb_at ok_X7_stay 17 rfl) ?_
        refine aw_get C (ob_1 hn) rfl (by decide) rfl fl_RX7_102 (tb_at ok_X7_stay 18 rfl) ?_
        refine aw_bipush C (tb_at ok_X7_stay 19 rfl) kb_8 ?_
        refine aw_icmp_lt C 45 (tb_at ok_X7_stay 20 rfl) (by decide) h (fun h => ?_) (fun h => ?_)
        · refine aw_aload_n C (tb_at ok_X7_stay 23 rfl) rfl ?_
          refine aw_getR C (ob_0 hn) rfl (by decide) rfl p_0_0 fl_RX7_10 (tb_at ok_X7_stay 24 rfl) ?_
          refine aw_getR C (ob_1 hn) rfl (by decide) rfl p_1_4 fl_RX7_105 (tb_at ok_X7_stay 25 rfl) ?_
          refine aw_aload_n C (tb_at ok_X7_stay 26 rfl) rfl ?_
          refine aw_getR C (ob_0 hn) rfl (by decide) rfl p_0_0 fl_RX7_10 (tb_at ok_X7_stay 27 rfl) ?_
          refine aw_get C (ob_1 hn) rfl (by decide) rfl fl_RX7_102 (tb_at ok_X7_stay 28 rfl) ?_
          refine aw_iload_n C (tb_at ok_X7_stay 29 rfl) rfl ?_
          refine sw_iast C (ob_2 hn) (tb_at ok_X7_stay 30 rfl) h (fun h => ?_)
          refine aw_aload_n C (tb_at ok_X7_stay 31 rfl) rfl ?_
          refine aw_getR C (ob_0 hn) rfl (by decide) rfl p_0_0 fl_RX7_10 (tb_at ok_X7_stay 32 rfl) ?_
          refine aw_getR C (ob_1 hn) rfl (by decide) rfl p_1_5 fl_RX7_108 (tb_at ok_X7_stay 33 rfl) ?_
          refine aw_aload_n C (tb_at ok_X7_stay 34 rfl) rfl ?_
          refine aw_getR C (ob_0 hn) rfl (by decide) rfl p_0_0 fl_RX7_10 (tb_at ok_X7_stay 35 rfl) ?_
          refine aw_get C (ob_1 hn) rfl (by decide) rfl fl_RX7_102 (tb_at ok_X7_stay 36 rfl) ?_
          refine aw_iload_n C (tb_at ok_X7_stay 37 rfl) rfl ?_
          refine sw_iast C (ob_3 hn) (tb_at ok_X7_stay 38 rfl) h (fun h => ?_)
          refine aw_aload_n C (tb_at ok_X7_stay 39 rfl) rfl ?_
          refine aw_getR C (ob_0 hn) rfl (by decide) rfl p_0_0 fl_RX7_10 (tb_at ok_X7_stay 40 rfl) ?_
          refine aw_dup C (tb_at ok_X7_stay 41 rfl) rfl ?_
          refine aw_get C (ob_1 hn) rfl (by decide) rfl fl_RX7_102 (tb_at ok_X7_stay 42 rfl) ?_
          refine aw_iconst C (tb_at ok_X7_stay 43 rfl) ki_1 ?_
          refine aw_iadd C (tb_at ok_X7_stay 44 rfl) ?_
          refine sw_put C (ob_1 hn) rfl (by decide) (by decide) (Or.inr (by decide)) rfl rfl rfl rfl fl_RX7_102 (tb_at ok_X7_stay 45 rfl) ?_
          refine aw_aload_n C (tb_at ok_X7_stay 46 rfl) rfl ?_
          refine aw_getR C (ob_0 hn) rfl (by decide) rfl p_0_0 fl_RX7_10 (tb_at ok_X7_stay 47 rfl) ?_
          refine aw_get C (ob_1 hn) rfl (by decide) rfl fl_RX7_102 (tb_at ok_X7_stay 48 rfl) ?_
          exact sw_iret C S rfl (tb_at ok_X7_stay 49 rfl) h
        · refine aw_bipush C (tb_at ok_X7_stay 21 rfl) kb_m4 ?_
          exact sw_iret C S rfl (tb_at ok_X7_stay 22 rfl) h
      · refine aw_bipush C (tb_at ok_X7_stay 14 rfl) kb_m2 ?_
        exact sw_iret C S rfl (tb_at ok_X7_stay 15 rfl) h
theorem m_fN_stay {l : Launch} {w : Wd} {n : Nat} {a1 : Int32} {a2 : Int32} {M : Mem} {r : Int32 × Mem} (hn : 85 ≤ n) (h : fN_stay a1 a2 M = some r) : CM l w yX7_stay cX7_stay 3 (some .int) 2 0 0 [.ref 0, .int a1, .int a2] n M (PD M) (Ti n r) := sm_of (loc := [some (.ref 0), some (.int a1), some (.int a2)]) mf_X7_stay (by decide) (Nat.le_of_ble_eq_true rfl) rfl (fun K _ _ C S => t_fN_stay C S hn h)
def tb_X7_maid : List (Nat × Instr × Nat) := [(0, .iload_n 1, 1), (1, .bipush 6, 2), (3, .invokestatic 87, 3), (6, .ifCond .eq 21, 3), (9, .iload_n 2, 1), (10, .bipush 10, 2), (12, .invokestatic 87, 3), (15, .ifCond .eq 12, 3), (18, .iload_n 3, 1), (19, .bipush 8, 2), (21, .invokestatic 87, 3), (24, .ifCond .ne 6, 3), (27, .bipush (-2), 2), (29, .ireturn, 1), (30, .aload_n 0, 1), (31, .getfield 10, 3), (34, .getfield 111, 3), (37, .iconst 4, 1), (38, .if_icmp .lt 6, 3), (41, .bipush (-4), 2), (43, .ireturn, 1), (44, .aload_n 0, 1), (45, .getfield 10, 3), (48, .getfield 114, 3), (51, .aload_n 0, 1), (52, .getfield 10, 3), (55, .getfield 111, 3), (58, .aaload, 1), (59, .iload_n 1, 1), (60, .iload_n 2, 1), (61, .iload_n 3, 1), (62, .invokevirtual 118, 3), (65, .aload_n 0, 1), (66, .getfield 10, 3), (69, .dup, 1), (70, .getfield 111, 3), (73, .iconst 1, 1), (74, .iadd, 1), (75, .putfield 111, 3), (78, .aload_n 0, 1), (79, .getfield 10, 3), (82, .getfield 111, 3), (85, .iconst 1, 1), (86, .isub, 1), (87, .ireturn, 1)]
theorem ok_X7_maid : TB cX7_maid tb_X7_maid := (by decide +kernel : tb_X7_maid.all (fun q => tbq cX7_maid q) = true)
set_option maxHeartbeats 4000000 in
set_option maxRecDepth 20000 in
theorem t_fN_maid {K : Cx} {n : Nat} {a1 : Int32} {a2 : Int32} {a3 : Int32} {M : Mem} {r : Int32 × Mem} (C : Ctx K RX7 cX7_maid) (S : SS K n 2 4 (some .int) (Ti n r)) (hn : 85 ≤ n) (h : fN_maid a1 a2 a3 M = some r) : AS K n M 0 [some (.ref 0), some (.int a1), some (.int a2), some (.int a3)] [] := by
  refine aw_iload_n C (tb_at ok_X7_maid 0 rfl) rfl ?_
  refine aw_bipush C (tb_at ok_X7_maid 1 rfl) kb_6 ?_
  refine sw_cSi C S [.int a1, .int 6] [] (tb_at ok_X7_maid 2 rfl) h (fun q e => m_fN_within hn e) mf_X7_within cw_RX7_87 rfl (by decide) rfl (Nat.le_of_ble_eq_true rfl) (fun r1 M1 h => ?_)
  refine aw_if_eq C 27 (tb_at ok_X7_maid 3 rfl) (by decide) h (fun h => ?_) (fun h => ?_)
  · refine aw_bipush C (tb_at ok_X7_maid 12 rfl) kb_m2 ?_
    exact sw_iret C S rfl (tb_at ok_X7_maid 13 rfl) h
  · refine aw_iload_n C (tb_at ok_X7_maid 4 rfl) rfl ?_
    refine aw_bipush C (tb_at ok_X7_maid 5 rfl) kb_10 ?_
    refine sw_cSi C S [.int a2, .int 10] [] (tb_at ok_X7_maid 6 rfl) h (fun q e => m_fN_within hn e) mf_X7_within cw_RX7_87 rfl (by decide) rfl (Nat.le_of_ble_eq_true rfl) (fun r2 M2 h => ?_)
    refine aw_if_eq C 27 (tb_at ok_X7_maid 7 rfl) (by decide) h (fun h => ?_) (fun h => ?_)
    · refine aw_bipush C (tb_at ok_X7_maid 12 rfl) kb_m2 ?_
      exact sw_iret C S rfl (tb_at ok_X7_maid 13 rfl) h
    · refine aw_iload_n C (tb_at ok_X7_maid 8 rfl) rfl ?_
      refine aw_bipush C (tb_at ok_X7_maid 9 rfl) kb_8 ?_
      refine sw_cSi C S [.int a3, .int 8] [] (tb_at ok_X7_maid 10 rfl) h (fun q e => m_fN_within hn e) mf_X7_within cw_RX7_87 rfl (by decide) rfl (Nat.le_of_ble_eq_true rfl) (fun r3 M3 h => ?_)
      refine aw_if_ne C 30 (tb_at ok_X7_maid 11 rfl) (by decide) h (fun h => ?_) (fun h => ?_)
      · refine aw_bipush C (tb_at ok_X7_maid 12 rfl) kb_m2 ?_
        exact sw_iret C S rfl (tb_at ok_X7_maid 13 rfl) h
      · refine aw_aload_n C (tb_at ok_X7_maid 14 rfl) rfl ?_
        refine aw_getR C (ob_0 hn) rfl (by decide) rfl p_0_0 fl_RX7_10 (tb_at ok_X7_maid 15 rfl) ?_
        refine aw_get C (ob_1 hn) rfl (by decide) rfl fl_RX7_111 (tb_at ok_X7_maid 16 rfl) ?_
        refine aw_iconst C (tb_at ok_X7_maid 17 rfl) ki_4 ?_
        refine aw_icmp_lt C 44 (tb_at ok_X7_maid 18 rfl) (by decide) h (fun h => ?_) (fun h => ?_)
        · refine aw_aload_n C (tb_at ok_X7_maid 21 rfl) rfl ?_
          refine aw_getR C (ob_0 hn) rfl (by decide) rfl p_0_0 fl_RX7_10 (tb_at ok_X7_maid 22 rfl) ?_
          refine aw_getR C (ob_1 hn) rfl (by decide) rfl p_1_7 fl_RX7_114 (tb_at ok_X7_maid 23 rfl) ?_
          refine aw_aload_n C (tb_at ok_X7_maid 24 rfl) rfl ?_
          refine aw_getR C (ob_0 hn) rfl (by decide) rfl p_0_0 fl_RX7_10 (tb_at ok_X7_maid 25 rfl) ?_
          refine aw_get C (ob_1 hn) rfl (by decide) rfl fl_RX7_111 (tb_at ok_X7_maid 26 rfl) ?_
          refine sw_aald C 2 (ob_5 hn) (by decide) rfl (tb_at ok_X7_maid 27 rfl) (fun z => hPA_5 z) h (fun hi4 h => ?_)
          refine aw_iload_n C (tb_at ok_X7_maid 28 rfl) rfl ?_
          refine aw_iload_n C (tb_at ok_X7_maid 29 rfl) rfl ?_
          refine aw_iload_n C (tb_at ok_X7_maid 30 rfl) rfl ?_
          refine sw_cVv C S [.int a1, .int a2, .int a3] [] (tb_at ok_X7_maid 31 rfl) h (fun q e => m_fA_arrive hn (hA_5 hi4) e) mf_X2_arrive (aO hn (hA_5 hi4)) rfl rfl cw_RX7_118 rfl (by decide) rfl (Nat.le_of_ble_eq_true rfl) (fun M5 h => ?_)
          refine aw_aload_n C (tb_at ok_X7_maid 32 rfl) rfl ?_
          refine aw_getR C (ob_0 hn) rfl (by decide) rfl p_0_0 fl_RX7_10 (tb_at ok_X7_maid 33 rfl) ?_
          refine aw_dup C (tb_at ok_X7_maid 34 rfl) rfl ?_
          refine aw_get C (ob_1 hn) rfl (by decide) rfl fl_RX7_111 (tb_at ok_X7_maid 35 rfl) ?_
          refine aw_iconst C (tb_at ok_X7_maid 36 rfl) ki_1 ?_
          refine aw_iadd C (tb_at ok_X7_maid 37 rfl) ?_
          refine sw_put C (ob_1 hn) rfl (by decide) (by decide) (Or.inr (by decide)) rfl rfl rfl rfl fl_RX7_111 (tb_at ok_X7_maid 38 rfl) ?_
          refine aw_aload_n C (tb_at ok_X7_maid 39 rfl) rfl ?_
          refine aw_getR C (ob_0 hn) rfl (by decide) rfl p_0_0 fl_RX7_10 (tb_at ok_X7_maid 40 rfl) ?_
          refine aw_get C (ob_1 hn) rfl (by decide) rfl fl_RX7_111 (tb_at ok_X7_maid 41 rfl) ?_
          refine aw_iconst C (tb_at ok_X7_maid 42 rfl) ki_1 ?_
          refine aw_isub C (tb_at ok_X7_maid 43 rfl) ?_
          exact sw_iret C S rfl (tb_at ok_X7_maid 44 rfl) h
        · refine aw_bipush C (tb_at ok_X7_maid 19 rfl) kb_m4 ?_
          exact sw_iret C S rfl (tb_at ok_X7_maid 20 rfl) h
theorem m_fN_maid {l : Launch} {w : Wd} {n : Nat} {a1 : Int32} {a2 : Int32} {a3 : Int32} {M : Mem} {r : Int32 × Mem} (hn : 85 ≤ n) (h : fN_maid a1 a2 a3 M = some r) : CM l w yX7_maid cX7_maid 4 (some .int) 2 0 0 [.ref 0, .int a1, .int a2, .int a3] n M (PD M) (Ti n r) := sm_of (loc := [some (.ref 0), some (.int a1), some (.int a2), some (.int a3)]) mf_X7_maid (by decide) (Nat.le_of_ble_eq_true rfl) rfl (fun K _ _ C S => t_fN_maid C S hn h)
def tb_X7_list : List (Nat × Instr × Nat) := [(0, .iload_n 1, 1), (1, .aload_n 0, 1), (2, .getfield 10, 3), (5, .getfield 111, 3), (8, .invokestatic 87, 3), (11, .ifCond .eq 12, 3), (14, .iload_n 2, 1), (15, .bipush 8, 2), (17, .invokestatic 87, 3), (20, .ifCond .ne 6, 3), (23, .bipush (-2), 2), (25, .ireturn, 1), (26, .aload_n 0, 1), (27, .getfield 10, 3), (30, .getfield 114, 3), (33, .iload_n 1, 1), (34, .aaload, 1), (35, .astore_n 3, 1), (36, .aload_n 3, 1), (37, .getfield 123, 3), (40, .iconst 5, 1), (41, .if_icmp .lt 6, 3), (44, .bipush (-4), 2), (46, .ireturn, 1), (47, .aload_n 3, 1), (48, .getfield 126, 3), (51, .aload_n 3, 1), (52, .getfield 123, 3), (55, .iload_n 2, 1), (56, .iastore, 1), (57, .aload_n 3, 1), (58, .dup, 1), (59, .getfield 123, 3), (62, .iconst 1, 1), (63, .iadd, 1), (64, .putfield 123, 3), (67, .aload_n 3, 1), (68, .getfield 123, 3), (71, .ireturn, 1)]
theorem ok_X7_list : TB cX7_list tb_X7_list := (by decide +kernel : tb_X7_list.all (fun q => tbq cX7_list q) = true)
set_option maxHeartbeats 4000000 in
set_option maxRecDepth 20000 in
theorem t_fN_list {K : Cx} {n : Nat} {a1 : Int32} {a2 : Int32} {M : Mem} {r : Int32 × Mem} (C : Ctx K RX7 cX7_list) (S : SS K n 2 4 (some .int) (Ti n r)) (hn : 85 ≤ n) (h : fN_list a1 a2 M = some r) : AS K n M 0 [some (.ref 0), some (.int a1), some (.int a2), none] [] := by
  refine aw_iload_n C (tb_at ok_X7_list 0 rfl) rfl ?_
  refine aw_aload_n C (tb_at ok_X7_list 1 rfl) rfl ?_
  refine aw_getR C (ob_0 hn) rfl (by decide) rfl p_0_0 fl_RX7_10 (tb_at ok_X7_list 2 rfl) ?_
  refine aw_get C (ob_1 hn) rfl (by decide) rfl fl_RX7_111 (tb_at ok_X7_list 3 rfl) ?_
  refine sw_cSi C S [.int a1, .int (M 1 2)] [] (tb_at ok_X7_list 4 rfl) h (fun q e => m_fN_within hn e) mf_X7_within cw_RX7_87 rfl (by decide) rfl (Nat.le_of_ble_eq_true rfl) (fun r1 M1 h => ?_)
  refine aw_if_eq C 23 (tb_at ok_X7_list 5 rfl) (by decide) h (fun h => ?_) (fun h => ?_)
  · refine aw_bipush C (tb_at ok_X7_list 10 rfl) kb_m2 ?_
    exact sw_iret C S rfl (tb_at ok_X7_list 11 rfl) h
  · refine aw_iload_n C (tb_at ok_X7_list 6 rfl) rfl ?_
    refine aw_bipush C (tb_at ok_X7_list 7 rfl) kb_8 ?_
    refine sw_cSi C S [.int a2, .int 8] [] (tb_at ok_X7_list 8 rfl) h (fun q e => m_fN_within hn e) mf_X7_within cw_RX7_87 rfl (by decide) rfl (Nat.le_of_ble_eq_true rfl) (fun r2 M2 h => ?_)
    refine aw_if_ne C 26 (tb_at ok_X7_list 9 rfl) (by decide) h (fun h => ?_) (fun h => ?_)
    · refine aw_bipush C (tb_at ok_X7_list 10 rfl) kb_m2 ?_
      exact sw_iret C S rfl (tb_at ok_X7_list 11 rfl) h
    · refine aw_aload_n C (tb_at ok_X7_list 12 rfl) rfl ?_
      refine aw_getR C (ob_0 hn) rfl (by decide) rfl p_0_0 fl_RX7_10 (tb_at ok_X7_list 13 rfl) ?_
      refine aw_getR C (ob_1 hn) rfl (by decide) rfl p_1_7 fl_RX7_114 (tb_at ok_X7_list 14 rfl) ?_
      refine aw_iload_n C (tb_at ok_X7_list 15 rfl) rfl ?_
      refine sw_aald C 2 (ob_5 hn) (by decide) rfl (tb_at ok_X7_list 16 rfl) (fun z => hPA_5 z) h (fun hi3 h => ?_)
      refine aw_astore_n C [some (.ref 0), some (.int a1), some (.int a2), some (.ref (6 + 2 * ix a1))] (tb_at ok_X7_list 17 rfl) S.2.2.2.1 (by decide) rfl ?_
      refine aw_aload_n C (tb_at ok_X7_list 18 rfl) rfl ?_
      refine aw_get C (aO hn (hA_5 hi3)) rfl (by decide) rfl fl_RX7_123 (tb_at ok_X7_list 19 rfl) ?_
      refine aw_iconst C (tb_at ok_X7_list 20 rfl) ki_5 ?_
      refine aw_icmp_lt C 47 (tb_at ok_X7_list 21 rfl) (by decide) h (fun h => ?_) (fun h => ?_)
      · refine aw_aload_n C (tb_at ok_X7_list 24 rfl) rfl ?_
        refine aw_getR C (aO hn (hA_5 hi3)) rfl (by decide) rfl (aP4 (hA_5 hi3)) fl_RX7_126 (tb_at ok_X7_list 25 rfl) ?_
        refine aw_aload_n C (tb_at ok_X7_list 26 rfl) rfl ?_
        refine aw_get C (aO hn (hA_5 hi3)) rfl (by decide) rfl fl_RX7_123 (tb_at ok_X7_list 27 rfl) ?_
        refine aw_iload_n C (tb_at ok_X7_list 28 rfl) rfl ?_
        refine sw_iast C (aO1 hn (hA_5 hi3)) (tb_at ok_X7_list 29 rfl) h (fun h => ?_)
        refine aw_aload_n C (tb_at ok_X7_list 30 rfl) rfl ?_
        refine aw_dup C (tb_at ok_X7_list 31 rfl) rfl ?_
        refine aw_get C (aO hn (hA_5 hi3)) rfl (by decide) rfl fl_RX7_123 (tb_at ok_X7_list 32 rfl) ?_
        refine aw_iconst C (tb_at ok_X7_list 33 rfl) ki_1 ?_
        refine aw_iadd C (tb_at ok_X7_list 34 rfl) ?_
        refine sw_put C (aO hn (hA_5 hi3)) rfl (by decide) (by decide) (Or.inr (by decide)) rfl rfl rfl rfl fl_RX7_123 (tb_at ok_X7_list 35 rfl) ?_
        refine aw_aload_n C (tb_at ok_X7_list 36 rfl) rfl ?_
        refine aw_get C (aO hn (hA_5 hi3)) rfl (by decide) rfl fl_RX7_123 (tb_at ok_X7_list 37 rfl) ?_
        exact sw_iret C S rfl (tb_at ok_X7_list 38 rfl) h
      · refine aw_bipush C (tb_at ok_X7_list 22 rfl) kb_m4 ?_
        exact sw_iret C S rfl (tb_at ok_X7_list 23 rfl) h
theorem m_fN_list {l : Launch} {w : Wd} {n : Nat} {a1 : Int32} {a2 : Int32} {M : Mem} {r : Int32 × Mem} (hn : 85 ≤ n) (h : fN_list a1 a2 M = some r) : CM l w yX7_list cX7_list 4 (some .int) 2 0 0 [.ref 0, .int a1, .int a2] n M (PD M) (Ti n r) := sm_of (loc := [some (.ref 0), some (.int a1), some (.int a2), none]) mf_X7_list (by decide) (Nat.le_of_ble_eq_true rfl) rfl (fun K _ _ C S => t_fN_list C S hn h)
def tb_X7_clear : List (Nat × Instr × Nat) := [(0, .iload_n 1, 1), (1, .aload_n 0, 1), (2, .getfield 10, 3), (5, .getfield 111, 3), (8, .invokestatic 87, 3), (11, .ifCond .ne 6, 3), (14, .bipush (-2), 2), (16, .ireturn, 1), (17, .aload_n 0, 1), (18, .getfield 10, 3), (21, .getfield 114, 3), (24, .iload_n 1, 1), (25, .aaload, 1), (26, .getfield 123, 3), (29, .istore_n 2, 1), (30, .aload_n 0, 1), (31, .getfield 10, 3), (34, .getfield 114, 3), (37, .iload_n 1, 1), (38, .aaload, 1), (39, .iconst 0, 1), (40, .putfield 123, 3), (43, .iload_n 2, 1), (44, .ireturn, 1)]
theorem ok_X7_clear : TB cX7_clear tb_X7_clear := (by decide +kernel : tb_X7_clear.all (fun q => tbq cX7_clear q) = true)
set_option maxHeartbeats 4000000 in
set_option maxRecDepth 20000 in
theorem t_fN_clear {K : Cx} {n : Nat} {a1 : Int32} {M : Mem} {r : Int32 × Mem} (C : Ctx K RX7 cX7_clear) (S : SS K n 2 3 (some .int) (Ti n r)) (hn : 85 ≤ n) (h : fN_clear a1 M = some r) : AS K n M 0 [some (.ref 0), some (.int a1), none] [] := by
  refine aw_iload_n C (tb_at ok_X7_clear 0 rfl) rfl ?_
  refine aw_aload_n C (tb_at ok_X7_clear 1 rfl) rfl ?_
  refine aw_getR C (ob_0 hn) rfl (by decide) rfl p_0_0 fl_RX7_10 (tb_at ok_X7_clear 2 rfl) ?_
  refine aw_get C (ob_1 hn) rfl (by decide) rfl fl_RX7_111 (tb_at ok_X7_clear 3 rfl) ?_
  refine sw_cSi C S [.int a1, .int (M 1 2)] [] (tb_at ok_X7_clear 4 rfl) h (fun q e => m_fN_within hn e) mf_X7_within cw_RX7_87 rfl (by decide) rfl (Nat.le_of_ble_eq_true rfl) (fun r1 M1 h => ?_)
  refine aw_if_ne C 17 (tb_at ok_X7_clear 5 rfl) (by decide) h (fun h => ?_) (fun h => ?_)
  · refine aw_bipush C (tb_at ok_X7_clear 6 rfl) kb_m2 ?_
    exact sw_iret C S rfl (tb_at ok_X7_clear 7 rfl) h
  · refine aw_aload_n C (tb_at ok_X7_clear 8 rfl) rfl ?_
    refine aw_getR C (ob_0 hn) rfl (by decide) rfl p_0_0 fl_RX7_10 (tb_at ok_X7_clear 9 rfl) ?_
    refine aw_getR C (ob_1 hn) rfl (by decide) rfl p_1_7 fl_RX7_114 (tb_at ok_X7_clear 10 rfl) ?_
    refine aw_iload_n C (tb_at ok_X7_clear 11 rfl) rfl ?_
    refine sw_aald C 2 (ob_5 hn) (by decide) rfl (tb_at ok_X7_clear 12 rfl) (fun z => hPA_5 z) h (fun hi2 h => ?_)
    refine aw_get C (aO hn (hA_5 hi2)) rfl (by decide) rfl fl_RX7_123 (tb_at ok_X7_clear 13 rfl) ?_
    refine aw_istore_n C [some (.ref 0), some (.int a1), some (.int (M1 (6 + 2 * ix a1) 3))] (tb_at ok_X7_clear 14 rfl) S.2.2.2.1 (by decide) rfl ?_
    refine aw_aload_n C (tb_at ok_X7_clear 15 rfl) rfl ?_
    refine aw_getR C (ob_0 hn) rfl (by decide) rfl p_0_0 fl_RX7_10 (tb_at ok_X7_clear 16 rfl) ?_
    refine aw_getR C (ob_1 hn) rfl (by decide) rfl p_1_7 fl_RX7_114 (tb_at ok_X7_clear 17 rfl) ?_
    refine aw_iload_n C (tb_at ok_X7_clear 18 rfl) rfl ?_
    refine sw_aald C 2 (ob_5 hn) (by decide) rfl (tb_at ok_X7_clear 19 rfl) (fun z => hPA_5 z) h (fun hi3 h => ?_)
    refine aw_iconst C (tb_at ok_X7_clear 20 rfl) ki_0 ?_
    refine sw_put C (aO hn (hA_5 hi3)) rfl (by decide) (by decide) (Or.inr (by decide)) rfl rfl rfl rfl fl_RX7_123 (tb_at ok_X7_clear 21 rfl) ?_
    refine aw_iload_n C (tb_at ok_X7_clear 22 rfl) rfl ?_
    exact sw_iret C S rfl (tb_at ok_X7_clear 23 rfl) h
theorem m_fN_clear {l : Launch} {w : Wd} {n : Nat} {a1 : Int32} {M : Mem} {r : Int32 × Mem} (hn : 85 ≤ n) (h : fN_clear a1 M = some r) : CM l w yX7_clear cX7_clear 3 (some .int) 2 0 0 [.ref 0, .int a1] n M (PD M) (Ti n r) := sm_of (loc := [some (.ref 0), some (.int a1), none]) mf_X7_clear (by decide) (Nat.le_of_ble_eq_true rfl) rfl (fun K _ _ C S => t_fN_clear C S hn h)
def tb_X7_way : List (Nat × Instr × Nat) := [(0, .iload_n 1, 1), (1, .bipush 8, 2), (3, .invokestatic 87, 3), (6, .ifCond .eq 20, 3), (9, .iload_n 2, 1), (10, .bipush 8, 2), (12, .invokestatic 87, 3), (15, .ifCond .eq 11, 3), (18, .iload_n 3, 1), (19, .iconst 2, 1), (20, .invokestatic 87, 3), (23, .ifCond .ne 6, 3), (26, .bipush (-2), 2), (28, .ireturn, 1), (29, .iload_n 3, 1), (30, .ifCond .ne 18, 3), (33, .aload_n 0, 1), (34, .getfield 10, 3), (37, .getfield 129, 3), (40, .iload_n 1, 1), (41, .iload_n 2, 1), (42, .invokestatic 152, 3), (45, .goto 15, 3), (48, .aload_n 0, 1), (49, .getfield 10, 3), (52, .getfield 129, 3), (55, .iload_n 1, 1), (56, .iload_n 2, 1), (57, .invokestatic 158, 3), (60, .ireturn, 1)]
theorem ok_X7_way : TB cX7_way tb_X7_way := (by decide +kernel : tb_X7_way.all (fun q => tbq cX7_way q) = true)
set_option maxHeartbeats 4000000 in
set_option maxRecDepth 20000 in
theorem t_fN_way {K : Cx} {n : Nat} {a1 : Int32} {a2 : Int32} {a3 : Int32} {M : Mem} {r : Int32 × Mem} (C : Ctx K RX7 cX7_way) (S : SS K n 3 4 (some .int) (Ti n r)) (hn : 85 ≤ n) (h : fN_way a1 a2 a3 M = some r) : AS K n M 0 [some (.ref 0), some (.int a1), some (.int a2), some (.int a3)] [] := by
  refine aw_iload_n C (tb_at ok_X7_way 0 rfl) rfl ?_
  refine aw_bipush C (tb_at ok_X7_way 1 rfl) kb_8 ?_
  refine sw_cSi C S [.int a1, .int 8] [] (tb_at ok_X7_way 2 rfl) h (fun q e => m_fN_within hn e) mf_X7_within cw_RX7_87 rfl (by decide) rfl (Nat.le_of_ble_eq_true rfl) (fun r1 M1 h => ?_)
  refine aw_if_eq C 26 (tb_at ok_X7_way 3 rfl) (by decide) h (fun h => ?_) (fun h => ?_)
  · refine aw_bipush C (tb_at ok_X7_way 12 rfl) kb_m2 ?_
    exact sw_iret C S rfl (tb_at ok_X7_way 13 rfl) h
  · refine aw_iload_n C (tb_at ok_X7_way 4 rfl) rfl ?_
    refine aw_bipush C (tb_at ok_X7_way 5 rfl) kb_8 ?_
    refine sw_cSi C S [.int a2, .int 8] [] (tb_at ok_X7_way 6 rfl) h (fun q e => m_fN_within hn e) mf_X7_within cw_RX7_87 rfl (by decide) rfl (Nat.le_of_ble_eq_true rfl) (fun r2 M2 h => ?_)
    refine aw_if_eq C 26 (tb_at ok_X7_way 7 rfl) (by decide) h (fun h => ?_) (fun h => ?_)
    · refine aw_bipush C (tb_at ok_X7_way 12 rfl) kb_m2 ?_
      exact sw_iret C S rfl (tb_at ok_X7_way 13 rfl) h
    · refine aw_iload_n C (tb_at ok_X7_way 8 rfl) rfl ?_
      refine aw_iconst C (tb_at ok_X7_way 9 rfl) ki_2 ?_
      refine sw_cSi C S [.int a3, .int 2] [] (tb_at ok_X7_way 10 rfl) h (fun q e => m_fN_within hn e) mf_X7_within cw_RX7_87 rfl (by decide) rfl (Nat.le_of_ble_eq_true rfl) (fun r3 M3 h => ?_)
      refine aw_if_ne C 29 (tb_at ok_X7_way 11 rfl) (by decide) h (fun h => ?_) (fun h => ?_)
      · refine aw_bipush C (tb_at ok_X7_way 12 rfl) kb_m2 ?_
        exact sw_iret C S rfl (tb_at ok_X7_way 13 rfl) h
      · refine aw_iload_n C (tb_at ok_X7_way 14 rfl) rfl ?_
        refine aw_if_ne C 48 (tb_at ok_X7_way 15 rfl) (by decide) h (fun h => ?_) (fun h => ?_)
        · refine aw_aload_n C (tb_at ok_X7_way 16 rfl) rfl ?_
          refine aw_getR C (ob_0 hn) rfl (by decide) rfl p_0_0 fl_RX7_10 (tb_at ok_X7_way 17 rfl) ?_
          refine aw_get C (ob_1 hn) rfl (by decide) rfl fl_RX7_129 (tb_at ok_X7_way 18 rfl) ?_
          refine aw_iload_n C (tb_at ok_X7_way 19 rfl) rfl ?_
          refine aw_iload_n C (tb_at ok_X7_way 20 rfl) rfl ?_
          refine sw_cSi C S [.int (M3 1 0), .int a1, .int a2] [] (tb_at ok_X7_way 21 rfl) h (fun q e => m_fY_far hn e) mf_X5_far cw_RX7_152 rfl (by decide) rfl (Nat.le_of_ble_eq_true rfl) (fun r4 M4 h => ?_)
          refine aw_goto C 60 (tb_at ok_X7_way 22 rfl) (by decide) ?_
          exact sw_iret C S rfl (tb_at ok_X7_way 29 rfl) h
        · refine aw_aload_n C (tb_at ok_X7_way 23 rfl) rfl ?_
          refine aw_getR C (ob_0 hn) rfl (by decide) rfl p_0_0 fl_RX7_10 (tb_at ok_X7_way 24 rfl) ?_
          refine aw_get C (ob_1 hn) rfl (by decide) rfl fl_RX7_129 (tb_at ok_X7_way 25 rfl) ?_
          refine aw_iload_n C (tb_at ok_X7_way 26 rfl) rfl ?_
          refine aw_iload_n C (tb_at ok_X7_way 27 rfl) rfl ?_
          refine sw_cSi C S [.int (M3 1 0), .int a1, .int a2] [] (tb_at ok_X7_way 28 rfl) h (fun q e => m_fY_nextRoom hn e) mf_X5_nextRoom cw_RX7_158 rfl (by decide) rfl (Nat.le_of_ble_eq_true rfl) (fun r5 M5 h => ?_)
          exact sw_iret C S rfl (tb_at ok_X7_way 29 rfl) h
theorem m_fN_way {l : Launch} {w : Wd} {n : Nat} {a1 : Int32} {a2 : Int32} {a3 : Int32} {M : Mem} {r : Int32 × Mem} (hn : 85 ≤ n) (h : fN_way a1 a2 a3 M = some r) : CM l w yX7_way cX7_way 4 (some .int) 3 0 0 [.ref 0, .int a1, .int a2, .int a3] n M (PD M) (Ti n r) := sm_of (loc := [some (.ref 0), some (.int a1), some (.int a2), some (.int a3)]) mf_X7_way (by decide) (Nat.le_of_ble_eq_true rfl) rfl (fun K _ _ C S => t_fN_way C S hn h)
def tb_X7_feed : List (Nat × Instr × Nat) := [(0, .iload_n 1, 1), (1, .sipush 256, 3), (4, .invokestatic 87, 3), (7, .ifCond .ne 6, 3), (10, .bipush (-2), 2), (12, .ireturn, 1), (13, .aload_n 0, 1), (14, .getfield 29, 3), (17, .iload_n 1, 1), (18, .invokevirtual 76, 3), (21, .ifCond .eq 13, 3), (24, .aload_n 0, 1), (25, .getfield 29, 3), (28, .getfield 161, 3), (31, .goto 5, 3), (34, .bipush (-4), 2), (36, .ireturn, 1)]
theorem ok_X7_feed : TB cX7_feed tb_X7_feed := (by decide +kernel : tb_X7_feed.all (fun q => tbq cX7_feed q) = true)
set_option maxHeartbeats 4000000 in
set_option maxRecDepth 20000 in
theorem t_fN_feed {K : Cx} {n : Nat} {a1 : Int32} {M : Mem} {r : Int32 × Mem} (C : Ctx K RX7 cX7_feed) (S : SS K n 2 2 (some .int) (Ti n r)) (hn : 85 ≤ n) (h : fN_feed a1 M = some r) : AS K n M 0 [some (.ref 0), some (.int a1)] [] := by
  refine aw_iload_n C (tb_at ok_X7_feed 0 rfl) rfl ?_
  refine aw_sipush C (tb_at ok_X7_feed 1 rfl) ks_256 ?_
  refine sw_cSi C S [.int a1, .int 256] [] (tb_at ok_X7_feed 2 rfl) h (fun q e => m_fN_within hn e) mf_X7_within cw_RX7_87 rfl (by decide) rfl (Nat.le_of_ble_eq_true rfl) (fun r1 M1 h => ?_)
  refine aw_if_ne C 13 (tb_at ok_X7_feed 3 rfl) (by decide) h (fun h => ?_) (fun h => ?_)
  · refine aw_bipush C (tb_at ok_X7_feed 4 rfl) kb_m2 ?_
    exact sw_iret C S rfl (tb_at ok_X7_feed 5 rfl) h
  · refine aw_aload_n C (tb_at ok_X7_feed 6 rfl) rfl ?_
    refine aw_getR C (ob_0 hn) rfl (by decide) rfl p_0_4 fl_RX7_29 (tb_at ok_X7_feed 7 rfl) ?_
    refine aw_iload_n C (tb_at ok_X7_feed 8 rfl) rfl ?_
    refine sw_cVi C S [.int a1] [] (tb_at ok_X7_feed 9 rfl) h (fun q e => m_fR_add hn e) mf_X3_add (ob_40 hn) rfl rfl cw_RX7_76 rfl (by decide) rfl (Nat.le_of_ble_eq_true rfl) (fun r2 M2 h => ?_)
    refine aw_if_eq C 34 (tb_at ok_X7_feed 10 rfl) (by decide) h (fun h => ?_) (fun h => ?_)
    · refine aw_bipush C (tb_at ok_X7_feed 15 rfl) kb_m4 ?_
      exact sw_iret C S rfl (tb_at ok_X7_feed 16 rfl) h
    · refine aw_aload_n C (tb_at ok_X7_feed 11 rfl) rfl ?_
      refine aw_getR C (ob_0 hn) rfl (by decide) rfl p_0_4 fl_RX7_29 (tb_at ok_X7_feed 12 rfl) ?_
      refine aw_get C (ob_40 hn) rfl (by decide) rfl fl_RX7_161 (tb_at ok_X7_feed 13 rfl) ?_
      refine aw_goto C 36 (tb_at ok_X7_feed 14 rfl) (by decide) ?_
      exact sw_iret C S rfl (tb_at ok_X7_feed 16 rfl) h
theorem m_fN_feed {l : Launch} {w : Wd} {n : Nat} {a1 : Int32} {M : Mem} {r : Int32 × Mem} (hn : 85 ≤ n) (h : fN_feed a1 M = some r) : CM l w yX7_feed cX7_feed 2 (some .int) 2 0 0 [.ref 0, .int a1] n M (PD M) (Ti n r) := sm_of (loc := [some (.ref 0), some (.int a1)]) mf_X7_feed (by decide) (Nat.le_of_ble_eq_true rfl) rfl (fun K _ _ C S => t_fN_feed C S hn h)
