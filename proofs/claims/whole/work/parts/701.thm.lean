/-! theorems 1 -/
def tb_X0_start : List (Nat × Instr × Nat) := [(0, .aload_n 0, 1), (1, .aload_n 1, 1), (2, .putfield 56, 3), (5, .aload_n 0, 1), (6, .getfield 12, 3), (9, .aload_n 0, 1), (10, .getfield 56, 3), (13, .getfield 72, 3), (16, .invokevirtual 77, 3), (19, .aload_n 0, 1), (20, .getfield 56, 3), (23, .getfield 80, 3), (26, .iconst 0, 1), (27, .aload_n 0, 1), (28, .getfield 43, 3), (31, .iconst 0, 1), (32, .bipush 8, 2), (34, .invokestatic 81, 3), (37, .aload_n 0, 1), (38, .iconst 0, 1), (39, .putfield 46, 3), (42, .aload_n 0, 1), (43, .iconst 0, 1), (44, .putfield 50, 3), (47, .aload_n 0, 1), (48, .iconst (-1), 1), (49, .putfield 53, 3), (52, .iconst 0, 1), (53, .istore_n 2, 1), (54, .iload_n 2, 1), (55, .aload_n 0, 1), (56, .getfield 56, 3), (59, .getfield 87, 3), (62, .if_icmp .ge 93, 3), (65, .aload_n 0, 1), (66, .getfield 56, 3), (69, .getfield 90, 3), (72, .iload_n 2, 1), (73, .aaload, 1), (74, .astore_n 3, 1), (75, .aload_n 0, 1), (76, .getfield 25, 3), (79, .iload_n 2, 1), (80, .aload_n 3, 1), (81, .getfield 94, 3), (84, .iastore, 1), (85, .aload_n 0, 1), (86, .getfield 31, 3), (89, .iload_n 2, 1), (90, .iconst 0, 1), (91, .iastore, 1), (92, .aload_n 0, 1), (93, .getfield 34, 3), (96, .iload_n 2, 1), (97, .iconst 0, 1), (98, .iastore, 1), (99, .aload_n 0, 1), (100, .getfield 37, 3), (103, .iload_n 2, 1), (104, .iconst 0, 1), (105, .iastore, 1), (106, .aload_n 0, 1), (107, .getfield 40, 3), (110, .iload_n 2, 1), (111, .iconst 0, 1), (112, .iastore, 1), (113, .iconst 0, 1), (114, .istore 4, 2), (116, .iload 4, 2), (118, .aload_n 3, 1), (119, .getfield 99, 3), (122, .if_icmp .ge 27, 3), (125, .aload_n 0, 1), (126, .dup, 1), (127, .getfield 46, 3), (130, .iconst 1, 1), (131, .aload_n 3, 1), (132, .getfield 102, 3), (135, .iload 4, 2), (137, .iaload, 1), (138, .ishl, 1), (139, .ior, 1), (140, .putfield 46, 3), (143, .iinc 4 1, 3), (146, .goto (-30), 3), (149, .iinc 2 1, 3), (152, .goto (-98), 3), (155, .return_, 1)]
theorem ok_X0_start : TB cX0_start tb_X0_start := (by decide +kernel : tb_X0_start.all (fun q => tbq cX0_start q) = true)
set_option maxHeartbeats 4000000 in
set_option maxRecDepth 20000 in
theorem t_fD_start_b116 {K : Cx} {n : Nat} {k54 : Int32 → Mem → Option (Mem)} {a2 : Int32} {q3 : Nat} {r : Mem} (C : Ctx K RX0 cX0_start) (S : SS K n 4 5 none (Tv n r)) (hn : 85 ≤ n) (hq3 : aOK q3) (hk54 : ∀ (va2 : Int32) (M1 : Mem), k54 va2 M1 = some r → AS K n M1 54 [some (.ref 45), none, some (.int va2), none, none] []) : ∀ (z : Nat) (a4 : Int32) (M : Mem), fD_start_b116 k54 a2 q3 z a4 M = some r → AS K n M 116 [some (.ref 45), none, some (.int a2), some (.ref q3), some (.int a4)] [] := by
  intro z
  induction z with
  | zero => intro a4 M h; cases h
  | succ z ih =>
    intro a4 M h
    refine aw_iload C (tb_at ok_X0_start 68 rfl) rfl ?_
    refine aw_aload_n C (tb_at ok_X0_start 69 rfl) rfl ?_
    refine aw_get C (aO hn hq3) rfl (by decide) rfl fl_RX0_99 (tb_at ok_X0_start 70 rfl) ?_
    refine aw_icmp_ge C 149 (tb_at ok_X0_start 71 rfl) (by decide) h (fun h => ?_) (fun h => ?_)
    · refine aw_iinc C [some (.ref 45), none, some (.int (a2 + 1)), some (.ref q3), some (.int a4)] (tb_at ok_X0_start 85 rfl) rfl S.2.2.2.1 (by decide) ki_1 rfl ?_
      refine aw_goto C 54 (tb_at ok_X0_start 86 rfl) (by decide) ?_
      exact aw_loc [some (.ref 45), none, some (.int (a2 + 1)), none, none] (sl_k (sl_n (sl_k (sl_n (sl_n sl_0))))) (hk54 _ _ h)
    · refine aw_aload_n C (tb_at ok_X0_start 72 rfl) rfl ?_
      refine aw_dup C (tb_at ok_X0_start 73 rfl) rfl ?_
      refine aw_get C (ob_45 hn) rfl (by decide) rfl fl_RX0_46 (tb_at ok_X0_start 74 rfl) ?_
      refine aw_iconst C (tb_at ok_X0_start 75 rfl) ki_1 ?_
      refine aw_aload_n C (tb_at ok_X0_start 76 rfl) rfl ?_
      refine aw_getR C (aO hn hq3) rfl (by decide) rfl (aP4 hq3) fl_RX0_102 (tb_at ok_X0_start 77 rfl) ?_
      refine aw_iload C (tb_at ok_X0_start 78 rfl) rfl ?_
      refine aw_iald C (aO1 hn hq3) (tb_at ok_X0_start 79 rfl) h (fun h => ?_)
      refine aw_ishl C (tb_at ok_X0_start 80 rfl) ?_
      refine aw_ior C (tb_at ok_X0_start 81 rfl) ?_
      refine sw_put C (ob_45 hn) rfl (by decide) (by decide) (Or.inr (by decide)) rfl rfl rfl rfl fl_RX0_46 (tb_at ok_X0_start 82 rfl) ?_
      refine aw_iinc C [some (.ref 45), none, some (.int a2), some (.ref q3), some (.int (a4 + 1))] (tb_at ok_X0_start 83 rfl) rfl S.2.2.2.1 (by decide) ki_1 rfl ?_
      refine aw_goto C 116 (tb_at ok_X0_start 84 rfl) (by decide) ?_
      exact aw_loc [some (.ref 45), none, some (.int a2), some (.ref q3), some (.int (a4 + 1))] (sl_k (sl_n (sl_k (sl_k (sl_k sl_0))))) (ih _ _ h)
set_option maxHeartbeats 4000000 in
set_option maxRecDepth 20000 in
theorem t_fD_start_b54 {K : Cx} {n : Nat} {r : Mem} (C : Ctx K RX0 cX0_start) (S : SS K n 4 5 none (Tv n r)) (hn : 85 ≤ n) : ∀ (z : Nat) (a2 : Int32) (M : Mem), fD_start_b54 z a2 M = some r → AS K n M 54 [some (.ref 45), none, some (.int a2), none, none] [] := by
  intro z
  induction z with
  | zero => intro a2 M h; cases h
  | succ z ih =>
    intro a2 M h
    refine aw_iload_n C (tb_at ok_X0_start 29 rfl) rfl ?_
    refine aw_aload_n C (tb_at ok_X0_start 30 rfl) rfl ?_
    refine sw_getH C hn fl_RX0_56 (tb_at ok_X0_start 31 rfl) h (fun hi4 h => ?_)
    refine aw_get C (hO hn hi4) rfl (by decide) rfl fl_RX0_87 (tb_at ok_X0_start 32 rfl) ?_
    refine aw_icmp_ge C 155 (tb_at ok_X0_start 33 rfl) (by decide) h (fun h => ?_) (fun h => ?_)
    · exact sw_vret C S (tb_at ok_X0_start 87 rfl) h
    · refine aw_aload_n C (tb_at ok_X0_start 34 rfl) rfl ?_
      refine sw_getH C hn fl_RX0_56 (tb_at ok_X0_start 35 rfl) h (fun hi5 h => ?_)
      refine aw_getR C (hO hn hi5) rfl (by decide) rfl (hP7 hi5) fl_RX0_90 (tb_at ok_X0_start 36 rfl) ?_
      refine aw_iload_n C (tb_at ok_X0_start 37 rfl) rfl ?_
      refine sw_aald C 2 (hO4 hn hi5) (by decide) rfl (tb_at ok_X0_start 38 rfl) (fun z => hPA hi5 z) h (fun hi6 h => ?_)
      refine aw_astore_n C [some (.ref 45), none, some (.int a2), some (.ref ((ix (M 45 0)) + 5 + 2 * ix a2)), none] (tb_at ok_X0_start 39 rfl) S.2.2.2.1 (by decide) rfl ?_
      refine aw_aload_n C (tb_at ok_X0_start 40 rfl) rfl ?_
      refine aw_getR C (ob_45 hn) rfl (by decide) rfl p_45_5 fl_RX0_25 (tb_at ok_X0_start 41 rfl) ?_
      refine aw_iload_n C (tb_at ok_X0_start 42 rfl) rfl ?_
      refine aw_aload_n C (tb_at ok_X0_start 43 rfl) rfl ?_
      refine aw_get C (aO hn (hA hi5 hi6)) rfl (by decide) rfl fl_RX0_94 (tb_at ok_X0_start 44 rfl) ?_
      refine sw_iast C (ob_50 hn) (tb_at ok_X0_start 45 rfl) h (fun h => ?_)
      refine aw_aload_n C (tb_at ok_X0_start 46 rfl) rfl ?_
      refine aw_getR C (ob_45 hn) rfl (by decide) rfl p_45_7 fl_RX0_31 (tb_at ok_X0_start 47 rfl) ?_
      refine aw_iload_n C (tb_at ok_X0_start 48 rfl) rfl ?_
      refine aw_iconst C (tb_at ok_X0_start 49 rfl) ki_0 ?_
      refine sw_iast C (ob_52 hn) (tb_at ok_X0_start 50 rfl) h (fun h => ?_)
      refine aw_aload_n C (tb_at ok_X0_start 51 rfl) rfl ?_
      refine aw_getR C (ob_45 hn) rfl (by decide) rfl p_45_8 fl_RX0_34 (tb_at ok_X0_start 52 rfl) ?_
      refine aw_iload_n C (tb_at ok_X0_start 53 rfl) rfl ?_
      refine aw_iconst C (tb_at ok_X0_start 54 rfl) ki_0 ?_
      refine sw_iast C (ob_53 hn) (tb_at ok_X0_start 55 rfl) h (fun h => ?_)
      refine aw_aload_n C (tb_at ok_X0_start 56 rfl) rfl ?_
      refine aw_getR C (ob_45 hn) rfl (by decide) rfl p_45_9 fl_RX0_37 (tb_at ok_X0_start 57 rfl) ?_
      refine aw_iload_n C (tb_at ok_X0_start 58 rfl) rfl ?_
      refine aw_iconst C (tb_at ok_X0_start 59 rfl) ki_0 ?_
      refine sw_iast C (ob_54 hn) (tb_at ok_X0_start 60 rfl) h (fun h => ?_)
      refine aw_aload_n C (tb_at ok_X0_start 61 rfl) rfl ?_
      refine aw_getR C (ob_45 hn) rfl (by decide) rfl p_45_10 fl_RX0_40 (tb_at ok_X0_start 62 rfl) ?_
      refine aw_iload_n C (tb_at ok_X0_start 63 rfl) rfl ?_
      refine aw_iconst C (tb_at ok_X0_start 64 rfl) ki_0 ?_
      refine sw_iast C (ob_55 hn) (tb_at ok_X0_start 65 rfl) h (fun h => ?_)
      refine aw_iconst C (tb_at ok_X0_start 66 rfl) ki_0 ?_
      refine aw_istore C [some (.ref 45), none, some (.int a2), some (.ref ((ix (M 45 0)) + 5 + 2 * ix a2)), some (.int 0)] (tb_at ok_X0_start 67 rfl) S.2.2.2.1 (by decide) rfl ?_
      exact aw_loc [some (.ref 45), none, some (.int a2), some (.ref ((ix (M 45 0)) + 5 + 2 * ix a2)), some (.int 0)] (sl_k (sl_n (sl_k (sl_k (sl_k sl_0))))) (t_fD_start_b116 C S hn (hA hi5 hi6) ih 1000 _ _ h)
set_option maxHeartbeats 4000000 in
set_option maxRecDepth 20000 in
theorem t_fD_start {K : Cx} {n : Nat} {q1 : Nat} {M : Mem} {r : Mem} (C : Ctx K RX0 cX0_start) (S : SS K n 4 5 none (Tv n r)) (hn : 85 ≤ n) (hq1 : hOK q1) (h : fD_start q1 M = some r) : AS K n M 0 [some (.ref 45), some (.ref q1), none, none, none] [] := by
  refine aw_aload_n C (tb_at ok_X0_start 0 rfl) rfl ?_
  refine aw_aload_n C (tb_at ok_X0_start 1 rfl) rfl ?_
  refine sw_putH C hn hq1 fl_RX0_56 (tb_at ok_X0_start 2 rfl) ?_
  refine aw_aload_n C (tb_at ok_X0_start 3 rfl) rfl ?_
  refine aw_getR C (ob_45 hn) rfl (by decide) rfl p_45_2 fl_RX0_12 (tb_at ok_X0_start 4 rfl) ?_
  refine aw_aload_n C (tb_at ok_X0_start 5 rfl) rfl ?_
  refine sw_getH C hn fl_RX0_56 (tb_at ok_X0_start 6 rfl) h (fun hi1 h => ?_)
  refine aw_get C (hO hn hi1) rfl (by decide) rfl fl_RX0_72 (tb_at ok_X0_start 7 rfl) ?_
  refine sw_cVv C S [.int ((wr M 45 0 (nI q1)) (ix ((wr M 45 0 (nI q1)) 45 0)) 0)] [] (tb_at ok_X0_start 8 rfl) h (fun q e => m_fY_lay hn e) mf_X5_lay (ob_46 hn) rfl rfl cw_RX0_77 rfl (by decide) rfl (Nat.le_of_ble_eq_true rfl) (fun M2 h => ?_)
  refine aw_aload_n C (tb_at ok_X0_start 9 rfl) rfl ?_
  refine sw_getH C hn fl_RX0_56 (tb_at ok_X0_start 10 rfl) h (fun hi3 h => ?_)
  refine aw_getR C (hO hn hi3) rfl (by decide) rfl (hP6 hi3) fl_RX0_80 (tb_at ok_X0_start 11 rfl) ?_
  refine aw_iconst C (tb_at ok_X0_start 12 rfl) ki_0 ?_
  refine aw_aload_n C (tb_at ok_X0_start 13 rfl) rfl ?_
  refine aw_getR C (ob_45 hn) rfl (by decide) rfl p_45_11 fl_RX0_43 (tb_at ok_X0_start 14 rfl) ?_
  refine aw_iconst C (tb_at ok_X0_start 15 rfl) ki_0 ?_
  refine aw_bipush C (tb_at ok_X0_start 16 rfl) kb_8 ?_
  refine sw_copy C (hO3 hn hi3) (ob_56 hn) ml_RX0_81 (Nat.le_of_ble_eq_true rfl) (tb_at ok_X0_start 17 rfl) h w_copy (fun h => ?_)
  refine aw_aload_n C (tb_at ok_X0_start 18 rfl) rfl ?_
  refine aw_iconst C (tb_at ok_X0_start 19 rfl) ki_0 ?_
  refine sw_put C (ob_45 hn) rfl (by decide) (by decide) (Or.inr (by decide)) rfl rfl rfl rfl fl_RX0_46 (tb_at ok_X0_start 20 rfl) ?_
  refine aw_aload_n C (tb_at ok_X0_start 21 rfl) rfl ?_
  refine aw_iconst C (tb_at ok_X0_start 22 rfl) ki_0 ?_
  refine sw_put C (ob_45 hn) rfl (by decide) (by decide) (Or.inr (by decide)) rfl rfl rfl rfl fl_RX0_50 (tb_at ok_X0_start 23 rfl) ?_
  refine aw_aload_n C (tb_at ok_X0_start 24 rfl) rfl ?_
  refine aw_iconst C (tb_at ok_X0_start 25 rfl) ki_m1 ?_
  refine sw_put C (ob_45 hn) rfl (by decide) (by decide) (Or.inr (by decide)) rfl rfl rfl rfl fl_RX0_53 (tb_at ok_X0_start 26 rfl) ?_
  refine aw_iconst C (tb_at ok_X0_start 27 rfl) ki_0 ?_
  refine aw_istore_n C [some (.ref 45), some (.ref q1), some (.int 0), none, none] (tb_at ok_X0_start 28 rfl) S.2.2.2.1 (by decide) rfl ?_
  exact aw_loc [some (.ref 45), none, some (.int 0), none, none] (sl_k (sl_n (sl_k (sl_n (sl_n sl_0))))) (t_fD_start_b54 C S hn 1000 _ _ h)
theorem m_fD_start {l : Launch} {w : Wd} {n : Nat} {q1 : Nat} {M : Mem} {r : Mem} (hn : 85 ≤ n) (hq1 : hOK q1) (h : fD_start q1 M = some r) : CM l w yX0_start cX0_start 5 none 4 0 0 [.ref 45, .ref q1] n M (PD M) (Tv n r) := sm_of (loc := [some (.ref 45), some (.ref q1), none, none, none]) mf_X0_start (by decide) (Nat.le_of_ble_eq_true rfl) rfl (fun K _ _ C S => t_fD_start C S hn hq1 h)
def tb_X0_run : List (Nat × Instr × Nat) := [(0, .aload_n 0, 1), (1, .aload_n 1, 1), (2, .invokevirtual 64, 3), (5, .iconst 0, 1), (6, .istore_n 3, 1), (7, .iload_n 3, 1), (8, .iload_n 2, 1), (9, .if_icmp .ge 14, 3), (12, .aload_n 0, 1), (13, .iload_n 3, 1), (14, .invokevirtual 68, 3), (17, .iinc 3 1, 3), (20, .goto (-13), 3), (23, .return_, 1)]
theorem ok_X0_run : TB cX0_run tb_X0_run := (by decide +kernel : tb_X0_run.all (fun q => tbq cX0_run q) = true)
set_option maxHeartbeats 4000000 in
set_option maxRecDepth 20000 in
theorem t_fD_run_b7 {K : Cx} {n : Nat} {a2 : Int32} {r : Mem} (C : Ctx K RX0 cX0_run) (S : SS K n 6 4 none (Tv n r)) (hn : 85 ≤ n) : ∀ (z : Nat) (a3 : Int32) (M : Mem), fD_run_b7 a2 z a3 M = some r → AS K n M 7 [some (.ref 45), none, some (.int a2), some (.int a3)] [] := by
  intro z
  induction z with
  | zero => intro a3 M h; cases h
  | succ z ih =>
    intro a3 M h
    refine aw_iload_n C (tb_at ok_X0_run 5 rfl) rfl ?_
    refine aw_iload_n C (tb_at ok_X0_run 6 rfl) rfl ?_
    refine aw_icmp_ge C 23 (tb_at ok_X0_run 7 rfl) (by decide) h (fun h => ?_) (fun h => ?_)
    · exact sw_vret C S (tb_at ok_X0_run 13 rfl) h
    · refine aw_aload_n C (tb_at ok_X0_run 8 rfl) rfl ?_
      refine aw_iload_n C (tb_at ok_X0_run 9 rfl) rfl ?_
      refine sw_cVv C S [.int a3] [] (tb_at ok_X0_run 10 rfl) h (fun q e => m_fD_pass hn e) mf_X0_pass (ob_45 hn) rfl rfl cw_RX0_68 rfl (by decide) rfl (Nat.le_of_ble_eq_true rfl) (fun M2 h => ?_)
      refine aw_iinc C [some (.ref 45), none, some (.int a2), some (.int (a3 + 1))] (tb_at ok_X0_run 11 rfl) rfl S.2.2.2.1 (by decide) ki_1 rfl ?_
      refine aw_goto C 7 (tb_at ok_X0_run 12 rfl) (by decide) ?_
      exact aw_loc [some (.ref 45), none, some (.int a2), some (.int (a3 + 1))] (sl_k (sl_n (sl_k (sl_k sl_0)))) (ih _ _ h)
set_option maxHeartbeats 4000000 in
set_option maxRecDepth 20000 in
theorem t_fD_run {K : Cx} {n : Nat} {q1 : Nat} {a2 : Int32} {M : Mem} {r : Mem} (C : Ctx K RX0 cX0_run) (S : SS K n 6 4 none (Tv n r)) (hn : 85 ≤ n) (hq1 : hOK q1) (h : fD_run q1 a2 M = some r) : AS K n M 0 [some (.ref 45), some (.ref q1), some (.int a2), none] [] := by
  refine aw_aload_n C (tb_at ok_X0_run 0 rfl) rfl ?_
  refine aw_aload_n C (tb_at ok_X0_run 1 rfl) rfl ?_
  refine sw_cVv C S [.ref q1] [] (tb_at ok_X0_run 2 rfl) h (fun q e => m_fD_start hn hq1 e) mf_X0_start (ob_45 hn) rfl rfl cw_RX0_64 rfl (by decide) rfl (Nat.le_of_ble_eq_true rfl) (fun M1 h => ?_)
  refine aw_iconst C (tb_at ok_X0_run 3 rfl) ki_0 ?_
  refine aw_istore_n C [some (.ref 45), some (.ref q1), some (.int a2), some (.int 0)] (tb_at ok_X0_run 4 rfl) S.2.2.2.1 (by decide) rfl ?_
  exact aw_loc [some (.ref 45), none, some (.int a2), some (.int 0)] (sl_k (sl_n (sl_k (sl_k sl_0)))) (t_fD_run_b7 C S hn 1000 _ _ h)
theorem m_fD_run {l : Launch} {w : Wd} {n : Nat} {q1 : Nat} {a2 : Int32} {M : Mem} {r : Mem} (hn : 85 ≤ n) (hq1 : hOK q1) (h : fD_run q1 a2 M = some r) : CM l w yX0_run cX0_run 4 none 6 0 0 [.ref 45, .ref q1, .int a2] n M (PD M) (Tv n r) := sm_of (loc := [some (.ref 45), some (.ref q1), some (.int a2), none]) mf_X0_run (by decide) (Nat.le_of_ble_eq_true rfl) rfl (fun K _ _ C S => t_fD_run C S hn hq1 h)
def tb_X7_sum : List (Nat × Instr × Nat) := [(0, .iconst 0, 1), (1, .istore_n 1, 1), (2, .iconst 0, 1), (3, .istore_n 2, 1), (4, .iload_n 2, 1), (5, .aload_n 0, 1), (6, .arraylength, 1), (7, .if_icmp .ge 15, 3), (10, .iload_n 1, 1), (11, .aload_n 0, 1), (12, .iload_n 2, 1), (13, .iaload, 1), (14, .iadd, 1), (15, .istore_n 1, 1), (16, .iinc 2 1, 3), (19, .goto (-15), 3), (22, .iload_n 1, 1), (23, .ireturn, 1)]
theorem ok_X7_sum : TB cX7_sum tb_X7_sum := (by decide +kernel : tb_X7_sum.all (fun q => tbq cX7_sum q) = true)
set_option maxHeartbeats 4000000 in
set_option maxRecDepth 20000 in
theorem t_fN_sum_b4 {K : Cx} {n : Nat} {q0 : Nat} {r : Int32 × Mem} (C : Ctx K RX7 cX7_sum) (S : SS K n 1 3 (some .int) (Ti n r)) (hn : 85 ≤ n) (hq0 : OB n q0 20 8) : ∀ (z : Nat) (a1 : Int32) (a2 : Int32) (M : Mem), fN_sum_b4 q0 z a1 a2 M = some r → AS K n M 4 [some (.ref q0), some (.int a1), some (.int a2)] [] := by
  intro z
  induction z with
  | zero => intro a1 a2 M h; cases h
  | succ z ih =>
    intro a1 a2 M h
    refine aw_iload_n C (tb_at ok_X7_sum 4 rfl) rfl ?_
    refine aw_aload_n C (tb_at ok_X7_sum 5 rfl) rfl ?_
    refine aw_alen C 0 hq0 (by decide) rfl (tb_at ok_X7_sum 6 rfl) ?_
    refine aw_icmp_ge C 22 (tb_at ok_X7_sum 7 rfl) (by decide) h (fun h => ?_) (fun h => ?_)
    · refine aw_iload_n C (tb_at ok_X7_sum 16 rfl) rfl ?_
      exact sw_iret C S rfl (tb_at ok_X7_sum 17 rfl) h
    · refine aw_iload_n C (tb_at ok_X7_sum 8 rfl) rfl ?_
      refine aw_aload_n C (tb_at ok_X7_sum 9 rfl) rfl ?_
      refine aw_iload_n C (tb_at ok_X7_sum 10 rfl) rfl ?_
      refine aw_iald C hq0 (tb_at ok_X7_sum 11 rfl) h (fun h => ?_)
      refine aw_iadd C (tb_at ok_X7_sum 12 rfl) ?_
      refine aw_istore_n C [some (.ref q0), some (.int (a1 + (M q0 (ix a2)))), some (.int a2)] (tb_at ok_X7_sum 13 rfl) S.2.2.2.1 (by decide) rfl ?_
      refine aw_iinc C [some (.ref q0), some (.int (a1 + (M q0 (ix a2)))), some (.int (a2 + 1))] (tb_at ok_X7_sum 14 rfl) rfl S.2.2.2.1 (by decide) ki_1 rfl ?_
      refine aw_goto C 4 (tb_at ok_X7_sum 15 rfl) (by decide) ?_
      exact aw_loc [some (.ref q0), some (.int (a1 + (M q0 (ix a2)))), some (.int (a2 + 1))] (sl_k (sl_k (sl_k sl_0))) (ih _ _ _ h)
set_option maxHeartbeats 4000000 in
set_option maxRecDepth 20000 in
theorem t_fN_sum {K : Cx} {n : Nat} {q0 : Nat} {M : Mem} {r : Int32 × Mem} (C : Ctx K RX7 cX7_sum) (S : SS K n 1 3 (some .int) (Ti n r)) (hn : 85 ≤ n) (hq0 : OB n q0 20 8) (h : fN_sum q0 M = some r) : AS K n M 0 [some (.ref q0), none, none] [] := by
  refine aw_iconst C (tb_at ok_X7_sum 0 rfl) ki_0 ?_
  refine aw_istore_n C [some (.ref q0), some (.int 0), none] (tb_at ok_X7_sum 1 rfl) S.2.2.2.1 (by decide) rfl ?_
  refine aw_iconst C (tb_at ok_X7_sum 2 rfl) ki_0 ?_
  refine aw_istore_n C [some (.ref q0), some (.int 0), some (.int 0)] (tb_at ok_X7_sum 3 rfl) S.2.2.2.1 (by decide) rfl ?_
  exact aw_loc [some (.ref q0), some (.int 0), some (.int 0)] (sl_k (sl_k (sl_k sl_0))) (t_fN_sum_b4 C S hn hq0 1000 _ _ _ h)
theorem m_fN_sum {l : Launch} {w : Wd} {n : Nat} {q0 : Nat} {M : Mem} {r : Int32 × Mem} (hn : 85 ≤ n) (hq0 : OB n q0 20 8) (h : fN_sum q0 M = some r) : CM l w yX7_sum cX7_sum 3 (some .int) 1 0 0 [.ref q0] n M (PD M) (Ti n r) := sm_of (loc := [some (.ref q0), none, none]) mf_X7_sum (by decide) (Nat.le_of_ble_eq_true rfl) rfl (fun K _ _ C S => t_fN_sum C S hn hq0 h)
def tb_X0_workLeft : List (Nat × Instr × Nat) := [(0, .aload_n 0, 1), (1, .getfield 43, 3), (4, .invokestatic 161, 3), (7, .ireturn, 1)]
theorem ok_X0_workLeft : TB cX0_workLeft tb_X0_workLeft := (by decide +kernel : tb_X0_workLeft.all (fun q => tbq cX0_workLeft q) = true)
set_option maxHeartbeats 4000000 in
set_option maxRecDepth 20000 in
theorem t_fD_workLeft {K : Cx} {n : Nat} {M : Mem} {r : Int32 × Mem} (C : Ctx K RX0 cX0_workLeft) (S : SS K n 2 1 (some .int) (Ti n r)) (hn : 85 ≤ n) (h : fD_workLeft M = some r) : AS K n M 0 [some (.ref 45)] [] := by
  refine aw_aload_n C (tb_at ok_X0_workLeft 0 rfl) rfl ?_
  refine aw_getR C (ob_45 hn) rfl (by decide) rfl p_45_11 fl_RX0_43 (tb_at ok_X0_workLeft 1 rfl) ?_
  refine sw_cSNi C S [.ref 56] [] (tb_at ok_X0_workLeft 2 rfl) h (fun q e => m_fN_sum hn (ob_56 hn) e) mf_X7_sum cw_RX0_161 rfl (by decide) rfl (Nat.le_of_ble_eq_true rfl) (fun r1 M1 h => ?_)
  exact sw_iret C S rfl (tb_at ok_X0_workLeft 3 rfl) h
theorem m_fD_workLeft {l : Launch} {w : Wd} {n : Nat} {M : Mem} {r : Int32 × Mem} (hn : 85 ≤ n) (h : fD_workLeft M = some r) : CM l w yX0_workLeft cX0_workLeft 1 (some .int) 2 0 0 [.ref 45] n M (PD M) (Ti n r) := sm_of (loc := [some (.ref 45)]) mf_X0_workLeft (by decide) (Nat.le_of_ble_eq_true rfl) rfl (fun K _ _ C S => t_fD_workLeft C S hn h)
def tb_X0_dear : List (Nat × Instr × Nat) := [(0, .aload_n 0, 1), (1, .getfield 43, 3), (4, .invokestatic 161, 3), (7, .aload_n 0, 1), (8, .getfield 50, 3), (11, .iadd, 1), (12, .ireturn, 1)]
theorem ok_X0_dear : TB cX0_dear tb_X0_dear := (by decide +kernel : tb_X0_dear.all (fun q => tbq cX0_dear q) = true)
set_option maxHeartbeats 4000000 in
set_option maxRecDepth 20000 in
theorem t_fD_dear {K : Cx} {n : Nat} {M : Mem} {r : Int32 × Mem} (C : Ctx K RX0 cX0_dear) (S : SS K n 2 1 (some .int) (Ti n r)) (hn : 85 ≤ n) (h : fD_dear M = some r) : AS K n M 0 [some (.ref 45)] [] := by
  refine aw_aload_n C (tb_at ok_X0_dear 0 rfl) rfl ?_
  refine aw_getR C (ob_45 hn) rfl (by decide) rfl p_45_11 fl_RX0_43 (tb_at ok_X0_dear 1 rfl) ?_
  refine sw_cSNi C S [.ref 56] [] (tb_at ok_X0_dear 2 rfl) h (fun q e => m_fN_sum hn (ob_56 hn) e) mf_X7_sum cw_RX0_161 rfl (by decide) rfl (Nat.le_of_ble_eq_true rfl) (fun r1 M1 h => ?_)
  refine aw_aload_n C (tb_at ok_X0_dear 3 rfl) rfl ?_
  refine aw_get C (ob_45 hn) rfl (by decide) rfl fl_RX0_50 (tb_at ok_X0_dear 4 rfl) ?_
  refine aw_iadd C (tb_at ok_X0_dear 5 rfl) ?_
  exact sw_iret C S rfl (tb_at ok_X0_dear 6 rfl) h
theorem m_fD_dear {l : Launch} {w : Wd} {n : Nat} {M : Mem} {r : Int32 × Mem} (hn : 85 ≤ n) (h : fD_dear M = some r) : CM l w yX0_dear cX0_dear 1 (some .int) 2 0 0 [.ref 45] n M (PD M) (Ti n r) := sm_of (loc := [some (.ref 45)]) mf_X0_dear (by decide) (Nat.le_of_ble_eq_true rfl) rfl (fun K _ _ C S => t_fD_dear C S hn h)
def tb_X0_isAnySeen : List (Nat × Instr × Nat) := [(0, .iconst 0, 1), (1, .istore_n 1, 1), (2, .iload_n 1, 1), (3, .aload_n 0, 1), (4, .getfield 56, 3), (7, .getfield 87, 3), (10, .if_icmp .ge 20, 3), (13, .aload_n 0, 1), (14, .getfield 37, 3), (17, .iload_n 1, 1), (18, .iaload, 1), (19, .ifCond .le 5, 3), (22, .iconst 1, 1), (23, .ireturn, 1), (24, .iinc 1 1, 3), (27, .goto (-25), 3), (30, .iconst 0, 1), (31, .ireturn, 1)]
theorem ok_X0_isAnySeen : TB cX0_isAnySeen tb_X0_isAnySeen := (by decide +kernel : tb_X0_isAnySeen.all (fun q => tbq cX0_isAnySeen q) = true)
set_option maxHeartbeats 4000000 in
set_option maxRecDepth 20000 in
theorem t_fD_isAnySeen_b2 {K : Cx} {n : Nat} {r : Int32 × Mem} (C : Ctx K RX0 cX0_isAnySeen) (S : SS K n 1 2 (some .boolean) (Ti n r)) (hn : 85 ≤ n) : ∀ (z : Nat) (a1 : Int32) (M : Mem), fD_isAnySeen_b2 z a1 M = some r → AS K n M 2 [some (.ref 45), some (.int a1)] [] := by
  intro z
  induction z with
  | zero => intro a1 M h; cases h
  | succ z ih =>
    intro a1 M h
    refine aw_iload_n C (tb_at ok_X0_isAnySeen 2 rfl) rfl ?_
    refine aw_aload_n C (tb_at ok_X0_isAnySeen 3 rfl) rfl ?_
    refine sw_getH C hn fl_RX0_56 (tb_at ok_X0_isAnySeen 4 rfl) h (fun hi1 h => ?_)
    refine aw_get C (hO hn hi1) rfl (by decide) rfl fl_RX0_87 (tb_at ok_X0_isAnySeen 5 rfl) ?_
    refine aw_icmp_ge C 30 (tb_at ok_X0_isAnySeen 6 rfl) (by decide) h (fun h => ?_) (fun h => ?_)
    · refine aw_iconst C (tb_at ok_X0_isAnySeen 16 rfl) ki_0 ?_
      exact sw_iret C S rfl (tb_at ok_X0_isAnySeen 17 rfl) h
    · refine aw_aload_n C (tb_at ok_X0_isAnySeen 7 rfl) rfl ?_
      refine aw_getR C (ob_45 hn) rfl (by decide) rfl p_45_9 fl_RX0_37 (tb_at ok_X0_isAnySeen 8 rfl) ?_
      refine aw_iload_n C (tb_at ok_X0_isAnySeen 9 rfl) rfl ?_
      refine aw_iald C (ob_54 hn) (tb_at ok_X0_isAnySeen 10 rfl) h (fun h => ?_)
      refine aw_if_le C 24 (tb_at ok_X0_isAnySeen 11 rfl) (by decide) h (fun h => ?_) (fun h => ?_)
      · refine aw_iinc C [some (.ref 45), some (.int (a1 + 1))] (tb_at ok_X0_isAnySeen 14 rfl) rfl S.2.2.2.1 (by decide) ki_1 rfl ?_
        refine aw_goto C 2 (tb_at ok_X0_isAnySeen 15 rfl) (by decide) ?_
        exact aw_loc [some (.ref 45), some (.int (a1 + 1))] (sl_k (sl_k sl_0)) (ih _ _ h)
      · refine aw_iconst C (tb_at ok_X0_isAnySeen 12 rfl) ki_1 ?_
        exact sw_iret C S rfl (tb_at ok_X0_isAnySeen 13 rfl) h
set_option maxHeartbeats 4000000 in
set_option maxRecDepth 20000 in
theorem t_fD_isAnySeen {K : Cx} {n : Nat} {M : Mem} {r : Int32 × Mem} (C : Ctx K RX0 cX0_isAnySeen) (S : SS K n 1 2 (some .boolean) (Ti n r)) (hn : 85 ≤ n) (h : fD_isAnySeen M = some r) : AS K n M 0 [some (.ref 45), none] [] := by
  refine aw_iconst C (tb_at ok_X0_isAnySeen 0 rfl) ki_0 ?_
  refine aw_istore_n C [some (.ref 45), some (.int 0)] (tb_at ok_X0_isAnySeen 1 rfl) S.2.2.2.1 (by decide) rfl ?_
  exact aw_loc [some (.ref 45), some (.int 0)] (sl_k (sl_k sl_0)) (t_fD_isAnySeen_b2 C S hn 1000 _ _ h)
theorem m_fD_isAnySeen {l : Launch} {w : Wd} {n : Nat} {M : Mem} {r : Int32 × Mem} (hn : 85 ≤ n) (h : fD_isAnySeen M = some r) : CM l w yX0_isAnySeen cX0_isAnySeen 2 (some .boolean) 1 0 0 [.ref 45] n M (PD M) (Ti n r) := sm_of (loc := [some (.ref 45), none]) mf_X0_isAnySeen (by decide) (Nat.le_of_ble_eq_true rfl) rfl (fun K _ _ C S => t_fD_isAnySeen C S hn h)
def tb_X0_ofMaid : List (Nat × Instr × Nat) := [(0, .iload_n 1, 1), (1, .aload_n 0, 1), (2, .getfield 56, 3), (5, .getfield 87, 3), (8, .invokestatic 165, 3), (11, .ifCond .ne 6, 3), (14, .bipush (-2), 2), (16, .ireturn, 1), (17, .iload_n 2, 1), (18, .tableswitch 47 1 3 #[26, 33, 40], 26), (44, .aload_n 0, 1), (45, .getfield 25, 3), (48, .iload_n 1, 1), (49, .iaload, 1), (50, .ireturn, 1), (51, .aload_n 0, 1), (52, .getfield 37, 3), (55, .iload_n 1, 1), (56, .iaload, 1), (57, .ireturn, 1), (58, .aload_n 0, 1), (59, .getfield 40, 3), (62, .iload_n 1, 1), (63, .iaload, 1), (64, .ireturn, 1), (65, .aload_n 0, 1), (66, .getfield 56, 3), (69, .getfield 90, 3), (72, .iload_n 1, 1), (73, .aaload, 1), (74, .aload_n 0, 1), (75, .getfield 34, 3), (78, .iload_n 1, 1), (79, .iaload, 1), (80, .invokevirtual 117, 3), (83, .ireturn, 1)]
theorem ok_X0_ofMaid : TB cX0_ofMaid tb_X0_ofMaid := (by decide +kernel : tb_X0_ofMaid.all (fun q => tbq cX0_ofMaid q) = true)
set_option maxHeartbeats 4000000 in
set_option maxRecDepth 20000 in
theorem t_fD_ofMaid {K : Cx} {n : Nat} {a1 : Int32} {a2 : Int32} {M : Mem} {r : Int32 × Mem} (C : Ctx K RX0 cX0_ofMaid) (S : SS K n 3 3 (some .int) (Ti n r)) (hn : 85 ≤ n) (h : fD_ofMaid a1 a2 M = some r) : AS K n M 0 [some (.ref 45), some (.int a1), some (.int a2)] [] := by
  refine aw_iload_n C (tb_at ok_X0_ofMaid 0 rfl) rfl ?_
  refine aw_aload_n C (tb_at ok_X0_ofMaid 1 rfl) rfl ?_
  refine sw_getH C hn fl_RX0_56 (tb_at ok_X0_ofMaid 2 rfl) h (fun hi1 h => ?_)
  refine aw_get C (hO hn hi1) rfl (by decide) rfl fl_RX0_87 (tb_at ok_X0_ofMaid 3 rfl) ?_
  refine sw_cSNi C S [.int a1, .int (M (ix (M 45 0)) 2)] [] (tb_at ok_X0_ofMaid 4 rfl) h (fun q e => m_fN_within hn e) mf_X7_within cw_RX0_165 rfl (by decide) rfl (Nat.le_of_ble_eq_true rfl) (fun r2 M2 h => ?_)
  refine aw_if_ne C 17 (tb_at ok_X0_ofMaid 5 rfl) (by decide) h (fun h => ?_) (fun h => ?_)
  · refine aw_bipush C (tb_at ok_X0_ofMaid 6 rfl) kb_m2 ?_
    exact sw_iret C S rfl (tb_at ok_X0_ofMaid 7 rfl) h
  · refine aw_iload_n C (tb_at ok_X0_ofMaid 8 rfl) rfl ?_
    by_cases c3 : a2 = 1
    · refine aw_tsIn C 26 44 (tb_at ok_X0_ofMaid 9 rfl) (by rw [c3]; decide) (by rw [c3]; decide) (by rw [c3]; rfl) (by decide) ?_
      have h := (if_pos c3).symm.trans h
      refine aw_aload_n C (tb_at ok_X0_ofMaid 10 rfl) rfl ?_
      refine aw_getR C (ob_45 hn) rfl (by decide) rfl p_45_5 fl_RX0_25 (tb_at ok_X0_ofMaid 11 rfl) ?_
      refine aw_iload_n C (tb_at ok_X0_ofMaid 12 rfl) rfl ?_
      refine aw_iald C (ob_50 hn) (tb_at ok_X0_ofMaid 13 rfl) h (fun h => ?_)
      exact sw_iret C S rfl (tb_at ok_X0_ofMaid 14 rfl) h
    have h := (if_neg c3).symm.trans h
    by_cases c4 : a2 = 2
    · refine aw_tsIn C 33 51 (tb_at ok_X0_ofMaid 9 rfl) (by rw [c4]; decide) (by rw [c4]; decide) (by rw [c4]; rfl) (by decide) ?_
      have h := (if_pos c4).symm.trans h
      refine aw_aload_n C (tb_at ok_X0_ofMaid 15 rfl) rfl ?_
      refine aw_getR C (ob_45 hn) rfl (by decide) rfl p_45_9 fl_RX0_37 (tb_at ok_X0_ofMaid 16 rfl) ?_
      refine aw_iload_n C (tb_at ok_X0_ofMaid 17 rfl) rfl ?_
      refine aw_iald C (ob_54 hn) (tb_at ok_X0_ofMaid 18 rfl) h (fun h => ?_)
      exact sw_iret C S rfl (tb_at ok_X0_ofMaid 19 rfl) h
    have h := (if_neg c4).symm.trans h
    by_cases c5 : a2 = 3
    · refine aw_tsIn C 40 58 (tb_at ok_X0_ofMaid 9 rfl) (by rw [c5]; decide) (by rw [c5]; decide) (by rw [c5]; rfl) (by decide) ?_
      have h := (if_pos c5).symm.trans h
      refine aw_aload_n C (tb_at ok_X0_ofMaid 20 rfl) rfl ?_
      refine aw_getR C (ob_45 hn) rfl (by decide) rfl p_45_10 fl_RX0_40 (tb_at ok_X0_ofMaid 21 rfl) ?_
      refine aw_iload_n C (tb_at ok_X0_ofMaid 22 rfl) rfl ?_
      refine aw_iald C (ob_55 hn) (tb_at ok_X0_ofMaid 23 rfl) h (fun h => ?_)
      exact sw_iret C S rfl (tb_at ok_X0_ofMaid 24 rfl) h
    have h := (if_neg c5).symm.trans h
    refine aw_tsOut C 65 (tb_at ok_X0_ofMaid 9 rfl) ?_ (by decide) ?_
    · rcases Int.lt_or_le (a2).toInt 1 with q | q
      · exact Or.inl q
      · refine Or.inr (Int.lt_of_not_ge (fun q2 => ?_))
        have q3 : (a2).toInt = 1 ∨ (a2).toInt = 2 ∨ (a2).toInt = 3 := by omega
        rcases q3 with e | e | e
        · exact c3 (Int32.toInt_inj.mp (e.trans (by decide)))
        · exact c4 (Int32.toInt_inj.mp (e.trans (by decide)))
        · exact c5 (Int32.toInt_inj.mp (e.trans (by decide)))
    refine aw_aload_n C (tb_at ok_X0_ofMaid 25 rfl) rfl ?_
    refine sw_getH C hn fl_RX0_56 (tb_at ok_X0_ofMaid 26 rfl) h (fun hi6 h => ?_)
    refine aw_getR C (hO hn hi6) rfl (by decide) rfl (hP7 hi6) fl_RX0_90 (tb_at ok_X0_ofMaid 27 rfl) ?_
    refine aw_iload_n C (tb_at ok_X0_ofMaid 28 rfl) rfl ?_
    refine sw_aald C 2 (hO4 hn hi6) (by decide) rfl (tb_at ok_X0_ofMaid 29 rfl) (fun z => hPA hi6 z) h (fun hi7 h => ?_)
    refine aw_aload_n C (tb_at ok_X0_ofMaid 30 rfl) rfl ?_
    refine aw_getR C (ob_45 hn) rfl (by decide) rfl p_45_8 fl_RX0_34 (tb_at ok_X0_ofMaid 31 rfl) ?_
    refine aw_iload_n C (tb_at ok_X0_ofMaid 32 rfl) rfl ?_
    refine aw_iald C (ob_53 hn) (tb_at ok_X0_ofMaid 33 rfl) h (fun h => ?_)
    refine sw_cVi C S [.int (M2 53 (ix a1))] [] (tb_at ok_X0_ofMaid 34 rfl) h (fun q e => m_fA_roomListed hn (hA hi6 hi7) e) mf_X2_roomListed (aO hn (hA hi6 hi7)) rfl rfl cw_RX0_117 rfl (by decide) rfl (Nat.le_of_ble_eq_true rfl) (fun r8 M8 h => ?_)
    exact sw_iret C S rfl (tb_at ok_X0_ofMaid 35 rfl) h
theorem m_fD_ofMaid {l : Launch} {w : Wd} {n : Nat} {a1 : Int32} {a2 : Int32} {M : Mem} {r : Int32 × Mem} (hn : 85 ≤ n) (h : fD_ofMaid a1 a2 M = some r) : CM l w yX0_ofMaid cX0_ofMaid 3 (some .int) 3 0 0 [.ref 45, .int a1, .int a2] n M (PD M) (Ti n r) := sm_of (loc := [some (.ref 45), some (.int a1), some (.int a2)]) mf_X0_ofMaid (by decide) (Nat.le_of_ble_eq_true rfl) rfl (fun K _ _ C S => t_fD_ofMaid C S hn h)
def tb_X2_become : List (Nat × Instr × Nat) := [(0, .aload_n 0, 1), (1, .aload_n 1, 1), (2, .getfield 9, 3), (5, .putfield 9, 3), (8, .aload_n 0, 1), (9, .aload_n 1, 1), (10, .getfield 15, 3), (13, .putfield 15, 3), (16, .aload_n 0, 1), (17, .aload_n 1, 1), (18, .getfield 18, 3), (21, .putfield 18, 3), (24, .aload_n 0, 1), (25, .aload_n 1, 1), (26, .getfield 21, 3), (29, .putfield 21, 3), (32, .aload_n 1, 1), (33, .getfield 24, 3), (36, .iconst 0, 1), (37, .aload_n 0, 1), (38, .getfield 24, 3), (41, .iconst 0, 1), (42, .iconst 5, 1), (43, .invokestatic 28, 3), (46, .return_, 1)]
theorem ok_X2_become : TB cX2_become tb_X2_become := (by decide +kernel : tb_X2_become.all (fun q => tbq cX2_become q) = true)
set_option maxHeartbeats 4000000 in
set_option maxRecDepth 20000 in
theorem t_fA_become {K : Cx} {n : Nat} {q0 : Nat} {q1 : Nat} {M : Mem} {r : Mem} (C : Ctx K RX2 cX2_become) (S : SS K n 1 2 none (Tv n r)) (hn : 85 ≤ n) (hq0 : aOK q0) (hq1 : aOK q1) (h : fA_become q0 q1 M = some r) : AS K n M 0 [some (.ref q0), some (.ref q1)] [] := by
  refine aw_aload_n C (tb_at ok_X2_become 0 rfl) rfl ?_
  refine aw_aload_n C (tb_at ok_X2_become 1 rfl) rfl ?_
  refine aw_get C (aO hn hq1) rfl (by decide) rfl fl_RX2_9 (tb_at ok_X2_become 2 rfl) ?_
  refine sw_put C (aO hn hq0) rfl (by decide) (by decide) (Or.inl (aN45 hq0)) rfl rfl rfl rfl fl_RX2_9 (tb_at ok_X2_become 3 rfl) ?_
  refine aw_aload_n C (tb_at ok_X2_become 4 rfl) rfl ?_
  refine aw_aload_n C (tb_at ok_X2_become 5 rfl) rfl ?_
  refine aw_get C (aO hn hq1) rfl (by decide) rfl fl_RX2_15 (tb_at ok_X2_become 6 rfl) ?_
  refine sw_put C (aO hn hq0) rfl (by decide) (by decide) (Or.inr (by decide)) rfl rfl rfl rfl fl_RX2_15 (tb_at ok_X2_become 7 rfl) ?_
  refine aw_aload_n C (tb_at ok_X2_become 8 rfl) rfl ?_
  refine aw_aload_n C (tb_at ok_X2_become 9 rfl) rfl ?_
  refine aw_get C (aO hn hq1) rfl (by decide) rfl fl_RX2_18 (tb_at ok_X2_become 10 rfl) ?_
  refine sw_put C (aO hn hq0) rfl (by decide) (by decide) (Or.inr (by decide)) rfl rfl rfl rfl fl_RX2_18 (tb_at ok_X2_become 11 rfl) ?_
  refine aw_aload_n C (tb_at ok_X2_become 12 rfl) rfl ?_
  refine aw_aload_n C (tb_at ok_X2_become 13 rfl) rfl ?_
  refine aw_get C (aO hn hq1) rfl (by decide) rfl fl_RX2_21 (tb_at ok_X2_become 14 rfl) ?_
  refine sw_put C (aO hn hq0) rfl (by decide) (by decide) (Or.inr (by decide)) rfl rfl rfl rfl fl_RX2_21 (tb_at ok_X2_become 15 rfl) ?_
  refine aw_aload_n C (tb_at ok_X2_become 16 rfl) rfl ?_
  refine aw_getR C (aO hn hq1) rfl (by decide) rfl (aP4 hq1) fl_RX2_24 (tb_at ok_X2_become 17 rfl) ?_
  refine aw_iconst C (tb_at ok_X2_become 18 rfl) ki_0 ?_
  refine aw_aload_n C (tb_at ok_X2_become 19 rfl) rfl ?_
  refine aw_getR C (aO hn hq0) rfl (by decide) rfl (aP4 hq0) fl_RX2_24 (tb_at ok_X2_become 20 rfl) ?_
  refine aw_iconst C (tb_at ok_X2_become 21 rfl) ki_0 ?_
  refine aw_iconst C (tb_at ok_X2_become 22 rfl) ki_5 ?_
  refine sw_copy C (aO1 hn hq1) (aO1 hn hq0) ml_RX2_28 (Nat.le_of_ble_eq_true rfl) (tb_at ok_X2_become 23 rfl) h w_copy (fun h => ?_)
  exact sw_vret C S (tb_at ok_X2_become 24 rfl) h
theorem m_fA_become {l : Launch} {w : Wd} {n : Nat} {q0 : Nat} {q1 : Nat} {M : Mem} {r : Mem} (hn : 85 ≤ n) (hq0 : aOK q0) (hq1 : aOK q1) (h : fA_become q0 q1 M = some r) : CM l w yX2_become cX2_become 2 none 1 0 0 [.ref q0, .ref q1] n M (PD M) (Tv n r) := sm_of (loc := [some (.ref q0), some (.ref q1)]) mf_X2_become (by decide) (Nat.le_of_ble_eq_true rfl) rfl (fun K _ _ C S => t_fA_become C S hn hq0 hq1 h)
def tb_X1_become : List (Nat × Instr × Nat) := [(0, .aload_n 0, 1), (1, .aload_n 1, 1), (2, .getfield 9, 3), (5, .putfield 9, 3), (8, .aload_n 0, 1), (9, .aload_n 1, 1), (10, .getfield 15, 3), (13, .putfield 15, 3), (16, .aload_n 0, 1), (17, .aload_n 1, 1), (18, .getfield 18, 3), (21, .putfield 18, 3), (24, .aload_n 0, 1), (25, .aload_n 1, 1), (26, .getfield 21, 3), (29, .putfield 21, 3), (32, .aload_n 1, 1), (33, .getfield 24, 3), (36, .iconst 0, 1), (37, .aload_n 0, 1), (38, .getfield 24, 3), (41, .iconst 0, 1), (42, .bipush 8, 2), (44, .invokestatic 41, 3), (47, .aload_n 1, 1), (48, .getfield 28, 3), (51, .iconst 0, 1), (52, .aload_n 0, 1), (53, .getfield 28, 3), (56, .iconst 0, 1), (57, .bipush 8, 2), (59, .invokestatic 41, 3), (62, .aload_n 1, 1), (63, .getfield 31, 3), (66, .iconst 0, 1), (67, .aload_n 0, 1), (68, .getfield 31, 3), (71, .iconst 0, 1), (72, .bipush 8, 2), (74, .invokestatic 41, 3), (77, .iconst 0, 1), (78, .istore_n 2, 1), (79, .iload_n 2, 1), (80, .iconst 4, 1), (81, .if_icmp .ge 24, 3), (84, .aload_n 0, 1), (85, .getfield 36, 3), (88, .iload_n 2, 1), (89, .aaload, 1), (90, .aload_n 1, 1), (91, .getfield 36, 3), (94, .iload_n 2, 1), (95, .aaload, 1), (96, .invokevirtual 47, 3), (99, .iinc 2 1, 3), (102, .goto (-23), 3), (105, .return_, 1)]
theorem ok_X1_become : TB cX1_become tb_X1_become := (by decide +kernel : tb_X1_become.all (fun q => tbq cX1_become q) = true)
set_option maxHeartbeats 4000000 in
set_option maxRecDepth 20000 in
theorem t_fH_become_b79 {K : Cx} {n : Nat} {q0 : Nat} {q1 : Nat} {r : Mem} (C : Ctx K RX1 cX1_become) (S : SS K n 2 3 none (Tv n r)) (hn : 85 ≤ n) (hq0 : hOK q0) (hq1 : hOK q1) : ∀ (z : Nat) (a2 : Int32) (M : Mem), fH_become_b79 q0 q1 z a2 M = some r → AS K n M 79 [some (.ref q0), some (.ref q1), some (.int a2)] [] := by
  intro z
  induction z with
  | zero => intro a2 M h; cases h
  | succ z ih =>
    intro a2 M h
    refine aw_iload_n C (tb_at ok_X1_become 42 rfl) rfl ?_
    refine aw_iconst C (tb_at ok_X1_become 43 rfl) ki_4 ?_
    refine aw_icmp_ge C 105 (tb_at ok_X1_become 44 rfl) (by decide) h (fun h => ?_) (fun h => ?_)
    · exact sw_vret C S (tb_at ok_X1_become 56 rfl) h
    · refine aw_aload_n C (tb_at ok_X1_become 45 rfl) rfl ?_
      refine aw_getR C (hO hn hq0) rfl (by decide) rfl (hP7 hq0) fl_RX1_36 (tb_at ok_X1_become 46 rfl) ?_
      refine aw_iload_n C (tb_at ok_X1_become 47 rfl) rfl ?_
      refine sw_aald C 2 (hO4 hn hq0) (by decide) rfl (tb_at ok_X1_become 48 rfl) (fun z => hPA hq0 z) h (fun hi1 h => ?_)
      refine aw_aload_n C (tb_at ok_X1_become 49 rfl) rfl ?_
      refine aw_getR C (hO hn hq1) rfl (by decide) rfl (hP7 hq1) fl_RX1_36 (tb_at ok_X1_become 50 rfl) ?_
      refine aw_iload_n C (tb_at ok_X1_become 51 rfl) rfl ?_
      refine sw_aald C 2 (hO4 hn hq1) (by decide) rfl (tb_at ok_X1_become 52 rfl) (fun z => hPA hq1 z) h (fun hi2 h => ?_)
      refine sw_cVv C S [.ref (q1 + 5 + 2 * ix a2)] [] (tb_at ok_X1_become 53 rfl) h (fun q e => m_fA_become hn (hA hq0 hi1) (hA hq1 hi2) e) mf_X2_become (aO hn (hA hq0 hi1)) rfl rfl cw_RX1_47 rfl (by decide) rfl (Nat.le_of_ble_eq_true rfl) (fun M3 h => ?_)
      refine aw_iinc C [some (.ref q0), some (.ref q1), some (.int (a2 + 1))] (tb_at ok_X1_become 54 rfl) rfl S.2.2.2.1 (by decide) ki_1 rfl ?_
      refine aw_goto C 79 (tb_at ok_X1_become 55 rfl) (by decide) ?_
      exact aw_loc [some (.ref q0), some (.ref q1), some (.int (a2 + 1))] (sl_k (sl_k (sl_k sl_0))) (ih _ _ h)
set_option maxHeartbeats 4000000 in
set_option maxRecDepth 20000 in
theorem t_fH_become {K : Cx} {n : Nat} {q0 : Nat} {q1 : Nat} {M : Mem} {r : Mem} (C : Ctx K RX1 cX1_become) (S : SS K n 2 3 none (Tv n r)) (hn : 85 ≤ n) (hq0 : hOK q0) (hq1 : hOK q1) (h : fH_become q0 q1 M = some r) : AS K n M 0 [some (.ref q0), some (.ref q1), none] [] := by
  refine aw_aload_n C (tb_at ok_X1_become 0 rfl) rfl ?_
  refine aw_aload_n C (tb_at ok_X1_become 1 rfl) rfl ?_
  refine aw_get C (hO hn hq1) rfl (by decide) rfl fl_RX1_9 (tb_at ok_X1_become 2 rfl) ?_
  refine sw_put C (hO hn hq0) rfl (by decide) (by decide) (Or.inl (hN45 hq0)) rfl rfl rfl rfl fl_RX1_9 (tb_at ok_X1_become 3 rfl) ?_
  refine aw_aload_n C (tb_at ok_X1_become 4 rfl) rfl ?_
  refine aw_aload_n C (tb_at ok_X1_become 5 rfl) rfl ?_
  refine aw_get C (hO hn hq1) rfl (by decide) rfl fl_RX1_15 (tb_at ok_X1_become 6 rfl) ?_
  refine sw_put C (hO hn hq0) rfl (by decide) (by decide) (Or.inr (by decide)) rfl rfl rfl rfl fl_RX1_15 (tb_at ok_X1_become 7 rfl) ?_
  refine aw_aload_n C (tb_at ok_X1_become 8 rfl) rfl ?_
  refine aw_aload_n C (tb_at ok_X1_become 9 rfl) rfl ?_
  refine aw_get C (hO hn hq1) rfl (by decide) rfl fl_RX1_18 (tb_at ok_X1_become 10 rfl) ?_
  refine sw_put C (hO hn hq0) rfl (by decide) (by decide) (Or.inr (by decide)) rfl rfl rfl rfl fl_RX1_18 (tb_at ok_X1_become 11 rfl) ?_
  refine aw_aload_n C (tb_at ok_X1_become 12 rfl) rfl ?_
  refine aw_aload_n C (tb_at ok_X1_become 13 rfl) rfl ?_
  refine aw_get C (hO hn hq1) rfl (by decide) rfl fl_RX1_21 (tb_at ok_X1_become 14 rfl) ?_
  refine sw_put C (hO hn hq0) rfl (by decide) (by decide) (Or.inr (by decide)) rfl rfl rfl rfl fl_RX1_21 (tb_at ok_X1_become 15 rfl) ?_
  refine aw_aload_n C (tb_at ok_X1_become 16 rfl) rfl ?_
  refine aw_getR C (hO hn hq1) rfl (by decide) rfl (hP4 hq1) fl_RX1_24 (tb_at ok_X1_become 17 rfl) ?_
  refine aw_iconst C (tb_at ok_X1_become 18 rfl) ki_0 ?_
  refine aw_aload_n C (tb_at ok_X1_become 19 rfl) rfl ?_
  refine aw_getR C (hO hn hq0) rfl (by decide) rfl (hP4 hq0) fl_RX1_24 (tb_at ok_X1_become 20 rfl) ?_
  refine aw_iconst C (tb_at ok_X1_become 21 rfl) ki_0 ?_
  refine aw_bipush C (tb_at ok_X1_become 22 rfl) kb_8 ?_
  refine sw_copy C (hO1 hn hq1) (hO1 hn hq0) ml_RX1_41 (Nat.le_of_ble_eq_true rfl) (tb_at ok_X1_become 23 rfl) h w_copy (fun h => ?_)
  refine aw_aload_n C (tb_at ok_X1_become 24 rfl) rfl ?_
  refine aw_getR C (hO hn hq1) rfl (by decide) rfl (hP5 hq1) fl_RX1_28 (tb_at ok_X1_become 25 rfl) ?_
  refine aw_iconst C (tb_at ok_X1_become 26 rfl) ki_0 ?_
  refine aw_aload_n C (tb_at ok_X1_become 27 rfl) rfl ?_
  refine aw_getR C (hO hn hq0) rfl (by decide) rfl (hP5 hq0) fl_RX1_28 (tb_at ok_X1_become 28 rfl) ?_
  refine aw_iconst C (tb_at ok_X1_become 29 rfl) ki_0 ?_
  refine aw_bipush C (tb_at ok_X1_become 30 rfl) kb_8 ?_
  refine sw_copy C (hO2 hn hq1) (hO2 hn hq0) ml_RX1_41 (Nat.le_of_ble_eq_true rfl) (tb_at ok_X1_become 31 rfl) h w_copy (fun h => ?_)
  refine aw_aload_n C (tb_at ok_X1_become 32 rfl) rfl ?_
  refine aw_getR C (hO hn hq1) rfl (by decide) rfl (hP6 hq1) fl_RX1_31 (tb_at ok_X1_become 33 rfl) ?_
  refine aw_iconst C (tb_at ok_X1_become 34 rfl) ki_0 ?_
  refine aw_aload_n C (tb_at ok_X1_become 35 rfl) rfl ?_
  refine aw_getR C (hO hn hq0) rfl (by decide) rfl (hP6 hq0) fl_RX1_31 (tb_at ok_X1_become 36 rfl) ?_
  refine aw_iconst C (tb_at ok_X1_become 37 rfl) ki_0 ?_
  refine aw_bipush C (tb_at ok_X1_become 38 rfl) kb_8 ?_
  refine sw_copy C (hO3 hn hq1) (hO3 hn hq0) ml_RX1_41 (Nat.le_of_ble_eq_true rfl) (tb_at ok_X1_become 39 rfl) h w_copy (fun h => ?_)
  refine aw_iconst C (tb_at ok_X1_become 40 rfl) ki_0 ?_
  refine aw_istore_n C [some (.ref q0), some (.ref q1), some (.int 0)] (tb_at ok_X1_become 41 rfl) S.2.2.2.1 (by decide) rfl ?_
  exact aw_loc [some (.ref q0), some (.ref q1), some (.int 0)] (sl_k (sl_k (sl_k sl_0))) (t_fH_become_b79 C S hn hq0 hq1 1000 _ _ h)
theorem m_fH_become {l : Launch} {w : Wd} {n : Nat} {q0 : Nat} {q1 : Nat} {M : Mem} {r : Mem} (hn : 85 ≤ n) (hq0 : hOK q0) (hq1 : hOK q1) (h : fH_become q0 q1 M = some r) : CM l w yX1_become cX1_become 3 none 2 0 0 [.ref q0, .ref q1] n M (PD M) (Tv n r) := sm_of (loc := [some (.ref q0), some (.ref q1), none]) mf_X1_become (by decide) (Nat.le_of_ble_eq_true rfl) rfl (fun K _ _ C S => t_fH_become C S hn hq0 hq1 h)
def tb_X1_put : List (Nat × Instr × Nat) := [(0, .iload_n 1, 1), (1, .ifCond .ne 11, 3), (4, .aload_n 0, 1), (5, .iload_n 3, 1), (6, .putfield 9, 3), (9, .goto 124, 3), (12, .iload_n 1, 1), (13, .iconst 1, 1), (14, .if_icmp .ne 22, 3), (17, .iload_n 2, 1), (18, .bipush 8, 2), (20, .invokestatic 51, 3), (23, .ifCond .eq 13, 3), (26, .aload_n 0, 1), (27, .getfield 31, 3), (30, .iload_n 2, 1), (31, .iload_n 3, 1), (32, .iastore, 1), (33, .goto 100, 3), (36, .iload_n 1, 1), (37, .iconst 2, 1), (38, .if_icmp .ne 22, 3), (41, .iload_n 2, 1), (42, .bipush 8, 2), (44, .invokestatic 51, 3), (47, .ifCond .eq 13, 3), (50, .aload_n 0, 1), (51, .getfield 24, 3), (54, .iload_n 2, 1), (55, .iload_n 3, 1), (56, .iastore, 1), (57, .goto 76, 3), (60, .iload_n 1, 1), (61, .iconst 3, 1), (62, .if_icmp .ne 22, 3), (65, .iload_n 2, 1), (66, .bipush 8, 2), (68, .invokestatic 51, 3), (71, .ifCond .eq 13, 3), (74, .aload_n 0, 1), (75, .getfield 28, 3), (78, .iload_n 2, 1), (79, .iload_n 3, 1), (80, .iastore, 1), (81, .goto 52, 3), (84, .iload_n 1, 1), (85, .iconst 4, 1), (86, .if_icmp .ne 24, 3), (89, .iload_n 2, 1), (90, .iconst 4, 1), (91, .invokestatic 51, 3), (94, .ifCond .eq 16, 3), (97, .aload_n 0, 1), (98, .getfield 36, 3), (101, .iload_n 2, 1), (102, .aaload, 1), (103, .iload_n 3, 1), (104, .putfield 55, 3), (107, .goto 26, 3), (110, .iload_n 1, 1), (111, .iconst 5, 1), (112, .if_icmp .ne 21, 3), (115, .iload_n 2, 1), (116, .iconst 4, 1), (117, .invokestatic 51, 3), (120, .ifCond .eq 13, 3), (123, .aload_n 0, 1), (124, .getfield 36, 3), (127, .iload_n 2, 1), (128, .aaload, 1), (129, .iload_n 3, 1), (130, .putfield 58, 3), (133, .return_, 1)]
theorem ok_X1_put : TB cX1_put tb_X1_put := (by decide +kernel : tb_X1_put.all (fun q => tbq cX1_put q) = true)
set_option maxHeartbeats 4000000 in
set_option maxRecDepth 20000 in
theorem t_fH_put_b110 {K : Cx} {n : Nat} {q0 : Nat} {a1 : Int32} {a2 : Int32} {a3 : Int32} {M : Mem} {r : Mem} (C : Ctx K RX1 cX1_put) (S : SS K n 2 4 none (Tv n r)) (hn : 85 ≤ n) (hq0 : hOK q0) (h : fH_put_b110 q0 a1 a2 a3 M = some r) : AS K n M 110 [some (.ref q0), some (.int a1), some (.int a2), some (.int a3)] [] := by
  refine aw_iload_n C (tb_at ok_X1_put 59 rfl) rfl ?_
  refine aw_iconst C (tb_at ok_X1_put 60 rfl) ki_5 ?_
  refine aw_icmp_ne C 133 (tb_at ok_X1_put 61 rfl) (by decide) h (fun h => ?_) (fun h => ?_)
  · refine aw_iload_n C (tb_at ok_X1_put 62 rfl) rfl ?_
    refine aw_iconst C (tb_at ok_X1_put 63 rfl) ki_4 ?_
    refine sw_cSNi C S [.int a2, .int 4] [] (tb_at ok_X1_put 64 rfl) h (fun q e => m_fN_within hn e) mf_X7_within cw_RX1_51 rfl (by decide) rfl (Nat.le_of_ble_eq_true rfl) (fun r5 M5 h => ?_)
    refine aw_if_eq C 133 (tb_at ok_X1_put 65 rfl) (by decide) h (fun h => ?_) (fun h => ?_)
    · exact sw_vret C S (tb_at ok_X1_put 72 rfl) h
    · refine aw_aload_n C (tb_at ok_X1_put 66 rfl) rfl ?_
      refine aw_getR C (hO hn hq0) rfl (by decide) rfl (hP7 hq0) fl_RX1_36 (tb_at ok_X1_put 67 rfl) ?_
      refine aw_iload_n C (tb_at ok_X1_put 68 rfl) rfl ?_
      refine sw_aald C 2 (hO4 hn hq0) (by decide) rfl (tb_at ok_X1_put 69 rfl) (fun z => hPA hq0 z) h (fun hi6 h => ?_)
      refine aw_iload_n C (tb_at ok_X1_put 70 rfl) rfl ?_
      refine sw_put C (aO hn (hA hq0 hi6)) rfl (by decide) (by decide) (Or.inr (by decide)) rfl rfl rfl rfl fl_RX1_58 (tb_at ok_X1_put 71 rfl) ?_
      exact sw_vret C S (tb_at ok_X1_put 72 rfl) h
  · exact sw_vret C S (tb_at ok_X1_put 72 rfl) h
set_option maxHeartbeats 4000000 in
set_option maxRecDepth 20000 in
theorem t_fH_put_b84 {K : Cx} {n : Nat} {q0 : Nat} {a1 : Int32} {a2 : Int32} {a3 : Int32} {M : Mem} {r : Mem} (C : Ctx K RX1 cX1_put) (S : SS K n 2 4 none (Tv n r)) (hn : 85 ≤ n) (hq0 : hOK q0) (h : fH_put_b84 q0 a1 a2 a3 M = some r) : AS K n M 84 [some (.ref q0), some (.int a1), some (.int a2), some (.int a3)] [] := by
  refine aw_iload_n C (tb_at ok_X1_put 45 rfl) rfl ?_
  refine aw_iconst C (tb_at ok_X1_put 46 rfl) ki_4 ?_
  refine aw_icmp_ne C 110 (tb_at ok_X1_put 47 rfl) (by decide) h (fun h => ?_) (fun h => ?_)
  · refine aw_iload_n C (tb_at ok_X1_put 48 rfl) rfl ?_
    refine aw_iconst C (tb_at ok_X1_put 49 rfl) ki_4 ?_
    refine sw_cSNi C S [.int a2, .int 4] [] (tb_at ok_X1_put 50 rfl) h (fun q e => m_fN_within hn e) mf_X7_within cw_RX1_51 rfl (by decide) rfl (Nat.le_of_ble_eq_true rfl) (fun r4 M4 h => ?_)
    refine aw_if_eq C 110 (tb_at ok_X1_put 51 rfl) (by decide) h (fun h => ?_) (fun h => ?_)
    · exact aw_loc [some (.ref q0), some (.int a1), some (.int a2), some (.int a3)] (sl_k (sl_k (sl_k (sl_k sl_0)))) (t_fH_put_b110 C S hn hq0 h)
    · refine aw_aload_n C (tb_at ok_X1_put 52 rfl) rfl ?_
      refine aw_getR C (hO hn hq0) rfl (by decide) rfl (hP7 hq0) fl_RX1_36 (tb_at ok_X1_put 53 rfl) ?_
      refine aw_iload_n C (tb_at ok_X1_put 54 rfl) rfl ?_
      refine sw_aald C 2 (hO4 hn hq0) (by decide) rfl (tb_at ok_X1_put 55 rfl) (fun z => hPA hq0 z) h (fun hi7 h => ?_)
      refine aw_iload_n C (tb_at ok_X1_put 56 rfl) rfl ?_
      refine sw_put C (aO hn (hA hq0 hi7)) rfl (by decide) (by decide) (Or.inr (by decide)) rfl rfl rfl rfl fl_RX1_55 (tb_at ok_X1_put 57 rfl) ?_
      refine aw_goto C 133 (tb_at ok_X1_put 58 rfl) (by decide) ?_
      exact sw_vret C S (tb_at ok_X1_put 72 rfl) h
  · exact aw_loc [some (.ref q0), some (.int a1), some (.int a2), some (.int a3)] (sl_k (sl_k (sl_k (sl_k sl_0)))) (t_fH_put_b110 C S hn hq0 h)
set_option maxHeartbeats 4000000 in
set_option maxRecDepth 20000 in
theorem t_fH_put_b60 {K : Cx} {n : Nat} {q0 : Nat} {a1 : Int32} {a2 : Int32} {a3 : Int32} {M : Mem} {r : Mem} (C : Ctx K RX1 cX1_put) (S : SS K n 2 4 none (Tv n r)) (hn : 85 ≤ n) (hq0 : hOK q0) (h : fH_put_b60 q0 a1 a2 a3 M = some r) : AS K n M 60 [some (.ref q0), some (.int a1), some (.int a2), some (.int a3)] [] := by
  refine aw_iload_n C (tb_at ok_X1_put 32 rfl) rfl ?_
  refine aw_iconst C (tb_at ok_X1_put 33 rfl) ki_3 ?_
  refine aw_icmp_ne C 84 (tb_at ok_X1_put 34 rfl) (by decide) h (fun h => ?_) (fun h => ?_)
  · refine aw_iload_n C (tb_at ok_X1_put 35 rfl) rfl ?_
    refine aw_bipush C (tb_at ok_X1_put 36 rfl) kb_8 ?_
    refine sw_cSNi C S [.int a2, .int 8] [] (tb_at ok_X1_put 37 rfl) h (fun q e => m_fN_within hn e) mf_X7_within cw_RX1_51 rfl (by decide) rfl (Nat.le_of_ble_eq_true rfl) (fun r3 M3 h => ?_)
    refine aw_if_eq C 84 (tb_at ok_X1_put 38 rfl) (by decide) h (fun h => ?_) (fun h => ?_)
    · exact aw_loc [some (.ref q0), some (.int a1), some (.int a2), some (.int a3)] (sl_k (sl_k (sl_k (sl_k sl_0)))) (t_fH_put_b84 C S hn hq0 h)
    · refine aw_aload_n C (tb_at ok_X1_put 39 rfl) rfl ?_
      refine aw_getR C (hO hn hq0) rfl (by decide) rfl (hP5 hq0) fl_RX1_28 (tb_at ok_X1_put 40 rfl) ?_
      refine aw_iload_n C (tb_at ok_X1_put 41 rfl) rfl ?_
      refine aw_iload_n C (tb_at ok_X1_put 42 rfl) rfl ?_
      refine sw_iast C (hO2 hn hq0) (tb_at ok_X1_put 43 rfl) h (fun h => ?_)
      refine aw_goto C 133 (tb_at ok_X1_put 44 rfl) (by decide) ?_
      exact sw_vret C S (tb_at ok_X1_put 72 rfl) h
  · exact aw_loc [some (.ref q0), some (.int a1), some (.int a2), some (.int a3)] (sl_k (sl_k (sl_k (sl_k sl_0)))) (t_fH_put_b84 C S hn hq0 h)
set_option maxHeartbeats 4000000 in
set_option maxRecDepth 20000 in
theorem t_fH_put_b36 {K : Cx} {n : Nat} {q0 : Nat} {a1 : Int32} {a2 : Int32} {a3 : Int32} {M : Mem} {r : Mem} (C : Ctx K RX1 cX1_put) (S : SS K n 2 4 none (Tv n r)) (hn : 85 ≤ n) (hq0 : hOK q0) (h : fH_put_b36 q0 a1 a2 a3 M = some r) : AS K n M 36 [some (.ref q0), some (.int a1), some (.int a2), some (.int a3)] [] := by
  refine aw_iload_n C (tb_at ok_X1_put 19 rfl) rfl ?_
  refine aw_iconst C (tb_at ok_X1_put 20 rfl) ki_2 ?_
  refine aw_icmp_ne C 60 (tb_at ok_X1_put 21 rfl) (by decide) h (fun h => ?_) (fun h => ?_)
  · refine aw_iload_n C (tb_at ok_X1_put 22 rfl) rfl ?_
    refine aw_bipush C (tb_at ok_X1_put 23 rfl) kb_8 ?_
    refine sw_cSNi C S [.int a2, .int 8] [] (tb_at ok_X1_put 24 rfl) h (fun q e => m_fN_within hn e) mf_X7_within cw_RX1_51 rfl (by decide) rfl (Nat.le_of_ble_eq_true rfl) (fun r2 M2 h => ?_)
    refine aw_if_eq C 60 (tb_at ok_X1_put 25 rfl) (by decide) h (fun h => ?_) (fun h => ?_)
    · exact aw_loc [some (.ref q0), some (.int a1), some (.int a2), some (.int a3)] (sl_k (sl_k (sl_k (sl_k sl_0)))) (t_fH_put_b60 C S hn hq0 h)
    · refine aw_aload_n C (tb_at ok_X1_put 26 rfl) rfl ?_
      refine aw_getR C (hO hn hq0) rfl (by decide) rfl (hP4 hq0) fl_RX1_24 (tb_at ok_X1_put 27 rfl) ?_
      refine aw_iload_n C (tb_at ok_X1_put 28 rfl) rfl ?_
      refine aw_iload_n C (tb_at ok_X1_put 29 rfl) rfl ?_
      refine sw_iast C (hO1 hn hq0) (tb_at ok_X1_put 30 rfl) h (fun h => ?_)
      refine aw_goto C 133 (tb_at ok_X1_put 31 rfl) (by decide) ?_
      exact sw_vret C S (tb_at ok_X1_put 72 rfl) h
  · exact aw_loc [some (.ref q0), some (.int a1), some (.int a2), some (.int a3)] (sl_k (sl_k (sl_k (sl_k sl_0)))) (t_fH_put_b60 C S hn hq0 h)
set_option maxHeartbeats 4000000 in
set_option maxRecDepth 20000 in
theorem t_fH_put {K : Cx} {n : Nat} {q0 : Nat} {a1 : Int32} {a2 : Int32} {a3 : Int32} {M : Mem} {r : Mem} (C : Ctx K RX1 cX1_put) (S : SS K n 2 4 none (Tv n r)) (hn : 85 ≤ n) (hq0 : hOK q0) (h : fH_put q0 a1 a2 a3 M = some r) : AS K n M 0 [some (.ref q0), some (.int a1), some (.int a2), some (.int a3)] [] := by
  refine aw_iload_n C (tb_at ok_X1_put 0 rfl) rfl ?_
  refine aw_if_ne C 12 (tb_at ok_X1_put 1 rfl) (by decide) h (fun h => ?_) (fun h => ?_)
  · refine aw_aload_n C (tb_at ok_X1_put 2 rfl) rfl ?_
    refine aw_iload_n C (tb_at ok_X1_put 3 rfl) rfl ?_
    refine sw_put C (hO hn hq0) rfl (by decide) (by decide) (Or.inl (hN45 hq0)) rfl rfl rfl rfl fl_RX1_9 (tb_at ok_X1_put 4 rfl) ?_
    refine aw_goto C 133 (tb_at ok_X1_put 5 rfl) (by decide) ?_
    exact sw_vret C S (tb_at ok_X1_put 72 rfl) h
  · refine aw_iload_n C (tb_at ok_X1_put 6 rfl) rfl ?_
    refine aw_iconst C (tb_at ok_X1_put 7 rfl) ki_1 ?_
    refine aw_icmp_ne C 36 (tb_at ok_X1_put 8 rfl) (by decide) h (fun h => ?_) (fun h => ?_)
    · refine aw_iload_n C (tb_at ok_X1_put 9 rfl) rfl ?_
      refine aw_bipush C (tb_at ok_X1_put 10 rfl) kb_8 ?_
      refine sw_cSNi C S [.int a2, .int 8] [] (tb_at ok_X1_put 11 rfl) h (fun q e => m_fN_within hn e) mf_X7_within cw_RX1_51 rfl (by decide) rfl (Nat.le_of_ble_eq_true rfl) (fun r1 M1 h => ?_)
      refine aw_if_eq C 36 (tb_at ok_X1_put 12 rfl) (by decide) h (fun h => ?_) (fun h => ?_)
      · exact aw_loc [some (.ref q0), some (.int a1), some (.int a2), some (.int a3)] (sl_k (sl_k (sl_k (sl_k sl_0)))) (t_fH_put_b36 C S hn hq0 h)
      · refine aw_aload_n C (tb_at ok_X1_put 13 rfl) rfl ?_
        refine aw_getR C (hO hn hq0) rfl (by decide) rfl (hP6 hq0) fl_RX1_31 (tb_at ok_X1_put 14 rfl) ?_
        refine aw_iload_n C (tb_at ok_X1_put 15 rfl) rfl ?_
        refine aw_iload_n C (tb_at ok_X1_put 16 rfl) rfl ?_
        refine sw_iast C (hO3 hn hq0) (tb_at ok_X1_put 17 rfl) h (fun h => ?_)
        refine aw_goto C 133 (tb_at ok_X1_put 18 rfl) (by decide) ?_
        exact sw_vret C S (tb_at ok_X1_put 72 rfl) h
    · exact aw_loc [some (.ref q0), some (.int a1), some (.int a2), some (.int a3)] (sl_k (sl_k (sl_k (sl_k sl_0)))) (t_fH_put_b36 C S hn hq0 h)
theorem m_fH_put {l : Launch} {w : Wd} {n : Nat} {q0 : Nat} {a1 : Int32} {a2 : Int32} {a3 : Int32} {M : Mem} {r : Mem} (hn : 85 ≤ n) (hq0 : hOK q0) (h : fH_put q0 a1 a2 a3 M = some r) : CM l w yX1_put cX1_put 4 none 2 0 0 [.ref q0, .int a1, .int a2, .int a3] n M (PD M) (Tv n r) := sm_of (loc := [some (.ref q0), some (.int a1), some (.int a2), some (.int a3)]) mf_X1_put (by decide) (Nat.le_of_ble_eq_true rfl) rfl (fun K _ _ C S => t_fH_put C S hn hq0 h)
def tb_X1_leaveOut : List (Nat × Instr × Nat) := [(0, .iload_n 1, 1), (1, .istore_n 2, 1), (2, .iload_n 2, 1), (3, .aload_n 0, 1), (4, .getfield 18, 3), (7, .iconst 1, 1), (8, .isub, 1), (9, .if_icmp .ge 26, 3), (12, .aload_n 0, 1), (13, .getfield 36, 3), (16, .iload_n 2, 1), (17, .aaload, 1), (18, .aload_n 0, 1), (19, .getfield 36, 3), (22, .iload_n 2, 1), (23, .iconst 1, 1), (24, .iadd, 1), (25, .aaload, 1), (26, .invokevirtual 47, 3), (29, .iinc 2 1, 3), (32, .goto (-30), 3), (35, .aload_n 0, 1), (36, .dup, 1), (37, .getfield 18, 3), (40, .iconst 1, 1), (41, .isub, 1), (42, .putfield 18, 3), (45, .return_, 1)]
theorem ok_X1_leaveOut : TB cX1_leaveOut tb_X1_leaveOut := (by decide +kernel : tb_X1_leaveOut.all (fun q => tbq cX1_leaveOut q) = true)
set_option maxHeartbeats 4000000 in
set_option maxRecDepth 20000 in
theorem t_fH_leaveOut_b2 {K : Cx} {n : Nat} {q0 : Nat} {r : Mem} (C : Ctx K RX1 cX1_leaveOut) (S : SS K n 2 3 none (Tv n r)) (hn : 85 ≤ n) (hq0 : hOK q0) : ∀ (z : Nat) (a2 : Int32) (M : Mem), fH_leaveOut_b2 q0 z a2 M = some r → AS K n M 2 [some (.ref q0), none, some (.int a2)] [] := by
  intro z
  induction z with
  | zero => intro a2 M h; cases h
  | succ z ih =>
    intro a2 M h
    refine aw_iload_n C (tb_at ok_X1_leaveOut 2 rfl) rfl ?_
    refine aw_aload_n C (tb_at ok_X1_leaveOut 3 rfl) rfl ?_
    refine aw_get C (hO hn hq0) rfl (by decide) rfl fl_RX1_18 (tb_at ok_X1_leaveOut 4 rfl) ?_
    refine aw_iconst C (tb_at ok_X1_leaveOut 5 rfl) ki_1 ?_
    refine aw_isub C (tb_at ok_X1_leaveOut 6 rfl) ?_
    refine aw_icmp_ge C 35 (tb_at ok_X1_leaveOut 7 rfl) (by decide) h (fun h => ?_) (fun h => ?_)
    · refine aw_aload_n C (tb_at ok_X1_leaveOut 21 rfl) rfl ?_
      refine aw_dup C (tb_at ok_X1_leaveOut 22 rfl) rfl ?_
      refine aw_get C (hO hn hq0) rfl (by decide) rfl fl_RX1_18 (tb_at ok_X1_leaveOut 23 rfl) ?_
      refine aw_iconst C (tb_at ok_X1_leaveOut 24 rfl) ki_1 ?_
      refine aw_isub C (tb_at ok_X1_leaveOut 25 rfl) ?_
      refine sw_put C (hO hn hq0) rfl (by decide) (by decide) (Or.inr (by decide)) rfl rfl rfl rfl fl_RX1_18 (tb_at ok_X1_leaveOut 26 rfl) ?_
      exact sw_vret C S (tb_at ok_X1_leaveOut 27 rfl) h
    · refine aw_aload_n C (tb_at ok_X1_leaveOut 8 rfl) rfl ?_
      refine aw_getR C (hO hn hq0) rfl (by decide) rfl (hP7 hq0) fl_RX1_36 (tb_at ok_X1_leaveOut 9 rfl) ?_
      refine aw_iload_n C (tb_at ok_X1_leaveOut 10 rfl) rfl ?_
      refine sw_aald C 2 (hO4 hn hq0) (by decide) rfl (tb_at ok_X1_leaveOut 11 rfl) (fun z => hPA hq0 z) h (fun hi1 h => ?_)
      refine aw_aload_n C (tb_at ok_X1_leaveOut 12 rfl) rfl ?_
      refine aw_getR C (hO hn hq0) rfl (by decide) rfl (hP7 hq0) fl_RX1_36 (tb_at ok_X1_leaveOut 13 rfl) ?_
      refine aw_iload_n C (tb_at ok_X1_leaveOut 14 rfl) rfl ?_
      refine aw_iconst C (tb_at ok_X1_leaveOut 15 rfl) ki_1 ?_
      refine aw_iadd C (tb_at ok_X1_leaveOut 16 rfl) ?_
      refine sw_aald C 2 (hO4 hn hq0) (by decide) rfl (tb_at ok_X1_leaveOut 17 rfl) (fun z => hPA hq0 z) h (fun hi2 h => ?_)
      refine sw_cVv C S [.ref (q0 + 5 + 2 * ix (a2 + 1))] [] (tb_at ok_X1_leaveOut 18 rfl) h (fun q e => m_fA_become hn (hA hq0 hi1) (hA hq0 hi2) e) mf_X2_become (aO hn (hA hq0 hi1)) rfl rfl cw_RX1_47 rfl (by decide) rfl (Nat.le_of_ble_eq_true rfl) (fun M3 h => ?_)
      refine aw_iinc C [some (.ref q0), none, some (.int (a2 + 1))] (tb_at ok_X1_leaveOut 19 rfl) rfl S.2.2.2.1 (by decide) ki_1 rfl ?_
      refine aw_goto C 2 (tb_at ok_X1_leaveOut 20 rfl) (by decide) ?_
      exact aw_loc [some (.ref q0), none, some (.int (a2 + 1))] (sl_k (sl_n (sl_k sl_0))) (ih _ _ h)
set_option maxHeartbeats 4000000 in
set_option maxRecDepth 20000 in
theorem t_fH_leaveOut {K : Cx} {n : Nat} {q0 : Nat} {a1 : Int32} {M : Mem} {r : Mem} (C : Ctx K RX1 cX1_leaveOut) (S : SS K n 2 3 none (Tv n r)) (hn : 85 ≤ n) (hq0 : hOK q0) (h : fH_leaveOut q0 a1 M = some r) : AS K n M 0 [some (.ref q0), some (.int a1), none] [] := by
  refine aw_iload_n C (tb_at ok_X1_leaveOut 0 rfl) rfl ?_
  refine aw_istore_n C [some (.ref q0), some (.int a1), some (.int a1)] (tb_at ok_X1_leaveOut 1 rfl) S.2.2.2.1 (by decide) rfl ?_
  exact aw_loc [some (.ref q0), none, some (.int a1)] (sl_k (sl_n (sl_k sl_0))) (t_fH_leaveOut_b2 C S hn hq0 1000 _ _ h)
theorem m_fH_leaveOut {l : Launch} {w : Wd} {n : Nat} {q0 : Nat} {a1 : Int32} {M : Mem} {r : Mem} (hn : 85 ≤ n) (hq0 : hOK q0) (h : fH_leaveOut q0 a1 M = some r) : CM l w yX1_leaveOut cX1_leaveOut 3 none 2 0 0 [.ref q0, .int a1] n M (PD M) (Tv n r) := sm_of (loc := [some (.ref q0), some (.int a1), none]) mf_X1_leaveOut (by decide) (Nat.le_of_ble_eq_true rfl) rfl (fun K _ _ C S => t_fH_leaveOut C S hn hq0 h)
def tb_X1_draw : List (Nat × Instr × Nat) := [(0, .iload_n 1, 1), (1, .istore_n 2, 1), (2, .iconst 0, 1), (3, .istore_n 3, 1), (4, .iload_n 3, 1), (5, .aload_n 0, 1), (6, .getfield 15, 3), (9, .if_icmp .ge 33, 3), (12, .iload_n 2, 1), (13, .ldc 61, 2), (15, .imul, 1), (16, .sipush 12345, 3), (19, .iadd, 1), (20, .istore_n 2, 1), (21, .aload_n 0, 1), (22, .getfield 28, 3), (25, .iload_n 3, 1), (26, .iload_n 2, 1), (27, .bipush 9, 2), (29, .iushr, 1), (30, .bipush 50, 2), (32, .irem, 1), (33, .iconst 1, 1), (34, .iadd, 1), (35, .iastore, 1), (36, .iinc 3 1, 3), (39, .goto (-35), 3), (42, .return_, 1)]
theorem ok_X1_draw : TB cX1_draw tb_X1_draw := (by decide +kernel : tb_X1_draw.all (fun q => tbq cX1_draw q) = true)
set_option maxHeartbeats 4000000 in
set_option maxRecDepth 20000 in
theorem t_fH_draw_b4 {K : Cx} {n : Nat} {q0 : Nat} {r : Mem} (C : Ctx K RX1 cX1_draw) (S : SS K n 1 4 none (Tv n r)) (hn : 85 ≤ n) (hq0 : hOK q0) : ∀ (z : Nat) (a2 : Int32) (a3 : Int32) (M : Mem), fH_draw_b4 q0 z a2 a3 M = some r → AS K n M 4 [some (.ref q0), none, some (.int a2), some (.int a3)] [] := by
  intro z
  induction z with
  | zero => intro a2 a3 M h; cases h
  | succ z ih =>
    intro a2 a3 M h
    refine aw_iload_n C (tb_at ok_X1_draw 4 rfl) rfl ?_
    refine aw_aload_n C (tb_at ok_X1_draw 5 rfl) rfl ?_
    refine aw_get C (hO hn hq0) rfl (by decide) rfl fl_RX1_15 (tb_at ok_X1_draw 6 rfl) ?_
    refine aw_icmp_ge C 42 (tb_at ok_X1_draw 7 rfl) (by decide) h (fun h => ?_) (fun h => ?_)
    · exact sw_vret C S (tb_at ok_X1_draw 27 rfl) h
    · refine aw_iload_n C (tb_at ok_X1_draw 8 rfl) rfl ?_
      refine aw_ldc C kc_RX1_61 (tb_at ok_X1_draw 9 rfl) ?_
      refine aw_imul C (tb_at ok_X1_draw 10 rfl) ?_
      refine aw_sipush C (tb_at ok_X1_draw 11 rfl) ks_12345 ?_
      refine aw_iadd C (tb_at ok_X1_draw 12 rfl) ?_
      refine aw_istore_n C [some (.ref q0), none, some (.int ((a2 * 1103515245) + 12345)), some (.int a3)] (tb_at ok_X1_draw 13 rfl) S.2.2.2.1 (by decide) rfl ?_
      refine aw_aload_n C (tb_at ok_X1_draw 14 rfl) rfl ?_
      refine aw_getR C (hO hn hq0) rfl (by decide) rfl (hP5 hq0) fl_RX1_28 (tb_at ok_X1_draw 15 rfl) ?_
      refine aw_iload_n C (tb_at ok_X1_draw 16 rfl) rfl ?_
      refine aw_iload_n C (tb_at ok_X1_draw 17 rfl) rfl ?_
      refine aw_bipush C (tb_at ok_X1_draw 18 rfl) kb_9 ?_
      refine aw_iushr C (tb_at ok_X1_draw 19 rfl) ?_
      refine aw_bipush C (tb_at ok_X1_draw 20 rfl) kb_50 ?_
      refine aw_irem C (by decide) (tb_at ok_X1_draw 21 rfl) ?_
      refine aw_iconst C (tb_at ok_X1_draw 22 rfl) ki_1 ?_
      refine aw_iadd C (tb_at ok_X1_draw 23 rfl) ?_
      refine sw_iast C (hO2 hn hq0) (tb_at ok_X1_draw 24 rfl) h (fun h => ?_)
      refine aw_iinc C [some (.ref q0), none, some (.int ((a2 * 1103515245) + 12345)), some (.int (a3 + 1))] (tb_at ok_X1_draw 25 rfl) rfl S.2.2.2.1 (by decide) ki_1 rfl ?_
      refine aw_goto C 4 (tb_at ok_X1_draw 26 rfl) (by decide) ?_
      exact aw_loc [some (.ref q0), none, some (.int ((a2 * 1103515245) + 12345)), some (.int (a3 + 1))] (sl_k (sl_n (sl_k (sl_k sl_0)))) (ih _ _ _ h)
set_option maxHeartbeats 4000000 in
set_option maxRecDepth 20000 in
theorem t_fH_draw {K : Cx} {n : Nat} {q0 : Nat} {a1 : Int32} {M : Mem} {r : Mem} (C : Ctx K RX1 cX1_draw) (S : SS K n 1 4 none (Tv n r)) (hn : 85 ≤ n) (hq0 : hOK q0) (h : fH_draw q0 a1 M = some r) : AS K n M 0 [some (.ref q0), some (.int a1), none, none] [] := by
  refine aw_iload_n C (tb_at ok_X1_draw 0 rfl) rfl ?_
  refine aw_istore_n C [some (.ref q0), some (.int a1), some (.int a1), none] (tb_at ok_X1_draw 1 rfl) S.2.2.2.1 (by decide) rfl ?_
  refine aw_iconst C (tb_at ok_X1_draw 2 rfl) ki_0 ?_
  refine aw_istore_n C [some (.ref q0), some (.int a1), some (.int a1), some (.int 0)] (tb_at ok_X1_draw 3 rfl) S.2.2.2.1 (by decide) rfl ?_
  exact aw_loc [some (.ref q0), none, some (.int a1), some (.int 0)] (sl_k (sl_n (sl_k (sl_k sl_0)))) (t_fH_draw_b4 C S hn hq0 1000 _ _ _ h)
theorem m_fH_draw {l : Launch} {w : Wd} {n : Nat} {q0 : Nat} {a1 : Int32} {M : Mem} {r : Mem} (hn : 85 ≤ n) (hq0 : hOK q0) (h : fH_draw q0 a1 M = some r) : CM l w yX1_draw cX1_draw 4 none 1 0 0 [.ref q0, .int a1] n M (PD M) (Tv n r) := sm_of (loc := [some (.ref q0), some (.int a1), none, none]) mf_X1_draw (by decide) (Nat.le_of_ble_eq_true rfl) rfl (fun K _ _ C S => t_fH_draw C S hn hq0 h)
def tb_X2_arrive : List (Nat × Instr × Nat) := [(0, .aload_n 0, 1), (1, .iload_n 1, 1), (2, .putfield 9, 3), (5, .aload_n 0, 1), (6, .iload_n 2, 1), (7, .putfield 15, 3), (10, .aload_n 0, 1), (11, .iload_n 3, 1), (12, .putfield 18, 3), (15, .aload_n 0, 1), (16, .iconst 0, 1), (17, .putfield 21, 3), (20, .return_, 1)]
theorem ok_X2_arrive : TB cX2_arrive tb_X2_arrive := (by decide +kernel : tb_X2_arrive.all (fun q => tbq cX2_arrive q) = true)
set_option maxHeartbeats 4000000 in
set_option maxRecDepth 20000 in
theorem t_fA_arrive {K : Cx} {n : Nat} {q0 : Nat} {a1 : Int32} {a2 : Int32} {a3 : Int32} {M : Mem} {r : Mem} (C : Ctx K RX2 cX2_arrive) (S : SS K n 1 4 none (Tv n r)) (hn : 85 ≤ n) (hq0 : aOK q0) (h : fA_arrive q0 a1 a2 a3 M = some r) : AS K n M 0 [some (.ref q0), some (.int a1), some (.int a2), some (.int a3)] [] := by
  refine aw_aload_n C (tb_at ok_X2_arrive 0 rfl) rfl ?_
  refine aw_iload_n C (tb_at ok_X2_arrive 1 rfl) rfl ?_
  refine sw_put C (aO hn hq0) rfl (by decide) (by decide) (Or.inl (aN45 hq0)) rfl rfl rfl rfl fl_RX2_9 (tb_at ok_X2_arrive 2 rfl) ?_
  refine aw_aload_n C (tb_at ok_X2_arrive 3 rfl) rfl ?_
  refine aw_iload_n C (tb_at ok_X2_arrive 4 rfl) rfl ?_
  refine sw_put C (aO hn hq0) rfl (by decide) (by decide) (Or.inr (by decide)) rfl rfl rfl rfl fl_RX2_15 (tb_at ok_X2_arrive 5 rfl) ?_
  refine aw_aload_n C (tb_at ok_X2_arrive 6 rfl) rfl ?_
  refine aw_iload_n C (tb_at ok_X2_arrive 7 rfl) rfl ?_
  refine sw_put C (aO hn hq0) rfl (by decide) (by decide) (Or.inr (by decide)) rfl rfl rfl rfl fl_RX2_18 (tb_at ok_X2_arrive 8 rfl) ?_
  refine aw_aload_n C (tb_at ok_X2_arrive 9 rfl) rfl ?_
  refine aw_iconst C (tb_at ok_X2_arrive 10 rfl) ki_0 ?_
  refine sw_put C (aO hn hq0) rfl (by decide) (by decide) (Or.inr (by decide)) rfl rfl rfl rfl fl_RX2_21 (tb_at ok_X2_arrive 11 rfl) ?_
  exact sw_vret C S (tb_at ok_X2_arrive 12 rfl) h
theorem m_fA_arrive {l : Launch} {w : Wd} {n : Nat} {q0 : Nat} {a1 : Int32} {a2 : Int32} {a3 : Int32} {M : Mem} {r : Mem} (hn : 85 ≤ n) (hq0 : aOK q0) (h : fA_arrive q0 a1 a2 a3 M = some r) : CM l w yX2_arrive cX2_arrive 4 none 1 0 0 [.ref q0, .int a1, .int a2, .int a3] n M (PD M) (Tv n r) := sm_of (loc := [some (.ref q0), some (.int a1), some (.int a2), some (.int a3)]) mf_X2_arrive (by decide) (Nat.le_of_ble_eq_true rfl) rfl (fun K _ _ C S => t_fA_arrive C S hn hq0 h)
def tb_X2_isOfKind : List (Nat × Instr × Nat) := [(0, .aload_n 0, 1), (1, .getfield 9, 3), (4, .istore_n 2, 1), (5, .iconst 0, 1), (6, .istore_n 3, 1), (7, .iload_n 3, 1), (8, .bipush 6, 2), (10, .if_icmp .ge 31, 3), (13, .iload_n 2, 1), (14, .bipush 6, 2), (16, .invokestatic 34, 3), (19, .ifCond .eq 22, 3), (22, .iload_n 2, 1), (23, .iload_n 1, 1), (24, .if_icmp .ne 5, 3), (27, .iconst 1, 1), (28, .ireturn, 1), (29, .getstatic 38, 3), (32, .iload_n 2, 1), (33, .iaload, 1), (34, .istore_n 2, 1), (35, .iinc 3 1, 3), (38, .goto (-31), 3), (41, .iconst 0, 1), (42, .ireturn, 1)]
theorem ok_X2_isOfKind : TB cX2_isOfKind tb_X2_isOfKind := (by decide +kernel : tb_X2_isOfKind.all (fun q => tbq cX2_isOfKind q) = true)
set_option maxHeartbeats 4000000 in
set_option maxRecDepth 20000 in
theorem t_fA_isOfKind_b7 {K : Cx} {n : Nat} {a1 : Int32} {r : Int32 × Mem} (C : Ctx K RX2 cX2_isOfKind) (S : SS K n 2 4 (some .boolean) (Ti n r)) (hn : 85 ≤ n) : ∀ (z : Nat) (a2 : Int32) (a3 : Int32) (M : Mem), fA_isOfKind_b7 a1 z a2 a3 M = some r → AS K n M 7 [none, some (.int a1), some (.int a2), some (.int a3)] [] := by
  intro z
  induction z with
  | zero => intro a2 a3 M h; cases h
  | succ z ih =>
    intro a2 a3 M h
    refine aw_iload_n C (tb_at ok_X2_isOfKind 5 rfl) rfl ?_
    refine aw_bipush C (tb_at ok_X2_isOfKind 6 rfl) kb_6 ?_
    refine aw_icmp_ge C 41 (tb_at ok_X2_isOfKind 7 rfl) (by decide) h (fun h => ?_) (fun h => ?_)
    · refine aw_iconst C (tb_at ok_X2_isOfKind 23 rfl) ki_0 ?_
      exact sw_iret C S rfl (tb_at ok_X2_isOfKind 24 rfl) h
    · refine aw_iload_n C (tb_at ok_X2_isOfKind 8 rfl) rfl ?_
      refine aw_bipush C (tb_at ok_X2_isOfKind 9 rfl) kb_6 ?_
      refine sw_cSNi C S [.int a2, .int 6] [] (tb_at ok_X2_isOfKind 10 rfl) h (fun q e => m_fN_within hn e) mf_X7_within cw_RX2_34 rfl (by decide) rfl (Nat.le_of_ble_eq_true rfl) (fun r1 M1 h => ?_)
      refine aw_if_eq C 41 (tb_at ok_X2_isOfKind 11 rfl) (by decide) h (fun h => ?_) (fun h => ?_)
      · refine aw_iconst C (tb_at ok_X2_isOfKind 23 rfl) ki_0 ?_
        exact sw_iret C S rfl (tb_at ok_X2_isOfKind 24 rfl) h
      · refine aw_iload_n C (tb_at ok_X2_isOfKind 12 rfl) rfl ?_
        refine aw_iload_n C (tb_at ok_X2_isOfKind 13 rfl) rfl ?_
        refine aw_icmp_ne C 29 (tb_at ok_X2_isOfKind 14 rfl) (by decide) h (fun h => ?_) (fun h => ?_)
        · refine aw_iconst C (tb_at ok_X2_isOfKind 15 rfl) ki_1 ?_
          exact sw_iret C S rfl (tb_at ok_X2_isOfKind 16 rfl) h
        · refine aw_getsN C "UNDER" 1 [-1, 0, 0, 1, 2, 0] (host := "NeverSeen") (lk := 38) (by decide +kernel) (by decide +kernel) (tb_at ok_X2_isOfKind 17 rfl) ?_
          refine aw_iload_n C (tb_at ok_X2_isOfKind 18 rfl) rfl ?_
          refine aw_ialdS C "UNDER" 1 [-1, 0, 0, 1, 2, 0] (by decide +kernel) (tb_at ok_X2_isOfKind 19 rfl) h (fun h => ?_)
          refine aw_istore_n C [none, some (.int a1), some (.int (([-1, 0, 0, 1, 2, 0] : List Int32).getD (ix a2) 0)), some (.int a3)] (tb_at ok_X2_isOfKind 20 rfl) S.2.2.2.1 (by decide) rfl ?_
          refine aw_iinc C [none, some (.int a1), some (.int (([-1, 0, 0, 1, 2, 0] : List Int32).getD (ix a2) 0)), some (.int (a3 + 1))] (tb_at ok_X2_isOfKind 21 rfl) rfl S.2.2.2.1 (by decide) ki_1 rfl ?_
          refine aw_goto C 7 (tb_at ok_X2_isOfKind 22 rfl) (by decide) ?_
          exact aw_loc [none, some (.int a1), some (.int (([-1, 0, 0, 1, 2, 0] : List Int32).getD (ix a2) 0)), some (.int (a3 + 1))] (sl_n (sl_k (sl_k (sl_k sl_0)))) (ih _ _ _ h)
set_option maxHeartbeats 4000000 in
set_option maxRecDepth 20000 in
theorem t_fA_isOfKind {K : Cx} {n : Nat} {q0 : Nat} {a1 : Int32} {M : Mem} {r : Int32 × Mem} (C : Ctx K RX2 cX2_isOfKind) (S : SS K n 2 4 (some .boolean) (Ti n r)) (hn : 85 ≤ n) (hq0 : aOK q0) (h : fA_isOfKind q0 a1 M = some r) : AS K n M 0 [some (.ref q0), some (.int a1), none, none] [] := by
  refine aw_aload_n C (tb_at ok_X2_isOfKind 0 rfl) rfl ?_
  refine aw_get C (aO hn hq0) rfl (by decide) rfl fl_RX2_9 (tb_at ok_X2_isOfKind 1 rfl) ?_
  refine aw_istore_n C [some (.ref q0), some (.int a1), some (.int (M q0 0)), none] (tb_at ok_X2_isOfKind 2 rfl) S.2.2.2.1 (by decide) rfl ?_
  refine aw_iconst C (tb_at ok_X2_isOfKind 3 rfl) ki_0 ?_
  refine aw_istore_n C [some (.ref q0), some (.int a1), some (.int (M q0 0)), some (.int 0)] (tb_at ok_X2_isOfKind 4 rfl) S.2.2.2.1 (by decide) rfl ?_
  exact aw_loc [none, some (.int a1), some (.int (M q0 0)), some (.int 0)] (sl_n (sl_k (sl_k (sl_k sl_0)))) (t_fA_isOfKind_b7 C S hn 1000 _ _ _ h)
theorem m_fA_isOfKind {l : Launch} {w : Wd} {n : Nat} {q0 : Nat} {a1 : Int32} {M : Mem} {r : Int32 × Mem} (hn : 85 ≤ n) (hq0 : aOK q0) (h : fA_isOfKind q0 a1 M = some r) : CM l w yX2_isOfKind cX2_isOfKind 4 (some .boolean) 2 0 0 [.ref q0, .int a1] n M (PD M) (Ti n r) := sm_of (loc := [some (.ref q0), some (.int a1), none, none]) mf_X2_isOfKind (by decide) (Nat.le_of_ble_eq_true rfl) rfl (fun K _ _ C S => t_fA_isOfKind C S hn hq0 h)
def tb_X3_add : List (Nat × Instr × Nat) := [(0, .aload_n 0, 1), (1, .getfield 15, 3), (4, .sipush 160, 3), (7, .if_icmp .lt 5, 3), (10, .iconst 0, 1), (11, .ireturn, 1), (12, .aload_n 0, 1), (13, .getfield 9, 3), (16, .aload_n 0, 1), (17, .getfield 15, 3), (20, .iload_n 1, 1), (21, .iastore, 1), (22, .aload_n 0, 1), (23, .dup, 1), (24, .getfield 15, 3), (27, .iconst 1, 1), (28, .iadd, 1), (29, .putfield 15, 3), (32, .iconst 1, 1), (33, .ireturn, 1)]
theorem ok_X3_add : TB cX3_add tb_X3_add := (by decide +kernel : tb_X3_add.all (fun q => tbq cX3_add q) = true)
set_option maxHeartbeats 4000000 in
set_option maxRecDepth 20000 in
theorem t_fR_add {K : Cx} {n : Nat} {a1 : Int32} {M : Mem} {r : Int32 × Mem} (C : Ctx K RX3 cX3_add) (S : SS K n 1 2 (some .boolean) (Ti n r)) (hn : 85 ≤ n) (h : fR_add a1 M = some r) : AS K n M 0 [some (.ref 40), some (.int a1)] [] := by
  refine aw_aload_n C (tb_at ok_X3_add 0 rfl) rfl ?_
  refine aw_get C (ob_40 hn) rfl (by decide) rfl fl_RX3_15 (tb_at ok_X3_add 1 rfl) ?_
  refine aw_sipush C (tb_at ok_X3_add 2 rfl) ks_160 ?_
  refine aw_icmp_lt C 12 (tb_at ok_X3_add 3 rfl) (by decide) h (fun h => ?_) (fun h => ?_)
  · refine aw_aload_n C (tb_at ok_X3_add 6 rfl) rfl ?_
    refine aw_getR C (ob_40 hn) rfl (by decide) rfl p_40_0 fl_RX3_9 (tb_at ok_X3_add 7 rfl) ?_
    refine aw_aload_n C (tb_at ok_X3_add 8 rfl) rfl ?_
    refine aw_get C (ob_40 hn) rfl (by decide) rfl fl_RX3_15 (tb_at ok_X3_add 9 rfl) ?_
    refine aw_iload_n C (tb_at ok_X3_add 10 rfl) rfl ?_
    refine sw_iast C (ob_41 hn) (tb_at ok_X3_add 11 rfl) h (fun h => ?_)
    refine aw_aload_n C (tb_at ok_X3_add 12 rfl) rfl ?_
    refine aw_dup C (tb_at ok_X3_add 13 rfl) rfl ?_
    refine aw_get C (ob_40 hn) rfl (by decide) rfl fl_RX3_15 (tb_at ok_X3_add 14 rfl) ?_
    refine aw_iconst C (tb_at ok_X3_add 15 rfl) ki_1 ?_
    refine aw_iadd C (tb_at ok_X3_add 16 rfl) ?_
    refine sw_put C (ob_40 hn) rfl (by decide) (by decide) (Or.inr (by decide)) rfl rfl rfl rfl fl_RX3_15 (tb_at ok_X3_add 17 rfl) ?_
    refine aw_iconst C (tb_at ok_X3_add 18 rfl) ki_1 ?_
    exact sw_iret C S rfl (tb_at ok_X3_add 19 rfl) h
  · refine aw_iconst C (tb_at ok_X3_add 4 rfl) ki_0 ?_
    exact sw_iret C S rfl (tb_at ok_X3_add 5 rfl) h
theorem m_fR_add {l : Launch} {w : Wd} {n : Nat} {a1 : Int32} {M : Mem} {r : Int32 × Mem} (hn : 85 ≤ n) (h : fR_add a1 M = some r) : CM l w yX3_add cX3_add 2 (some .boolean) 1 0 0 [.ref 40, .int a1] n M (PD M) (Ti n r) := sm_of (loc := [some (.ref 40), some (.int a1)]) mf_X3_add (by decide) (Nat.le_of_ble_eq_true rfl) rfl (fun K _ _ C S => t_fR_add C S hn h)
def tb_X3_isDigit : List (Nat × Instr × Nat) := [(0, .iload_n 0, 1), (1, .bipush 48, 2), (3, .if_icmp .lt 13, 3), (6, .iload_n 0, 1), (7, .bipush 57, 2), (9, .if_icmp .gt 7, 3), (12, .iconst 1, 1), (13, .goto 4, 3), (16, .iconst 0, 1), (17, .ireturn, 1)]
theorem ok_X3_isDigit : TB cX3_isDigit tb_X3_isDigit := (by decide +kernel : tb_X3_isDigit.all (fun q => tbq cX3_isDigit q) = true)
set_option maxHeartbeats 4000000 in
set_option maxRecDepth 20000 in
theorem t_fR_isDigit {K : Cx} {n : Nat} {a0 : Int32} {M : Mem} {r : Int32 × Mem} (C : Ctx K RX3 cX3_isDigit) (S : SS K n 1 1 (some .boolean) (Ti n r)) (hn : 85 ≤ n) (h : fR_isDigit a0 M = some r) : AS K n M 0 [some (.int a0)] [] := by
  refine aw_iload_n C (tb_at ok_X3_isDigit 0 rfl) rfl ?_
  refine aw_bipush C (tb_at ok_X3_isDigit 1 rfl) kb_48 ?_
  refine aw_icmp_lt C 16 (tb_at ok_X3_isDigit 2 rfl) (by decide) h (fun h => ?_) (fun h => ?_)
  · refine aw_iconst C (tb_at ok_X3_isDigit 8 rfl) ki_0 ?_
    exact sw_iret C S rfl (tb_at ok_X3_isDigit 9 rfl) h
  · refine aw_iload_n C (tb_at ok_X3_isDigit 3 rfl) rfl ?_
    refine aw_bipush C (tb_at ok_X3_isDigit 4 rfl) kb_57 ?_
    refine aw_icmp_gt C 16 (tb_at ok_X3_isDigit 5 rfl) (by decide) h (fun h => ?_) (fun h => ?_)
    · refine aw_iconst C (tb_at ok_X3_isDigit 8 rfl) ki_0 ?_
      exact sw_iret C S rfl (tb_at ok_X3_isDigit 9 rfl) h
    · refine aw_iconst C (tb_at ok_X3_isDigit 6 rfl) ki_1 ?_
      refine aw_goto C 17 (tb_at ok_X3_isDigit 7 rfl) (by decide) ?_
      exact sw_iret C S rfl (tb_at ok_X3_isDigit 9 rfl) h
theorem m_fR_isDigit {l : Launch} {w : Wd} {n : Nat} {a0 : Int32} {M : Mem} {r : Int32 × Mem} (hn : 85 ≤ n) (h : fR_isDigit a0 M = some r) : CM l w yX3_isDigit cX3_isDigit 1 (some .boolean) 1 0 0 [.int a0] n M (PD M) (Ti n r) := sm_of (loc := [some (.int a0)]) mf_X3_isDigit (by decide) (Nat.le_of_ble_eq_true rfl) rfl (fun K _ _ C S => t_fR_isDigit C S hn h)
def tb_X3_isLetter : List (Nat × Instr × Nat) := [(0, .iload_n 0, 1), (1, .bipush 97, 2), (3, .if_icmp .lt 13, 3), (6, .iload_n 0, 1), (7, .bipush 122, 2), (9, .if_icmp .gt 7, 3), (12, .iconst 1, 1), (13, .goto 4, 3), (16, .iconst 0, 1), (17, .ireturn, 1)]
theorem ok_X3_isLetter : TB cX3_isLetter tb_X3_isLetter := (by decide +kernel : tb_X3_isLetter.all (fun q => tbq cX3_isLetter q) = true)
set_option maxHeartbeats 4000000 in
set_option maxRecDepth 20000 in
theorem t_fR_isLetter {K : Cx} {n : Nat} {a0 : Int32} {M : Mem} {r : Int32 × Mem} (C : Ctx K RX3 cX3_isLetter) (S : SS K n 1 1 (some .boolean) (Ti n r)) (hn : 85 ≤ n) (h : fR_isLetter a0 M = some r) : AS K n M 0 [some (.int a0)] [] := by
  refine aw_iload_n C (tb_at ok_X3_isLetter 0 rfl) rfl ?_
  refine aw_bipush C (tb_at ok_X3_isLetter 1 rfl) kb_97 ?_
  refine aw_icmp_lt C 16 (tb_at ok_X3_isLetter 2 rfl) (by decide) h (fun h => ?_) (fun h => ?_)
  · refine aw_iconst C (tb_at ok_X3_isLetter 8 rfl) ki_0 ?_
    exact sw_iret C S rfl (tb_at ok_X3_isLetter 9 rfl) h
  · refine aw_iload_n C (tb_at ok_X3_isLetter 3 rfl) rfl ?_
    refine aw_bipush C (tb_at ok_X3_isLetter 4 rfl) kb_122 ?_
    refine aw_icmp_gt C 16 (tb_at ok_X3_isLetter 5 rfl) (by decide) h (fun h => ?_) (fun h => ?_)
    · refine aw_iconst C (tb_at ok_X3_isLetter 8 rfl) ki_0 ?_
      exact sw_iret C S rfl (tb_at ok_X3_isLetter 9 rfl) h
    · refine aw_iconst C (tb_at ok_X3_isLetter 6 rfl) ki_1 ?_
      refine aw_goto C 17 (tb_at ok_X3_isLetter 7 rfl) (by decide) ?_
      exact sw_iret C S rfl (tb_at ok_X3_isLetter 9 rfl) h
theorem m_fR_isLetter {l : Launch} {w : Wd} {n : Nat} {a0 : Int32} {M : Mem} {r : Int32 × Mem} (hn : 85 ≤ n) (h : fR_isLetter a0 M = some r) : CM l w yX3_isLetter cX3_isLetter 1 (some .boolean) 1 0 0 [.int a0] n M (PD M) (Ti n r) := sm_of (loc := [some (.int a0)]) mf_X3_isLetter (by decide) (Nat.le_of_ble_eq_true rfl) rfl (fun K _ _ C S => t_fR_isLetter C S hn h)
def tb_X3_isSign : List (Nat × Instr × Nat) := [(0, .iload_n 0, 1), (1, .bipush 40, 2), (3, .if_icmp .eq 45, 3), (6, .iload_n 0, 1), (7, .bipush 41, 2), (9, .if_icmp .eq 39, 3), (12, .iload_n 0, 1), (13, .bipush 59, 2), (15, .if_icmp .eq 33, 3), (18, .iload_n 0, 1), (19, .bipush 43, 2), (21, .if_icmp .eq 27, 3), (24, .iload_n 0, 1), (25, .bipush 45, 2), (27, .if_icmp .eq 21, 3), (30, .iload_n 0, 1), (31, .bipush 42, 2), (33, .if_icmp .eq 15, 3), (36, .iload_n 0, 1), (37, .bipush 60, 2), (39, .if_icmp .eq 9, 3), (42, .iload_n 0, 1), (43, .bipush 61, 2), (45, .if_icmp .ne 7, 3), (48, .iconst 1, 1), (49, .goto 4, 3), (52, .iconst 0, 1), (53, .ireturn, 1)]
theorem ok_X3_isSign : TB cX3_isSign tb_X3_isSign := (by decide +kernel : tb_X3_isSign.all (fun q => tbq cX3_isSign q) = true)
set_option maxHeartbeats 4000000 in
set_option maxRecDepth 20000 in
theorem t_fR_isSign_b48 {K : Cx} {n : Nat} {M : Mem} {r : Int32 × Mem} (C : Ctx K RX3 cX3_isSign) (S : SS K n 1 1 (some .boolean) (Ti n r)) (hn : 85 ≤ n) (h : fR_isSign_b48 M = some r) : AS K n M 48 [none] [] := by
  refine aw_iconst C (tb_at ok_X3_isSign 24 rfl) ki_1 ?_
  refine aw_goto C 53 (tb_at ok_X3_isSign 25 rfl) (by decide) ?_
  exact sw_iret C S rfl (tb_at ok_X3_isSign 27 rfl) h
set_option maxHeartbeats 4000000 in
set_option maxRecDepth 20000 in
theorem t_fR_isSign {K : Cx} {n : Nat} {a0 : Int32} {M : Mem} {r : Int32 × Mem} (C : Ctx K RX3 cX3_isSign) (S : SS K n 1 1 (some .boolean) (Ti n r)) (hn : 85 ≤ n) (h : fR_isSign a0 M = some r) : AS K n M 0 [some (.int a0)] [] := by
  refine aw_iload_n C (tb_at ok_X3_isSign 0 rfl) rfl ?_
  refine aw_bipush C (tb_at ok_X3_isSign 1 rfl) kb_40 ?_
  refine aw_icmp_eq C 48 (tb_at ok_X3_isSign 2 rfl) (by decide) h (fun h => ?_) (fun h => ?_)
  · exact aw_loc [none] (sl_n sl_0) (t_fR_isSign_b48 C S hn h)
  · refine aw_iload_n C (tb_at ok_X3_isSign 3 rfl) rfl ?_
    refine aw_bipush C (tb_at ok_X3_isSign 4 rfl) kb_41 ?_
    refine aw_icmp_eq C 48 (tb_at ok_X3_isSign 5 rfl) (by decide) h (fun h => ?_) (fun h => ?_)
    · exact aw_loc [none] (sl_n sl_0) (t_fR_isSign_b48 C S hn h)
    · refine aw_iload_n C (tb_at ok_X3_isSign 6 rfl) rfl ?_
      refine aw_bipush C (tb_at ok_X3_isSign 7 rfl) kb_59 ?_
      refine aw_icmp_eq C 48 (tb_at ok_X3_isSign 8 rfl) (by decide) h (fun h => ?_) (fun h => ?_)
      · exact aw_loc [none] (sl_n sl_0) (t_fR_isSign_b48 C S hn h)
      · refine aw_iload_n C (tb_at ok_X3_isSign 9 rfl) rfl ?_
        refine aw_bipush C (tb_at ok_X3_isSign 10 rfl) kb_43 ?_
        refine aw_icmp_eq C 48 (tb_at ok_X3_isSign 11 rfl) (by decide) h (fun h => ?_) (fun h => ?_)
        · exact aw_loc [none] (sl_n sl_0) (t_fR_isSign_b48 C S hn h)
        · refine aw_iload_n C (tb_at ok_X3_isSign 12 rfl) rfl ?_
          refine aw_bipush C (tb_at ok_X3_isSign 13 rfl) kb_45 ?_
          refine aw_icmp_eq C 48 (tb_at ok_X3_isSign 14 rfl) (by decide) h (fun h => ?_) (fun h => ?_)
          · exact aw_loc [none] (sl_n sl_0) (t_fR_isSign_b48 C S hn h)
          · refine aw_iload_n C (tb_at ok_X3_isSign 15 rfl) rfl ?_
            refine aw_bipush C (tb_at ok_X3_isSign 16 rfl) kb_42 ?_
            refine aw_icmp_eq C 48 (tb_at ok_X3_isSign 17 rfl) (by decide) h (fun h => ?_) (fun h => ?_)
            · exact aw_loc [none] (sl_n sl_0) (t_fR_isSign_b48 C S hn h)
            · refine aw_iload_n C (tb_at ok_X3_isSign 18 rfl) rfl ?_
              refine aw_bipush C (tb_at ok_X3_isSign 19 rfl) kb_60 ?_
              refine aw_icmp_eq C 48 (tb_at ok_X3_isSign 20 rfl) (by decide) h (fun h => ?_) (fun h => ?_)
              · exact aw_loc [none] (sl_n sl_0) (t_fR_isSign_b48 C S hn h)
              · refine aw_iload_n C (tb_at ok_X3_isSign 21 rfl) rfl ?_
                refine aw_bipush C (tb_at ok_X3_isSign 22 rfl) kb_61 ?_
                refine aw_icmp_ne C 52 (tb_at ok_X3_isSign 23 rfl) (by decide) h (fun h => ?_) (fun h => ?_)
                · exact aw_loc [none] (sl_n sl_0) (t_fR_isSign_b48 C S hn h)
                · refine aw_iconst C (tb_at ok_X3_isSign 26 rfl) ki_0 ?_
                  exact sw_iret C S rfl (tb_at ok_X3_isSign 27 rfl) h
theorem m_fR_isSign {l : Launch} {w : Wd} {n : Nat} {a0 : Int32} {M : Mem} {r : Int32 × Mem} (hn : 85 ≤ n) (h : fR_isSign a0 M = some r) : CM l w yX3_isSign cX3_isSign 1 (some .boolean) 1 0 0 [.int a0] n M (PD M) (Ti n r) := sm_of (loc := [some (.int a0)]) mf_X3_isSign (by decide) (Nat.le_of_ble_eq_true rfl) rfl (fun K _ _ C S => t_fR_isSign C S hn h)
def tb_X3_refuse : List (Nat × Instr × Nat) := [(0, .aload_n 0, 1), (1, .getfield 31, 3), (4, .iconst (-1), 1), (5, .if_icmp .ne 11, 3), (8, .aload_n 0, 1), (9, .aload_n 0, 1), (10, .getfield 19, 3), (13, .putfield 31, 3), (16, .aload_n 0, 1), (17, .bipush 14, 2), (19, .putfield 25, 3), (22, .return_, 1)]
theorem ok_X3_refuse : TB cX3_refuse tb_X3_refuse := (by decide +kernel : tb_X3_refuse.all (fun q => tbq cX3_refuse q) = true)
set_option maxHeartbeats 4000000 in
set_option maxRecDepth 20000 in
theorem t_fR_refuse_b16 {K : Cx} {n : Nat} {M : Mem} {r : Mem} (C : Ctx K RX3 cX3_refuse) (S : SS K n 1 1 none (Tv n r)) (hn : 85 ≤ n) (h : fR_refuse_b16 M = some r) : AS K n M 16 [some (.ref 40)] [] := by
  refine aw_aload_n C (tb_at ok_X3_refuse 8 rfl) rfl ?_
  refine aw_bipush C (tb_at ok_X3_refuse 9 rfl) kb_14 ?_
  refine sw_put C (ob_40 hn) rfl (by decide) (by decide) (Or.inr (by decide)) rfl rfl rfl rfl fl_RX3_25 (tb_at ok_X3_refuse 10 rfl) ?_
  exact sw_vret C S (tb_at ok_X3_refuse 11 rfl) h
set_option maxHeartbeats 4000000 in
set_option maxRecDepth 20000 in
theorem t_fR_refuse {K : Cx} {n : Nat} {M : Mem} {r : Mem} (C : Ctx K RX3 cX3_refuse) (S : SS K n 1 1 none (Tv n r)) (hn : 85 ≤ n) (h : fR_refuse M = some r) : AS K n M 0 [some (.ref 40)] [] := by
  refine aw_aload_n C (tb_at ok_X3_refuse 0 rfl) rfl ?_
  refine aw_get C (ob_40 hn) rfl (by decide) rfl fl_RX3_31 (tb_at ok_X3_refuse 1 rfl) ?_
  refine aw_iconst C (tb_at ok_X3_refuse 2 rfl) ki_m1 ?_
  refine aw_icmp_ne C 16 (tb_at ok_X3_refuse 3 rfl) (by decide) h (fun h => ?_) (fun h => ?_)
  · refine aw_aload_n C (tb_at ok_X3_refuse 4 rfl) rfl ?_
    refine aw_aload_n C (tb_at ok_X3_refuse 5 rfl) rfl ?_
    refine aw_get C (ob_40 hn) rfl (by decide) rfl fl_RX3_19 (tb_at ok_X3_refuse 6 rfl) ?_
    refine sw_put C (ob_40 hn) rfl (by decide) (by decide) (Or.inr (by decide)) rfl rfl rfl rfl fl_RX3_31 (tb_at ok_X3_refuse 7 rfl) ?_
    exact aw_loc [some (.ref 40)] (sl_k sl_0) (t_fR_refuse_b16 C S hn h)
  · exact aw_loc [some (.ref 40)] (sl_k sl_0) (t_fR_refuse_b16 C S hn h)
theorem m_fR_refuse {l : Launch} {w : Wd} {n : Nat} {M : Mem} {r : Mem} (hn : 85 ≤ n) (h : fR_refuse M = some r) : CM l w yX3_refuse cX3_refuse 1 none 1 0 0 [.ref 40] n M (PD M) (Tv n r) := sm_of (loc := [some (.ref 40)]) mf_X3_refuse (by decide) (Nat.le_of_ble_eq_true rfl) rfl (fun K _ _ C S => t_fR_refuse C S hn h)
def tb_X3_takeNumber : List (Nat × Instr × Nat) := [(0, .aload_n 0, 1), (1, .iconst 0, 1), (2, .putfield 28, 3), (5, .aload_n 0, 1), (6, .getfield 22, 3), (9, .aload_n 0, 1), (10, .getfield 15, 3), (13, .if_icmp .ge 55, 3), (16, .aload_n 0, 1), (17, .getfield 9, 3), (20, .aload_n 0, 1), (21, .getfield 22, 3), (24, .iaload, 1), (25, .invokestatic 91, 3), (28, .ifCond .eq 40, 3), (31, .aload_n 0, 1), (32, .aload_n 0, 1), (33, .getfield 28, 3), (36, .bipush 10, 2), (38, .imul, 1), (39, .aload_n 0, 1), (40, .getfield 9, 3), (43, .aload_n 0, 1), (44, .getfield 22, 3), (47, .iaload, 1), (48, .iadd, 1), (49, .bipush 48, 2), (51, .isub, 1), (52, .putfield 28, 3), (55, .aload_n 0, 1), (56, .dup, 1), (57, .getfield 22, 3), (60, .iconst 1, 1), (61, .iadd, 1), (62, .putfield 22, 3), (65, .goto (-60), 3), (68, .aload_n 0, 1), (69, .bipush 12, 2), (71, .putfield 25, 3), (74, .aload_n 0, 1), (75, .getfield 22, 3), (78, .aload_n 0, 1), (79, .getfield 19, 3), (82, .isub, 1), (83, .iconst 4, 1), (84, .if_icmp .le 7, 3), (87, .aload_n 0, 1), (88, .invokevirtual 81, 3), (91, .return_, 1)]
theorem ok_X3_takeNumber : TB cX3_takeNumber tb_X3_takeNumber := (by decide +kernel : tb_X3_takeNumber.all (fun q => tbq cX3_takeNumber q) = true)
set_option maxHeartbeats 4000000 in
set_option maxRecDepth 20000 in
theorem t_fR_takeNumber_b68 {K : Cx} {n : Nat} {M : Mem} {r : Mem} (C : Ctx K RX3 cX3_takeNumber) (S : SS K n 2 1 none (Tv n r)) (hn : 85 ≤ n) (h : fR_takeNumber_b68 M = some r) : AS K n M 68 [some (.ref 40)] [] := by
  refine aw_aload_n C (tb_at ok_X3_takeNumber 36 rfl) rfl ?_
  refine aw_bipush C (tb_at ok_X3_takeNumber 37 rfl) kb_12 ?_
  refine sw_put C (ob_40 hn) rfl (by decide) (by decide) (Or.inr (by decide)) rfl rfl rfl rfl fl_RX3_25 (tb_at ok_X3_takeNumber 38 rfl) ?_
  refine aw_aload_n C (tb_at ok_X3_takeNumber 39 rfl) rfl ?_
  refine aw_get C (ob_40 hn) rfl (by decide) rfl fl_RX3_22 (tb_at ok_X3_takeNumber 40 rfl) ?_
  refine aw_aload_n C (tb_at ok_X3_takeNumber 41 rfl) rfl ?_
  refine aw_get C (ob_40 hn) rfl (by decide) rfl fl_RX3_19 (tb_at ok_X3_takeNumber 42 rfl) ?_
  refine aw_isub C (tb_at ok_X3_takeNumber 43 rfl) ?_
  refine aw_iconst C (tb_at ok_X3_takeNumber 44 rfl) ki_4 ?_
  refine aw_icmp_le C 91 (tb_at ok_X3_takeNumber 45 rfl) (by decide) h (fun h => ?_) (fun h => ?_)
  · exact sw_vret C S (tb_at ok_X3_takeNumber 48 rfl) h
  · refine aw_aload_n C (tb_at ok_X3_takeNumber 46 rfl) rfl ?_
    refine sw_cVv C S [] [] (tb_at ok_X3_takeNumber 47 rfl) h (fun q e => m_fR_refuse hn e) mf_X3_refuse (ob_40 hn) rfl rfl cw_RX3_81 rfl (by decide) rfl (Nat.le_of_ble_eq_true rfl) (fun M1 h => ?_)
    exact sw_vret C S (tb_at ok_X3_takeNumber 48 rfl) h
set_option maxHeartbeats 4000000 in
set_option maxRecDepth 20000 in
theorem t_fR_takeNumber_b5 {K : Cx} {n : Nat} {r : Mem} (C : Ctx K RX3 cX3_takeNumber) (S : SS K n 2 1 none (Tv n r)) (hn : 85 ≤ n) : ∀ (z : Nat) (M : Mem), fR_takeNumber_b5 z M = some r → AS K n M 5 [some (.ref 40)] [] := by
  intro z
  induction z with
  | zero => intro M h; cases h
  | succ z ih =>
    intro M h
    refine aw_aload_n C (tb_at ok_X3_takeNumber 3 rfl) rfl ?_
    refine aw_get C (ob_40 hn) rfl (by decide) rfl fl_RX3_22 (tb_at ok_X3_takeNumber 4 rfl) ?_
    refine aw_aload_n C (tb_at ok_X3_takeNumber 5 rfl) rfl ?_
    refine aw_get C (ob_40 hn) rfl (by decide) rfl fl_RX3_15 (tb_at ok_X3_takeNumber 6 rfl) ?_
    refine aw_icmp_ge C 68 (tb_at ok_X3_takeNumber 7 rfl) (by decide) h (fun h => ?_) (fun h => ?_)
    · exact aw_loc [some (.ref 40)] (sl_k sl_0) (t_fR_takeNumber_b68 C S hn h)
    · refine aw_aload_n C (tb_at ok_X3_takeNumber 8 rfl) rfl ?_
      refine aw_getR C (ob_40 hn) rfl (by decide) rfl p_40_0 fl_RX3_9 (tb_at ok_X3_takeNumber 9 rfl) ?_
      refine aw_aload_n C (tb_at ok_X3_takeNumber 10 rfl) rfl ?_
      refine aw_get C (ob_40 hn) rfl (by decide) rfl fl_RX3_22 (tb_at ok_X3_takeNumber 11 rfl) ?_
      refine aw_iald C (ob_41 hn) (tb_at ok_X3_takeNumber 12 rfl) h (fun h => ?_)
      refine sw_cSi C S [.int (M 41 (ix (M 40 3)))] [] (tb_at ok_X3_takeNumber 13 rfl) h (fun q e => m_fR_isDigit hn e) mf_X3_isDigit cw_RX3_91 rfl (by decide) rfl (Nat.le_of_ble_eq_true rfl) (fun r2 M2 h => ?_)
      refine aw_if_eq C 68 (tb_at ok_X3_takeNumber 14 rfl) (by decide) h (fun h => ?_) (fun h => ?_)
      · exact aw_loc [some (.ref 40)] (sl_k sl_0) (t_fR_takeNumber_b68 C S hn h)
      · refine aw_aload_n C (tb_at ok_X3_takeNumber 15 rfl) rfl ?_
        refine aw_aload_n C (tb_at ok_X3_takeNumber 16 rfl) rfl ?_
        refine aw_get C (ob_40 hn) rfl (by decide) rfl fl_RX3_28 (tb_at ok_X3_takeNumber 17 rfl) ?_
        refine aw_bipush C (tb_at ok_X3_takeNumber 18 rfl) kb_10 ?_
        refine aw_imul C (tb_at ok_X3_takeNumber 19 rfl) ?_
        refine aw_aload_n C (tb_at ok_X3_takeNumber 20 rfl) rfl ?_
        refine aw_getR C (ob_40 hn) rfl (by decide) rfl p_40_0 fl_RX3_9 (tb_at ok_X3_takeNumber 21 rfl) ?_
        refine aw_aload_n C (tb_at ok_X3_takeNumber 22 rfl) rfl ?_
        refine aw_get C (ob_40 hn) rfl (by decide) rfl fl_RX3_22 (tb_at ok_X3_takeNumber 23 rfl) ?_
        refine aw_iald C (ob_41 hn) (tb_at ok_X3_takeNumber 24 rfl) h (fun h => ?_)
        refine aw_iadd C (tb_at ok_X3_takeNumber 25 rfl) ?_
        refine aw_bipush C (tb_at ok_X3_takeNumber 26 rfl) kb_48 ?_
        refine aw_isub C (tb_at ok_X3_takeNumber 27 rfl) ?_
        refine sw_put C (ob_40 hn) rfl (by decide) (by decide) (Or.inr (by decide)) rfl rfl rfl rfl fl_RX3_28 (tb_at ok_X3_takeNumber 28 rfl) ?_
        refine aw_aload_n C (tb_at ok_X3_takeNumber 29 rfl) rfl ?_
        refine aw_dup C (tb_at ok_X3_takeNumber 30 rfl) rfl ?_
        refine aw_get C (ob_40 hn) rfl (by decide) rfl fl_RX3_22 (tb_at ok_X3_takeNumber 31 rfl) ?_
        refine aw_iconst C (tb_at ok_X3_takeNumber 32 rfl) ki_1 ?_
        refine aw_iadd C (tb_at ok_X3_takeNumber 33 rfl) ?_
        refine sw_put C (ob_40 hn) rfl (by decide) (by decide) (Or.inr (by decide)) rfl rfl rfl rfl fl_RX3_22 (tb_at ok_X3_takeNumber 34 rfl) ?_
        refine aw_goto C 5 (tb_at ok_X3_takeNumber 35 rfl) (by decide) ?_
        exact aw_loc [some (.ref 40)] (sl_k sl_0) (ih _ h)
set_option maxHeartbeats 4000000 in
set_option maxRecDepth 20000 in
theorem t_fR_takeNumber {K : Cx} {n : Nat} {M : Mem} {r : Mem} (C : Ctx K RX3 cX3_takeNumber) (S : SS K n 2 1 none (Tv n r)) (hn : 85 ≤ n) (h : fR_takeNumber M = some r) : AS K n M 0 [some (.ref 40)] [] := by
  refine aw_aload_n C (tb_at ok_X3_takeNumber 0 rfl) rfl ?_
  refine aw_iconst C (tb_at ok_X3_takeNumber 1 rfl) ki_0 ?_
  refine sw_put C (ob_40 hn) rfl (by decide) (by decide) (Or.inr (by decide)) rfl rfl rfl rfl fl_RX3_28 (tb_at ok_X3_takeNumber 2 rfl) ?_
  exact aw_loc [some (.ref 40)] (sl_k sl_0) (t_fR_takeNumber_b5 C S hn 1000 _ h)
theorem m_fR_takeNumber {l : Launch} {w : Wd} {n : Nat} {M : Mem} {r : Mem} (hn : 85 ≤ n) (h : fR_takeNumber M = some r) : CM l w yX3_takeNumber cX3_takeNumber 1 none 2 0 0 [.ref 40] n M (PD M) (Tv n r) := sm_of (loc := [some (.ref 40)]) mf_X3_takeNumber (by decide) (Nat.le_of_ble_eq_true rfl) rfl (fun K _ _ C S => t_fR_takeNumber C S hn h)
def tb_X3_isOnTape : List (Nat × Instr × Nat) := [(0, .iload_n 1, 1), (1, .istore_n 3, 1), (2, .iload_n 3, 1), (3, .iload_n 2, 1), (4, .if_icmp .ge 33, 3), (7, .ldc 104, 2), (9, .iload_n 3, 1), (10, .invokevirtual 111, 3), (13, .aload_n 0, 1), (14, .getfield 9, 3), (17, .aload_n 0, 1), (18, .getfield 19, 3), (21, .iload_n 3, 1), (22, .iadd, 1), (23, .iload_n 1, 1), (24, .isub, 1), (25, .iaload, 1), (26, .if_icmp .eq 5, 3), (29, .iconst 0, 1), (30, .ireturn, 1), (31, .iinc 3 1, 3), (34, .goto (-32), 3), (37, .iconst 1, 1), (38, .ireturn, 1)]
theorem ok_X3_isOnTape : TB cX3_isOnTape tb_X3_isOnTape := (by decide +kernel : tb_X3_isOnTape.all (fun q => tbq cX3_isOnTape q) = true)
set_option maxHeartbeats 4000000 in
set_option maxRecDepth 20000 in
theorem t_fR_isOnTape_b2 {K : Cx} {n : Nat} {a1 : Int32} {a2 : Int32} {r : Int32 × Mem} (C : Ctx K RX3 cX3_isOnTape) (S : SS K n 8 4 (some .boolean) (Ti n r)) (hn : 85 ≤ n) : ∀ (z : Nat) (a3 : Int32) (M : Mem), fR_isOnTape_b2 a1 a2 z a3 M = some r → AS K n M 2 [some (.ref 40), some (.int a1), some (.int a2), some (.int a3)] [] := by
  intro z
  induction z with
  | zero => intro a3 M h; cases h
  | succ z ih =>
    intro a3 M h
    refine aw_iload_n C (tb_at ok_X3_isOnTape 2 rfl) rfl ?_
    refine aw_iload_n C (tb_at ok_X3_isOnTape 3 rfl) rfl ?_
    refine aw_icmp_ge C 37 (tb_at ok_X3_isOnTape 4 rfl) (by decide) h (fun h => ?_) (fun h => ?_)
    · refine aw_iconst C (tb_at ok_X3_isOnTape 22 rfl) ki_1 ?_
      exact sw_iret C S rfl (tb_at ok_X3_isOnTape 23 rfl) h
    · refine sw_ldcS1 C (tb_at ok_X3_isOnTape 5 rfl) ?_
      refine aw_iload_n C (tb_at ok_X3_isOnTape 6 rfl) rfl ?_
      refine sw_charAt C 1 65 S (by decide) rfl cws_RX3_111 (by decide) (tb_at ok_X3_isOnTape 7 rfl) (Nat.le_of_ble_eq_true rfl) h (fun h => ?_)
      refine aw_aload_n C (tb_at ok_X3_isOnTape 8 rfl) rfl ?_
      refine aw_getR C (ob_40 hn) rfl (by decide) rfl p_40_0 fl_RX3_9 (tb_at ok_X3_isOnTape 9 rfl) ?_
      refine aw_aload_n C (tb_at ok_X3_isOnTape 10 rfl) rfl ?_
      refine aw_get C (ob_40 hn) rfl (by decide) rfl fl_RX3_19 (tb_at ok_X3_isOnTape 11 rfl) ?_
      refine aw_iload_n C (tb_at ok_X3_isOnTape 12 rfl) rfl ?_
      refine aw_iadd C (tb_at ok_X3_isOnTape 13 rfl) ?_
      refine aw_iload_n C (tb_at ok_X3_isOnTape 14 rfl) rfl ?_
      refine aw_isub C (tb_at ok_X3_isOnTape 15 rfl) ?_
      refine aw_iald C (ob_41 hn) (tb_at ok_X3_isOnTape 16 rfl) h (fun h => ?_)
      refine aw_icmp_eq C 31 (tb_at ok_X3_isOnTape 17 rfl) (by decide) h (fun h => ?_) (fun h => ?_)
      · refine aw_iinc C [some (.ref 40), some (.int a1), some (.int a2), some (.int (a3 + 1))] (tb_at ok_X3_isOnTape 20 rfl) rfl S.2.2.2.1 (by decide) ki_1 rfl ?_
        refine aw_goto C 2 (tb_at ok_X3_isOnTape 21 rfl) (by decide) ?_
        exact aw_loc [some (.ref 40), some (.int a1), some (.int a2), some (.int (a3 + 1))] (sl_k (sl_k (sl_k (sl_k sl_0)))) (ih _ _ h)
      · refine aw_iconst C (tb_at ok_X3_isOnTape 18 rfl) ki_0 ?_
        exact sw_iret C S rfl (tb_at ok_X3_isOnTape 19 rfl) h
set_option maxHeartbeats 4000000 in
set_option maxRecDepth 20000 in
theorem t_fR_isOnTape {K : Cx} {n : Nat} {a1 : Int32} {a2 : Int32} {M : Mem} {r : Int32 × Mem} (C : Ctx K RX3 cX3_isOnTape) (S : SS K n 8 4 (some .boolean) (Ti n r)) (hn : 85 ≤ n) (h : fR_isOnTape a1 a2 M = some r) : AS K n M 0 [some (.ref 40), some (.int a1), some (.int a2), none] [] := by
  refine aw_iload_n C (tb_at ok_X3_isOnTape 0 rfl) rfl ?_
  refine aw_istore_n C [some (.ref 40), some (.int a1), some (.int a2), some (.int a1)] (tb_at ok_X3_isOnTape 1 rfl) S.2.2.2.1 (by decide) rfl ?_
  exact aw_loc [some (.ref 40), some (.int a1), some (.int a2), some (.int a1)] (sl_k (sl_k (sl_k (sl_k sl_0)))) (t_fR_isOnTape_b2 C S hn 1000 _ _ h)
theorem m_fR_isOnTape {l : Launch} {w : Wd} {n : Nat} {a1 : Int32} {a2 : Int32} {M : Mem} {r : Int32 × Mem} (hn : 85 ≤ n) (h : fR_isOnTape a1 a2 M = some r) : CM l w yX3_isOnTape cX3_isOnTape 4 (some .boolean) 8 0 0 [.ref 40, .int a1, .int a2] n M (PD M) (Ti n r) := sm_of (loc := [some (.ref 40), some (.int a1), some (.int a2), none]) mf_X3_isOnTape (by decide) (Nat.le_of_ble_eq_true rfl) rfl (fun K _ _ C S => t_fR_isOnTape C S hn h)
def tb_X3_wordOnTape : List (Nat × Instr × Nat) := [(0, .iconst 0, 1), (1, .istore_n 1, 1), (2, .iconst 0, 1), (3, .istore_n 2, 1), (4, .iconst 0, 1), (5, .istore_n 3, 1), (6, .iload_n 3, 1), (7, .ldc 104, 2), (9, .invokevirtual 106, 3), (12, .if_icmp .ge 53, 3), (15, .ldc 104, 2), (17, .iload_n 3, 1), (18, .invokevirtual 111, 3), (21, .bipush 32, 2), (23, .if_icmp .ne 36, 3), (26, .iload_n 3, 1), (27, .iload_n 2, 1), (28, .isub, 1), (29, .aload_n 0, 1), (30, .getfield 22, 3), (33, .aload_n 0, 1), (34, .getfield 19, 3), (37, .isub, 1), (38, .if_icmp .ne 14, 3), (41, .aload_n 0, 1), (42, .iload_n 2, 1), (43, .iload_n 3, 1), (44, .invokevirtual 115, 3), (47, .ifCond .eq 5, 3), (50, .iload_n 1, 1), (51, .ireturn, 1), (52, .iinc 1 1, 3), (55, .iload_n 3, 1), (56, .iconst 1, 1), (57, .iadd, 1), (58, .istore_n 2, 1), (59, .iinc 3 1, 3), (62, .goto (-56), 3), (65, .bipush 14, 2), (67, .ireturn, 1)]
theorem ok_X3_wordOnTape : TB cX3_wordOnTape tb_X3_wordOnTape := (by decide +kernel : tb_X3_wordOnTape.all (fun q => tbq cX3_wordOnTape q) = true)
set_option maxHeartbeats 4000000 in
set_option maxRecDepth 20000 in
theorem t_fR_wordOnTape_b59 {K : Cx} {n : Nat} {k6 : Int32 → Int32 → Int32 → Mem → Option (Int32 × Mem)} {a1 : Int32} {a2 : Int32} {a3 : Int32} {M : Mem} {r : Int32 × Mem} (C : Ctx K RX3 cX3_wordOnTape) (S : SS K n 9 4 (some .int) (Ti n r)) (hn : 85 ≤ n) (hk6 : ∀ (va1 : Int32) (va2 : Int32) (va3 : Int32) (M1 : Mem), k6 va1 va2 va3 M1 = some r → AS K n M1 6 [some (.ref 40), some (.int va1), some (.int va2), some (.int va3)] []) (h : fR_wordOnTape_b59 k6 a1 a2 a3 M = some r) : AS K n M 59 [some (.ref 40), some (.int a1), some (.int a2), some (.int a3)] [] := by
  refine aw_iinc C [some (.ref 40), some (.int a1), some (.int a2), some (.int (a3 + 1))] (tb_at ok_X3_wordOnTape 36 rfl) rfl S.2.2.2.1 (by decide) ki_1 rfl ?_
  refine aw_goto C 6 (tb_at ok_X3_wordOnTape 37 rfl) (by decide) ?_
  exact aw_loc [some (.ref 40), some (.int a1), some (.int a2), some (.int (a3 + 1))] (sl_k (sl_k (sl_k (sl_k sl_0)))) (hk6 _ _ _ _ h)
set_option maxHeartbeats 4000000 in
set_option maxRecDepth 20000 in
theorem t_fR_wordOnTape_b52 {K : Cx} {n : Nat} {k6 : Int32 → Int32 → Int32 → Mem → Option (Int32 × Mem)} {a1 : Int32} {a3 : Int32} {M : Mem} {r : Int32 × Mem} (C : Ctx K RX3 cX3_wordOnTape) (S : SS K n 9 4 (some .int) (Ti n r)) (hn : 85 ≤ n) (hk6 : ∀ (va1 : Int32) (va2 : Int32) (va3 : Int32) (M1 : Mem), k6 va1 va2 va3 M1 = some r → AS K n M1 6 [some (.ref 40), some (.int va1), some (.int va2), some (.int va3)] []) (h : fR_wordOnTape_b52 k6 a1 a3 M = some r) : AS K n M 52 [some (.ref 40), some (.int a1), none, some (.int a3)] [] := by
  refine aw_iinc C [some (.ref 40), some (.int (a1 + 1)), none, some (.int a3)] (tb_at ok_X3_wordOnTape 31 rfl) rfl S.2.2.2.1 (by decide) ki_1 rfl ?_
  refine aw_iload_n C (tb_at ok_X3_wordOnTape 32 rfl) rfl ?_
  refine aw_iconst C (tb_at ok_X3_wordOnTape 33 rfl) ki_1 ?_
  refine aw_iadd C (tb_at ok_X3_wordOnTape 34 rfl) ?_
  refine aw_istore_n C [some (.ref 40), some (.int (a1 + 1)), some (.int (a3 + 1)), some (.int a3)] (tb_at ok_X3_wordOnTape 35 rfl) S.2.2.2.1 (by decide) rfl ?_
  exact aw_loc [some (.ref 40), some (.int (a1 + 1)), some (.int (a3 + 1)), some (.int a3)] (sl_k (sl_k (sl_k (sl_k sl_0)))) (t_fR_wordOnTape_b59 C S hn hk6 h)
set_option maxHeartbeats 4000000 in
set_option maxRecDepth 20000 in
theorem t_fR_wordOnTape_b6 {K : Cx} {n : Nat} {r : Int32 × Mem} (C : Ctx K RX3 cX3_wordOnTape) (S : SS K n 9 4 (some .int) (Ti n r)) (hn : 85 ≤ n) : ∀ (z : Nat) (a1 : Int32) (a2 : Int32) (a3 : Int32) (M : Mem), fR_wordOnTape_b6 z a1 a2 a3 M = some r → AS K n M 6 [some (.ref 40), some (.int a1), some (.int a2), some (.int a3)] [] := by
  intro z
  induction z with
  | zero => intro a1 a2 a3 M h; cases h
  | succ z ih =>
    intro a1 a2 a3 M h
    refine aw_iload_n C (tb_at ok_X3_wordOnTape 6 rfl) rfl ?_
    refine sw_ldcS1 C (tb_at ok_X3_wordOnTape 7 rfl) ?_
    refine sw_strlen C 1 S (by decide) cws_RX3_106 (by decide) (tb_at ok_X3_wordOnTape 8 rfl) (Nat.le_of_ble_eq_true rfl) ?_
    refine aw_icmp_ge C 65 (tb_at ok_X3_wordOnTape 9 rfl) (by decide) h (fun h => ?_) (fun h => ?_)
    · refine aw_bipush C (tb_at ok_X3_wordOnTape 38 rfl) kb_14 ?_
      exact sw_iret C S rfl (tb_at ok_X3_wordOnTape 39 rfl) h
    · refine sw_ldcS1 C (tb_at ok_X3_wordOnTape 10 rfl) ?_
      refine aw_iload_n C (tb_at ok_X3_wordOnTape 11 rfl) rfl ?_
      refine sw_charAt C 1 65 S (by decide) rfl cws_RX3_111 (by decide) (tb_at ok_X3_wordOnTape 12 rfl) (Nat.le_of_ble_eq_true rfl) h (fun h => ?_)
      refine aw_bipush C (tb_at ok_X3_wordOnTape 13 rfl) kb_32 ?_
      refine aw_icmp_ne C 59 (tb_at ok_X3_wordOnTape 14 rfl) (by decide) h (fun h => ?_) (fun h => ?_)
      · refine aw_iload_n C (tb_at ok_X3_wordOnTape 15 rfl) rfl ?_
        refine aw_iload_n C (tb_at ok_X3_wordOnTape 16 rfl) rfl ?_
        refine aw_isub C (tb_at ok_X3_wordOnTape 17 rfl) ?_
        refine aw_aload_n C (tb_at ok_X3_wordOnTape 18 rfl) rfl ?_
        refine aw_get C (ob_40 hn) rfl (by decide) rfl fl_RX3_22 (tb_at ok_X3_wordOnTape 19 rfl) ?_
        refine aw_aload_n C (tb_at ok_X3_wordOnTape 20 rfl) rfl ?_
        refine aw_get C (ob_40 hn) rfl (by decide) rfl fl_RX3_19 (tb_at ok_X3_wordOnTape 21 rfl) ?_
        refine aw_isub C (tb_at ok_X3_wordOnTape 22 rfl) ?_
        refine aw_icmp_ne C 52 (tb_at ok_X3_wordOnTape 23 rfl) (by decide) h (fun h => ?_) (fun h => ?_)
        · refine aw_aload_n C (tb_at ok_X3_wordOnTape 24 rfl) rfl ?_
          refine aw_iload_n C (tb_at ok_X3_wordOnTape 25 rfl) rfl ?_
          refine aw_iload_n C (tb_at ok_X3_wordOnTape 26 rfl) rfl ?_
          refine sw_cVi C S [.int a2, .int a3] [] (tb_at ok_X3_wordOnTape 27 rfl) h (fun q e => m_fR_isOnTape hn e) mf_X3_isOnTape (ob_40 hn) rfl rfl cw_RX3_115 rfl (by decide) rfl (Nat.le_of_ble_eq_true rfl) (fun r1 M1 h => ?_)
          refine aw_if_eq C 52 (tb_at ok_X3_wordOnTape 28 rfl) (by decide) h (fun h => ?_) (fun h => ?_)
          · exact aw_loc [some (.ref 40), some (.int a1), none, some (.int a3)] (sl_k (sl_k (sl_n (sl_k sl_0)))) (t_fR_wordOnTape_b52 C S hn ih h)
          · refine aw_iload_n C (tb_at ok_X3_wordOnTape 29 rfl) rfl ?_
            exact sw_iret C S rfl (tb_at ok_X3_wordOnTape 30 rfl) h
        · exact aw_loc [some (.ref 40), some (.int a1), none, some (.int a3)] (sl_k (sl_k (sl_n (sl_k sl_0)))) (t_fR_wordOnTape_b52 C S hn ih h)
      · exact aw_loc [some (.ref 40), some (.int a1), some (.int a2), some (.int a3)] (sl_k (sl_k (sl_k (sl_k sl_0)))) (t_fR_wordOnTape_b59 C S hn ih h)
set_option maxHeartbeats 4000000 in
set_option maxRecDepth 20000 in
theorem t_fR_wordOnTape {K : Cx} {n : Nat} {M : Mem} {r : Int32 × Mem} (C : Ctx K RX3 cX3_wordOnTape) (S : SS K n 9 4 (some .int) (Ti n r)) (hn : 85 ≤ n) (h : fR_wordOnTape M = some r) : AS K n M 0 [some (.ref 40), none, none, none] [] := by
  refine aw_iconst C (tb_at ok_X3_wordOnTape 0 rfl) ki_0 ?_
  refine aw_istore_n C [some (.ref 40), some (.int 0), none, none] (tb_at ok_X3_wordOnTape 1 rfl) S.2.2.2.1 (by decide) rfl ?_
  refine aw_iconst C (tb_at ok_X3_wordOnTape 2 rfl) ki_0 ?_
  refine aw_istore_n C [some (.ref 40), some (.int 0), some (.int 0), none] (tb_at ok_X3_wordOnTape 3 rfl) S.2.2.2.1 (by decide) rfl ?_
  refine aw_iconst C (tb_at ok_X3_wordOnTape 4 rfl) ki_0 ?_
  refine aw_istore_n C [some (.ref 40), some (.int 0), some (.int 0), some (.int 0)] (tb_at ok_X3_wordOnTape 5 rfl) S.2.2.2.1 (by decide) rfl ?_
  exact aw_loc [some (.ref 40), some (.int 0), some (.int 0), some (.int 0)] (sl_k (sl_k (sl_k (sl_k sl_0)))) (t_fR_wordOnTape_b6 C S hn 1000 _ _ _ _ h)
theorem m_fR_wordOnTape {l : Launch} {w : Wd} {n : Nat} {M : Mem} {r : Int32 × Mem} (hn : 85 ≤ n) (h : fR_wordOnTape M = some r) : CM l w yX3_wordOnTape cX3_wordOnTape 4 (some .int) 9 0 0 [.ref 40] n M (PD M) (Ti n r) := sm_of (loc := [some (.ref 40), none, none, none]) mf_X3_wordOnTape (by decide) (Nat.le_of_ble_eq_true rfl) rfl (fun K _ _ C S => t_fR_wordOnTape C S hn h)
def tb_X3_takeWord : List (Nat × Instr × Nat) := [(0, .aload_n 0, 1), (1, .getfield 22, 3), (4, .aload_n 0, 1), (5, .getfield 15, 3), (8, .if_icmp .ge 31, 3), (11, .aload_n 0, 1), (12, .getfield 9, 3), (15, .aload_n 0, 1), (16, .getfield 22, 3), (19, .iaload, 1), (20, .invokestatic 84, 3), (23, .ifCond .eq 16, 3), (26, .aload_n 0, 1), (27, .dup, 1), (28, .getfield 22, 3), (31, .iconst 1, 1), (32, .iadd, 1), (33, .putfield 22, 3), (36, .goto (-36), 3), (39, .aload_n 0, 1), (40, .aload_n 0, 1), (41, .invokevirtual 100, 3), (44, .putfield 25, 3), (47, .aload_n 0, 1), (48, .getfield 25, 3), (51, .bipush 14, 2), (53, .if_icmp .ne 7, 3), (56, .aload_n 0, 1), (57, .invokevirtual 81, 3), (60, .return_, 1)]
theorem ok_X3_takeWord : TB cX3_takeWord tb_X3_takeWord := (by decide +kernel : tb_X3_takeWord.all (fun q => tbq cX3_takeWord q) = true)
set_option maxHeartbeats 4000000 in
set_option maxRecDepth 20000 in
theorem t_fR_takeWord_b39 {K : Cx} {n : Nat} {M : Mem} {r : Mem} (C : Ctx K RX3 cX3_takeWord) (S : SS K n 10 1 none (Tv n r)) (hn : 85 ≤ n) (h : fR_takeWord_b39 M = some r) : AS K n M 39 [some (.ref 40)] [] := by
  refine aw_aload_n C (tb_at ok_X3_takeWord 19 rfl) rfl ?_
  refine aw_aload_n C (tb_at ok_X3_takeWord 20 rfl) rfl ?_
  refine sw_cVi C S [] [.ref 40] (tb_at ok_X3_takeWord 21 rfl) h (fun q e => m_fR_wordOnTape hn e) mf_X3_wordOnTape (ob_40 hn) rfl rfl cw_RX3_100 rfl (by decide) rfl (Nat.le_of_ble_eq_true rfl) (fun r1 M1 h => ?_)
  refine sw_put C (ob_40 hn) rfl (by decide) (by decide) (Or.inr (by decide)) rfl rfl rfl rfl fl_RX3_25 (tb_at ok_X3_takeWord 22 rfl) ?_
  refine aw_aload_n C (tb_at ok_X3_takeWord 23 rfl) rfl ?_
  refine aw_get C (ob_40 hn) rfl (by decide) rfl fl_RX3_25 (tb_at ok_X3_takeWord 24 rfl) ?_
  refine aw_bipush C (tb_at ok_X3_takeWord 25 rfl) kb_14 ?_
  refine aw_icmp_ne C 60 (tb_at ok_X3_takeWord 26 rfl) (by decide) h (fun h => ?_) (fun h => ?_)
  · refine aw_aload_n C (tb_at ok_X3_takeWord 27 rfl) rfl ?_
    refine sw_cVv C S [] [] (tb_at ok_X3_takeWord 28 rfl) h (fun q e => m_fR_refuse hn e) mf_X3_refuse (ob_40 hn) rfl rfl cw_RX3_81 rfl (by decide) rfl (Nat.le_of_ble_eq_true rfl) (fun M2 h => ?_)
    exact sw_vret C S (tb_at ok_X3_takeWord 29 rfl) h
  · exact sw_vret C S (tb_at ok_X3_takeWord 29 rfl) h
set_option maxHeartbeats 4000000 in
set_option maxRecDepth 20000 in
theorem t_fR_takeWord_b0 {K : Cx} {n : Nat} {r : Mem} (C : Ctx K RX3 cX3_takeWord) (S : SS K n 10 1 none (Tv n r)) (hn : 85 ≤ n) : ∀ (z : Nat) (M : Mem), fR_takeWord_b0 z M = some r → AS K n M 0 [some (.ref 40)] [] := by
  intro z
  induction z with
  | zero => intro M h; cases h
  | succ z ih =>
    intro M h
    refine aw_aload_n C (tb_at ok_X3_takeWord 0 rfl) rfl ?_
    refine aw_get C (ob_40 hn) rfl (by decide) rfl fl_RX3_22 (tb_at ok_X3_takeWord 1 rfl) ?_
    refine aw_aload_n C (tb_at ok_X3_takeWord 2 rfl) rfl ?_
    refine aw_get C (ob_40 hn) rfl (by decide) rfl fl_RX3_15 (tb_at ok_X3_takeWord 3 rfl) ?_
    refine aw_icmp_ge C 39 (tb_at ok_X3_takeWord 4 rfl) (by decide) h (fun h => ?_) (fun h => ?_)
    · exact aw_loc [some (.ref 40)] (sl_k sl_0) (t_fR_takeWord_b39 C S hn h)
    · refine aw_aload_n C (tb_at ok_X3_takeWord 5 rfl) rfl ?_
      refine aw_getR C (ob_40 hn) rfl (by decide) rfl p_40_0 fl_RX3_9 (tb_at ok_X3_takeWord 6 rfl) ?_
      refine aw_aload_n C (tb_at ok_X3_takeWord 7 rfl) rfl ?_
      refine aw_get C (ob_40 hn) rfl (by decide) rfl fl_RX3_22 (tb_at ok_X3_takeWord 8 rfl) ?_
      refine aw_iald C (ob_41 hn) (tb_at ok_X3_takeWord 9 rfl) h (fun h => ?_)
      refine sw_cSi C S [.int (M 41 (ix (M 40 3)))] [] (tb_at ok_X3_takeWord 10 rfl) h (fun q e => m_fR_isLetter hn e) mf_X3_isLetter cw_RX3_84 rfl (by decide) rfl (Nat.le_of_ble_eq_true rfl) (fun r3 M3 h => ?_)
      refine aw_if_eq C 39 (tb_at ok_X3_takeWord 11 rfl) (by decide) h (fun h => ?_) (fun h => ?_)
      · exact aw_loc [some (.ref 40)] (sl_k sl_0) (t_fR_takeWord_b39 C S hn h)
      · refine aw_aload_n C (tb_at ok_X3_takeWord 12 rfl) rfl ?_
        refine aw_dup C (tb_at ok_X3_takeWord 13 rfl) rfl ?_
        refine aw_get C (ob_40 hn) rfl (by decide) rfl fl_RX3_22 (tb_at ok_X3_takeWord 14 rfl) ?_
        refine aw_iconst C (tb_at ok_X3_takeWord 15 rfl) ki_1 ?_
        refine aw_iadd C (tb_at ok_X3_takeWord 16 rfl) ?_
        refine sw_put C (ob_40 hn) rfl (by decide) (by decide) (Or.inr (by decide)) rfl rfl rfl rfl fl_RX3_22 (tb_at ok_X3_takeWord 17 rfl) ?_
        refine aw_goto C 0 (tb_at ok_X3_takeWord 18 rfl) (by decide) ?_
        exact aw_loc [some (.ref 40)] (sl_k sl_0) (ih _ h)
set_option maxHeartbeats 4000000 in
set_option maxRecDepth 20000 in
theorem t_fR_takeWord {K : Cx} {n : Nat} {M : Mem} {r : Mem} (C : Ctx K RX3 cX3_takeWord) (S : SS K n 10 1 none (Tv n r)) (hn : 85 ≤ n) (h : fR_takeWord M = some r) : AS K n M 0 [some (.ref 40)] [] := by
  exact aw_loc [some (.ref 40)] (sl_k sl_0) (t_fR_takeWord_b0 C S hn 1000 _ h)
theorem m_fR_takeWord {l : Launch} {w : Wd} {n : Nat} {M : Mem} {r : Mem} (hn : 85 ≤ n) (h : fR_takeWord M = some r) : CM l w yX3_takeWord cX3_takeWord 1 none 10 0 0 [.ref 40] n M (PD M) (Tv n r) := sm_of (loc := [some (.ref 40)]) mf_X3_takeWord (by decide) (Nat.le_of_ble_eq_true rfl) rfl (fun K _ _ C S => t_fR_takeWord C S hn h)
def tb_X3_advance : List (Nat × Instr × Nat) := [(0, .aload_n 0, 1), (1, .getfield 22, 3), (4, .aload_n 0, 1), (5, .getfield 15, 3), (8, .if_icmp .ge 44, 3), (11, .aload_n 0, 1), (12, .getfield 9, 3), (15, .aload_n 0, 1), (16, .getfield 22, 3), (19, .iaload, 1), (20, .bipush 32, 2), (22, .if_icmp .eq 17, 3), (25, .aload_n 0, 1), (26, .getfield 9, 3), (29, .aload_n 0, 1), (30, .getfield 22, 3), (33, .iaload, 1), (34, .bipush 10, 2), (36, .if_icmp .ne 16, 3), (39, .aload_n 0, 1), (40, .dup, 1), (41, .getfield 22, 3), (44, .iconst 1, 1), (45, .iadd, 1), (46, .putfield 22, 3), (49, .goto (-49), 3), (52, .aload_n 0, 1), (53, .aload_n 0, 1), (54, .getfield 22, 3), (57, .putfield 19, 3), (60, .aload_n 0, 1), (61, .getfield 19, 3), (64, .aload_n 0, 1), (65, .getfield 15, 3), (68, .if_icmp .lt 12, 3), (71, .aload_n 0, 1), (72, .bipush 13, 2), (74, .putfield 25, 3), (77, .goto 92, 3), (80, .aload_n 0, 1), (81, .getfield 9, 3), (84, .aload_n 0, 1), (85, .getfield 19, 3), (88, .iaload, 1), (89, .invokestatic 84, 3), (92, .ifCond .eq 10, 3), (95, .aload_n 0, 1), (96, .invokevirtual 88, 3), (99, .goto 70, 3), (102, .aload_n 0, 1), (103, .getfield 9, 3), (106, .aload_n 0, 1), (107, .getfield 19, 3), (110, .iaload, 1), (111, .invokestatic 91, 3), (114, .ifCond .eq 10, 3), (117, .aload_n 0, 1), (118, .invokevirtual 94, 3), (121, .goto 48, 3), (124, .aload_n 0, 1), (125, .getfield 9, 3), (128, .aload_n 0, 1), (129, .getfield 19, 3), (132, .iaload, 1), (133, .invokestatic 97, 3), (136, .ifCond .eq 29, 3), (139, .aload_n 0, 1), (140, .aload_n 0, 1), (141, .getfield 9, 3), (144, .aload_n 0, 1), (145, .getfield 19, 3), (148, .iaload, 1), (149, .putfield 25, 3), (152, .aload_n 0, 1), (153, .dup, 1), (154, .getfield 22, 3), (157, .iconst 1, 1), (158, .iadd, 1), (159, .putfield 22, 3), (162, .goto 7, 3), (165, .aload_n 0, 1), (166, .invokevirtual 81, 3), (169, .return_, 1)]
theorem ok_X3_advance : TB cX3_advance tb_X3_advance := (by decide +kernel : tb_X3_advance.all (fun q => tbq cX3_advance q) = true)
set_option maxHeartbeats 4000000 in
set_option maxRecDepth 20000 in
theorem t_fR_advance_b52 {K : Cx} {n : Nat} {M : Mem} {r : Mem} (C : Ctx K RX3 cX3_advance) (S : SS K n 11 1 none (Tv n r)) (hn : 85 ≤ n) (h : fR_advance_b52 M = some r) : AS K n M 52 [some (.ref 40)] [] := by
  refine aw_aload_n C (tb_at ok_X3_advance 26 rfl) rfl ?_
  refine aw_aload_n C (tb_at ok_X3_advance 27 rfl) rfl ?_
  refine aw_get C (ob_40 hn) rfl (by decide) rfl fl_RX3_22 (tb_at ok_X3_advance 28 rfl) ?_
  refine sw_put C (ob_40 hn) rfl (by decide) (by decide) (Or.inr (by decide)) rfl rfl rfl rfl fl_RX3_19 (tb_at ok_X3_advance 29 rfl) ?_
  refine aw_aload_n C (tb_at ok_X3_advance 30 rfl) rfl ?_
  refine aw_get C (ob_40 hn) rfl (by decide) rfl fl_RX3_19 (tb_at ok_X3_advance 31 rfl) ?_
  refine aw_aload_n C (tb_at ok_X3_advance 32 rfl) rfl ?_
  refine aw_get C (ob_40 hn) rfl (by decide) rfl fl_RX3_15 (tb_at ok_X3_advance 33 rfl) ?_
  refine aw_icmp_lt C 80 (tb_at ok_X3_advance 34 rfl) (by decide) h (fun h => ?_) (fun h => ?_)
  · refine aw_aload_n C (tb_at ok_X3_advance 39 rfl) rfl ?_
    refine aw_getR C (ob_40 hn) rfl (by decide) rfl p_40_0 fl_RX3_9 (tb_at ok_X3_advance 40 rfl) ?_
    refine aw_aload_n C (tb_at ok_X3_advance 41 rfl) rfl ?_
    refine aw_get C (ob_40 hn) rfl (by decide) rfl fl_RX3_19 (tb_at ok_X3_advance 42 rfl) ?_
    refine aw_iald C (ob_41 hn) (tb_at ok_X3_advance 43 rfl) h (fun h => ?_)
    refine sw_cSi C S [.int ((wr M 40 2 (M 40 3)) 41 (ix ((wr M 40 2 (M 40 3)) 40 2)))] [] (tb_at ok_X3_advance 44 rfl) h (fun q e => m_fR_isLetter hn e) mf_X3_isLetter cw_RX3_84 rfl (by decide) rfl (Nat.le_of_ble_eq_true rfl) (fun r1 M1 h => ?_)
    refine aw_if_eq C 102 (tb_at ok_X3_advance 45 rfl) (by decide) h (fun h => ?_) (fun h => ?_)
    · refine aw_aload_n C (tb_at ok_X3_advance 49 rfl) rfl ?_
      refine aw_getR C (ob_40 hn) rfl (by decide) rfl p_40_0 fl_RX3_9 (tb_at ok_X3_advance 50 rfl) ?_
      refine aw_aload_n C (tb_at ok_X3_advance 51 rfl) rfl ?_
      refine aw_get C (ob_40 hn) rfl (by decide) rfl fl_RX3_19 (tb_at ok_X3_advance 52 rfl) ?_
      refine aw_iald C (ob_41 hn) (tb_at ok_X3_advance 53 rfl) h (fun h => ?_)
      refine sw_cSi C S [.int (M1 41 (ix (M1 40 2)))] [] (tb_at ok_X3_advance 54 rfl) h (fun q e => m_fR_isDigit hn e) mf_X3_isDigit cw_RX3_91 rfl (by decide) rfl (Nat.le_of_ble_eq_true rfl) (fun r2 M2 h => ?_)
      refine aw_if_eq C 124 (tb_at ok_X3_advance 55 rfl) (by decide) h (fun h => ?_) (fun h => ?_)
      · refine aw_aload_n C (tb_at ok_X3_advance 59 rfl) rfl ?_
        refine aw_getR C (ob_40 hn) rfl (by decide) rfl p_40_0 fl_RX3_9 (tb_at ok_X3_advance 60 rfl) ?_
        refine aw_aload_n C (tb_at ok_X3_advance 61 rfl) rfl ?_
        refine aw_get C (ob_40 hn) rfl (by decide) rfl fl_RX3_19 (tb_at ok_X3_advance 62 rfl) ?_
        refine aw_iald C (ob_41 hn) (tb_at ok_X3_advance 63 rfl) h (fun h => ?_)
        refine sw_cSi C S [.int (M2 41 (ix (M2 40 2)))] [] (tb_at ok_X3_advance 64 rfl) h (fun q e => m_fR_isSign hn e) mf_X3_isSign cw_RX3_97 rfl (by decide) rfl (Nat.le_of_ble_eq_true rfl) (fun r3 M3 h => ?_)
        refine aw_if_eq C 165 (tb_at ok_X3_advance 65 rfl) (by decide) h (fun h => ?_) (fun h => ?_)
        · refine aw_aload_n C (tb_at ok_X3_advance 80 rfl) rfl ?_
          refine sw_cVv C S [] [] (tb_at ok_X3_advance 81 rfl) h (fun q e => m_fR_refuse hn e) mf_X3_refuse (ob_40 hn) rfl rfl cw_RX3_81 rfl (by decide) rfl (Nat.le_of_ble_eq_true rfl) (fun M4 h => ?_)
          exact sw_vret C S (tb_at ok_X3_advance 82 rfl) h
        · refine aw_aload_n C (tb_at ok_X3_advance 66 rfl) rfl ?_
          refine aw_aload_n C (tb_at ok_X3_advance 67 rfl) rfl ?_
          refine aw_getR C (ob_40 hn) rfl (by decide) rfl p_40_0 fl_RX3_9 (tb_at ok_X3_advance 68 rfl) ?_
          refine aw_aload_n C (tb_at ok_X3_advance 69 rfl) rfl ?_
          refine aw_get C (ob_40 hn) rfl (by decide) rfl fl_RX3_19 (tb_at ok_X3_advance 70 rfl) ?_
          refine aw_iald C (ob_41 hn) (tb_at ok_X3_advance 71 rfl) h (fun h => ?_)
          refine sw_put C (ob_40 hn) rfl (by decide) (by decide) (Or.inr (by decide)) rfl rfl rfl rfl fl_RX3_25 (tb_at ok_X3_advance 72 rfl) ?_
          refine aw_aload_n C (tb_at ok_X3_advance 73 rfl) rfl ?_
          refine aw_dup C (tb_at ok_X3_advance 74 rfl) rfl ?_
          refine aw_get C (ob_40 hn) rfl (by decide) rfl fl_RX3_22 (tb_at ok_X3_advance 75 rfl) ?_
          refine aw_iconst C (tb_at ok_X3_advance 76 rfl) ki_1 ?_
          refine aw_iadd C (tb_at ok_X3_advance 77 rfl) ?_
          refine sw_put C (ob_40 hn) rfl (by decide) (by decide) (Or.inr (by decide)) rfl rfl rfl rfl fl_RX3_22 (tb_at ok_X3_advance 78 rfl) ?_
          refine aw_goto C 169 (tb_at ok_X3_advance 79 rfl) (by decide) ?_
          exact sw_vret C S (tb_at ok_X3_advance 82 rfl) h
      · refine aw_aload_n C (tb_at ok_X3_advance 56 rfl) rfl ?_
        refine sw_cVv C S [] [] (tb_at ok_X3_advance 57 rfl) h (fun q e => m_fR_takeNumber hn e) mf_X3_takeNumber (ob_40 hn) rfl rfl cw_RX3_94 rfl (by decide) rfl (Nat.le_of_ble_eq_true rfl) (fun M5 h => ?_)
        refine aw_goto C 169 (tb_at ok_X3_advance 58 rfl) (by decide) ?_
        exact sw_vret C S (tb_at ok_X3_advance 82 rfl) h
    · refine aw_aload_n C (tb_at ok_X3_advance 46 rfl) rfl ?_
      refine sw_cVv C S [] [] (tb_at ok_X3_advance 47 rfl) h (fun q e => m_fR_takeWord hn e) mf_X3_takeWord (ob_40 hn) rfl rfl cw_RX3_88 rfl (by decide) rfl (Nat.le_of_ble_eq_true rfl) (fun M6 h => ?_)
      refine aw_goto C 169 (tb_at ok_X3_advance 48 rfl) (by decide) ?_
      exact sw_vret C S (tb_at ok_X3_advance 82 rfl) h
  · refine aw_aload_n C (tb_at ok_X3_advance 35 rfl) rfl ?_
    refine aw_bipush C (tb_at ok_X3_advance 36 rfl) kb_13 ?_
    refine sw_put C (ob_40 hn) rfl (by decide) (by decide) (Or.inr (by decide)) rfl rfl rfl rfl fl_RX3_25 (tb_at ok_X3_advance 37 rfl) ?_
    refine aw_goto C 169 (tb_at ok_X3_advance 38 rfl) (by decide) ?_
    exact sw_vret C S (tb_at ok_X3_advance 82 rfl) h
set_option maxHeartbeats 4000000 in
set_option maxRecDepth 20000 in
theorem t_fR_advance_b39 {K : Cx} {n : Nat} {k0 : Mem → Option (Mem)} {M : Mem} {r : Mem} (C : Ctx K RX3 cX3_advance) (S : SS K n 11 1 none (Tv n r)) (hn : 85 ≤ n) (hk0 : ∀  (M1 : Mem), k0  M1 = some r → AS K n M1 0 [some (.ref 40)] []) (h : fR_advance_b39 k0 M = some r) : AS K n M 39 [some (.ref 40)] [] := by
  refine aw_aload_n C (tb_at ok_X3_advance 19 rfl) rfl ?_
  refine aw_dup C (tb_at ok_X3_advance 20 rfl) rfl ?_
  refine aw_get C (ob_40 hn) rfl (by decide) rfl fl_RX3_22 (tb_at ok_X3_advance 21 rfl) ?_
  refine aw_iconst C (tb_at ok_X3_advance 22 rfl) ki_1 ?_
  refine aw_iadd C (tb_at ok_X3_advance 23 rfl) ?_
  refine sw_put C (ob_40 hn) rfl (by decide) (by decide) (Or.inr (by decide)) rfl rfl rfl rfl fl_RX3_22 (tb_at ok_X3_advance 24 rfl) ?_
  refine aw_goto C 0 (tb_at ok_X3_advance 25 rfl) (by decide) ?_
  exact aw_loc [some (.ref 40)] (sl_k sl_0) (hk0 _ h)
set_option maxHeartbeats 4000000 in
set_option maxRecDepth 20000 in
theorem t_fR_advance_b0 {K : Cx} {n : Nat} {r : Mem} (C : Ctx K RX3 cX3_advance) (S : SS K n 11 1 none (Tv n r)) (hn : 85 ≤ n) : ∀ (z : Nat) (M : Mem), fR_advance_b0 z M = some r → AS K n M 0 [some (.ref 40)] [] := by
  intro z
  induction z with
  | zero => intro M h; cases h
  | succ z ih =>
    intro M h
    refine aw_aload_n C (tb_at ok_X3_advance 0 rfl) rfl ?_
    refine aw_get C (ob_40 hn) rfl (by decide) rfl fl_RX3_22 (tb_at ok_X3_advance 1 rfl) ?_
    refine aw_aload_n C (tb_at ok_X3_advance 2 rfl) rfl ?_
    refine aw_get C (ob_40 hn) rfl (by decide) rfl fl_RX3_15 (tb_at ok_X3_advance 3 rfl) ?_
    refine aw_icmp_ge C 52 (tb_at ok_X3_advance 4 rfl) (by decide) h (fun h => ?_) (fun h => ?_)
    · exact aw_loc [some (.ref 40)] (sl_k sl_0) (t_fR_advance_b52 C S hn h)
    · refine aw_aload_n C (tb_at ok_X3_advance 5 rfl) rfl ?_
      refine aw_getR C (ob_40 hn) rfl (by decide) rfl p_40_0 fl_RX3_9 (tb_at ok_X3_advance 6 rfl) ?_
      refine aw_aload_n C (tb_at ok_X3_advance 7 rfl) rfl ?_
      refine aw_get C (ob_40 hn) rfl (by decide) rfl fl_RX3_22 (tb_at ok_X3_advance 8 rfl) ?_
      refine aw_iald C (ob_41 hn) (tb_at ok_X3_advance 9 rfl) h (fun h => ?_)
      refine aw_bipush C (tb_at ok_X3_advance 10 rfl) kb_32 ?_
      refine aw_icmp_eq C 39 (tb_at ok_X3_advance 11 rfl) (by decide) h (fun h => ?_) (fun h => ?_)
      · exact aw_loc [some (.ref 40)] (sl_k sl_0) (t_fR_advance_b39 C S hn ih h)
      · refine aw_aload_n C (tb_at ok_X3_advance 12 rfl) rfl ?_
        refine aw_getR C (ob_40 hn) rfl (by decide) rfl p_40_0 fl_RX3_9 (tb_at ok_X3_advance 13 rfl) ?_
        refine aw_aload_n C (tb_at ok_X3_advance 14 rfl) rfl ?_
        refine aw_get C (ob_40 hn) rfl (by decide) rfl fl_RX3_22 (tb_at ok_X3_advance 15 rfl) ?_
        refine aw_iald C (ob_41 hn) (tb_at ok_X3_advance 16 rfl) h (fun h => ?_)
        refine aw_bipush C (tb_at ok_X3_advance 17 rfl) kb_10 ?_
        refine aw_icmp_ne C 52 (tb_at ok_X3_advance 18 rfl) (by decide) h (fun h => ?_) (fun h => ?_)
        · exact aw_loc [some (.ref 40)] (sl_k sl_0) (t_fR_advance_b39 C S hn ih h)
        · exact aw_loc [some (.ref 40)] (sl_k sl_0) (t_fR_advance_b52 C S hn h)
set_option maxHeartbeats 4000000 in
set_option maxRecDepth 20000 in
theorem t_fR_advance {K : Cx} {n : Nat} {M : Mem} {r : Mem} (C : Ctx K RX3 cX3_advance) (S : SS K n 11 1 none (Tv n r)) (hn : 85 ≤ n) (h : fR_advance M = some r) : AS K n M 0 [some (.ref 40)] [] := by
  exact aw_loc [some (.ref 40)] (sl_k sl_0) (t_fR_advance_b0 C S hn 1000 _ h)
theorem m_fR_advance {l : Launch} {w : Wd} {n : Nat} {M : Mem} {r : Mem} (hn : 85 ≤ n) (h : fR_advance M = some r) : CM l w yX3_advance cX3_advance 1 none 11 0 0 [.ref 40] n M (PD M) (Tv n r) := sm_of (loc := [some (.ref 40)]) mf_X3_advance (by decide) (Nat.le_of_ble_eq_true rfl) rfl (fun K _ _ C S => t_fR_advance C S hn h)
