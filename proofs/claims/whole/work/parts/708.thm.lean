/-! theorems 8 -/
def tb_X8_livesAll : List (Nat × Instr × Nat) := [(0, .aload_n 0, 1), (1, .invokevirtual 330, 3), (4, .iconst 0, 1), (5, .istore_n 2, 1), (6, .iload_n 2, 1), (7, .iload_n 1, 1), (8, .if_icmp .ge 14, 3), (11, .aload_n 0, 1), (12, .iload_n 2, 1), (13, .invokevirtual 333, 3), (16, .iinc 2 1, 3), (19, .goto (-13), 3), (22, .return_, 1)]
theorem ok_X8_livesAll : TB cX8_livesAll tb_X8_livesAll := (by decide +kernel : tb_X8_livesAll.all (fun q => tbq cX8_livesAll q) = true)
set_option maxHeartbeats 4000000 in
set_option maxRecDepth 20000 in
theorem t_fM_livesAll_b6 {K : Cx} {n : Nat} {a1 : Int32} {r : Mem} (C : Ctx K RX8 cX8_livesAll) (S : SS K n 70 3 none (Tv n r)) (hn : 113 ≤ n) : ∀ (z : Nat) (a2 : Int32) (M : Mem), fM_livesAll_b6 a1 z a2 M = some r → AS K n M 6 [some (.ref 85), some (.int a1), some (.int a2)] [] := by
  intro z
  induction z with
  | zero => intro a2 M h; cases h
  | succ z ih =>
    intro a2 M h
    refine aw_iload_n C (tb_at ok_X8_livesAll 4 rfl) rfl ?_
    refine aw_iload_n C (tb_at ok_X8_livesAll 5 rfl) rfl ?_
    refine aw_icmp_ge C 22 (tb_at ok_X8_livesAll 6 rfl) (by decide) h (fun h => ?_) (fun h => ?_)
    · exact sw_vret C S (tb_at ok_X8_livesAll 12 rfl) h
    · refine aw_aload_n C (tb_at ok_X8_livesAll 7 rfl) rfl ?_
      refine aw_iload_n C (tb_at ok_X8_livesAll 8 rfl) rfl ?_
      refine sw_cVv C S [.int a2] [] (tb_at ok_X8_livesAll 9 rfl) h (fun q e => m_fM_lives hn e) mf_X8_lives (ob_85 hn) rfl rfl cw_RX8_333 rfl (by decide) rfl (Nat.le_of_ble_eq_true rfl) (fun M2 h => ?_)
      refine aw_iinc C [some (.ref 85), some (.int a1), some (.int (a2 + 1))] (tb_at ok_X8_livesAll 10 rfl) rfl S.2.2.2.1 (by decide) ki_1 rfl ?_
      refine aw_goto C 6 (tb_at ok_X8_livesAll 11 rfl) (by decide) ?_
      exact aw_loc [some (.ref 85), some (.int a1), some (.int (a2 + 1))] (sl_k (sl_k (sl_k sl_0))) (ih _ _ h)
set_option maxHeartbeats 4000000 in
set_option maxRecDepth 20000 in
theorem t_fM_livesAll {K : Cx} {n : Nat} {a1 : Int32} {M : Mem} {r : Mem} (C : Ctx K RX8 cX8_livesAll) (S : SS K n 70 3 none (Tv n r)) (hn : 113 ≤ n) (h : fM_livesAll a1 M = some r) : AS K n M 0 [some (.ref 85), some (.int a1), none] [] := by
  refine aw_aload_n C (tb_at ok_X8_livesAll 0 rfl) rfl ?_
  refine sw_cVv C S [] [] (tb_at ok_X8_livesAll 1 rfl) h (fun q e => m_fM_startsOff hn e) mf_X8_startsOff (ob_85 hn) rfl rfl cw_RX8_330 rfl (by decide) rfl (Nat.le_of_ble_eq_true rfl) (fun M1 h => ?_)
  refine aw_iconst C (tb_at ok_X8_livesAll 2 rfl) ki_0 ?_
  refine aw_istore_n C [some (.ref 85), some (.int a1), some (.int 0)] (tb_at ok_X8_livesAll 3 rfl) S.2.2.2.1 (by decide) rfl ?_
  exact aw_loc [some (.ref 85), some (.int a1), some (.int 0)] (sl_k (sl_k (sl_k sl_0))) (t_fM_livesAll_b6 C S hn 1000 _ _ h)
theorem m_fM_livesAll {l : Launch} {w : Wd} {n : Nat} {a1 : Int32} {M : Mem} {r : Mem} (hn : 113 ≤ n) (h : fM_livesAll a1 M = some r) : CM l w yX8_livesAll cX8_livesAll 3 none 70 0 0 [.ref 85, .int a1] n M (PD M) (Tv n r) := sm_of (loc := [some (.ref 85), some (.int a1), none]) mf_X8_livesAll (by decide) (Nat.le_of_ble_eq_true rfl) rfl (fun K _ _ C S => t_fM_livesAll C S hn h)
def tb_X8_leftAll : List (Nat × Instr × Nat) := [(0, .iconst 0, 1), (1, .istore_n 1, 1), (2, .iconst 0, 1), (3, .istore_n 2, 1), (4, .iload_n 2, 1), (5, .bipush 8, 2), (7, .if_icmp .ge 18, 3), (10, .iload_n 1, 1), (11, .aload_n 0, 1), (12, .getfield 74, 3), (15, .iload_n 2, 1), (16, .iaload, 1), (17, .iadd, 1), (18, .istore_n 1, 1), (19, .iinc 2 1, 3), (22, .goto (-18), 3), (25, .iload_n 1, 1), (26, .ireturn, 1)]
theorem ok_X8_leftAll : TB cX8_leftAll tb_X8_leftAll := (by decide +kernel : tb_X8_leftAll.all (fun q => tbq cX8_leftAll q) = true)
set_option maxHeartbeats 4000000 in
set_option maxRecDepth 20000 in
theorem t_fM_leftAll_b4 {K : Cx} {n : Nat} {r : Int32 × Mem} (C : Ctx K RX8 cX8_leftAll) (S : SS K n 1 3 (some .int) (Ti n r)) (hn : 113 ≤ n) : ∀ (z : Nat) (a1 : Int32) (a2 : Int32) (M : Mem), fM_leftAll_b4 z a1 a2 M = some r → AS K n M 4 [some (.ref 85), some (.int a1), some (.int a2)] [] := by
  intro z
  induction z with
  | zero => intro a1 a2 M h; cases h
  | succ z ih =>
    intro a1 a2 M h
    refine aw_iload_n C (tb_at ok_X8_leftAll 4 rfl) rfl ?_
    refine aw_bipush C (tb_at ok_X8_leftAll 5 rfl) kb_8 ?_
    refine aw_icmp_ge C 25 (tb_at ok_X8_leftAll 6 rfl) (by decide) h (fun h => ?_) (fun h => ?_)
    · refine aw_iload_n C (tb_at ok_X8_leftAll 16 rfl) rfl ?_
      exact sw_iret C S rfl (tb_at ok_X8_leftAll 17 rfl) h
    · refine aw_iload_n C (tb_at ok_X8_leftAll 7 rfl) rfl ?_
      refine aw_aload_n C (tb_at ok_X8_leftAll 8 rfl) rfl ?_
      refine aw_getR C (ob_85 hn) rfl (by decide) rfl p_85_42 fl_RX8_74 (tb_at ok_X8_leftAll 9 rfl) ?_
      refine aw_iload_n C (tb_at ok_X8_leftAll 10 rfl) rfl ?_
      refine aw_iald C (ob_104 hn) (tb_at ok_X8_leftAll 11 rfl) h (fun h => ?_)
      refine aw_iadd C (tb_at ok_X8_leftAll 12 rfl) ?_
      refine aw_istore_n C [some (.ref 85), some (.int (a1 + (M 104 (ix a2)))), some (.int a2)] (tb_at ok_X8_leftAll 13 rfl) S.2.2.2.1 (by decide) rfl ?_
      refine aw_iinc C [some (.ref 85), some (.int (a1 + (M 104 (ix a2)))), some (.int (a2 + 1))] (tb_at ok_X8_leftAll 14 rfl) rfl S.2.2.2.1 (by decide) ki_1 rfl ?_
      refine aw_goto C 4 (tb_at ok_X8_leftAll 15 rfl) (by decide) ?_
      exact aw_loc [some (.ref 85), some (.int (a1 + (M 104 (ix a2)))), some (.int (a2 + 1))] (sl_k (sl_k (sl_k sl_0))) (ih _ _ _ h)
set_option maxHeartbeats 4000000 in
set_option maxRecDepth 20000 in
theorem t_fM_leftAll {K : Cx} {n : Nat} {M : Mem} {r : Int32 × Mem} (C : Ctx K RX8 cX8_leftAll) (S : SS K n 1 3 (some .int) (Ti n r)) (hn : 113 ≤ n) (h : fM_leftAll M = some r) : AS K n M 0 [some (.ref 85), none, none] [] := by
  refine aw_iconst C (tb_at ok_X8_leftAll 0 rfl) ki_0 ?_
  refine aw_istore_n C [some (.ref 85), some (.int 0), none] (tb_at ok_X8_leftAll 1 rfl) S.2.2.2.1 (by decide) rfl ?_
  refine aw_iconst C (tb_at ok_X8_leftAll 2 rfl) ki_0 ?_
  refine aw_istore_n C [some (.ref 85), some (.int 0), some (.int 0)] (tb_at ok_X8_leftAll 3 rfl) S.2.2.2.1 (by decide) rfl ?_
  exact aw_loc [some (.ref 85), some (.int 0), some (.int 0)] (sl_k (sl_k (sl_k sl_0))) (t_fM_leftAll_b4 C S hn 1000 _ _ _ h)
theorem m_fM_leftAll {l : Launch} {w : Wd} {n : Nat} {M : Mem} {r : Int32 × Mem} (hn : 113 ≤ n) (h : fM_leftAll M = some r) : CM l w yX8_leftAll cX8_leftAll 3 (some .int) 1 0 0 [.ref 85] n M (PD M) (Ti n r) := sm_of (loc := [some (.ref 85), none, none]) mf_X8_leftAll (by decide) (Nat.le_of_ble_eq_true rfl) rfl (fun K _ _ C S => t_fM_leftAll C S hn h)
def tb_X8_dear : List (Nat × Instr × Nat) := [(0, .aload_n 0, 1), (1, .bipush 100, 2), (3, .invokevirtual 337, 3), (6, .aload_n 0, 1), (7, .invokevirtual 340, 3), (10, .aload_n 0, 1), (11, .getfield 304, 3), (14, .iadd, 1), (15, .ireturn, 1)]
theorem ok_X8_dear : TB cX8_dear tb_X8_dear := (by decide +kernel : tb_X8_dear.all (fun q => tbq cX8_dear q) = true)
set_option maxHeartbeats 4000000 in
set_option maxRecDepth 20000 in
theorem t_fM_dear {K : Cx} {n : Nat} {M : Mem} {r : Int32 × Mem} (C : Ctx K RX8 cX8_dear) (S : SS K n 71 1 (some .int) (Ti n r)) (hn : 113 ≤ n) (h : fM_dear M = some r) : AS K n M 0 [some (.ref 85)] [] := by
  refine aw_aload_n C (tb_at ok_X8_dear 0 rfl) rfl ?_
  refine aw_bipush C (tb_at ok_X8_dear 1 rfl) kb_100 ?_
  refine sw_cVv C S [.int 100] [] (tb_at ok_X8_dear 2 rfl) h (fun q e => m_fM_livesAll hn e) mf_X8_livesAll (ob_85 hn) rfl rfl cw_RX8_337 rfl (by decide) rfl (Nat.le_of_ble_eq_true rfl) (fun M1 h => ?_)
  refine aw_aload_n C (tb_at ok_X8_dear 3 rfl) rfl ?_
  refine sw_cVi C S [] [] (tb_at ok_X8_dear 4 rfl) h (fun q e => m_fM_leftAll hn e) mf_X8_leftAll (ob_85 hn) rfl rfl cw_RX8_340 rfl (by decide) rfl (Nat.le_of_ble_eq_true rfl) (fun r2 M2 h => ?_)
  refine aw_aload_n C (tb_at ok_X8_dear 5 rfl) rfl ?_
  refine aw_get C (ob_85 hn) rfl (by decide) rfl fl_RX8_304 (tb_at ok_X8_dear 6 rfl) ?_
  refine aw_iadd C (tb_at ok_X8_dear 7 rfl) ?_
  exact sw_iret C S rfl (tb_at ok_X8_dear 8 rfl) h
theorem m_fM_dear {l : Launch} {w : Wd} {n : Nat} {M : Mem} {r : Int32 × Mem} (hn : 113 ≤ n) (h : fM_dear M = some r) : CM l w yX8_dear cX8_dear 1 (some .int) 71 0 0 [.ref 85] n M (PD M) (Ti n r) := sm_of (loc := [some (.ref 85)]) mf_X8_dear (by decide) (Nat.le_of_ble_eq_true rfl) rfl (fun K _ _ C S => t_fM_dear C S hn h)
def tb_X8_morning : List (Nat × Instr × Nat) := [(0, .iload_n 1, 1), (1, .i2l, 1), (2, .lconst 0, 1), (3, .ldc2_w 179, 3), (6, .invokestatic 114, 3), (9, .ifCond .eq 54, 3), (12, .iload_n 2, 1), (13, .i2l, 1), (14, .lconst 0, 1), (15, .ldc2_w 140, 3), (18, .invokestatic 114, 3), (21, .ifCond .ne 45, 3), (24, .iload_n 2, 1), (25, .i2l, 1), (26, .ldc2_w 156, 3), (29, .ldc2_w 343, 3), (32, .invokestatic 114, 3), (35, .ifCond .eq 14, 3), (38, .aload_n 0, 1), (39, .iload_n 2, 1), (40, .bipush 10, 2), (42, .irem, 1), (43, .invokevirtual 131, 3), (46, .ifCond .ne 20, 3), (49, .iload_n 2, 1), (50, .i2l, 1), (51, .ldc2_w 144, 3), (54, .ldc2_w 210, 3), (57, .invokestatic 114, 3), (60, .ifCond .ne 6, 3), (63, .bipush (-2), 2), (65, .ireturn, 1), (66, .aload_n 0, 1), (67, .iload_n 1, 1), (68, .invokevirtual 337, 3), (71, .iload_n 2, 1), (72, .iconst 4, 1), (73, .if_icmp .ge 48, 3), (76, .iload_n 2, 1), (77, .ifCond .ne 10, 3), (80, .aload_n 0, 1), (81, .invokevirtual 340, 3), (84, .goto 36, 3), (87, .iload_n 2, 1), (88, .iconst 1, 1), (89, .if_icmp .ne 10, 3), (92, .aload_n 0, 1), (93, .getfield 304, 3), (96, .goto 24, 3), (99, .iload_n 2, 1), (100, .iconst 2, 1), (101, .if_icmp .ne 10, 3), (104, .aload_n 0, 1), (105, .getfield 307, 3), (108, .goto 12, 3), (111, .aload_n 0, 1), (112, .invokevirtual 340, 3), (115, .aload_n 0, 1), (116, .getfield 304, 3), (119, .iadd, 1), (120, .ireturn, 1), (121, .iload_n 2, 1), (122, .bipush 49, 2), (124, .if_icmp .le 13, 3), (127, .aload_n 0, 1), (128, .getfield 74, 3), (131, .iload_n 2, 1), (132, .bipush 50, 2), (134, .isub, 1), (135, .iaload, 1), (136, .ireturn, 1), (137, .iload_n 2, 1), (138, .bipush 10, 2), (140, .irem, 1), (141, .istore_n 3, 1), (142, .iload_n 2, 1), (143, .bipush 20, 2), (145, .if_icmp .ge 12, 3), (148, .aload_n 0, 1), (149, .getfield 56, 3), (152, .iload_n 3, 1), (153, .iaload, 1), (154, .goto 38, 3), (157, .iload_n 2, 1), (158, .bipush 30, 2), (160, .if_icmp .ge 12, 3), (163, .aload_n 0, 1), (164, .getfield 68, 3), (167, .iload_n 3, 1), (168, .iaload, 1), (169, .goto 23, 3), (172, .iload_n 2, 1), (173, .bipush 40, 2), (175, .if_icmp .ge 12, 3), (178, .aload_n 0, 1), (179, .getfield 71, 3), (182, .iload_n 3, 1), (183, .iaload, 1), (184, .goto 8, 3), (187, .aload_n 0, 1), (188, .iload_n 3, 1), (189, .invokevirtual 310, 3), (192, .ireturn, 1)]
theorem ok_X8_morning : TB cX8_morning tb_X8_morning := (by decide +kernel : tb_X8_morning.all (fun q => tbq cX8_morning q) = true)
set_option maxHeartbeats 4000000 in
set_option maxRecDepth 20000 in
theorem t_fM_morning_b66 {K : Cx} {n : Nat} {a1 : Int32} {a2 : Int32} {M : Mem} {r : Int32 × Mem} (C : Ctx K RX8 cX8_morning) (S : SS K n 71 4 (some .int) (Ti n r)) (hn : 113 ≤ n) (h : fM_morning_b66 a1 a2 M = some r) : AS K n M 66 [some (.ref 85), some (.int a1), some (.int a2), none] [] := by
  refine aw_aload_n C (tb_at ok_X8_morning 32 rfl) rfl ?_
  refine aw_iload_n C (tb_at ok_X8_morning 33 rfl) rfl ?_
  refine sw_cVv C S [.int a1] [] (tb_at ok_X8_morning 34 rfl) h (fun q e => m_fM_livesAll hn e) mf_X8_livesAll (ob_85 hn) rfl rfl cw_RX8_337 rfl (by decide) rfl (Nat.le_of_ble_eq_true rfl) (fun M5 h => ?_)
  refine aw_iload_n C (tb_at ok_X8_morning 35 rfl) rfl ?_
  refine aw_iconst C (tb_at ok_X8_morning 36 rfl) ki_4 ?_
  refine aw_icmp_ge C 121 (tb_at ok_X8_morning 37 rfl) (by decide) h (fun h => ?_) (fun h => ?_)
  · refine aw_iload_n C (tb_at ok_X8_morning 61 rfl) rfl ?_
    refine aw_bipush C (tb_at ok_X8_morning 62 rfl) kb_49 ?_
    refine aw_icmp_le C 137 (tb_at ok_X8_morning 63 rfl) (by decide) h (fun h => ?_) (fun h => ?_)
    · refine aw_iload_n C (tb_at ok_X8_morning 71 rfl) rfl ?_
      refine aw_bipush C (tb_at ok_X8_morning 72 rfl) kb_10 ?_
      refine aw_irem C (by decide) (tb_at ok_X8_morning 73 rfl) ?_
      refine aw_istore_n C [some (.ref 85), some (.int a1), some (.int a2), some (.int (a2 - a2 / 10 * 10))] (tb_at ok_X8_morning 74 rfl) S.2.2.2.1 (by decide) rfl ?_
      refine aw_iload_n C (tb_at ok_X8_morning 75 rfl) rfl ?_
      refine aw_bipush C (tb_at ok_X8_morning 76 rfl) kb_20 ?_
      refine aw_icmp_ge C 157 (tb_at ok_X8_morning 77 rfl) (by decide) h (fun h => ?_) (fun h => ?_)
      · refine aw_iload_n C (tb_at ok_X8_morning 83 rfl) rfl ?_
        refine aw_bipush C (tb_at ok_X8_morning 84 rfl) kb_30 ?_
        refine aw_icmp_ge C 172 (tb_at ok_X8_morning 85 rfl) (by decide) h (fun h => ?_) (fun h => ?_)
        · refine aw_iload_n C (tb_at ok_X8_morning 91 rfl) rfl ?_
          refine aw_bipush C (tb_at ok_X8_morning 92 rfl) kb_40 ?_
          refine aw_icmp_ge C 187 (tb_at ok_X8_morning 93 rfl) (by decide) h (fun h => ?_) (fun h => ?_)
          · refine aw_aload_n C (tb_at ok_X8_morning 99 rfl) rfl ?_
            refine aw_iload_n C (tb_at ok_X8_morning 100 rfl) rfl ?_
            refine sw_cVi C S [.int (a2 - a2 / 10 * 10)] [] (tb_at ok_X8_morning 101 rfl) h (fun q e => m_fM_aimOf hn e) mf_X8_aimOf (ob_85 hn) rfl rfl cw_RX8_310 rfl (by decide) rfl (Nat.le_of_ble_eq_true rfl) (fun r6 M6 h => ?_)
            exact sw_iret C S rfl (tb_at ok_X8_morning 102 rfl) h
          · refine aw_aload_n C (tb_at ok_X8_morning 94 rfl) rfl ?_
            refine aw_getR C (ob_85 hn) rfl (by decide) rfl p_85_41 fl_RX8_71 (tb_at ok_X8_morning 95 rfl) ?_
            refine aw_iload_n C (tb_at ok_X8_morning 96 rfl) rfl ?_
            refine aw_iald C (ob_103 hn) (tb_at ok_X8_morning 97 rfl) h (fun h => ?_)
            refine aw_goto C 192 (tb_at ok_X8_morning 98 rfl) (by decide) ?_
            exact sw_iret C S rfl (tb_at ok_X8_morning 102 rfl) h
        · refine aw_aload_n C (tb_at ok_X8_morning 86 rfl) rfl ?_
          refine aw_getR C (ob_85 hn) rfl (by decide) rfl p_85_40 fl_RX8_68 (tb_at ok_X8_morning 87 rfl) ?_
          refine aw_iload_n C (tb_at ok_X8_morning 88 rfl) rfl ?_
          refine aw_iald C (ob_102 hn) (tb_at ok_X8_morning 89 rfl) h (fun h => ?_)
          refine aw_goto C 192 (tb_at ok_X8_morning 90 rfl) (by decide) ?_
          exact sw_iret C S rfl (tb_at ok_X8_morning 102 rfl) h
      · refine aw_aload_n C (tb_at ok_X8_morning 78 rfl) rfl ?_
        refine aw_getR C (ob_85 hn) rfl (by decide) rfl p_85_36 fl_RX8_56 (tb_at ok_X8_morning 79 rfl) ?_
        refine aw_iload_n C (tb_at ok_X8_morning 80 rfl) rfl ?_
        refine aw_iald C (ob_98 hn) (tb_at ok_X8_morning 81 rfl) h (fun h => ?_)
        refine aw_goto C 192 (tb_at ok_X8_morning 82 rfl) (by decide) ?_
        exact sw_iret C S rfl (tb_at ok_X8_morning 102 rfl) h
    · refine aw_aload_n C (tb_at ok_X8_morning 64 rfl) rfl ?_
      refine aw_getR C (ob_85 hn) rfl (by decide) rfl p_85_42 fl_RX8_74 (tb_at ok_X8_morning 65 rfl) ?_
      refine aw_iload_n C (tb_at ok_X8_morning 66 rfl) rfl ?_
      refine aw_bipush C (tb_at ok_X8_morning 67 rfl) kb_50 ?_
      refine aw_isub C (tb_at ok_X8_morning 68 rfl) ?_
      refine aw_iald C (ob_104 hn) (tb_at ok_X8_morning 69 rfl) h (fun h => ?_)
      exact sw_iret C S rfl (tb_at ok_X8_morning 70 rfl) h
  · refine aw_iload_n C (tb_at ok_X8_morning 38 rfl) rfl ?_
    refine aw_if_ne C 87 (tb_at ok_X8_morning 39 rfl) (by decide) h (fun h => ?_) (fun h => ?_)
    · refine aw_aload_n C (tb_at ok_X8_morning 40 rfl) rfl ?_
      refine sw_cVi C S [] [] (tb_at ok_X8_morning 41 rfl) h (fun q e => m_fM_leftAll hn e) mf_X8_leftAll (ob_85 hn) rfl rfl cw_RX8_340 rfl (by decide) rfl (Nat.le_of_ble_eq_true rfl) (fun r7 M7 h => ?_)
      refine aw_goto C 120 (tb_at ok_X8_morning 42 rfl) (by decide) ?_
      exact sw_iret C S rfl (tb_at ok_X8_morning 60 rfl) h
    · refine aw_iload_n C (tb_at ok_X8_morning 43 rfl) rfl ?_
      refine aw_iconst C (tb_at ok_X8_morning 44 rfl) ki_1 ?_
      refine aw_icmp_ne C 99 (tb_at ok_X8_morning 45 rfl) (by decide) h (fun h => ?_) (fun h => ?_)
      · refine aw_aload_n C (tb_at ok_X8_morning 46 rfl) rfl ?_
        refine aw_get C (ob_85 hn) rfl (by decide) rfl fl_RX8_304 (tb_at ok_X8_morning 47 rfl) ?_
        refine aw_goto C 120 (tb_at ok_X8_morning 48 rfl) (by decide) ?_
        exact sw_iret C S rfl (tb_at ok_X8_morning 60 rfl) h
      · refine aw_iload_n C (tb_at ok_X8_morning 49 rfl) rfl ?_
        refine aw_iconst C (tb_at ok_X8_morning 50 rfl) ki_2 ?_
        refine aw_icmp_ne C 111 (tb_at ok_X8_morning 51 rfl) (by decide) h (fun h => ?_) (fun h => ?_)
        · refine aw_aload_n C (tb_at ok_X8_morning 52 rfl) rfl ?_
          refine aw_get C (ob_85 hn) rfl (by decide) rfl fl_RX8_307 (tb_at ok_X8_morning 53 rfl) ?_
          refine aw_goto C 120 (tb_at ok_X8_morning 54 rfl) (by decide) ?_
          exact sw_iret C S rfl (tb_at ok_X8_morning 60 rfl) h
        · refine aw_aload_n C (tb_at ok_X8_morning 55 rfl) rfl ?_
          refine sw_cVi C S [] [] (tb_at ok_X8_morning 56 rfl) h (fun q e => m_fM_leftAll hn e) mf_X8_leftAll (ob_85 hn) rfl rfl cw_RX8_340 rfl (by decide) rfl (Nat.le_of_ble_eq_true rfl) (fun r8 M8 h => ?_)
          refine aw_aload_n C (tb_at ok_X8_morning 57 rfl) rfl ?_
          refine aw_get C (ob_85 hn) rfl (by decide) rfl fl_RX8_304 (tb_at ok_X8_morning 58 rfl) ?_
          refine aw_iadd C (tb_at ok_X8_morning 59 rfl) ?_
          exact sw_iret C S rfl (tb_at ok_X8_morning 60 rfl) h
set_option maxHeartbeats 4000000 in
set_option maxRecDepth 20000 in
theorem t_fM_morning_b49 {K : Cx} {n : Nat} {a1 : Int32} {a2 : Int32} {M : Mem} {r : Int32 × Mem} (C : Ctx K RX8 cX8_morning) (S : SS K n 71 4 (some .int) (Ti n r)) (hn : 113 ≤ n) (h : fM_morning_b49 a1 a2 M = some r) : AS K n M 49 [some (.ref 85), some (.int a1), some (.int a2), none] [] := by
  refine aw_iload_n C (tb_at ok_X8_morning 24 rfl) rfl ?_
  refine aw_i2l C (tb_at ok_X8_morning 25 rfl) ?_
  refine aw_ldc2 C kc_RX8_144 (tb_at ok_X8_morning 26 rfl) ?_
  refine aw_ldc2 C kc_RX8_210 (tb_at ok_X8_morning 27 rfl) ?_
  refine sw_cSi C S [.long (a2.toInt64), .long (50 : Int64), .long (57 : Int64)] [] (tb_at ok_X8_morning 28 rfl) h (fun q e => m_fM_in hn e) mf_X8_in cw_RX8_114 rfl (by decide) rfl (Nat.le_of_ble_eq_true rfl) (fun r4 M4 h => ?_)
  refine aw_if_ne C 66 (tb_at ok_X8_morning 29 rfl) (by decide) h (fun h => ?_) (fun h => ?_)
  · refine aw_bipush C (tb_at ok_X8_morning 30 rfl) kb_m2 ?_
    exact sw_iret C S rfl (tb_at ok_X8_morning 31 rfl) h
  · exact aw_loc [some (.ref 85), some (.int a1), some (.int a2), none] (sl_k (sl_k (sl_k (sl_n sl_0)))) (t_fM_morning_b66 C S hn h)
set_option maxHeartbeats 4000000 in
set_option maxRecDepth 20000 in
theorem t_fM_morning {K : Cx} {n : Nat} {a1 : Int32} {a2 : Int32} {M : Mem} {r : Int32 × Mem} (C : Ctx K RX8 cX8_morning) (S : SS K n 71 4 (some .int) (Ti n r)) (hn : 113 ≤ n) (h : fM_morning a1 a2 M = some r) : AS K n M 0 [some (.ref 85), some (.int a1), some (.int a2), none] [] := by
  refine aw_iload_n C (tb_at ok_X8_morning 0 rfl) rfl ?_
  refine aw_i2l C (tb_at ok_X8_morning 1 rfl) ?_
  refine aw_lconst C (tb_at ok_X8_morning 2 rfl) kl_0 ?_
  refine aw_ldc2 C kc_RX8_179 (tb_at ok_X8_morning 3 rfl) ?_
  refine sw_cSi C S [.long (a1.toInt64), .long (0 : Int64), .long (100 : Int64)] [] (tb_at ok_X8_morning 4 rfl) h (fun q e => m_fM_in hn e) mf_X8_in cw_RX8_114 rfl (by decide) rfl (Nat.le_of_ble_eq_true rfl) (fun r1 M1 h => ?_)
  refine aw_if_eq C 63 (tb_at ok_X8_morning 5 rfl) (by decide) h (fun h => ?_) (fun h => ?_)
  · refine aw_bipush C (tb_at ok_X8_morning 30 rfl) kb_m2 ?_
    exact sw_iret C S rfl (tb_at ok_X8_morning 31 rfl) h
  · refine aw_iload_n C (tb_at ok_X8_morning 6 rfl) rfl ?_
    refine aw_i2l C (tb_at ok_X8_morning 7 rfl) ?_
    refine aw_lconst C (tb_at ok_X8_morning 8 rfl) kl_0 ?_
    refine aw_ldc2 C kc_RX8_140 (tb_at ok_X8_morning 9 rfl) ?_
    refine sw_cSi C S [.long (a2.toInt64), .long (0 : Int64), .long (3 : Int64)] [] (tb_at ok_X8_morning 10 rfl) h (fun q e => m_fM_in hn e) mf_X8_in cw_RX8_114 rfl (by decide) rfl (Nat.le_of_ble_eq_true rfl) (fun r2 M2 h => ?_)
    refine aw_if_ne C 66 (tb_at ok_X8_morning 11 rfl) (by decide) h (fun h => ?_) (fun h => ?_)
    · refine aw_iload_n C (tb_at ok_X8_morning 12 rfl) rfl ?_
      refine aw_i2l C (tb_at ok_X8_morning 13 rfl) ?_
      refine aw_ldc2 C kc_RX8_156 (tb_at ok_X8_morning 14 rfl) ?_
      refine aw_ldc2 C kc_RX8_343 (tb_at ok_X8_morning 15 rfl) ?_
      refine sw_cSi C S [.long (a2.toInt64), .long (10 : Int64), .long (49 : Int64)] [] (tb_at ok_X8_morning 16 rfl) h (fun q e => m_fM_in hn e) mf_X8_in cw_RX8_114 rfl (by decide) rfl (Nat.le_of_ble_eq_true rfl) (fun r3 M3 h => ?_)
      refine aw_if_eq C 49 (tb_at ok_X8_morning 17 rfl) (by decide) h (fun h => ?_) (fun h => ?_)
      · exact aw_loc [some (.ref 85), some (.int a1), some (.int a2), none] (sl_k (sl_k (sl_k (sl_n sl_0)))) (t_fM_morning_b49 C S hn h)
      · refine aw_aload_n C (tb_at ok_X8_morning 18 rfl) rfl ?_
        refine aw_iload_n C (tb_at ok_X8_morning 19 rfl) rfl ?_
        refine aw_bipush C (tb_at ok_X8_morning 20 rfl) kb_10 ?_
        refine aw_irem C (by decide) (tb_at ok_X8_morning 21 rfl) ?_
        refine sw_cVi C S [.int (a2 - a2 / 10 * 10)] [] (tb_at ok_X8_morning 22 rfl) h (fun q e => m_fM_isMaid hn e) mf_X8_isMaid (ob_85 hn) rfl rfl cw_RX8_131 rfl (by decide) rfl (Nat.le_of_ble_eq_true rfl) (fun r9 M9 h => ?_)
        refine aw_if_ne C 66 (tb_at ok_X8_morning 23 rfl) (by decide) h (fun h => ?_) (fun h => ?_)
        · exact aw_loc [some (.ref 85), some (.int a1), some (.int a2), none] (sl_k (sl_k (sl_k (sl_n sl_0)))) (t_fM_morning_b49 C S hn h)
        · exact aw_loc [some (.ref 85), some (.int a1), some (.int a2), none] (sl_k (sl_k (sl_k (sl_n sl_0)))) (t_fM_morning_b66 C S hn h)
    · exact aw_loc [some (.ref 85), some (.int a1), some (.int a2), none] (sl_k (sl_k (sl_k (sl_n sl_0)))) (t_fM_morning_b66 C S hn h)
theorem m_fM_morning {l : Launch} {w : Wd} {n : Nat} {a1 : Int32} {a2 : Int32} {M : Mem} {r : Int32 × Mem} (hn : 113 ≤ n) (h : fM_morning a1 a2 M = some r) : CM l w yX8_morning cX8_morning 4 (some .int) 71 0 0 [.ref 85, .int a1, .int a2] n M (PD M) (Ti n r) := sm_of (loc := [some (.ref 85), some (.int a1), some (.int a2), none]) mf_X8_morning (by decide) (Nat.le_of_ble_eq_true rfl) rfl (fun K _ _ C S => t_fM_morning C S hn h)
def HR2 (l : Launch) (w : Wd) (n lv : Nat) (rc : Int32 → Int32 → Int32 → Mem → Option Mem) : Prop :=
  (∀ (M : Mem) (a1 : Int32) (a2 : Int32) (a3 : Int32) q, rc a1 a2 a3 M = some q → CM l w yX8_orders cX8_orders 7 none lv 0 0 [.ref 85, .int a1, .int a2, .int a3] n M (PD M) (Tv n q))
def tb_X8_orders : List (Nat × Instr × Nat) := [(0, .aload_n 0, 1), (1, .getfield 47, 3), (4, .iload_n 1, 1), (5, .iaload, 1), (6, .istore 4, 2), (8, .iload_n 2, 1), (9, .iload 4, 2), (11, .if_icmp .ne 79, 3), (14, .aload_n 0, 1), (15, .invokevirtual 345, 3), (18, .istore 5, 2), (20, .aload_n 0, 1), (21, .getfield 348, 3), (24, .iconst (-1), 1), (25, .if_icmp .eq 12, 3), (28, .iload 5, 2), (30, .aload_n 0, 1), (31, .getfield 351, 3), (34, .if_icmp .ge 55, 3), (37, .aload_n 0, 1), (38, .iload 5, 2), (40, .putfield 351, 3), (43, .aload_n 0, 1), (44, .iconst 0, 1), (45, .putfield 348, 3), (48, .iconst 0, 1), (49, .istore 6, 2), (51, .iload 6, 2), (53, .iload 4, 2), (55, .if_icmp .ge 34, 3), (58, .aload_n 0, 1), (59, .bipush 10, 2), (61, .aload_n 0, 1), (62, .getfield 348, 3), (65, .imul, 1), (66, .aload_n 0, 1), (67, .getfield 44, 3), (70, .iconst 5, 1), (71, .iload_n 1, 1), (72, .imul, 1), (73, .iload 6, 2), (75, .iadd, 1), (76, .iaload, 1), (77, .iadd, 1), (78, .iconst 1, 1), (79, .iadd, 1), (80, .putfield 348, 3), (83, .iinc 6 1, 3), (86, .goto (-35), 3), (89, .return_, 1), (90, .iconst 0, 1), (91, .istore 5, 2), (93, .iload 5, 2), (95, .iload 4, 2), (97, .if_icmp .ge 49, 3), (100, .iload_n 3, 1), (101, .iload 5, 2), (103, .ishr, 1), (104, .iconst 1, 1), (105, .iand, 1), (106, .ifCond .ne 34, 3), (109, .aload_n 0, 1), (110, .getfield 44, 3), (113, .iconst 5, 1), (114, .iload_n 1, 1), (115, .imul, 1), (116, .iload_n 2, 1), (117, .iadd, 1), (118, .aload_n 0, 1), (119, .getfield 77, 3), (122, .iload 5, 2), (124, .iaload, 1), (125, .iastore, 1), (126, .aload_n 0, 1), (127, .iload_n 1, 1), (128, .iload_n 2, 1), (129, .iconst 1, 1), (130, .iadd, 1), (131, .iload_n 3, 1), (132, .iconst 1, 1), (133, .iload 5, 2), (135, .ishl, 1), (136, .ior, 1), (137, .invokevirtual 354, 3), (140, .iinc 5 1, 3), (143, .goto (-50), 3), (146, .return_, 1)]
theorem ok_X8_orders : TB cX8_orders tb_X8_orders := (by decide +kernel : tb_X8_orders.all (fun q => tbq cX8_orders q) = true)
set_option maxHeartbeats 4000000 in
set_option maxRecDepth 20000 in
theorem t_fM_orders_b51 {K : Cx} {n : Nat} {a1 : Int32} {a4 : Int32} {r : Mem} {lvd : Nat} {rc : Int32 → Int32 → Int32 → Mem → Option Mem} (C : Ctx K RX8 cX8_orders) (S : SS K n (lvd + 1) 7 none (Tv n r)) (hB : 71 ≤ lvd) (hn : 113 ≤ n) (hrc : HR2 (kl K) (kw K) n lvd rc) : ∀ (z : Nat) (a6 : Int32) (M : Mem), fM_orders_b51 rc a1 a4 z a6 M = some r → AS K n M 51 [some (.ref 85), some (.int a1), none, none, some (.int a4), none, some (.int a6)] [] := by
  intro z
  induction z with
  | zero => intro a6 M h; cases h
  | succ z ih =>
    intro a6 M h
    refine aw_iload C (tb_at ok_X8_orders 27 rfl) rfl ?_
    refine aw_iload C (tb_at ok_X8_orders 28 rfl) rfl ?_
    refine aw_icmp_ge C 89 (tb_at ok_X8_orders 29 rfl) (by decide) h (fun h => ?_) (fun h => ?_)
    · exact sw_vret C S (tb_at ok_X8_orders 49 rfl) h
    · refine aw_aload_n C (tb_at ok_X8_orders 30 rfl) rfl ?_
      refine aw_bipush C (tb_at ok_X8_orders 31 rfl) kb_10 ?_
      refine aw_aload_n C (tb_at ok_X8_orders 32 rfl) rfl ?_
      refine aw_get C (ob_85 hn) rfl (by decide) rfl fl_RX8_348 (tb_at ok_X8_orders 33 rfl) ?_
      refine aw_imul C (tb_at ok_X8_orders 34 rfl) ?_
      refine aw_aload_n C (tb_at ok_X8_orders 35 rfl) rfl ?_
      refine aw_getR C (ob_85 hn) rfl (by decide) rfl p_85_15 fl_RX8_44 (tb_at ok_X8_orders 36 rfl) ?_
      refine aw_iconst C (tb_at ok_X8_orders 37 rfl) ki_5 ?_
      refine aw_iload_n C (tb_at ok_X8_orders 38 rfl) rfl ?_
      refine aw_imul C (tb_at ok_X8_orders 39 rfl) ?_
      refine aw_iload C (tb_at ok_X8_orders 40 rfl) rfl ?_
      refine aw_iadd C (tb_at ok_X8_orders 41 rfl) ?_
      refine aw_iald C (ob_95 hn) (tb_at ok_X8_orders 42 rfl) h (fun h => ?_)
      refine aw_iadd C (tb_at ok_X8_orders 43 rfl) ?_
      refine aw_iconst C (tb_at ok_X8_orders 44 rfl) ki_1 ?_
      refine aw_iadd C (tb_at ok_X8_orders 45 rfl) ?_
      refine sw_put C (ob_85 hn) rfl (by decide) (by decide) (Or.inr (by decide)) rfl rfl rfl rfl fl_RX8_348 (tb_at ok_X8_orders 46 rfl) ?_
      refine aw_iinc C [some (.ref 85), some (.int a1), none, none, some (.int a4), none, some (.int (a6 + 1))] (tb_at ok_X8_orders 47 rfl) rfl S.2.2.2.1 (by decide) ki_1 rfl ?_
      refine aw_goto C 51 (tb_at ok_X8_orders 48 rfl) (by decide) ?_
      exact aw_loc [some (.ref 85), some (.int a1), none, none, some (.int a4), none, some (.int (a6 + 1))] (sl_k (sl_k (sl_n (sl_n (sl_k (sl_n (sl_k sl_0))))))) (ih _ _ h)
set_option maxHeartbeats 4000000 in
set_option maxRecDepth 20000 in
theorem t_fM_orders_b37 {K : Cx} {n : Nat} {a1 : Int32} {a4 : Int32} {a5 : Int32} {M : Mem} {r : Mem} {lvd : Nat} {rc : Int32 → Int32 → Int32 → Mem → Option Mem} (C : Ctx K RX8 cX8_orders) (S : SS K n (lvd + 1) 7 none (Tv n r)) (hB : 71 ≤ lvd) (hn : 113 ≤ n) (hrc : HR2 (kl K) (kw K) n lvd rc) (h : fM_orders_b37 rc a1 a4 a5 M = some r) : AS K n M 37 [some (.ref 85), some (.int a1), none, none, some (.int a4), some (.int a5), none] [] := by
  refine aw_aload_n C (tb_at ok_X8_orders 19 rfl) rfl ?_
  refine aw_iload C (tb_at ok_X8_orders 20 rfl) rfl ?_
  refine sw_put C (ob_85 hn) rfl (by decide) (by decide) (Or.inr (by decide)) rfl rfl rfl rfl fl_RX8_351 (tb_at ok_X8_orders 21 rfl) ?_
  refine aw_aload_n C (tb_at ok_X8_orders 22 rfl) rfl ?_
  refine aw_iconst C (tb_at ok_X8_orders 23 rfl) ki_0 ?_
  refine sw_put C (ob_85 hn) rfl (by decide) (by decide) (Or.inr (by decide)) rfl rfl rfl rfl fl_RX8_348 (tb_at ok_X8_orders 24 rfl) ?_
  refine aw_iconst C (tb_at ok_X8_orders 25 rfl) ki_0 ?_
  refine aw_istore C [some (.ref 85), some (.int a1), none, none, some (.int a4), some (.int a5), some (.int 0)] (tb_at ok_X8_orders 26 rfl) S.2.2.2.1 (by decide) rfl ?_
  exact aw_loc [some (.ref 85), some (.int a1), none, none, some (.int a4), none, some (.int 0)] (sl_k (sl_k (sl_n (sl_n (sl_k (sl_n (sl_k sl_0))))))) (t_fM_orders_b51 C S hB hn hrc 1000 _ _ h)
set_option maxHeartbeats 4000000 in
set_option maxRecDepth 20000 in
theorem t_fM_orders_b140 {K : Cx} {n : Nat} {k93 : Int32 → Mem → Option (Mem)} {a1 : Int32} {a2 : Int32} {a3 : Int32} {a4 : Int32} {a5 : Int32} {M : Mem} {r : Mem} {lvd : Nat} {rc : Int32 → Int32 → Int32 → Mem → Option Mem} (C : Ctx K RX8 cX8_orders) (S : SS K n (lvd + 1) 7 none (Tv n r)) (hB : 71 ≤ lvd) (hn : 113 ≤ n) (hrc : HR2 (kl K) (kw K) n lvd rc) (hk93 : ∀ (va5 : Int32) (M1 : Mem), k93 va5 M1 = some r → AS K n M1 93 [some (.ref 85), some (.int a1), some (.int a2), some (.int a3), some (.int a4), some (.int va5), none] []) (h : fM_orders_b140 rc k93 a1 a2 a3 a4 a5 M = some r) : AS K n M 140 [some (.ref 85), some (.int a1), some (.int a2), some (.int a3), some (.int a4), some (.int a5), none] [] := by
  refine aw_iinc C [some (.ref 85), some (.int a1), some (.int a2), some (.int a3), some (.int a4), some (.int (a5 + 1)), none] (tb_at ok_X8_orders 84 rfl) rfl S.2.2.2.1 (by decide) ki_1 rfl ?_
  refine aw_goto C 93 (tb_at ok_X8_orders 85 rfl) (by decide) ?_
  exact aw_loc [some (.ref 85), some (.int a1), some (.int a2), some (.int a3), some (.int a4), some (.int (a5 + 1)), none] (sl_k (sl_k (sl_k (sl_k (sl_k (sl_k (sl_n sl_0))))))) (hk93 _ _ h)
set_option maxHeartbeats 4000000 in
set_option maxRecDepth 20000 in
theorem t_fM_orders_b93 {K : Cx} {n : Nat} {a1 : Int32} {a2 : Int32} {a3 : Int32} {a4 : Int32} {r : Mem} {lvd : Nat} {rc : Int32 → Int32 → Int32 → Mem → Option Mem} (C : Ctx K RX8 cX8_orders) (S : SS K n (lvd + 1) 7 none (Tv n r)) (hB : 71 ≤ lvd) (hn : 113 ≤ n) (hrc : HR2 (kl K) (kw K) n lvd rc) : ∀ (z : Nat) (a5 : Int32) (M : Mem), fM_orders_b93 rc a1 a2 a3 a4 z a5 M = some r → AS K n M 93 [some (.ref 85), some (.int a1), some (.int a2), some (.int a3), some (.int a4), some (.int a5), none] [] := by
  intro z
  induction z with
  | zero => intro a5 M h; cases h
  | succ z ih =>
    intro a5 M h
    refine aw_iload C (tb_at ok_X8_orders 52 rfl) rfl ?_
    refine aw_iload C (tb_at ok_X8_orders 53 rfl) rfl ?_
    refine aw_icmp_ge C 146 (tb_at ok_X8_orders 54 rfl) (by decide) h (fun h => ?_) (fun h => ?_)
    · exact sw_vret C S (tb_at ok_X8_orders 86 rfl) h
    · refine aw_iload_n C (tb_at ok_X8_orders 55 rfl) rfl ?_
      refine aw_iload C (tb_at ok_X8_orders 56 rfl) rfl ?_
      refine aw_ishr C (tb_at ok_X8_orders 57 rfl) ?_
      refine aw_iconst C (tb_at ok_X8_orders 58 rfl) ki_1 ?_
      refine aw_iand C (tb_at ok_X8_orders 59 rfl) ?_
      refine aw_if_ne C 140 (tb_at ok_X8_orders 60 rfl) (by decide) h (fun h => ?_) (fun h => ?_)
      · refine aw_aload_n C (tb_at ok_X8_orders 61 rfl) rfl ?_
        refine aw_getR C (ob_85 hn) rfl (by decide) rfl p_85_15 fl_RX8_44 (tb_at ok_X8_orders 62 rfl) ?_
        refine aw_iconst C (tb_at ok_X8_orders 63 rfl) ki_5 ?_
        refine aw_iload_n C (tb_at ok_X8_orders 64 rfl) rfl ?_
        refine aw_imul C (tb_at ok_X8_orders 65 rfl) ?_
        refine aw_iload_n C (tb_at ok_X8_orders 66 rfl) rfl ?_
        refine aw_iadd C (tb_at ok_X8_orders 67 rfl) ?_
        refine aw_aload_n C (tb_at ok_X8_orders 68 rfl) rfl ?_
        refine aw_getR C (ob_85 hn) rfl (by decide) rfl p_85_45 fl_RX8_77 (tb_at ok_X8_orders 69 rfl) ?_
        refine aw_iload C (tb_at ok_X8_orders 70 rfl) rfl ?_
        refine aw_iald C (ob_105 hn) (tb_at ok_X8_orders 71 rfl) h (fun h => ?_)
        refine sw_iast C (ob_95 hn) (tb_at ok_X8_orders 72 rfl) h (fun h => ?_)
        refine aw_aload_n C (tb_at ok_X8_orders 73 rfl) rfl ?_
        refine aw_iload_n C (tb_at ok_X8_orders 74 rfl) rfl ?_
        refine aw_iload_n C (tb_at ok_X8_orders 75 rfl) rfl ?_
        refine aw_iconst C (tb_at ok_X8_orders 76 rfl) ki_1 ?_
        refine aw_iadd C (tb_at ok_X8_orders 77 rfl) ?_
        refine aw_iload_n C (tb_at ok_X8_orders 78 rfl) rfl ?_
        refine aw_iconst C (tb_at ok_X8_orders 79 rfl) ki_1 ?_
        refine aw_iload C (tb_at ok_X8_orders 80 rfl) rfl ?_
        refine aw_ishl C (tb_at ok_X8_orders 81 rfl) ?_
        refine aw_ior C (tb_at ok_X8_orders 82 rfl) ?_
        refine sw_cVv C S [.int a1, .int (a2 + 1), .int (a3 ||| (1 <<< (a5 &&& 31)))] [] (tb_at ok_X8_orders 83 rfl) h (fun q e => hrc _ _ _ _ _ e) mf_X8_orders (ob_85 hn) rfl rfl cw_RX8_354 rfl (Nat.le_refl _) rfl (Nat.le_of_ble_eq_true rfl) (fun M2 h => ?_)
        exact aw_loc [some (.ref 85), some (.int a1), some (.int a2), some (.int a3), some (.int a4), some (.int a5), none] (sl_k (sl_k (sl_k (sl_k (sl_k (sl_k (sl_n sl_0))))))) (t_fM_orders_b140 C S hB hn hrc ih h)
      · exact aw_loc [some (.ref 85), some (.int a1), some (.int a2), some (.int a3), some (.int a4), some (.int a5), none] (sl_k (sl_k (sl_k (sl_k (sl_k (sl_k (sl_n sl_0))))))) (t_fM_orders_b140 C S hB hn hrc ih h)
set_option maxHeartbeats 4000000 in
set_option maxRecDepth 20000 in
theorem t_fM_orders {K : Cx} {n : Nat} {a1 : Int32} {a2 : Int32} {a3 : Int32} {M : Mem} {r : Mem} {lvd : Nat} {rc : Int32 → Int32 → Int32 → Mem → Option Mem} (C : Ctx K RX8 cX8_orders) (S : SS K n (lvd + 1) 7 none (Tv n r)) (hB : 71 ≤ lvd) (hn : 113 ≤ n) (hrc : HR2 (kl K) (kw K) n lvd rc) (h : fM_orders rc a1 a2 a3 M = some r) : AS K n M 0 [some (.ref 85), some (.int a1), some (.int a2), some (.int a3), none, none, none] [] := by
  refine aw_aload_n C (tb_at ok_X8_orders 0 rfl) rfl ?_
  refine aw_getR C (ob_85 hn) rfl (by decide) rfl p_85_16 fl_RX8_47 (tb_at ok_X8_orders 1 rfl) ?_
  refine aw_iload_n C (tb_at ok_X8_orders 2 rfl) rfl ?_
  refine aw_iald C (ob_96 hn) (tb_at ok_X8_orders 3 rfl) h (fun h => ?_)
  refine aw_istore C [some (.ref 85), some (.int a1), some (.int a2), some (.int a3), some (.int (M 96 (ix a1))), none, none] (tb_at ok_X8_orders 4 rfl) S.2.2.2.1 (by decide) rfl ?_
  refine aw_iload_n C (tb_at ok_X8_orders 5 rfl) rfl ?_
  refine aw_iload C (tb_at ok_X8_orders 6 rfl) rfl ?_
  refine aw_icmp_ne C 90 (tb_at ok_X8_orders 7 rfl) (by decide) h (fun h => ?_) (fun h => ?_)
  · refine aw_aload_n C (tb_at ok_X8_orders 8 rfl) rfl ?_
    refine sw_cVi C S [] [] (tb_at ok_X8_orders 9 rfl) h (fun q e => m_fM_dear hn e) mf_X8_dear (ob_85 hn) rfl rfl cw_RX8_345 rfl (Nat.succ_le_succ (Nat.le_trans (by decide) hB)) rfl (Nat.le_of_ble_eq_true rfl) (fun r1 M1 h => ?_)
    refine aw_istore C [some (.ref 85), some (.int a1), some (.int a2), some (.int a3), some (.int (M 96 (ix a1))), some (.int r1), none] (tb_at ok_X8_orders 10 rfl) S.2.2.2.1 (by decide) rfl ?_
    refine aw_aload_n C (tb_at ok_X8_orders 11 rfl) rfl ?_
    refine aw_get C (ob_85 hn) rfl (by decide) rfl fl_RX8_348 (tb_at ok_X8_orders 12 rfl) ?_
    refine aw_iconst C (tb_at ok_X8_orders 13 rfl) ki_m1 ?_
    refine aw_icmp_eq C 37 (tb_at ok_X8_orders 14 rfl) (by decide) h (fun h => ?_) (fun h => ?_)
    · exact aw_loc [some (.ref 85), some (.int a1), none, none, some (.int (M 96 (ix a1))), some (.int r1), none] (sl_k (sl_k (sl_n (sl_n (sl_k (sl_k (sl_n sl_0))))))) (t_fM_orders_b37 C S hB hn hrc h)
    · refine aw_iload C (tb_at ok_X8_orders 15 rfl) rfl ?_
      refine aw_aload_n C (tb_at ok_X8_orders 16 rfl) rfl ?_
      refine aw_get C (ob_85 hn) rfl (by decide) rfl fl_RX8_351 (tb_at ok_X8_orders 17 rfl) ?_
      refine aw_icmp_ge C 89 (tb_at ok_X8_orders 18 rfl) (by decide) h (fun h => ?_) (fun h => ?_)
      · exact sw_vret C S (tb_at ok_X8_orders 49 rfl) h
      · exact aw_loc [some (.ref 85), some (.int a1), none, none, some (.int (M 96 (ix a1))), some (.int r1), none] (sl_k (sl_k (sl_n (sl_n (sl_k (sl_k (sl_n sl_0))))))) (t_fM_orders_b37 C S hB hn hrc h)
  · refine aw_iconst C (tb_at ok_X8_orders 50 rfl) ki_0 ?_
    refine aw_istore C [some (.ref 85), some (.int a1), some (.int a2), some (.int a3), some (.int (M 96 (ix a1))), some (.int 0), none] (tb_at ok_X8_orders 51 rfl) S.2.2.2.1 (by decide) rfl ?_
    exact aw_loc [some (.ref 85), some (.int a1), some (.int a2), some (.int a3), some (.int (M 96 (ix a1))), some (.int 0), none] (sl_k (sl_k (sl_k (sl_k (sl_k (sl_k (sl_n sl_0))))))) (t_fM_orders_b93 C S hB hn hrc 1000 _ _ h)
theorem m_rO {l : Launch} {w : Wd} {n : Nat} (hn : 113 ≤ n) : ∀ d : Nat, HR2 l w n (71 + d) (f_rO d) := by
  intro d
  induction d with
  | zero => exact fun _ _ _ _ _ h => (by cases h)
  | succ d ih =>
    exact fun M a1 a2 a3 q h => sm_of (loc := [some (.ref 85), some (.int a1), some (.int a2), some (.int a3), none, none, none]) mf_X8_orders (by omega) (Nat.le_of_ble_eq_true rfl) rfl (fun K hl hw C S => t_fM_orders C S (Nat.le_add_right _ _) hn (by rw [hl, hw]; exact ih) h)
def tb_X8_best : List (Nat × Instr × Nat) := [(0, .aload_n 0, 1), (1, .iload_n 1, 1), (2, .invokevirtual 131, 3), (5, .ifCond .eq 13, 3), (8, .iload_n 2, 1), (9, .i2l, 1), (10, .lconst 0, 1), (11, .lconst 1, 1), (12, .invokestatic 114, 3), (15, .ifCond .ne 6, 3), (18, .bipush (-2), 2), (20, .ireturn, 1), (21, .iconst 0, 1), (22, .istore_n 3, 1), (23, .iload_n 3, 1), (24, .iconst 5, 1), (25, .if_icmp .ge 25, 3), (28, .aload_n 0, 1), (29, .getfield 77, 3), (32, .iload_n 3, 1), (33, .aload_n 0, 1), (34, .getfield 44, 3), (37, .iconst 5, 1), (38, .iload_n 1, 1), (39, .imul, 1), (40, .iload_n 3, 1), (41, .iadd, 1), (42, .iaload, 1), (43, .iastore, 1), (44, .iinc 3 1, 3), (47, .goto (-24), 3), (50, .aload_n 0, 1), (51, .iconst (-1), 1), (52, .putfield 348, 3), (55, .aload_n 0, 1), (56, .iload_n 1, 1), (57, .iconst 0, 1), (58, .iconst 0, 1), (59, .invokevirtual 354, 3), (62, .iconst 0, 1), (63, .istore_n 3, 1), (64, .iload_n 3, 1), (65, .iconst 5, 1), (66, .if_icmp .ge 25, 3), (69, .aload_n 0, 1), (70, .getfield 44, 3), (73, .iconst 5, 1), (74, .iload_n 1, 1), (75, .imul, 1), (76, .iload_n 3, 1), (77, .iadd, 1), (78, .aload_n 0, 1), (79, .getfield 77, 3), (82, .iload_n 3, 1), (83, .iaload, 1), (84, .iastore, 1), (85, .iinc 3 1, 3), (88, .goto (-24), 3), (91, .iload_n 2, 1), (92, .ifCond .ne 10, 3), (95, .aload_n 0, 1), (96, .getfield 348, 3), (99, .goto 7, 3), (102, .aload_n 0, 1), (103, .getfield 351, 3), (106, .ireturn, 1)]
theorem ok_X8_best : TB cX8_best tb_X8_best := (by decide +kernel : tb_X8_best.all (fun q => tbq cX8_best q) = true)
set_option maxHeartbeats 4000000 in
set_option maxRecDepth 20000 in
theorem t_fM_best_b64 {K : Cx} {n : Nat} {a1 : Int32} {a2 : Int32} {r : Int32 × Mem} (C : Ctx K RX8 cX8_best) (S : SS K n 132 4 (some .int) (Ti n r)) (hn : 113 ≤ n) : ∀ (z : Nat) (a3 : Int32) (M : Mem), fM_best_b64 a1 a2 z a3 M = some r → AS K n M 64 [some (.ref 85), some (.int a1), some (.int a2), some (.int a3)] [] := by
  intro z
  induction z with
  | zero => intro a3 M h; cases h
  | succ z ih =>
    intro a3 M h
    refine aw_iload_n C (tb_at ok_X8_best 41 rfl) rfl ?_
    refine aw_iconst C (tb_at ok_X8_best 42 rfl) ki_5 ?_
    refine aw_icmp_ge C 91 (tb_at ok_X8_best 43 rfl) (by decide) h (fun h => ?_) (fun h => ?_)
    · refine aw_iload_n C (tb_at ok_X8_best 58 rfl) rfl ?_
      refine aw_if_ne C 102 (tb_at ok_X8_best 59 rfl) (by decide) h (fun h => ?_) (fun h => ?_)
      · refine aw_aload_n C (tb_at ok_X8_best 60 rfl) rfl ?_
        refine aw_get C (ob_85 hn) rfl (by decide) rfl fl_RX8_348 (tb_at ok_X8_best 61 rfl) ?_
        refine aw_goto C 106 (tb_at ok_X8_best 62 rfl) (by decide) ?_
        exact sw_iret C S rfl (tb_at ok_X8_best 65 rfl) h
      · refine aw_aload_n C (tb_at ok_X8_best 63 rfl) rfl ?_
        refine aw_get C (ob_85 hn) rfl (by decide) rfl fl_RX8_351 (tb_at ok_X8_best 64 rfl) ?_
        exact sw_iret C S rfl (tb_at ok_X8_best 65 rfl) h
    · refine aw_aload_n C (tb_at ok_X8_best 44 rfl) rfl ?_
      refine aw_getR C (ob_85 hn) rfl (by decide) rfl p_85_15 fl_RX8_44 (tb_at ok_X8_best 45 rfl) ?_
      refine aw_iconst C (tb_at ok_X8_best 46 rfl) ki_5 ?_
      refine aw_iload_n C (tb_at ok_X8_best 47 rfl) rfl ?_
      refine aw_imul C (tb_at ok_X8_best 48 rfl) ?_
      refine aw_iload_n C (tb_at ok_X8_best 49 rfl) rfl ?_
      refine aw_iadd C (tb_at ok_X8_best 50 rfl) ?_
      refine aw_aload_n C (tb_at ok_X8_best 51 rfl) rfl ?_
      refine aw_getR C (ob_85 hn) rfl (by decide) rfl p_85_45 fl_RX8_77 (tb_at ok_X8_best 52 rfl) ?_
      refine aw_iload_n C (tb_at ok_X8_best 53 rfl) rfl ?_
      refine aw_iald C (ob_105 hn) (tb_at ok_X8_best 54 rfl) h (fun h => ?_)
      refine sw_iast C (ob_95 hn) (tb_at ok_X8_best 55 rfl) h (fun h => ?_)
      refine aw_iinc C [some (.ref 85), some (.int a1), some (.int a2), some (.int (a3 + 1))] (tb_at ok_X8_best 56 rfl) rfl S.2.2.2.1 (by decide) ki_1 rfl ?_
      refine aw_goto C 64 (tb_at ok_X8_best 57 rfl) (by decide) ?_
      exact aw_loc [some (.ref 85), some (.int a1), some (.int a2), some (.int (a3 + 1))] (sl_k (sl_k (sl_k (sl_k sl_0)))) (ih _ _ h)
set_option maxHeartbeats 4000000 in
set_option maxRecDepth 20000 in
theorem t_fM_best_b23 {K : Cx} {n : Nat} {a1 : Int32} {a2 : Int32} {r : Int32 × Mem} (C : Ctx K RX8 cX8_best) (S : SS K n 132 4 (some .int) (Ti n r)) (hn : 113 ≤ n) : ∀ (z : Nat) (a3 : Int32) (M : Mem), fM_best_b23 a1 a2 z a3 M = some r → AS K n M 23 [some (.ref 85), some (.int a1), some (.int a2), some (.int a3)] [] := by
  intro z
  induction z with
  | zero => intro a3 M h; cases h
  | succ z ih =>
    intro a3 M h
    refine aw_iload_n C (tb_at ok_X8_best 14 rfl) rfl ?_
    refine aw_iconst C (tb_at ok_X8_best 15 rfl) ki_5 ?_
    refine aw_icmp_ge C 50 (tb_at ok_X8_best 16 rfl) (by decide) h (fun h => ?_) (fun h => ?_)
    · refine aw_aload_n C (tb_at ok_X8_best 31 rfl) rfl ?_
      refine aw_iconst C (tb_at ok_X8_best 32 rfl) ki_m1 ?_
      refine sw_put C (ob_85 hn) rfl (by decide) (by decide) (Or.inr (by decide)) rfl rfl rfl rfl fl_RX8_348 (tb_at ok_X8_best 33 rfl) ?_
      refine aw_aload_n C (tb_at ok_X8_best 34 rfl) rfl ?_
      refine aw_iload_n C (tb_at ok_X8_best 35 rfl) rfl ?_
      refine aw_iconst C (tb_at ok_X8_best 36 rfl) ki_0 ?_
      refine aw_iconst C (tb_at ok_X8_best 37 rfl) ki_0 ?_
      refine sw_cVv C S [.int a1, .int 0, .int 0] [] (tb_at ok_X8_best 38 rfl) h (fun q e => (m_rO hn 60) _ _ _ _ _ e) mf_X8_orders (ob_85 hn) rfl rfl cw_RX8_354 rfl (by decide) rfl (Nat.le_of_ble_eq_true rfl) (fun M3 h => ?_)
      refine aw_iconst C (tb_at ok_X8_best 39 rfl) ki_0 ?_
      refine aw_istore_n C [some (.ref 85), some (.int a1), some (.int a2), some (.int 0)] (tb_at ok_X8_best 40 rfl) S.2.2.2.1 (by decide) rfl ?_
      exact aw_loc [some (.ref 85), some (.int a1), some (.int a2), some (.int 0)] (sl_k (sl_k (sl_k (sl_k sl_0)))) (t_fM_best_b64 C S hn 1000 _ _ h)
    · refine aw_aload_n C (tb_at ok_X8_best 17 rfl) rfl ?_
      refine aw_getR C (ob_85 hn) rfl (by decide) rfl p_85_45 fl_RX8_77 (tb_at ok_X8_best 18 rfl) ?_
      refine aw_iload_n C (tb_at ok_X8_best 19 rfl) rfl ?_
      refine aw_aload_n C (tb_at ok_X8_best 20 rfl) rfl ?_
      refine aw_getR C (ob_85 hn) rfl (by decide) rfl p_85_15 fl_RX8_44 (tb_at ok_X8_best 21 rfl) ?_
      refine aw_iconst C (tb_at ok_X8_best 22 rfl) ki_5 ?_
      refine aw_iload_n C (tb_at ok_X8_best 23 rfl) rfl ?_
      refine aw_imul C (tb_at ok_X8_best 24 rfl) ?_
      refine aw_iload_n C (tb_at ok_X8_best 25 rfl) rfl ?_
      refine aw_iadd C (tb_at ok_X8_best 26 rfl) ?_
      refine aw_iald C (ob_95 hn) (tb_at ok_X8_best 27 rfl) h (fun h => ?_)
      refine sw_iast C (ob_105 hn) (tb_at ok_X8_best 28 rfl) h (fun h => ?_)
      refine aw_iinc C [some (.ref 85), some (.int a1), some (.int a2), some (.int (a3 + 1))] (tb_at ok_X8_best 29 rfl) rfl S.2.2.2.1 (by decide) ki_1 rfl ?_
      refine aw_goto C 23 (tb_at ok_X8_best 30 rfl) (by decide) ?_
      exact aw_loc [some (.ref 85), some (.int a1), some (.int a2), some (.int (a3 + 1))] (sl_k (sl_k (sl_k (sl_k sl_0)))) (ih _ _ h)
set_option maxHeartbeats 4000000 in
set_option maxRecDepth 20000 in
theorem t_fM_best {K : Cx} {n : Nat} {a1 : Int32} {a2 : Int32} {M : Mem} {r : Int32 × Mem} (C : Ctx K RX8 cX8_best) (S : SS K n 132 4 (some .int) (Ti n r)) (hn : 113 ≤ n) (h : fM_best a1 a2 M = some r) : AS K n M 0 [some (.ref 85), some (.int a1), some (.int a2), none] [] := by
  refine aw_aload_n C (tb_at ok_X8_best 0 rfl) rfl ?_
  refine aw_iload_n C (tb_at ok_X8_best 1 rfl) rfl ?_
  refine sw_cVi C S [.int a1] [] (tb_at ok_X8_best 2 rfl) h (fun q e => m_fM_isMaid hn e) mf_X8_isMaid (ob_85 hn) rfl rfl cw_RX8_131 rfl (by decide) rfl (Nat.le_of_ble_eq_true rfl) (fun r1 M1 h => ?_)
  refine aw_if_eq C 18 (tb_at ok_X8_best 3 rfl) (by decide) h (fun h => ?_) (fun h => ?_)
  · refine aw_bipush C (tb_at ok_X8_best 10 rfl) kb_m2 ?_
    exact sw_iret C S rfl (tb_at ok_X8_best 11 rfl) h
  · refine aw_iload_n C (tb_at ok_X8_best 4 rfl) rfl ?_
    refine aw_i2l C (tb_at ok_X8_best 5 rfl) ?_
    refine aw_lconst C (tb_at ok_X8_best 6 rfl) kl_0 ?_
    refine aw_lconst C (tb_at ok_X8_best 7 rfl) kl_1 ?_
    refine sw_cSi C S [.long (a2.toInt64), .long (0 : Int64), .long (1 : Int64)] [] (tb_at ok_X8_best 8 rfl) h (fun q e => m_fM_in hn e) mf_X8_in cw_RX8_114 rfl (by decide) rfl (Nat.le_of_ble_eq_true rfl) (fun r2 M2 h => ?_)
    refine aw_if_ne C 21 (tb_at ok_X8_best 9 rfl) (by decide) h (fun h => ?_) (fun h => ?_)
    · refine aw_bipush C (tb_at ok_X8_best 10 rfl) kb_m2 ?_
      exact sw_iret C S rfl (tb_at ok_X8_best 11 rfl) h
    · refine aw_iconst C (tb_at ok_X8_best 12 rfl) ki_0 ?_
      refine aw_istore_n C [some (.ref 85), some (.int a1), some (.int a2), some (.int 0)] (tb_at ok_X8_best 13 rfl) S.2.2.2.1 (by decide) rfl ?_
      exact aw_loc [some (.ref 85), some (.int a1), some (.int a2), some (.int 0)] (sl_k (sl_k (sl_k (sl_k sl_0)))) (t_fM_best_b23 C S hn 1000 _ _ h)
theorem m_fM_best {l : Launch} {w : Wd} {n : Nat} {a1 : Int32} {a2 : Int32} {M : Mem} {r : Int32 × Mem} (hn : 113 ≤ n) (h : fM_best a1 a2 M = some r) : CM l w yX8_best cX8_best 4 (some .int) 132 0 0 [.ref 85, .int a1, .int a2] n M (PD M) (Ti n r) := sm_of (loc := [some (.ref 85), some (.int a1), some (.int a2), none]) mf_X8_best (by decide) (Nat.le_of_ble_eq_true rfl) rfl (fun K _ _ C S => t_fM_best C S hn h)
def tb_X8_begin : List (Nat × Instr × Nat) := [(0, .aload_n 0, 1), (1, .iload_n 1, 1), (2, .invokevirtual 131, 3), (5, .ifCond .eq 13, 3), (8, .iload_n 2, 1), (9, .i2l, 1), (10, .lconst 0, 1), (11, .lconst 1, 1), (12, .invokestatic 114, 3), (15, .ifCond .ne 6, 3), (18, .bipush (-2), 2), (20, .ireturn, 1), (21, .aload_n 0, 1), (22, .getfield 41, 3), (25, .iload_n 1, 1), (26, .iaload, 1), (27, .istore_n 3, 1), (28, .iconst (-1), 1), (29, .istore 4, 2), (31, .iconst 0, 1), (32, .istore 5, 2), (34, .iconst 0, 1), (35, .istore 6, 2), (37, .iload 6, 2), (39, .bipush 8, 2), (41, .if_icmp .ge 44, 3), (44, .aload_n 0, 1), (45, .getfield 41, 3), (48, .iload_n 1, 1), (49, .iload 6, 2), (51, .iastore, 1), (52, .aload_n 0, 1), (53, .invokevirtual 345, 3), (56, .istore 7, 2), (58, .iload 4, 2), (60, .iconst (-1), 1), (61, .if_icmp .eq 10, 3), (64, .iload 7, 2), (66, .iload 5, 2), (68, .if_icmp .ge 11, 3), (71, .iload 6, 2), (73, .istore 4, 2), (75, .iload 7, 2), (77, .istore 5, 2), (79, .iinc 6 1, 3), (82, .goto (-45), 3), (85, .aload_n 0, 1), (86, .getfield 41, 3), (89, .iload_n 1, 1), (90, .iload_n 3, 1), (91, .iastore, 1), (92, .iload_n 2, 1), (93, .ifCond .ne 8, 3), (96, .iload 4, 2), (98, .goto 5, 3), (101, .iload 5, 2), (103, .ireturn, 1)]
theorem ok_X8_begin : TB cX8_begin tb_X8_begin := (by decide +kernel : tb_X8_begin.all (fun q => tbq cX8_begin q) = true)
set_option maxHeartbeats 4000000 in
set_option maxRecDepth 20000 in
theorem t_fM_begin_b79 {K : Cx} {n : Nat} {k37 : Int32 → Int32 → Int32 → Mem → Option (Int32 × Mem)} {a1 : Int32} {a2 : Int32} {a3 : Int32} {a4 : Int32} {a5 : Int32} {a6 : Int32} {M : Mem} {r : Int32 × Mem} (C : Ctx K RX8 cX8_begin) (S : SS K n 72 8 (some .int) (Ti n r)) (hn : 113 ≤ n) (hk37 : ∀ (va4 : Int32) (va5 : Int32) (va6 : Int32) (M1 : Mem), k37 va4 va5 va6 M1 = some r → AS K n M1 37 [some (.ref 85), some (.int a1), some (.int a2), some (.int a3), some (.int va4), some (.int va5), some (.int va6), none] []) (h : fM_begin_b79 k37 a1 a2 a3 a4 a5 a6 M = some r) : AS K n M 79 [some (.ref 85), some (.int a1), some (.int a2), some (.int a3), some (.int a4), some (.int a5), some (.int a6), none] [] := by
  refine aw_iinc C [some (.ref 85), some (.int a1), some (.int a2), some (.int a3), some (.int a4), some (.int a5), some (.int (a6 + 1)), none] (tb_at ok_X8_begin 44 rfl) rfl S.2.2.2.1 (by decide) ki_1 rfl ?_
  refine aw_goto C 37 (tb_at ok_X8_begin 45 rfl) (by decide) ?_
  exact aw_loc [some (.ref 85), some (.int a1), some (.int a2), some (.int a3), some (.int a4), some (.int a5), some (.int (a6 + 1)), none] (sl_k (sl_k (sl_k (sl_k (sl_k (sl_k (sl_k (sl_n sl_0)))))))) (hk37 _ _ _ _ h)
set_option maxHeartbeats 4000000 in
set_option maxRecDepth 20000 in
theorem t_fM_begin_b71 {K : Cx} {n : Nat} {k37 : Int32 → Int32 → Int32 → Mem → Option (Int32 × Mem)} {a1 : Int32} {a2 : Int32} {a3 : Int32} {a6 : Int32} {a7 : Int32} {M : Mem} {r : Int32 × Mem} (C : Ctx K RX8 cX8_begin) (S : SS K n 72 8 (some .int) (Ti n r)) (hn : 113 ≤ n) (hk37 : ∀ (va4 : Int32) (va5 : Int32) (va6 : Int32) (M1 : Mem), k37 va4 va5 va6 M1 = some r → AS K n M1 37 [some (.ref 85), some (.int a1), some (.int a2), some (.int a3), some (.int va4), some (.int va5), some (.int va6), none] []) (h : fM_begin_b71 k37 a1 a2 a3 a6 a7 M = some r) : AS K n M 71 [some (.ref 85), some (.int a1), some (.int a2), some (.int a3), none, none, some (.int a6), some (.int a7)] [] := by
  refine aw_iload C (tb_at ok_X8_begin 40 rfl) rfl ?_
  refine aw_istore C [some (.ref 85), some (.int a1), some (.int a2), some (.int a3), some (.int a6), none, some (.int a6), some (.int a7)] (tb_at ok_X8_begin 41 rfl) S.2.2.2.1 (by decide) rfl ?_
  refine aw_iload C (tb_at ok_X8_begin 42 rfl) rfl ?_
  refine aw_istore C [some (.ref 85), some (.int a1), some (.int a2), some (.int a3), some (.int a6), some (.int a7), some (.int a6), some (.int a7)] (tb_at ok_X8_begin 43 rfl) S.2.2.2.1 (by decide) rfl ?_
  exact aw_loc [some (.ref 85), some (.int a1), some (.int a2), some (.int a3), some (.int a6), some (.int a7), some (.int a6), none] (sl_k (sl_k (sl_k (sl_k (sl_k (sl_k (sl_k (sl_n sl_0)))))))) (t_fM_begin_b79 C S hn hk37 h)
set_option maxHeartbeats 4000000 in
set_option maxRecDepth 20000 in
theorem t_fM_begin_b37 {K : Cx} {n : Nat} {a1 : Int32} {a2 : Int32} {a3 : Int32} {r : Int32 × Mem} (C : Ctx K RX8 cX8_begin) (S : SS K n 72 8 (some .int) (Ti n r)) (hn : 113 ≤ n) : ∀ (z : Nat) (a4 : Int32) (a5 : Int32) (a6 : Int32) (M : Mem), fM_begin_b37 a1 a2 a3 z a4 a5 a6 M = some r → AS K n M 37 [some (.ref 85), some (.int a1), some (.int a2), some (.int a3), some (.int a4), some (.int a5), some (.int a6), none] [] := by
  intro z
  induction z with
  | zero => intro a4 a5 a6 M h; cases h
  | succ z ih =>
    intro a4 a5 a6 M h
    refine aw_iload C (tb_at ok_X8_begin 23 rfl) rfl ?_
    refine aw_bipush C (tb_at ok_X8_begin 24 rfl) kb_8 ?_
    refine aw_icmp_ge C 85 (tb_at ok_X8_begin 25 rfl) (by decide) h (fun h => ?_) (fun h => ?_)
    · refine aw_aload_n C (tb_at ok_X8_begin 46 rfl) rfl ?_
      refine aw_getR C (ob_85 hn) rfl (by decide) rfl p_85_14 fl_RX8_41 (tb_at ok_X8_begin 47 rfl) ?_
      refine aw_iload_n C (tb_at ok_X8_begin 48 rfl) rfl ?_
      refine aw_iload_n C (tb_at ok_X8_begin 49 rfl) rfl ?_
      refine sw_iast C (ob_94 hn) (tb_at ok_X8_begin 50 rfl) h (fun h => ?_)
      refine aw_iload_n C (tb_at ok_X8_begin 51 rfl) rfl ?_
      refine aw_if_ne C 101 (tb_at ok_X8_begin 52 rfl) (by decide) h (fun h => ?_) (fun h => ?_)
      · refine aw_iload C (tb_at ok_X8_begin 53 rfl) rfl ?_
        refine aw_goto C 103 (tb_at ok_X8_begin 54 rfl) (by decide) ?_
        exact sw_iret C S rfl (tb_at ok_X8_begin 56 rfl) h
      · refine aw_iload C (tb_at ok_X8_begin 55 rfl) rfl ?_
        exact sw_iret C S rfl (tb_at ok_X8_begin 56 rfl) h
    · refine aw_aload_n C (tb_at ok_X8_begin 26 rfl) rfl ?_
      refine aw_getR C (ob_85 hn) rfl (by decide) rfl p_85_14 fl_RX8_41 (tb_at ok_X8_begin 27 rfl) ?_
      refine aw_iload_n C (tb_at ok_X8_begin 28 rfl) rfl ?_
      refine aw_iload C (tb_at ok_X8_begin 29 rfl) rfl ?_
      refine sw_iast C (ob_94 hn) (tb_at ok_X8_begin 30 rfl) h (fun h => ?_)
      refine aw_aload_n C (tb_at ok_X8_begin 31 rfl) rfl ?_
      refine sw_cVi C S [] [] (tb_at ok_X8_begin 32 rfl) h (fun q e => m_fM_dear hn e) mf_X8_dear (ob_85 hn) rfl rfl cw_RX8_345 rfl (by decide) rfl (Nat.le_of_ble_eq_true rfl) (fun r3 M3 h => ?_)
      refine aw_istore C [some (.ref 85), some (.int a1), some (.int a2), some (.int a3), some (.int a4), some (.int a5), some (.int a6), some (.int r3)] (tb_at ok_X8_begin 33 rfl) S.2.2.2.1 (by decide) rfl ?_
      refine aw_iload C (tb_at ok_X8_begin 34 rfl) rfl ?_
      refine aw_iconst C (tb_at ok_X8_begin 35 rfl) ki_m1 ?_
      refine aw_icmp_eq C 71 (tb_at ok_X8_begin 36 rfl) (by decide) h (fun h => ?_) (fun h => ?_)
      · exact aw_loc [some (.ref 85), some (.int a1), some (.int a2), some (.int a3), none, none, some (.int a6), some (.int r3)] (sl_k (sl_k (sl_k (sl_k (sl_n (sl_n (sl_k (sl_k sl_0)))))))) (t_fM_begin_b71 C S hn ih h)
      · refine aw_iload C (tb_at ok_X8_begin 37 rfl) rfl ?_
        refine aw_iload C (tb_at ok_X8_begin 38 rfl) rfl ?_
        refine aw_icmp_ge C 79 (tb_at ok_X8_begin 39 rfl) (by decide) h (fun h => ?_) (fun h => ?_)
        · exact aw_loc [some (.ref 85), some (.int a1), some (.int a2), some (.int a3), some (.int a4), some (.int a5), some (.int a6), none] (sl_k (sl_k (sl_k (sl_k (sl_k (sl_k (sl_k (sl_n sl_0)))))))) (t_fM_begin_b79 C S hn ih h)
        · exact aw_loc [some (.ref 85), some (.int a1), some (.int a2), some (.int a3), none, none, some (.int a6), some (.int r3)] (sl_k (sl_k (sl_k (sl_k (sl_n (sl_n (sl_k (sl_k sl_0)))))))) (t_fM_begin_b71 C S hn ih h)
set_option maxHeartbeats 4000000 in
set_option maxRecDepth 20000 in
theorem t_fM_begin {K : Cx} {n : Nat} {a1 : Int32} {a2 : Int32} {M : Mem} {r : Int32 × Mem} (C : Ctx K RX8 cX8_begin) (S : SS K n 72 8 (some .int) (Ti n r)) (hn : 113 ≤ n) (h : fM_begin a1 a2 M = some r) : AS K n M 0 [some (.ref 85), some (.int a1), some (.int a2), none, none, none, none, none] [] := by
  refine aw_aload_n C (tb_at ok_X8_begin 0 rfl) rfl ?_
  refine aw_iload_n C (tb_at ok_X8_begin 1 rfl) rfl ?_
  refine sw_cVi C S [.int a1] [] (tb_at ok_X8_begin 2 rfl) h (fun q e => m_fM_isMaid hn e) mf_X8_isMaid (ob_85 hn) rfl rfl cw_RX8_131 rfl (by decide) rfl (Nat.le_of_ble_eq_true rfl) (fun r1 M1 h => ?_)
  refine aw_if_eq C 18 (tb_at ok_X8_begin 3 rfl) (by decide) h (fun h => ?_) (fun h => ?_)
  · refine aw_bipush C (tb_at ok_X8_begin 10 rfl) kb_m2 ?_
    exact sw_iret C S rfl (tb_at ok_X8_begin 11 rfl) h
  · refine aw_iload_n C (tb_at ok_X8_begin 4 rfl) rfl ?_
    refine aw_i2l C (tb_at ok_X8_begin 5 rfl) ?_
    refine aw_lconst C (tb_at ok_X8_begin 6 rfl) kl_0 ?_
    refine aw_lconst C (tb_at ok_X8_begin 7 rfl) kl_1 ?_
    refine sw_cSi C S [.long (a2.toInt64), .long (0 : Int64), .long (1 : Int64)] [] (tb_at ok_X8_begin 8 rfl) h (fun q e => m_fM_in hn e) mf_X8_in cw_RX8_114 rfl (by decide) rfl (Nat.le_of_ble_eq_true rfl) (fun r2 M2 h => ?_)
    refine aw_if_ne C 21 (tb_at ok_X8_begin 9 rfl) (by decide) h (fun h => ?_) (fun h => ?_)
    · refine aw_bipush C (tb_at ok_X8_begin 10 rfl) kb_m2 ?_
      exact sw_iret C S rfl (tb_at ok_X8_begin 11 rfl) h
    · refine aw_aload_n C (tb_at ok_X8_begin 12 rfl) rfl ?_
      refine aw_getR C (ob_85 hn) rfl (by decide) rfl p_85_14 fl_RX8_41 (tb_at ok_X8_begin 13 rfl) ?_
      refine aw_iload_n C (tb_at ok_X8_begin 14 rfl) rfl ?_
      refine aw_iald C (ob_94 hn) (tb_at ok_X8_begin 15 rfl) h (fun h => ?_)
      refine aw_istore_n C [some (.ref 85), some (.int a1), some (.int a2), some (.int (M2 94 (ix a1))), none, none, none, none] (tb_at ok_X8_begin 16 rfl) S.2.2.2.1 (by decide) rfl ?_
      refine aw_iconst C (tb_at ok_X8_begin 17 rfl) ki_m1 ?_
      refine aw_istore C [some (.ref 85), some (.int a1), some (.int a2), some (.int (M2 94 (ix a1))), some (.int (-1)), none, none, none] (tb_at ok_X8_begin 18 rfl) S.2.2.2.1 (by decide) rfl ?_
      refine aw_iconst C (tb_at ok_X8_begin 19 rfl) ki_0 ?_
      refine aw_istore C [some (.ref 85), some (.int a1), some (.int a2), some (.int (M2 94 (ix a1))), some (.int (-1)), some (.int 0), none, none] (tb_at ok_X8_begin 20 rfl) S.2.2.2.1 (by decide) rfl ?_
      refine aw_iconst C (tb_at ok_X8_begin 21 rfl) ki_0 ?_
      refine aw_istore C [some (.ref 85), some (.int a1), some (.int a2), some (.int (M2 94 (ix a1))), some (.int (-1)), some (.int 0), some (.int 0), none] (tb_at ok_X8_begin 22 rfl) S.2.2.2.1 (by decide) rfl ?_
      exact aw_loc [some (.ref 85), some (.int a1), some (.int a2), some (.int (M2 94 (ix a1))), some (.int (-1)), some (.int 0), some (.int 0), none] (sl_k (sl_k (sl_k (sl_k (sl_k (sl_k (sl_k (sl_n sl_0)))))))) (t_fM_begin_b37 C S hn 1000 _ _ _ _ h)
theorem m_fM_begin {l : Launch} {w : Wd} {n : Nat} {a1 : Int32} {a2 : Int32} {M : Mem} {r : Int32 × Mem} (hn : 113 ≤ n) (h : fM_begin a1 a2 M = some r) : CM l w yX8_begin cX8_begin 8 (some .int) 72 0 0 [.ref 85, .int a1, .int a2] n M (PD M) (Ti n r) := sm_of (loc := [some (.ref 85), some (.int a1), some (.int a2), none, none, none, none, none]) mf_X8_begin (by decide) (Nat.le_of_ble_eq_true rfl) rfl (fun K _ _ C S => t_fM_begin C S hn h)
def tb_X8_home : List (Nat × Instr × Nat) := [(0, .iload_n 1, 1), (1, .i2l, 1), (2, .lconst 0, 1), (3, .lconst 1, 1), (4, .invokestatic 114, 3), (7, .ifCond .ne 6, 3), (10, .bipush (-2), 2), (12, .ireturn, 1), (13, .iconst (-1), 1), (14, .istore_n 2, 1), (15, .aload_n 0, 1), (16, .invokevirtual 345, 3), (19, .istore_n 3, 1), (20, .iconst 0, 1), (21, .istore 4, 2), (23, .iload 4, 2), (25, .aload_n 0, 1), (26, .getfield 118, 3), (29, .if_icmp .ge 38, 3), (32, .aload_n 0, 1), (33, .iload 4, 2), (35, .putfield 50, 3), (38, .aload_n 0, 1), (39, .invokevirtual 345, 3), (42, .istore 5, 2), (44, .aload_n 0, 1), (45, .iconst (-1), 1), (46, .putfield 50, 3), (49, .iload 5, 2), (51, .iload_n 3, 1), (52, .if_icmp .ge 9, 3), (55, .iload 4, 2), (57, .istore_n 2, 1), (58, .iload 5, 2), (60, .istore_n 3, 1), (61, .iinc 4 1, 3), (64, .goto (-41), 3), (67, .iload_n 1, 1), (68, .ifCond .ne 7, 3), (71, .iload_n 2, 1), (72, .goto 4, 3), (75, .iload_n 3, 1), (76, .ireturn, 1)]
theorem ok_X8_home : TB cX8_home tb_X8_home := (by decide +kernel : tb_X8_home.all (fun q => tbq cX8_home q) = true)
set_option maxHeartbeats 4000000 in
set_option maxRecDepth 20000 in
theorem t_fM_home_b61 {K : Cx} {n : Nat} {k23 : Int32 → Int32 → Int32 → Mem → Option (Int32 × Mem)} {a1 : Int32} {a2 : Int32} {a3 : Int32} {a4 : Int32} {M : Mem} {r : Int32 × Mem} (C : Ctx K RX8 cX8_home) (S : SS K n 72 6 (some .int) (Ti n r)) (hn : 113 ≤ n) (hk23 : ∀ (va2 : Int32) (va3 : Int32) (va4 : Int32) (M1 : Mem), k23 va2 va3 va4 M1 = some r → AS K n M1 23 [some (.ref 85), some (.int a1), some (.int va2), some (.int va3), some (.int va4), none] []) (h : fM_home_b61 k23 a1 a2 a3 a4 M = some r) : AS K n M 61 [some (.ref 85), some (.int a1), some (.int a2), some (.int a3), some (.int a4), none] [] := by
  refine aw_iinc C [some (.ref 85), some (.int a1), some (.int a2), some (.int a3), some (.int (a4 + 1)), none] (tb_at ok_X8_home 35 rfl) rfl S.2.2.2.1 (by decide) ki_1 rfl ?_
  refine aw_goto C 23 (tb_at ok_X8_home 36 rfl) (by decide) ?_
  exact aw_loc [some (.ref 85), some (.int a1), some (.int a2), some (.int a3), some (.int (a4 + 1)), none] (sl_k (sl_k (sl_k (sl_k (sl_k (sl_n sl_0)))))) (hk23 _ _ _ _ h)
set_option maxHeartbeats 4000000 in
set_option maxRecDepth 20000 in
theorem t_fM_home_b23 {K : Cx} {n : Nat} {a1 : Int32} {r : Int32 × Mem} (C : Ctx K RX8 cX8_home) (S : SS K n 72 6 (some .int) (Ti n r)) (hn : 113 ≤ n) : ∀ (z : Nat) (a2 : Int32) (a3 : Int32) (a4 : Int32) (M : Mem), fM_home_b23 a1 z a2 a3 a4 M = some r → AS K n M 23 [some (.ref 85), some (.int a1), some (.int a2), some (.int a3), some (.int a4), none] [] := by
  intro z
  induction z with
  | zero => intro a2 a3 a4 M h; cases h
  | succ z ih =>
    intro a2 a3 a4 M h
    refine aw_iload C (tb_at ok_X8_home 15 rfl) rfl ?_
    refine aw_aload_n C (tb_at ok_X8_home 16 rfl) rfl ?_
    refine aw_get C (ob_85 hn) rfl (by decide) rfl fl_RX8_118 (tb_at ok_X8_home 17 rfl) ?_
    refine aw_icmp_ge C 67 (tb_at ok_X8_home 18 rfl) (by decide) h (fun h => ?_) (fun h => ?_)
    · refine aw_iload_n C (tb_at ok_X8_home 37 rfl) rfl ?_
      refine aw_if_ne C 75 (tb_at ok_X8_home 38 rfl) (by decide) h (fun h => ?_) (fun h => ?_)
      · refine aw_iload_n C (tb_at ok_X8_home 39 rfl) rfl ?_
        refine aw_goto C 76 (tb_at ok_X8_home 40 rfl) (by decide) ?_
        exact sw_iret C S rfl (tb_at ok_X8_home 42 rfl) h
      · refine aw_iload_n C (tb_at ok_X8_home 41 rfl) rfl ?_
        exact sw_iret C S rfl (tb_at ok_X8_home 42 rfl) h
    · refine aw_aload_n C (tb_at ok_X8_home 19 rfl) rfl ?_
      refine aw_iload C (tb_at ok_X8_home 20 rfl) rfl ?_
      refine sw_put C (ob_85 hn) rfl (by decide) (by decide) (Or.inr (by decide)) rfl rfl rfl rfl fl_RX8_50 (tb_at ok_X8_home 21 rfl) ?_
      refine aw_aload_n C (tb_at ok_X8_home 22 rfl) rfl ?_
      refine sw_cVi C S [] [] (tb_at ok_X8_home 23 rfl) h (fun q e => m_fM_dear hn e) mf_X8_dear (ob_85 hn) rfl rfl cw_RX8_345 rfl (by decide) rfl (Nat.le_of_ble_eq_true rfl) (fun r3 M3 h => ?_)
      refine aw_istore C [some (.ref 85), some (.int a1), some (.int a2), some (.int a3), some (.int a4), some (.int r3)] (tb_at ok_X8_home 24 rfl) S.2.2.2.1 (by decide) rfl ?_
      refine aw_aload_n C (tb_at ok_X8_home 25 rfl) rfl ?_
      refine aw_iconst C (tb_at ok_X8_home 26 rfl) ki_m1 ?_
      refine sw_put C (ob_85 hn) rfl (by decide) (by decide) (Or.inr (by decide)) rfl rfl rfl rfl fl_RX8_50 (tb_at ok_X8_home 27 rfl) ?_
      refine aw_iload C (tb_at ok_X8_home 28 rfl) rfl ?_
      refine aw_iload_n C (tb_at ok_X8_home 29 rfl) rfl ?_
      refine aw_icmp_ge C 61 (tb_at ok_X8_home 30 rfl) (by decide) h (fun h => ?_) (fun h => ?_)
      · exact aw_loc [some (.ref 85), some (.int a1), some (.int a2), some (.int a3), some (.int a4), none] (sl_k (sl_k (sl_k (sl_k (sl_k (sl_n sl_0)))))) (t_fM_home_b61 C S hn ih h)
      · refine aw_iload C (tb_at ok_X8_home 31 rfl) rfl ?_
        refine aw_istore_n C [some (.ref 85), some (.int a1), some (.int a4), some (.int a3), some (.int a4), some (.int r3)] (tb_at ok_X8_home 32 rfl) S.2.2.2.1 (by decide) rfl ?_
        refine aw_iload C (tb_at ok_X8_home 33 rfl) rfl ?_
        refine aw_istore_n C [some (.ref 85), some (.int a1), some (.int a4), some (.int r3), some (.int a4), some (.int r3)] (tb_at ok_X8_home 34 rfl) S.2.2.2.1 (by decide) rfl ?_
        exact aw_loc [some (.ref 85), some (.int a1), some (.int a4), some (.int r3), some (.int a4), none] (sl_k (sl_k (sl_k (sl_k (sl_k (sl_n sl_0)))))) (t_fM_home_b61 C S hn ih h)
set_option maxHeartbeats 4000000 in
set_option maxRecDepth 20000 in
theorem t_fM_home {K : Cx} {n : Nat} {a1 : Int32} {M : Mem} {r : Int32 × Mem} (C : Ctx K RX8 cX8_home) (S : SS K n 72 6 (some .int) (Ti n r)) (hn : 113 ≤ n) (h : fM_home a1 M = some r) : AS K n M 0 [some (.ref 85), some (.int a1), none, none, none, none] [] := by
  refine aw_iload_n C (tb_at ok_X8_home 0 rfl) rfl ?_
  refine aw_i2l C (tb_at ok_X8_home 1 rfl) ?_
  refine aw_lconst C (tb_at ok_X8_home 2 rfl) kl_0 ?_
  refine aw_lconst C (tb_at ok_X8_home 3 rfl) kl_1 ?_
  refine sw_cSi C S [.long (a1.toInt64), .long (0 : Int64), .long (1 : Int64)] [] (tb_at ok_X8_home 4 rfl) h (fun q e => m_fM_in hn e) mf_X8_in cw_RX8_114 rfl (by decide) rfl (Nat.le_of_ble_eq_true rfl) (fun r1 M1 h => ?_)
  refine aw_if_ne C 13 (tb_at ok_X8_home 5 rfl) (by decide) h (fun h => ?_) (fun h => ?_)
  · refine aw_bipush C (tb_at ok_X8_home 6 rfl) kb_m2 ?_
    exact sw_iret C S rfl (tb_at ok_X8_home 7 rfl) h
  · refine aw_iconst C (tb_at ok_X8_home 8 rfl) ki_m1 ?_
    refine aw_istore_n C [some (.ref 85), some (.int a1), some (.int (-1)), none, none, none] (tb_at ok_X8_home 9 rfl) S.2.2.2.1 (by decide) rfl ?_
    refine aw_aload_n C (tb_at ok_X8_home 10 rfl) rfl ?_
    refine sw_cVi C S [] [] (tb_at ok_X8_home 11 rfl) h (fun q e => m_fM_dear hn e) mf_X8_dear (ob_85 hn) rfl rfl cw_RX8_345 rfl (by decide) rfl (Nat.le_of_ble_eq_true rfl) (fun r2 M2 h => ?_)
    refine aw_istore_n C [some (.ref 85), some (.int a1), some (.int (-1)), some (.int r2), none, none] (tb_at ok_X8_home 12 rfl) S.2.2.2.1 (by decide) rfl ?_
    refine aw_iconst C (tb_at ok_X8_home 13 rfl) ki_0 ?_
    refine aw_istore C [some (.ref 85), some (.int a1), some (.int (-1)), some (.int r2), some (.int 0), none] (tb_at ok_X8_home 14 rfl) S.2.2.2.1 (by decide) rfl ?_
    exact aw_loc [some (.ref 85), some (.int a1), some (.int (-1)), some (.int r2), some (.int 0), none] (sl_k (sl_k (sl_k (sl_k (sl_k (sl_n sl_0)))))) (t_fM_home_b23 C S hn 1000 _ _ _ _ h)
theorem m_fM_home {l : Launch} {w : Wd} {n : Nat} {a1 : Int32} {M : Mem} {r : Int32 × Mem} (hn : 113 ≤ n) (h : fM_home a1 M = some r) : CM l w yX8_home cX8_home 6 (some .int) 72 0 0 [.ref 85, .int a1] n M (PD M) (Ti n r) := sm_of (loc := [some (.ref 85), some (.int a1), none, none, none, none]) mf_X8_home (by decide) (Nat.le_of_ble_eq_true rfl) rfl (fun K _ _ C S => t_fM_home C S hn h)
def tb_X8_stairs : List (Nat × Instr × Nat) := [(0, .aload_n 0, 1), (1, .getfield 23, 3), (4, .istore_n 1, 1), (5, .aload_n 0, 1), (6, .iconst 0, 1), (7, .putfield 23, 3), (10, .aload_n 0, 1), (11, .invokevirtual 345, 3), (14, .istore_n 2, 1), (15, .aload_n 0, 1), (16, .iconst 3, 1), (17, .putfield 23, 3), (20, .aload_n 0, 1), (21, .invokevirtual 345, 3), (24, .istore_n 3, 1), (25, .aload_n 0, 1), (26, .iload_n 1, 1), (27, .putfield 23, 3), (30, .iload_n 2, 1), (31, .iload_n 3, 1), (32, .isub, 1), (33, .ireturn, 1)]
theorem ok_X8_stairs : TB cX8_stairs tb_X8_stairs := (by decide +kernel : tb_X8_stairs.all (fun q => tbq cX8_stairs q) = true)
set_option maxHeartbeats 4000000 in
set_option maxRecDepth 20000 in
theorem t_fM_stairs {K : Cx} {n : Nat} {M : Mem} {r : Int32 × Mem} (C : Ctx K RX8 cX8_stairs) (S : SS K n 72 4 (some .int) (Ti n r)) (hn : 113 ≤ n) (h : fM_stairs M = some r) : AS K n M 0 [some (.ref 85), none, none, none] [] := by
  refine aw_aload_n C (tb_at ok_X8_stairs 0 rfl) rfl ?_
  refine aw_get C (ob_85 hn) rfl (by decide) rfl fl_RX8_23 (tb_at ok_X8_stairs 1 rfl) ?_
  refine aw_istore_n C [some (.ref 85), some (.int (M 85 7)), none, none] (tb_at ok_X8_stairs 2 rfl) S.2.2.2.1 (by decide) rfl ?_
  refine aw_aload_n C (tb_at ok_X8_stairs 3 rfl) rfl ?_
  refine aw_iconst C (tb_at ok_X8_stairs 4 rfl) ki_0 ?_
  refine sw_put C (ob_85 hn) rfl (by decide) (by decide) (Or.inr (by decide)) rfl rfl rfl rfl fl_RX8_23 (tb_at ok_X8_stairs 5 rfl) ?_
  refine aw_aload_n C (tb_at ok_X8_stairs 6 rfl) rfl ?_
  refine sw_cVi C S [] [] (tb_at ok_X8_stairs 7 rfl) h (fun q e => m_fM_dear hn e) mf_X8_dear (ob_85 hn) rfl rfl cw_RX8_345 rfl (by decide) rfl (Nat.le_of_ble_eq_true rfl) (fun r1 M1 h => ?_)
  refine aw_istore_n C [some (.ref 85), some (.int (M 85 7)), some (.int r1), none] (tb_at ok_X8_stairs 8 rfl) S.2.2.2.1 (by decide) rfl ?_
  refine aw_aload_n C (tb_at ok_X8_stairs 9 rfl) rfl ?_
  refine aw_iconst C (tb_at ok_X8_stairs 10 rfl) ki_3 ?_
  refine sw_put C (ob_85 hn) rfl (by decide) (by decide) (Or.inr (by decide)) rfl rfl rfl rfl fl_RX8_23 (tb_at ok_X8_stairs 11 rfl) ?_
  refine aw_aload_n C (tb_at ok_X8_stairs 12 rfl) rfl ?_
  refine sw_cVi C S [] [] (tb_at ok_X8_stairs 13 rfl) h (fun q e => m_fM_dear hn e) mf_X8_dear (ob_85 hn) rfl rfl cw_RX8_345 rfl (by decide) rfl (Nat.le_of_ble_eq_true rfl) (fun r2 M2 h => ?_)
  refine aw_istore_n C [some (.ref 85), some (.int (M 85 7)), some (.int r1), some (.int r2)] (tb_at ok_X8_stairs 14 rfl) S.2.2.2.1 (by decide) rfl ?_
  refine aw_aload_n C (tb_at ok_X8_stairs 15 rfl) rfl ?_
  refine aw_iload_n C (tb_at ok_X8_stairs 16 rfl) rfl ?_
  refine sw_put C (ob_85 hn) rfl (by decide) (by decide) (Or.inr (by decide)) rfl rfl rfl rfl fl_RX8_23 (tb_at ok_X8_stairs 17 rfl) ?_
  refine aw_iload_n C (tb_at ok_X8_stairs 18 rfl) rfl ?_
  refine aw_iload_n C (tb_at ok_X8_stairs 19 rfl) rfl ?_
  refine aw_isub C (tb_at ok_X8_stairs 20 rfl) ?_
  exact sw_iret C S rfl (tb_at ok_X8_stairs 21 rfl) h
theorem m_fM_stairs {l : Launch} {w : Wd} {n : Nat} {M : Mem} {r : Int32 × Mem} (hn : 113 ≤ n) (h : fM_stairs M = some r) : CM l w yX8_stairs cX8_stairs 4 (some .int) 72 0 0 [.ref 85] n M (PD M) (Ti n r) := sm_of (loc := [some (.ref 85), none, none, none]) mf_X8_stairs (by decide) (Nat.le_of_ble_eq_true rfl) rfl (fun K _ _ C S => t_fM_stairs C S hn h)
def tb_X8_isSheet : List (Nat × Instr × Nat) := [(0, .iload_n 0, 1), (1, .i2l, 1), (2, .lconst 0, 1), (3, .ldc2_w 140, 3), (6, .invokestatic 114, 3), (9, .ireturn, 1)]
theorem ok_X8_isSheet : TB cX8_isSheet tb_X8_isSheet := (by decide +kernel : tb_X8_isSheet.all (fun q => tbq cX8_isSheet q) = true)
set_option maxHeartbeats 4000000 in
set_option maxRecDepth 20000 in
theorem t_fM_isSheet {K : Cx} {n : Nat} {a0 : Int32} {M : Mem} {r : Int32 × Mem} (C : Ctx K RX8 cX8_isSheet) (S : SS K n 2 1 (some .boolean) (Ti n r)) (hn : 113 ≤ n) (h : fM_isSheet a0 M = some r) : AS K n M 0 [some (.int a0)] [] := by
  refine aw_iload_n C (tb_at ok_X8_isSheet 0 rfl) rfl ?_
  refine aw_i2l C (tb_at ok_X8_isSheet 1 rfl) ?_
  refine aw_lconst C (tb_at ok_X8_isSheet 2 rfl) kl_0 ?_
  refine aw_ldc2 C kc_RX8_140 (tb_at ok_X8_isSheet 3 rfl) ?_
  refine sw_cSi C S [.long (a0.toInt64), .long (0 : Int64), .long (3 : Int64)] [] (tb_at ok_X8_isSheet 4 rfl) h (fun q e => m_fM_in hn e) mf_X8_in cw_RX8_114 rfl (by decide) rfl (Nat.le_of_ble_eq_true rfl) (fun r1 M1 h => ?_)
  exact sw_zret C S (tb_at ok_X8_isSheet 5 rfl) h
theorem m_fM_isSheet {l : Launch} {w : Wd} {n : Nat} {a0 : Int32} {M : Mem} {r : Int32 × Mem} (hn : 113 ≤ n) (h : fM_isSheet a0 M = some r) : CM l w yX8_isSheet cX8_isSheet 1 (some .boolean) 2 0 0 [.int a0] n M (PD M) (Ti n r) := sm_of (loc := [some (.int a0)]) mf_X8_isSheet (by decide) (Nat.le_of_ble_eq_true rfl) rfl (fun K _ _ C S => t_fM_isSheet C S hn h)
def tb_X8_from : List (Nat × Instr × Nat) := [(0, .iload_n 1, 1), (1, .invokestatic 357, 3), (4, .ifCond .eq 13, 3), (7, .iload_n 2, 1), (8, .i2l, 1), (9, .lconst 0, 1), (10, .lconst 1, 1), (11, .invokestatic 114, 3), (14, .ifCond .ne 6, 3), (17, .bipush (-2), 2), (19, .ireturn, 1), (20, .aload_n 0, 1), (21, .getfield 92, 3), (24, .iload_n 1, 1), (25, .baload, 1), (26, .ifCond .ne 6, 3), (29, .bipush (-11), 2), (31, .ireturn, 1), (32, .iconst 0, 1), (33, .istore_n 3, 1), (34, .iconst (-1), 1), (35, .istore 4, 2), (37, .iconst 0, 1), (38, .istore 5, 2), (40, .iload 5, 2), (42, .bipush 100, 2), (44, .if_icmp .ge 91, 3), (47, .iconst 1, 1), (48, .istore 6, 2), (50, .iconst 0, 1), (51, .istore 7, 2), (53, .iload 7, 2), (55, .aload_n 0, 1), (56, .getfield 99, 3), (59, .iload_n 1, 1), (60, .iaload, 1), (61, .if_icmp .ge 45, 3), (64, .iload 6, 2), (66, .ifCond .eq 31, 3), (69, .aload_n 0, 1), (70, .iload 7, 2), (72, .iload 5, 2), (74, .iadd, 1), (75, .invokevirtual 169, 3), (78, .aload_n 0, 1), (79, .getfield 102, 3), (82, .bipush 40, 2), (84, .iload_n 1, 1), (85, .imul, 1), (86, .iload 7, 2), (88, .iadd, 1), (89, .iaload, 1), (90, .if_icmp .ne 7, 3), (93, .iconst 1, 1), (94, .goto 4, 3), (97, .iconst 0, 1), (98, .istore 6, 2), (100, .iinc 7 1, 3), (103, .goto (-50), 3), (106, .iload 6, 2), (108, .ifCond .eq 21, 3), (111, .iinc 3 1, 3), (114, .iload 4, 2), (116, .iconst (-1), 1), (117, .if_icmp .ne 8, 3), (120, .iload 5, 2), (122, .goto 5, 3), (125, .iload 4, 2), (127, .istore 4, 2), (129, .iinc 5 1, 3), (132, .goto (-92), 3), (135, .iload_n 2, 1), (136, .ifCond .ne 7, 3), (139, .iload_n 3, 1), (140, .goto 5, 3), (143, .iload 4, 2), (145, .ireturn, 1)]
theorem ok_X8_from : TB cX8_from tb_X8_from := (by decide +kernel : tb_X8_from.all (fun q => tbq cX8_from q) = true)
set_option maxHeartbeats 4000000 in
set_option maxRecDepth 20000 in
theorem t_fM_from_b129 {K : Cx} {n : Nat} {k40 : Int32 → Int32 → Int32 → Mem → Option (Int32 × Mem)} {a1 : Int32} {a2 : Int32} {a3 : Int32} {a4 : Int32} {a5 : Int32} {M : Mem} {r : Int32 × Mem} (C : Ctx K RX8 cX8_from) (S : SS K n 3 8 (some .int) (Ti n r)) (hn : 113 ≤ n) (hk40 : ∀ (va3 : Int32) (va4 : Int32) (va5 : Int32) (M1 : Mem), k40 va3 va4 va5 M1 = some r → AS K n M1 40 [some (.ref 85), some (.int a1), some (.int a2), some (.int va3), some (.int va4), some (.int va5), none, none] []) (h : fM_from_b129 k40 a1 a2 a3 a4 a5 M = some r) : AS K n M 129 [some (.ref 85), some (.int a1), some (.int a2), some (.int a3), some (.int a4), some (.int a5), none, none] [] := by
  refine aw_iinc C [some (.ref 85), some (.int a1), some (.int a2), some (.int a3), some (.int a4), some (.int (a5 + 1)), none, none] (tb_at ok_X8_from 69 rfl) rfl S.2.2.2.1 (by decide) ki_1 rfl ?_
  refine aw_goto C 40 (tb_at ok_X8_from 70 rfl) (by decide) ?_
  exact aw_loc [some (.ref 85), some (.int a1), some (.int a2), some (.int a3), some (.int a4), some (.int (a5 + 1)), none, none] (sl_k (sl_k (sl_k (sl_k (sl_k (sl_k (sl_n (sl_n sl_0)))))))) (hk40 _ _ _ _ h)
set_option maxHeartbeats 4000000 in
set_option maxRecDepth 20000 in
theorem t_fM_from_b127 {K : Cx} {n : Nat} {k40 : Int32 → Int32 → Int32 → Mem → Option (Int32 × Mem)} {a1 : Int32} {a2 : Int32} {a3 : Int32} {a5 : Int32} {s0 : Int32} {M : Mem} {r : Int32 × Mem} (C : Ctx K RX8 cX8_from) (S : SS K n 3 8 (some .int) (Ti n r)) (hn : 113 ≤ n) (hk40 : ∀ (va3 : Int32) (va4 : Int32) (va5 : Int32) (M1 : Mem), k40 va3 va4 va5 M1 = some r → AS K n M1 40 [some (.ref 85), some (.int a1), some (.int a2), some (.int va3), some (.int va4), some (.int va5), none, none] []) (h : fM_from_b127 k40 a1 a2 a3 a5 s0 M = some r) : AS K n M 127 [some (.ref 85), some (.int a1), some (.int a2), some (.int a3), none, some (.int a5), none, none] [.int s0] := by
  refine aw_istore C [some (.ref 85), some (.int a1), some (.int a2), some (.int a3), some (.int s0), some (.int a5), none, none] (tb_at ok_X8_from 68 rfl) S.2.2.2.1 (by decide) rfl ?_
  exact aw_loc [some (.ref 85), some (.int a1), some (.int a2), some (.int a3), some (.int s0), some (.int a5), none, none] (sl_k (sl_k (sl_k (sl_k (sl_k (sl_k (sl_n (sl_n sl_0)))))))) (t_fM_from_b129 C S hn hk40 h)
set_option maxHeartbeats 4000000 in
set_option maxRecDepth 20000 in
theorem t_fM_from_b98 {K : Cx} {n : Nat} {k40 : Int32 → Int32 → Int32 → Mem → Option (Int32 × Mem)} {k53 : Int32 → Int32 → Mem → Option (Int32 × Mem)} {a1 : Int32} {a2 : Int32} {a3 : Int32} {a4 : Int32} {a5 : Int32} {a7 : Int32} {s0 : Int32} {M : Mem} {r : Int32 × Mem} (C : Ctx K RX8 cX8_from) (S : SS K n 3 8 (some .int) (Ti n r)) (hn : 113 ≤ n) (hk40 : ∀ (va3 : Int32) (va4 : Int32) (va5 : Int32) (M1 : Mem), k40 va3 va4 va5 M1 = some r → AS K n M1 40 [some (.ref 85), some (.int a1), some (.int a2), some (.int va3), some (.int va4), some (.int va5), none, none] []) (hk53 : ∀ (va6 : Int32) (va7 : Int32) (M1 : Mem), k53 va6 va7 M1 = some r → AS K n M1 53 [some (.ref 85), some (.int a1), some (.int a2), some (.int a3), some (.int a4), some (.int a5), some (.int va6), some (.int va7)] []) (h : fM_from_b98 k40 k53 a1 a2 a3 a4 a5 a7 s0 M = some r) : AS K n M 98 [some (.ref 85), some (.int a1), some (.int a2), some (.int a3), some (.int a4), some (.int a5), none, some (.int a7)] [.int s0] := by
  refine aw_istore C [some (.ref 85), some (.int a1), some (.int a2), some (.int a3), some (.int a4), some (.int a5), some (.int s0), some (.int a7)] (tb_at ok_X8_from 56 rfl) S.2.2.2.1 (by decide) rfl ?_
  refine aw_iinc C [some (.ref 85), some (.int a1), some (.int a2), some (.int a3), some (.int a4), some (.int a5), some (.int s0), some (.int (a7 + 1))] (tb_at ok_X8_from 57 rfl) rfl S.2.2.2.1 (by decide) ki_1 rfl ?_
  refine aw_goto C 53 (tb_at ok_X8_from 58 rfl) (by decide) ?_
  exact aw_loc [some (.ref 85), some (.int a1), some (.int a2), some (.int a3), some (.int a4), some (.int a5), some (.int s0), some (.int (a7 + 1))] (sl_k (sl_k (sl_k (sl_k (sl_k (sl_k (sl_k (sl_k sl_0)))))))) (hk53 _ _ _ h)
set_option maxHeartbeats 4000000 in
set_option maxRecDepth 20000 in
theorem t_fM_from_b97 {K : Cx} {n : Nat} {k40 : Int32 → Int32 → Int32 → Mem → Option (Int32 × Mem)} {k53 : Int32 → Int32 → Mem → Option (Int32 × Mem)} {a1 : Int32} {a2 : Int32} {a3 : Int32} {a4 : Int32} {a5 : Int32} {a7 : Int32} {M : Mem} {r : Int32 × Mem} (C : Ctx K RX8 cX8_from) (S : SS K n 3 8 (some .int) (Ti n r)) (hn : 113 ≤ n) (hk40 : ∀ (va3 : Int32) (va4 : Int32) (va5 : Int32) (M1 : Mem), k40 va3 va4 va5 M1 = some r → AS K n M1 40 [some (.ref 85), some (.int a1), some (.int a2), some (.int va3), some (.int va4), some (.int va5), none, none] []) (hk53 : ∀ (va6 : Int32) (va7 : Int32) (M1 : Mem), k53 va6 va7 M1 = some r → AS K n M1 53 [some (.ref 85), some (.int a1), some (.int a2), some (.int a3), some (.int a4), some (.int a5), some (.int va6), some (.int va7)] []) (h : fM_from_b97 k40 k53 a1 a2 a3 a4 a5 a7 M = some r) : AS K n M 97 [some (.ref 85), some (.int a1), some (.int a2), some (.int a3), some (.int a4), some (.int a5), none, some (.int a7)] [] := by
  refine aw_iconst C (tb_at ok_X8_from 55 rfl) ki_0 ?_
  exact aw_loc [some (.ref 85), some (.int a1), some (.int a2), some (.int a3), some (.int a4), some (.int a5), none, some (.int a7)] (sl_k (sl_k (sl_k (sl_k (sl_k (sl_k (sl_n (sl_k sl_0)))))))) (t_fM_from_b98 C S hn hk40 hk53 h)
set_option maxHeartbeats 4000000 in
set_option maxRecDepth 20000 in
theorem t_fM_from_b53 {K : Cx} {n : Nat} {k40 : Int32 → Int32 → Int32 → Mem → Option (Int32 × Mem)} {a1 : Int32} {a2 : Int32} {a3 : Int32} {a4 : Int32} {a5 : Int32} {r : Int32 × Mem} (C : Ctx K RX8 cX8_from) (S : SS K n 3 8 (some .int) (Ti n r)) (hn : 113 ≤ n) (hk40 : ∀ (va3 : Int32) (va4 : Int32) (va5 : Int32) (M1 : Mem), k40 va3 va4 va5 M1 = some r → AS K n M1 40 [some (.ref 85), some (.int a1), some (.int a2), some (.int va3), some (.int va4), some (.int va5), none, none] []) : ∀ (z : Nat) (a6 : Int32) (a7 : Int32) (M : Mem), fM_from_b53 k40 a1 a2 a3 a4 a5 z a6 a7 M = some r → AS K n M 53 [some (.ref 85), some (.int a1), some (.int a2), some (.int a3), some (.int a4), some (.int a5), some (.int a6), some (.int a7)] [] := by
  intro z
  induction z with
  | zero => intro a6 a7 M h; cases h
  | succ z ih =>
    intro a6 a7 M h
    refine aw_iload C (tb_at ok_X8_from 31 rfl) rfl ?_
    refine aw_aload_n C (tb_at ok_X8_from 32 rfl) rfl ?_
    refine aw_getR C (ob_85 hn) rfl (by decide) rfl p_85_57 fl_RX8_99 (tb_at ok_X8_from 33 rfl) ?_
    refine aw_iload_n C (tb_at ok_X8_from 34 rfl) rfl ?_
    refine aw_iald C (ob_111 hn) (tb_at ok_X8_from 35 rfl) h (fun h => ?_)
    refine aw_icmp_ge C 106 (tb_at ok_X8_from 36 rfl) (by decide) h (fun h => ?_) (fun h => ?_)
    · refine aw_iload C (tb_at ok_X8_from 59 rfl) rfl ?_
      refine aw_if_eq C 129 (tb_at ok_X8_from 60 rfl) (by decide) h (fun h => ?_) (fun h => ?_)
      · exact aw_loc [some (.ref 85), some (.int a1), some (.int a2), some (.int a3), some (.int a4), some (.int a5), none, none] (sl_k (sl_k (sl_k (sl_k (sl_k (sl_k (sl_n (sl_n sl_0)))))))) (t_fM_from_b129 C S hn hk40 h)
      · refine aw_iinc C [some (.ref 85), some (.int a1), some (.int a2), some (.int (a3 + 1)), some (.int a4), some (.int a5), some (.int a6), some (.int a7)] (tb_at ok_X8_from 61 rfl) rfl S.2.2.2.1 (by decide) ki_1 rfl ?_
        refine aw_iload C (tb_at ok_X8_from 62 rfl) rfl ?_
        refine aw_iconst C (tb_at ok_X8_from 63 rfl) ki_m1 ?_
        refine aw_icmp_ne C 125 (tb_at ok_X8_from 64 rfl) (by decide) h (fun h => ?_) (fun h => ?_)
        · refine aw_iload C (tb_at ok_X8_from 65 rfl) rfl ?_
          refine aw_goto C 127 (tb_at ok_X8_from 66 rfl) (by decide) ?_
          exact aw_loc [some (.ref 85), some (.int a1), some (.int a2), some (.int (a3 + 1)), none, some (.int a5), none, none] (sl_k (sl_k (sl_k (sl_k (sl_n (sl_k (sl_n (sl_n sl_0)))))))) (t_fM_from_b127 C S hn hk40 h)
        · refine aw_iload C (tb_at ok_X8_from 67 rfl) rfl ?_
          exact aw_loc [some (.ref 85), some (.int a1), some (.int a2), some (.int (a3 + 1)), none, some (.int a5), none, none] (sl_k (sl_k (sl_k (sl_k (sl_n (sl_k (sl_n (sl_n sl_0)))))))) (t_fM_from_b127 C S hn hk40 h)
    · refine aw_iload C (tb_at ok_X8_from 37 rfl) rfl ?_
      refine aw_if_eq C 97 (tb_at ok_X8_from 38 rfl) (by decide) h (fun h => ?_) (fun h => ?_)
      · exact aw_loc [some (.ref 85), some (.int a1), some (.int a2), some (.int a3), some (.int a4), some (.int a5), none, some (.int a7)] (sl_k (sl_k (sl_k (sl_k (sl_k (sl_k (sl_n (sl_k sl_0)))))))) (t_fM_from_b97 C S hn hk40 ih h)
      · refine aw_aload_n C (tb_at ok_X8_from 39 rfl) rfl ?_
        refine aw_iload C (tb_at ok_X8_from 40 rfl) rfl ?_
        refine aw_iload C (tb_at ok_X8_from 41 rfl) rfl ?_
        refine aw_iadd C (tb_at ok_X8_from 42 rfl) ?_
        refine sw_cVi C S [.int (a7 + a5)] [] (tb_at ok_X8_from 43 rfl) h (fun q e => m_fM_masterIn hn e) mf_X8_masterIn (ob_85 hn) rfl rfl cw_RX8_169 rfl (by decide) rfl (Nat.le_of_ble_eq_true rfl) (fun r3 M3 h => ?_)
        refine aw_aload_n C (tb_at ok_X8_from 44 rfl) rfl ?_
        refine aw_getR C (ob_85 hn) rfl (by decide) rfl p_85_58 fl_RX8_102 (tb_at ok_X8_from 45 rfl) ?_
        refine aw_bipush C (tb_at ok_X8_from 46 rfl) kb_40 ?_
        refine aw_iload_n C (tb_at ok_X8_from 47 rfl) rfl ?_
        refine aw_imul C (tb_at ok_X8_from 48 rfl) ?_
        refine aw_iload C (tb_at ok_X8_from 49 rfl) rfl ?_
        refine aw_iadd C (tb_at ok_X8_from 50 rfl) ?_
        refine aw_iald C (ob_112 hn) (tb_at ok_X8_from 51 rfl) h (fun h => ?_)
        refine aw_icmp_ne C 97 (tb_at ok_X8_from 52 rfl) (by decide) h (fun h => ?_) (fun h => ?_)
        · refine aw_iconst C (tb_at ok_X8_from 53 rfl) ki_1 ?_
          refine aw_goto C 98 (tb_at ok_X8_from 54 rfl) (by decide) ?_
          exact aw_loc [some (.ref 85), some (.int a1), some (.int a2), some (.int a3), some (.int a4), some (.int a5), none, some (.int a7)] (sl_k (sl_k (sl_k (sl_k (sl_k (sl_k (sl_n (sl_k sl_0)))))))) (t_fM_from_b98 C S hn hk40 ih h)
        · exact aw_loc [some (.ref 85), some (.int a1), some (.int a2), some (.int a3), some (.int a4), some (.int a5), none, some (.int a7)] (sl_k (sl_k (sl_k (sl_k (sl_k (sl_k (sl_n (sl_k sl_0)))))))) (t_fM_from_b97 C S hn hk40 ih h)
set_option maxHeartbeats 4000000 in
set_option maxRecDepth 20000 in
theorem t_fM_from_b40 {K : Cx} {n : Nat} {a1 : Int32} {a2 : Int32} {r : Int32 × Mem} (C : Ctx K RX8 cX8_from) (S : SS K n 3 8 (some .int) (Ti n r)) (hn : 113 ≤ n) : ∀ (z : Nat) (a3 : Int32) (a4 : Int32) (a5 : Int32) (M : Mem), fM_from_b40 a1 a2 z a3 a4 a5 M = some r → AS K n M 40 [some (.ref 85), some (.int a1), some (.int a2), some (.int a3), some (.int a4), some (.int a5), none, none] [] := by
  intro z
  induction z with
  | zero => intro a3 a4 a5 M h; cases h
  | succ z ih =>
    intro a3 a4 a5 M h
    refine aw_iload C (tb_at ok_X8_from 24 rfl) rfl ?_
    refine aw_bipush C (tb_at ok_X8_from 25 rfl) kb_100 ?_
    refine aw_icmp_ge C 135 (tb_at ok_X8_from 26 rfl) (by decide) h (fun h => ?_) (fun h => ?_)
    · refine aw_iload_n C (tb_at ok_X8_from 71 rfl) rfl ?_
      refine aw_if_ne C 143 (tb_at ok_X8_from 72 rfl) (by decide) h (fun h => ?_) (fun h => ?_)
      · refine aw_iload_n C (tb_at ok_X8_from 73 rfl) rfl ?_
        refine aw_goto C 145 (tb_at ok_X8_from 74 rfl) (by decide) ?_
        exact sw_iret C S rfl (tb_at ok_X8_from 76 rfl) h
      · refine aw_iload C (tb_at ok_X8_from 75 rfl) rfl ?_
        exact sw_iret C S rfl (tb_at ok_X8_from 76 rfl) h
    · refine aw_iconst C (tb_at ok_X8_from 27 rfl) ki_1 ?_
      refine aw_istore C [some (.ref 85), some (.int a1), some (.int a2), some (.int a3), some (.int a4), some (.int a5), some (.int 1), none] (tb_at ok_X8_from 28 rfl) S.2.2.2.1 (by decide) rfl ?_
      refine aw_iconst C (tb_at ok_X8_from 29 rfl) ki_0 ?_
      refine aw_istore C [some (.ref 85), some (.int a1), some (.int a2), some (.int a3), some (.int a4), some (.int a5), some (.int 1), some (.int 0)] (tb_at ok_X8_from 30 rfl) S.2.2.2.1 (by decide) rfl ?_
      exact aw_loc [some (.ref 85), some (.int a1), some (.int a2), some (.int a3), some (.int a4), some (.int a5), some (.int 1), some (.int 0)] (sl_k (sl_k (sl_k (sl_k (sl_k (sl_k (sl_k (sl_k sl_0)))))))) (t_fM_from_b53 C S hn ih 1000 _ _ _ h)
set_option maxHeartbeats 4000000 in
set_option maxRecDepth 20000 in
theorem t_fM_from {K : Cx} {n : Nat} {a1 : Int32} {a2 : Int32} {M : Mem} {r : Int32 × Mem} (C : Ctx K RX8 cX8_from) (S : SS K n 3 8 (some .int) (Ti n r)) (hn : 113 ≤ n) (h : fM_from a1 a2 M = some r) : AS K n M 0 [some (.ref 85), some (.int a1), some (.int a2), none, none, none, none, none] [] := by
  refine aw_iload_n C (tb_at ok_X8_from 0 rfl) rfl ?_
  refine sw_cSi C S [.int a1] [] (tb_at ok_X8_from 1 rfl) h (fun q e => m_fM_isSheet hn e) mf_X8_isSheet cw_RX8_357 rfl (by decide) rfl (Nat.le_of_ble_eq_true rfl) (fun r1 M1 h => ?_)
  refine aw_if_eq C 17 (tb_at ok_X8_from 2 rfl) (by decide) h (fun h => ?_) (fun h => ?_)
  · refine aw_bipush C (tb_at ok_X8_from 9 rfl) kb_m2 ?_
    exact sw_iret C S rfl (tb_at ok_X8_from 10 rfl) h
  · refine aw_iload_n C (tb_at ok_X8_from 3 rfl) rfl ?_
    refine aw_i2l C (tb_at ok_X8_from 4 rfl) ?_
    refine aw_lconst C (tb_at ok_X8_from 5 rfl) kl_0 ?_
    refine aw_lconst C (tb_at ok_X8_from 6 rfl) kl_1 ?_
    refine sw_cSi C S [.long (a2.toInt64), .long (0 : Int64), .long (1 : Int64)] [] (tb_at ok_X8_from 7 rfl) h (fun q e => m_fM_in hn e) mf_X8_in cw_RX8_114 rfl (by decide) rfl (Nat.le_of_ble_eq_true rfl) (fun r2 M2 h => ?_)
    refine aw_if_ne C 20 (tb_at ok_X8_from 8 rfl) (by decide) h (fun h => ?_) (fun h => ?_)
    · refine aw_bipush C (tb_at ok_X8_from 9 rfl) kb_m2 ?_
      exact sw_iret C S rfl (tb_at ok_X8_from 10 rfl) h
    · refine aw_aload_n C (tb_at ok_X8_from 11 rfl) rfl ?_
      refine aw_getR C (ob_85 hn) rfl (by decide) rfl p_85_55 fl_RX8_92 (tb_at ok_X8_from 12 rfl) ?_
      refine aw_iload_n C (tb_at ok_X8_from 13 rfl) rfl ?_
      refine aw_zald C (ob_109 hn) (tb_at ok_X8_from 14 rfl) h (fun h => ?_)
      refine aw_if_ne C 32 (tb_at ok_X8_from 15 rfl) (by decide) h (fun h => ?_) (fun h => ?_)
      · refine aw_bipush C (tb_at ok_X8_from 16 rfl) kb_m11 ?_
        exact sw_iret C S rfl (tb_at ok_X8_from 17 rfl) h
      · refine aw_iconst C (tb_at ok_X8_from 18 rfl) ki_0 ?_
        refine aw_istore_n C [some (.ref 85), some (.int a1), some (.int a2), some (.int 0), none, none, none, none] (tb_at ok_X8_from 19 rfl) S.2.2.2.1 (by decide) rfl ?_
        refine aw_iconst C (tb_at ok_X8_from 20 rfl) ki_m1 ?_
        refine aw_istore C [some (.ref 85), some (.int a1), some (.int a2), some (.int 0), some (.int (-1)), none, none, none] (tb_at ok_X8_from 21 rfl) S.2.2.2.1 (by decide) rfl ?_
        refine aw_iconst C (tb_at ok_X8_from 22 rfl) ki_0 ?_
        refine aw_istore C [some (.ref 85), some (.int a1), some (.int a2), some (.int 0), some (.int (-1)), some (.int 0), none, none] (tb_at ok_X8_from 23 rfl) S.2.2.2.1 (by decide) rfl ?_
        exact aw_loc [some (.ref 85), some (.int a1), some (.int a2), some (.int 0), some (.int (-1)), some (.int 0), none, none] (sl_k (sl_k (sl_k (sl_k (sl_k (sl_k (sl_n (sl_n sl_0)))))))) (t_fM_from_b40 C S hn 1000 _ _ _ _ h)
theorem m_fM_from {l : Launch} {w : Wd} {n : Nat} {a1 : Int32} {a2 : Int32} {M : Mem} {r : Int32 × Mem} (hn : 113 ≤ n) (h : fM_from a1 a2 M = some r) : CM l w yX8_from cX8_from 8 (some .int) 3 0 0 [.ref 85, .int a1, .int a2] n M (PD M) (Ti n r) := sm_of (loc := [some (.ref 85), some (.int a1), some (.int a2), none, none, none, none, none]) mf_X8_from (by decide) (Nat.le_of_ble_eq_true rfl) rfl (fun K _ _ C S => t_fM_from C S hn h)
def tb_X8_isSo : List (Nat × Instr × Nat) := [(0, .aload_n 0, 1), (1, .invokevirtual 330, 3), (4, .iconst 0, 1), (5, .istore_n 3, 1), (6, .iload_n 3, 1), (7, .aload_n 0, 1), (8, .getfield 99, 3), (11, .iload_n 1, 1), (12, .iaload, 1), (13, .if_icmp .ge 36, 3), (16, .aload_n 0, 1), (17, .iload_n 3, 1), (18, .invokevirtual 333, 3), (21, .aload_n 0, 1), (22, .getfield 56, 3), (25, .iload_n 2, 1), (26, .iaload, 1), (27, .aload_n 0, 1), (28, .getfield 102, 3), (31, .bipush 40, 2), (33, .iload_n 1, 1), (34, .imul, 1), (35, .iload_n 3, 1), (36, .iadd, 1), (37, .iaload, 1), (38, .if_icmp .eq 5, 3), (41, .iconst 0, 1), (42, .ireturn, 1), (43, .iinc 3 1, 3), (46, .goto (-40), 3), (49, .iconst 1, 1), (50, .ireturn, 1)]
theorem ok_X8_isSo : TB cX8_isSo tb_X8_isSo := (by decide +kernel : tb_X8_isSo.all (fun q => tbq cX8_isSo q) = true)
set_option maxHeartbeats 4000000 in
set_option maxRecDepth 20000 in
theorem t_fM_isSo_b6 {K : Cx} {n : Nat} {a1 : Int32} {a2 : Int32} {r : Int32 × Mem} (C : Ctx K RX8 cX8_isSo) (S : SS K n 70 4 (some .boolean) (Ti n r)) (hn : 113 ≤ n) : ∀ (z : Nat) (a3 : Int32) (M : Mem), fM_isSo_b6 a1 a2 z a3 M = some r → AS K n M 6 [some (.ref 85), some (.int a1), some (.int a2), some (.int a3)] [] := by
  intro z
  induction z with
  | zero => intro a3 M h; cases h
  | succ z ih =>
    intro a3 M h
    refine aw_iload_n C (tb_at ok_X8_isSo 4 rfl) rfl ?_
    refine aw_aload_n C (tb_at ok_X8_isSo 5 rfl) rfl ?_
    refine aw_getR C (ob_85 hn) rfl (by decide) rfl p_85_57 fl_RX8_99 (tb_at ok_X8_isSo 6 rfl) ?_
    refine aw_iload_n C (tb_at ok_X8_isSo 7 rfl) rfl ?_
    refine aw_iald C (ob_111 hn) (tb_at ok_X8_isSo 8 rfl) h (fun h => ?_)
    refine aw_icmp_ge C 49 (tb_at ok_X8_isSo 9 rfl) (by decide) h (fun h => ?_) (fun h => ?_)
    · refine aw_iconst C (tb_at ok_X8_isSo 30 rfl) ki_1 ?_
      exact sw_iret C S rfl (tb_at ok_X8_isSo 31 rfl) h
    · refine aw_aload_n C (tb_at ok_X8_isSo 10 rfl) rfl ?_
      refine aw_iload_n C (tb_at ok_X8_isSo 11 rfl) rfl ?_
      refine sw_cVv C S [.int a3] [] (tb_at ok_X8_isSo 12 rfl) h (fun q e => m_fM_lives hn e) mf_X8_lives (ob_85 hn) rfl rfl cw_RX8_333 rfl (by decide) rfl (Nat.le_of_ble_eq_true rfl) (fun M2 h => ?_)
      refine aw_aload_n C (tb_at ok_X8_isSo 13 rfl) rfl ?_
      refine aw_getR C (ob_85 hn) rfl (by decide) rfl p_85_36 fl_RX8_56 (tb_at ok_X8_isSo 14 rfl) ?_
      refine aw_iload_n C (tb_at ok_X8_isSo 15 rfl) rfl ?_
      refine aw_iald C (ob_98 hn) (tb_at ok_X8_isSo 16 rfl) h (fun h => ?_)
      refine aw_aload_n C (tb_at ok_X8_isSo 17 rfl) rfl ?_
      refine aw_getR C (ob_85 hn) rfl (by decide) rfl p_85_58 fl_RX8_102 (tb_at ok_X8_isSo 18 rfl) ?_
      refine aw_bipush C (tb_at ok_X8_isSo 19 rfl) kb_40 ?_
      refine aw_iload_n C (tb_at ok_X8_isSo 20 rfl) rfl ?_
      refine aw_imul C (tb_at ok_X8_isSo 21 rfl) ?_
      refine aw_iload_n C (tb_at ok_X8_isSo 22 rfl) rfl ?_
      refine aw_iadd C (tb_at ok_X8_isSo 23 rfl) ?_
      refine aw_iald C (ob_112 hn) (tb_at ok_X8_isSo 24 rfl) h (fun h => ?_)
      refine aw_icmp_eq C 43 (tb_at ok_X8_isSo 25 rfl) (by decide) h (fun h => ?_) (fun h => ?_)
      · refine aw_iinc C [some (.ref 85), some (.int a1), some (.int a2), some (.int (a3 + 1))] (tb_at ok_X8_isSo 28 rfl) rfl S.2.2.2.1 (by decide) ki_1 rfl ?_
        refine aw_goto C 6 (tb_at ok_X8_isSo 29 rfl) (by decide) ?_
        exact aw_loc [some (.ref 85), some (.int a1), some (.int a2), some (.int (a3 + 1))] (sl_k (sl_k (sl_k (sl_k sl_0)))) (ih _ _ h)
      · refine aw_iconst C (tb_at ok_X8_isSo 26 rfl) ki_0 ?_
        exact sw_iret C S rfl (tb_at ok_X8_isSo 27 rfl) h
set_option maxHeartbeats 4000000 in
set_option maxRecDepth 20000 in
theorem t_fM_isSo {K : Cx} {n : Nat} {a1 : Int32} {a2 : Int32} {M : Mem} {r : Int32 × Mem} (C : Ctx K RX8 cX8_isSo) (S : SS K n 70 4 (some .boolean) (Ti n r)) (hn : 113 ≤ n) (h : fM_isSo a1 a2 M = some r) : AS K n M 0 [some (.ref 85), some (.int a1), some (.int a2), none] [] := by
  refine aw_aload_n C (tb_at ok_X8_isSo 0 rfl) rfl ?_
  refine sw_cVv C S [] [] (tb_at ok_X8_isSo 1 rfl) h (fun q e => m_fM_startsOff hn e) mf_X8_startsOff (ob_85 hn) rfl rfl cw_RX8_330 rfl (by decide) rfl (Nat.le_of_ble_eq_true rfl) (fun M1 h => ?_)
  refine aw_iconst C (tb_at ok_X8_isSo 2 rfl) ki_0 ?_
  refine aw_istore_n C [some (.ref 85), some (.int a1), some (.int a2), some (.int 0)] (tb_at ok_X8_isSo 3 rfl) S.2.2.2.1 (by decide) rfl ?_
  exact aw_loc [some (.ref 85), some (.int a1), some (.int a2), some (.int 0)] (sl_k (sl_k (sl_k (sl_k sl_0)))) (t_fM_isSo_b6 C S hn 1000 _ _ h)
theorem m_fM_isSo {l : Launch} {w : Wd} {n : Nat} {a1 : Int32} {a2 : Int32} {M : Mem} {r : Int32 × Mem} (hn : 113 ≤ n) (h : fM_isSo a1 a2 M = some r) : CM l w yX8_isSo cX8_isSo 4 (some .boolean) 70 0 0 [.ref 85, .int a1, .int a2] n M (PD M) (Ti n r) := sm_of (loc := [some (.ref 85), some (.int a1), some (.int a2), none]) mf_X8_isSo (by decide) (Nat.le_of_ble_eq_true rfl) rfl (fun K _ _ C S => t_fM_isSo C S hn h)
def tb_X8_tries : List (Nat × Instr × Nat) := [(0, .iload_n 1, 1), (1, .iconst 1, 1), (2, .if_icmp .ne 13, 3), (5, .aload_n 0, 1), (6, .getfield 35, 3), (9, .iload_n 2, 1), (10, .iload_n 3, 1), (11, .iastore, 1), (12, .goto 32, 3), (15, .iload_n 1, 1), (16, .iconst 4, 1), (17, .if_icmp .ne 11, 3), (20, .aload_n 0, 1), (21, .iload_n 3, 1), (22, .putfield 297, 3), (25, .goto 19, 3), (28, .aload_n 0, 1), (29, .iload_n 1, 1), (30, .iconst 2, 1), (31, .if_icmp .ne 7, 3), (34, .iconst 4, 1), (35, .goto 4, 3), (38, .iconst 5, 1), (39, .iload_n 2, 1), (40, .iload_n 3, 1), (41, .invokevirtual 152, 3), (44, .return_, 1)]
theorem ok_X8_tries : TB cX8_tries tb_X8_tries := (by decide +kernel : tb_X8_tries.all (fun q => tbq cX8_tries q) = true)
set_option maxHeartbeats 4000000 in
set_option maxRecDepth 20000 in
theorem t_fM_tries_b39 {K : Cx} {n : Nat} {a2 : Int32} {a3 : Int32} {s0 : Int32} {M : Mem} {r : Mem} (C : Ctx K RX8 cX8_tries) (S : SS K n 2 4 none (Tv n r)) (hn : 113 ≤ n) (h : fM_tries_b39 a2 a3 s0 M = some r) : AS K n M 39 [none, none, some (.int a2), some (.int a3)] [.int s0, .ref 85] := by
  refine aw_iload_n C (tb_at ok_X8_tries 23 rfl) rfl ?_
  refine aw_iload_n C (tb_at ok_X8_tries 24 rfl) rfl ?_
  refine sw_cVv C S [.int s0, .int a2, .int a3] [] (tb_at ok_X8_tries 25 rfl) h (fun q e => m_fM_lays hn e) mf_X8_lays (ob_85 hn) rfl rfl cw_RX8_152 rfl (by decide) rfl (Nat.le_of_ble_eq_true rfl) (fun M1 h => ?_)
  exact sw_vret C S (tb_at ok_X8_tries 26 rfl) h
set_option maxHeartbeats 4000000 in
set_option maxRecDepth 20000 in
theorem t_fM_tries {K : Cx} {n : Nat} {a1 : Int32} {a2 : Int32} {a3 : Int32} {M : Mem} {r : Mem} (C : Ctx K RX8 cX8_tries) (S : SS K n 2 4 none (Tv n r)) (hn : 113 ≤ n) (h : fM_tries a1 a2 a3 M = some r) : AS K n M 0 [some (.ref 85), some (.int a1), some (.int a2), some (.int a3)] [] := by
  refine aw_iload_n C (tb_at ok_X8_tries 0 rfl) rfl ?_
  refine aw_iconst C (tb_at ok_X8_tries 1 rfl) ki_1 ?_
  refine aw_icmp_ne C 15 (tb_at ok_X8_tries 2 rfl) (by decide) h (fun h => ?_) (fun h => ?_)
  · refine aw_aload_n C (tb_at ok_X8_tries 3 rfl) rfl ?_
    refine aw_getR C (ob_85 hn) rfl (by decide) rfl p_85_12 fl_RX8_35 (tb_at ok_X8_tries 4 rfl) ?_
    refine aw_iload_n C (tb_at ok_X8_tries 5 rfl) rfl ?_
    refine aw_iload_n C (tb_at ok_X8_tries 6 rfl) rfl ?_
    refine sw_iast C (ob_92 hn) (tb_at ok_X8_tries 7 rfl) h (fun h => ?_)
    refine aw_goto C 44 (tb_at ok_X8_tries 8 rfl) (by decide) ?_
    exact sw_vret C S (tb_at ok_X8_tries 26 rfl) h
  · refine aw_iload_n C (tb_at ok_X8_tries 9 rfl) rfl ?_
    refine aw_iconst C (tb_at ok_X8_tries 10 rfl) ki_4 ?_
    refine aw_icmp_ne C 28 (tb_at ok_X8_tries 11 rfl) (by decide) h (fun h => ?_) (fun h => ?_)
    · refine aw_aload_n C (tb_at ok_X8_tries 12 rfl) rfl ?_
      refine aw_iload_n C (tb_at ok_X8_tries 13 rfl) rfl ?_
      refine sw_put C (ob_85 hn) rfl (by decide) (by decide) (Or.inr (by decide)) rfl rfl rfl rfl fl_RX8_297 (tb_at ok_X8_tries 14 rfl) ?_
      refine aw_goto C 44 (tb_at ok_X8_tries 15 rfl) (by decide) ?_
      exact sw_vret C S (tb_at ok_X8_tries 26 rfl) h
    · refine aw_aload_n C (tb_at ok_X8_tries 16 rfl) rfl ?_
      refine aw_iload_n C (tb_at ok_X8_tries 17 rfl) rfl ?_
      refine aw_iconst C (tb_at ok_X8_tries 18 rfl) ki_2 ?_
      refine aw_icmp_ne C 38 (tb_at ok_X8_tries 19 rfl) (by decide) h (fun h => ?_) (fun h => ?_)
      · refine aw_iconst C (tb_at ok_X8_tries 20 rfl) ki_4 ?_
        refine aw_goto C 39 (tb_at ok_X8_tries 21 rfl) (by decide) ?_
        exact aw_loc [none, none, some (.int a2), some (.int a3)] (sl_n (sl_n (sl_k (sl_k sl_0)))) (t_fM_tries_b39 C S hn h)
      · refine aw_iconst C (tb_at ok_X8_tries 22 rfl) ki_5 ?_
        exact aw_loc [none, none, some (.int a2), some (.int a3)] (sl_n (sl_n (sl_k (sl_k sl_0)))) (t_fM_tries_b39 C S hn h)
theorem m_fM_tries {l : Launch} {w : Wd} {n : Nat} {a1 : Int32} {a2 : Int32} {a3 : Int32} {M : Mem} {r : Mem} (hn : 113 ≤ n) (h : fM_tries a1 a2 a3 M = some r) : CM l w yX8_tries cX8_tries 4 none 2 0 0 [.ref 85, .int a1, .int a2, .int a3] n M (PD M) (Tv n r) := sm_of (loc := [some (.ref 85), some (.int a1), some (.int a2), some (.int a3)]) mf_X8_tries (by decide) (Nat.le_of_ble_eq_true rfl) rfl (fun K _ _ C S => t_fM_tries C S hn h)
def tb_X8_door : List (Nat × Instr × Nat) := [(0, .iload_n 1, 1), (1, .invokestatic 357, 3), (4, .ifCond .eq 23, 3), (7, .aload_n 0, 1), (8, .iload_n 2, 1), (9, .invokevirtual 131, 3), (12, .ifCond .eq 15, 3), (15, .iload_n 3, 1), (16, .i2l, 1), (17, .lconst 0, 1), (18, .ldc2_w 360, 3), (21, .invokestatic 114, 3), (24, .ifCond .ne 6, 3), (27, .bipush (-2), 2), (29, .ireturn, 1), (30, .aload_n 0, 1), (31, .getfield 92, 3), (34, .iload_n 1, 1), (35, .baload, 1), (36, .ifCond .ne 6, 3), (39, .bipush (-11), 2), (41, .ireturn, 1), (42, .iload_n 3, 1), (43, .ifCond .ne 18, 3), (46, .aload_n 0, 1), (47, .iload_n 1, 1), (48, .iload_n 2, 1), (49, .invokevirtual 362, 3), (52, .ifCond .eq 7, 3), (55, .iconst 1, 1), (56, .goto 4, 3), (59, .iconst 0, 1), (60, .ireturn, 1), (61, .iload_n 3, 1), (62, .iconst 1, 1), (63, .if_icmp .ne 12, 3), (66, .aload_n 0, 1), (67, .getfield 35, 3), (70, .iload_n 2, 1), (71, .iaload, 1), (72, .goto 35, 3), (75, .iload_n 3, 1), (76, .iconst 2, 1), (77, .if_icmp .ne 12, 3), (80, .aload_n 0, 1), (81, .getfield 38, 3), (84, .iload_n 2, 1), (85, .iaload, 1), (86, .goto 21, 3), (89, .iload_n 3, 1), (90, .iconst 3, 1), (91, .if_icmp .ne 12, 3), (94, .aload_n 0, 1), (95, .getfield 41, 3), (98, .iload_n 2, 1), (99, .iaload, 1), (100, .goto 7, 3), (103, .aload_n 0, 1), (104, .getfield 297, 3), (107, .istore 4, 2), (109, .iload_n 3, 1), (110, .iconst 1, 1), (111, .if_icmp .ne 8, 3), (114, .bipush 6, 2), (116, .goto 27, 3), (119, .iload_n 3, 1), (120, .iconst 2, 1), (121, .if_icmp .ne 8, 3), (124, .bipush 10, 2), (126, .goto 17, 3), (129, .iload_n 3, 1), (130, .iconst 3, 1), (131, .if_icmp .ne 8, 3), (134, .bipush 8, 2), (136, .goto 7, 3), (139, .aload_n 0, 1), (140, .getfield 109, 3), (143, .istore 5, 2), (145, .iconst 0, 1), (146, .istore 6, 2), (148, .iconst 0, 1), (149, .istore 7, 2), (151, .iload 7, 2), (153, .iload 5, 2), (155, .if_icmp .ge 39, 3), (158, .aload_n 0, 1), (159, .iload_n 3, 1), (160, .iload_n 2, 1), (161, .iload 7, 2), (163, .invokevirtual 365, 3), (166, .iload 6, 2), (168, .aload_n 0, 1), (169, .iload_n 1, 1), (170, .iload_n 2, 1), (171, .invokevirtual 362, 3), (174, .ifCond .eq 7, 3), (177, .iconst 1, 1), (178, .goto 4, 3), (181, .iconst 0, 1), (182, .iload 7, 2), (184, .ishl, 1), (185, .ior, 1), (186, .istore 6, 2), (188, .iinc 7 1, 3), (191, .goto (-40), 3), (194, .aload_n 0, 1), (195, .iload_n 3, 1), (196, .iload_n 2, 1), (197, .iload 4, 2), (199, .invokevirtual 365, 3), (202, .iload 6, 2), (204, .ireturn, 1)]
theorem ok_X8_door : TB cX8_door tb_X8_door := (by decide +kernel : tb_X8_door.all (fun q => tbq cX8_door q) = true)
set_option maxHeartbeats 4000000 in
set_option maxRecDepth 20000 in
theorem t_fM_door_b182 {K : Cx} {n : Nat} {k151 : Int32 → Int32 → Mem → Option (Int32 × Mem)} {a1 : Int32} {a2 : Int32} {a3 : Int32} {a4 : Int32} {a5 : Int32} {a7 : Int32} {s0 : Int32} {s1 : Int32} {M : Mem} {r : Int32 × Mem} (C : Ctx K RX8 cX8_door) (S : SS K n 71 8 (some .int) (Ti n r)) (hn : 113 ≤ n) (hk151 : ∀ (va6 : Int32) (va7 : Int32) (M1 : Mem), k151 va6 va7 M1 = some r → AS K n M1 151 [some (.ref 85), some (.int a1), some (.int a2), some (.int a3), some (.int a4), some (.int a5), some (.int va6), some (.int va7)] []) (h : fM_door_b182 k151 a1 a2 a3 a4 a5 a7 s0 s1 M = some r) : AS K n M 182 [some (.ref 85), some (.int a1), some (.int a2), some (.int a3), some (.int a4), some (.int a5), none, some (.int a7)] [.int s0, .int s1] := by
  refine aw_iload C (tb_at ok_X8_door 99 rfl) rfl ?_
  refine aw_ishl C (tb_at ok_X8_door 100 rfl) ?_
  refine aw_ior C (tb_at ok_X8_door 101 rfl) ?_
  refine aw_istore C [some (.ref 85), some (.int a1), some (.int a2), some (.int a3), some (.int a4), some (.int a5), some (.int (s1 ||| (s0 <<< (a7 &&& 31)))), some (.int a7)] (tb_at ok_X8_door 102 rfl) S.2.2.2.1 (by decide) rfl ?_
  refine aw_iinc C [some (.ref 85), some (.int a1), some (.int a2), some (.int a3), some (.int a4), some (.int a5), some (.int (s1 ||| (s0 <<< (a7 &&& 31)))), some (.int (a7 + 1))] (tb_at ok_X8_door 103 rfl) rfl S.2.2.2.1 (by decide) ki_1 rfl ?_
  refine aw_goto C 151 (tb_at ok_X8_door 104 rfl) (by decide) ?_
  exact aw_loc [some (.ref 85), some (.int a1), some (.int a2), some (.int a3), some (.int a4), some (.int a5), some (.int (s1 ||| (s0 <<< (a7 &&& 31)))), some (.int (a7 + 1))] (sl_k (sl_k (sl_k (sl_k (sl_k (sl_k (sl_k (sl_k sl_0)))))))) (hk151 _ _ _ h)
set_option maxHeartbeats 4000000 in
set_option maxRecDepth 20000 in
theorem t_fM_door_b151 {K : Cx} {n : Nat} {a1 : Int32} {a2 : Int32} {a3 : Int32} {a4 : Int32} {a5 : Int32} {r : Int32 × Mem} (C : Ctx K RX8 cX8_door) (S : SS K n 71 8 (some .int) (Ti n r)) (hn : 113 ≤ n) : ∀ (z : Nat) (a6 : Int32) (a7 : Int32) (M : Mem), fM_door_b151 a1 a2 a3 a4 a5 z a6 a7 M = some r → AS K n M 151 [some (.ref 85), some (.int a1), some (.int a2), some (.int a3), some (.int a4), some (.int a5), some (.int a6), some (.int a7)] [] := by
  intro z
  induction z with
  | zero => intro a6 a7 M h; cases h
  | succ z ih =>
    intro a6 a7 M h
    refine aw_iload C (tb_at ok_X8_door 82 rfl) rfl ?_
    refine aw_iload C (tb_at ok_X8_door 83 rfl) rfl ?_
    refine aw_icmp_ge C 194 (tb_at ok_X8_door 84 rfl) (by decide) h (fun h => ?_) (fun h => ?_)
    · refine aw_aload_n C (tb_at ok_X8_door 105 rfl) rfl ?_
      refine aw_iload_n C (tb_at ok_X8_door 106 rfl) rfl ?_
      refine aw_iload_n C (tb_at ok_X8_door 107 rfl) rfl ?_
      refine aw_iload C (tb_at ok_X8_door 108 rfl) rfl ?_
      refine sw_cVv C S [.int a3, .int a2, .int a4] [] (tb_at ok_X8_door 109 rfl) h (fun q e => m_fM_tries hn e) mf_X8_tries (ob_85 hn) rfl rfl cw_RX8_365 rfl (by decide) rfl (Nat.le_of_ble_eq_true rfl) (fun M5 h => ?_)
      refine aw_iload C (tb_at ok_X8_door 110 rfl) rfl ?_
      exact sw_iret C S rfl (tb_at ok_X8_door 111 rfl) h
    · refine aw_aload_n C (tb_at ok_X8_door 85 rfl) rfl ?_
      refine aw_iload_n C (tb_at ok_X8_door 86 rfl) rfl ?_
      refine aw_iload_n C (tb_at ok_X8_door 87 rfl) rfl ?_
      refine aw_iload C (tb_at ok_X8_door 88 rfl) rfl ?_
      refine sw_cVv C S [.int a3, .int a2, .int a7] [] (tb_at ok_X8_door 89 rfl) h (fun q e => m_fM_tries hn e) mf_X8_tries (ob_85 hn) rfl rfl cw_RX8_365 rfl (by decide) rfl (Nat.le_of_ble_eq_true rfl) (fun M6 h => ?_)
      refine aw_iload C (tb_at ok_X8_door 90 rfl) rfl ?_
      refine aw_aload_n C (tb_at ok_X8_door 91 rfl) rfl ?_
      refine aw_iload_n C (tb_at ok_X8_door 92 rfl) rfl ?_
      refine aw_iload_n C (tb_at ok_X8_door 93 rfl) rfl ?_
      refine sw_cVi C S [.int a1, .int a2] [.int a6] (tb_at ok_X8_door 94 rfl) h (fun q e => m_fM_isSo hn e) mf_X8_isSo (ob_85 hn) rfl rfl cw_RX8_362 rfl (by decide) rfl (Nat.le_of_ble_eq_true rfl) (fun r7 M7 h => ?_)
      refine aw_if_eq C 181 (tb_at ok_X8_door 95 rfl) (by decide) h (fun h => ?_) (fun h => ?_)
      · refine aw_iconst C (tb_at ok_X8_door 98 rfl) ki_0 ?_
        exact aw_loc [some (.ref 85), some (.int a1), some (.int a2), some (.int a3), some (.int a4), some (.int a5), none, some (.int a7)] (sl_k (sl_k (sl_k (sl_k (sl_k (sl_k (sl_n (sl_k sl_0)))))))) (t_fM_door_b182 C S hn ih h)
      · refine aw_iconst C (tb_at ok_X8_door 96 rfl) ki_1 ?_
        refine aw_goto C 182 (tb_at ok_X8_door 97 rfl) (by decide) ?_
        exact aw_loc [some (.ref 85), some (.int a1), some (.int a2), some (.int a3), some (.int a4), some (.int a5), none, some (.int a7)] (sl_k (sl_k (sl_k (sl_k (sl_k (sl_k (sl_n (sl_k sl_0)))))))) (t_fM_door_b182 C S hn ih h)
set_option maxHeartbeats 4000000 in
set_option maxRecDepth 20000 in
theorem t_fM_door_b143 {K : Cx} {n : Nat} {a1 : Int32} {a2 : Int32} {a3 : Int32} {a4 : Int32} {s0 : Int32} {M : Mem} {r : Int32 × Mem} (C : Ctx K RX8 cX8_door) (S : SS K n 71 8 (some .int) (Ti n r)) (hn : 113 ≤ n) (h : fM_door_b143 a1 a2 a3 a4 s0 M = some r) : AS K n M 143 [some (.ref 85), some (.int a1), some (.int a2), some (.int a3), some (.int a4), none, none, none] [.int s0] := by
  refine aw_istore C [some (.ref 85), some (.int a1), some (.int a2), some (.int a3), some (.int a4), some (.int s0), none, none] (tb_at ok_X8_door 77 rfl) S.2.2.2.1 (by decide) rfl ?_
  refine aw_iconst C (tb_at ok_X8_door 78 rfl) ki_0 ?_
  refine aw_istore C [some (.ref 85), some (.int a1), some (.int a2), some (.int a3), some (.int a4), some (.int s0), some (.int 0), none] (tb_at ok_X8_door 79 rfl) S.2.2.2.1 (by decide) rfl ?_
  refine aw_iconst C (tb_at ok_X8_door 80 rfl) ki_0 ?_
  refine aw_istore C [some (.ref 85), some (.int a1), some (.int a2), some (.int a3), some (.int a4), some (.int s0), some (.int 0), some (.int 0)] (tb_at ok_X8_door 81 rfl) S.2.2.2.1 (by decide) rfl ?_
  exact aw_loc [some (.ref 85), some (.int a1), some (.int a2), some (.int a3), some (.int a4), some (.int s0), some (.int 0), some (.int 0)] (sl_k (sl_k (sl_k (sl_k (sl_k (sl_k (sl_k (sl_k sl_0)))))))) (t_fM_door_b151 C S hn 1000 _ _ _ h)
set_option maxHeartbeats 4000000 in
set_option maxRecDepth 20000 in
theorem t_fM_door_b107 {K : Cx} {n : Nat} {a1 : Int32} {a2 : Int32} {a3 : Int32} {s0 : Int32} {M : Mem} {r : Int32 × Mem} (C : Ctx K RX8 cX8_door) (S : SS K n 71 8 (some .int) (Ti n r)) (hn : 113 ≤ n) (h : fM_door_b107 a1 a2 a3 s0 M = some r) : AS K n M 107 [some (.ref 85), some (.int a1), some (.int a2), some (.int a3), none, none, none, none] [.int s0] := by
  refine aw_istore C [some (.ref 85), some (.int a1), some (.int a2), some (.int a3), some (.int s0), none, none, none] (tb_at ok_X8_door 59 rfl) S.2.2.2.1 (by decide) rfl ?_
  refine aw_iload_n C (tb_at ok_X8_door 60 rfl) rfl ?_
  refine aw_iconst C (tb_at ok_X8_door 61 rfl) ki_1 ?_
  refine aw_icmp_ne C 119 (tb_at ok_X8_door 62 rfl) (by decide) h (fun h => ?_) (fun h => ?_)
  · refine aw_bipush C (tb_at ok_X8_door 63 rfl) kb_6 ?_
    refine aw_goto C 143 (tb_at ok_X8_door 64 rfl) (by decide) ?_
    exact aw_loc [some (.ref 85), some (.int a1), some (.int a2), some (.int a3), some (.int s0), none, none, none] (sl_k (sl_k (sl_k (sl_k (sl_k (sl_n (sl_n (sl_n sl_0)))))))) (t_fM_door_b143 C S hn h)
  · refine aw_iload_n C (tb_at ok_X8_door 65 rfl) rfl ?_
    refine aw_iconst C (tb_at ok_X8_door 66 rfl) ki_2 ?_
    refine aw_icmp_ne C 129 (tb_at ok_X8_door 67 rfl) (by decide) h (fun h => ?_) (fun h => ?_)
    · refine aw_bipush C (tb_at ok_X8_door 68 rfl) kb_10 ?_
      refine aw_goto C 143 (tb_at ok_X8_door 69 rfl) (by decide) ?_
      exact aw_loc [some (.ref 85), some (.int a1), some (.int a2), some (.int a3), some (.int s0), none, none, none] (sl_k (sl_k (sl_k (sl_k (sl_k (sl_n (sl_n (sl_n sl_0)))))))) (t_fM_door_b143 C S hn h)
    · refine aw_iload_n C (tb_at ok_X8_door 70 rfl) rfl ?_
      refine aw_iconst C (tb_at ok_X8_door 71 rfl) ki_3 ?_
      refine aw_icmp_ne C 139 (tb_at ok_X8_door 72 rfl) (by decide) h (fun h => ?_) (fun h => ?_)
      · refine aw_bipush C (tb_at ok_X8_door 73 rfl) kb_8 ?_
        refine aw_goto C 143 (tb_at ok_X8_door 74 rfl) (by decide) ?_
        exact aw_loc [some (.ref 85), some (.int a1), some (.int a2), some (.int a3), some (.int s0), none, none, none] (sl_k (sl_k (sl_k (sl_k (sl_k (sl_n (sl_n (sl_n sl_0)))))))) (t_fM_door_b143 C S hn h)
      · refine aw_aload_n C (tb_at ok_X8_door 75 rfl) rfl ?_
        refine aw_get C (ob_85 hn) rfl (by decide) rfl fl_RX8_109 (tb_at ok_X8_door 76 rfl) ?_
        exact aw_loc [some (.ref 85), some (.int a1), some (.int a2), some (.int a3), some (.int s0), none, none, none] (sl_k (sl_k (sl_k (sl_k (sl_k (sl_n (sl_n (sl_n sl_0)))))))) (t_fM_door_b143 C S hn h)
set_option maxHeartbeats 4000000 in
set_option maxRecDepth 20000 in
theorem t_fM_door {K : Cx} {n : Nat} {a1 : Int32} {a2 : Int32} {a3 : Int32} {M : Mem} {r : Int32 × Mem} (C : Ctx K RX8 cX8_door) (S : SS K n 71 8 (some .int) (Ti n r)) (hn : 113 ≤ n) (h : fM_door a1 a2 a3 M = some r) : AS K n M 0 [some (.ref 85), some (.int a1), some (.int a2), some (.int a3), none, none, none, none] [] := by
  refine aw_iload_n C (tb_at ok_X8_door 0 rfl) rfl ?_
  refine sw_cSi C S [.int a1] [] (tb_at ok_X8_door 1 rfl) h (fun q e => m_fM_isSheet hn e) mf_X8_isSheet cw_RX8_357 rfl (by decide) rfl (Nat.le_of_ble_eq_true rfl) (fun r1 M1 h => ?_)
  refine aw_if_eq C 27 (tb_at ok_X8_door 2 rfl) (by decide) h (fun h => ?_) (fun h => ?_)
  · refine aw_bipush C (tb_at ok_X8_door 13 rfl) kb_m2 ?_
    exact sw_iret C S rfl (tb_at ok_X8_door 14 rfl) h
  · refine aw_aload_n C (tb_at ok_X8_door 3 rfl) rfl ?_
    refine aw_iload_n C (tb_at ok_X8_door 4 rfl) rfl ?_
    refine sw_cVi C S [.int a2] [] (tb_at ok_X8_door 5 rfl) h (fun q e => m_fM_isMaid hn e) mf_X8_isMaid (ob_85 hn) rfl rfl cw_RX8_131 rfl (by decide) rfl (Nat.le_of_ble_eq_true rfl) (fun r2 M2 h => ?_)
    refine aw_if_eq C 27 (tb_at ok_X8_door 6 rfl) (by decide) h (fun h => ?_) (fun h => ?_)
    · refine aw_bipush C (tb_at ok_X8_door 13 rfl) kb_m2 ?_
      exact sw_iret C S rfl (tb_at ok_X8_door 14 rfl) h
    · refine aw_iload_n C (tb_at ok_X8_door 7 rfl) rfl ?_
      refine aw_i2l C (tb_at ok_X8_door 8 rfl) ?_
      refine aw_lconst C (tb_at ok_X8_door 9 rfl) kl_0 ?_
      refine aw_ldc2 C kc_RX8_360 (tb_at ok_X8_door 10 rfl) ?_
      refine sw_cSi C S [.long (a3.toInt64), .long (0 : Int64), .long (4 : Int64)] [] (tb_at ok_X8_door 11 rfl) h (fun q e => m_fM_in hn e) mf_X8_in cw_RX8_114 rfl (by decide) rfl (Nat.le_of_ble_eq_true rfl) (fun r3 M3 h => ?_)
      refine aw_if_ne C 30 (tb_at ok_X8_door 12 rfl) (by decide) h (fun h => ?_) (fun h => ?_)
      · refine aw_bipush C (tb_at ok_X8_door 13 rfl) kb_m2 ?_
        exact sw_iret C S rfl (tb_at ok_X8_door 14 rfl) h
      · refine aw_aload_n C (tb_at ok_X8_door 15 rfl) rfl ?_
        refine aw_getR C (ob_85 hn) rfl (by decide) rfl p_85_55 fl_RX8_92 (tb_at ok_X8_door 16 rfl) ?_
        refine aw_iload_n C (tb_at ok_X8_door 17 rfl) rfl ?_
        refine aw_zald C (ob_109 hn) (tb_at ok_X8_door 18 rfl) h (fun h => ?_)
        refine aw_if_ne C 42 (tb_at ok_X8_door 19 rfl) (by decide) h (fun h => ?_) (fun h => ?_)
        · refine aw_bipush C (tb_at ok_X8_door 20 rfl) kb_m11 ?_
          exact sw_iret C S rfl (tb_at ok_X8_door 21 rfl) h
        · refine aw_iload_n C (tb_at ok_X8_door 22 rfl) rfl ?_
          refine aw_if_ne C 61 (tb_at ok_X8_door 23 rfl) (by decide) h (fun h => ?_) (fun h => ?_)
          · refine aw_aload_n C (tb_at ok_X8_door 24 rfl) rfl ?_
            refine aw_iload_n C (tb_at ok_X8_door 25 rfl) rfl ?_
            refine aw_iload_n C (tb_at ok_X8_door 26 rfl) rfl ?_
            refine sw_cVi C S [.int a1, .int a2] [] (tb_at ok_X8_door 27 rfl) h (fun q e => m_fM_isSo hn e) mf_X8_isSo (ob_85 hn) rfl rfl cw_RX8_362 rfl (by decide) rfl (Nat.le_of_ble_eq_true rfl) (fun r4 M4 h => ?_)
            refine aw_if_eq C 59 (tb_at ok_X8_door 28 rfl) (by decide) h (fun h => ?_) (fun h => ?_)
            · refine aw_iconst C (tb_at ok_X8_door 31 rfl) ki_0 ?_
              exact sw_iret C S rfl (tb_at ok_X8_door 32 rfl) h
            · refine aw_iconst C (tb_at ok_X8_door 29 rfl) ki_1 ?_
              refine aw_goto C 60 (tb_at ok_X8_door 30 rfl) (by decide) ?_
              exact sw_iret C S rfl (tb_at ok_X8_door 32 rfl) h
          · refine aw_iload_n C (tb_at ok_X8_door 33 rfl) rfl ?_
            refine aw_iconst C (tb_at ok_X8_door 34 rfl) ki_1 ?_
            refine aw_icmp_ne C 75 (tb_at ok_X8_door 35 rfl) (by decide) h (fun h => ?_) (fun h => ?_)
            · refine aw_aload_n C (tb_at ok_X8_door 36 rfl) rfl ?_
              refine aw_getR C (ob_85 hn) rfl (by decide) rfl p_85_12 fl_RX8_35 (tb_at ok_X8_door 37 rfl) ?_
              refine aw_iload_n C (tb_at ok_X8_door 38 rfl) rfl ?_
              refine aw_iald C (ob_92 hn) (tb_at ok_X8_door 39 rfl) h (fun h => ?_)
              refine aw_goto C 107 (tb_at ok_X8_door 40 rfl) (by decide) ?_
              exact aw_loc [some (.ref 85), some (.int a1), some (.int a2), some (.int a3), none, none, none, none] (sl_k (sl_k (sl_k (sl_k (sl_n (sl_n (sl_n (sl_n sl_0)))))))) (t_fM_door_b107 C S hn h)
            · refine aw_iload_n C (tb_at ok_X8_door 41 rfl) rfl ?_
              refine aw_iconst C (tb_at ok_X8_door 42 rfl) ki_2 ?_
              refine aw_icmp_ne C 89 (tb_at ok_X8_door 43 rfl) (by decide) h (fun h => ?_) (fun h => ?_)
              · refine aw_aload_n C (tb_at ok_X8_door 44 rfl) rfl ?_
                refine aw_getR C (ob_85 hn) rfl (by decide) rfl p_85_13 fl_RX8_38 (tb_at ok_X8_door 45 rfl) ?_
                refine aw_iload_n C (tb_at ok_X8_door 46 rfl) rfl ?_
                refine aw_iald C (ob_93 hn) (tb_at ok_X8_door 47 rfl) h (fun h => ?_)
                refine aw_goto C 107 (tb_at ok_X8_door 48 rfl) (by decide) ?_
                exact aw_loc [some (.ref 85), some (.int a1), some (.int a2), some (.int a3), none, none, none, none] (sl_k (sl_k (sl_k (sl_k (sl_n (sl_n (sl_n (sl_n sl_0)))))))) (t_fM_door_b107 C S hn h)
              · refine aw_iload_n C (tb_at ok_X8_door 49 rfl) rfl ?_
                refine aw_iconst C (tb_at ok_X8_door 50 rfl) ki_3 ?_
                refine aw_icmp_ne C 103 (tb_at ok_X8_door 51 rfl) (by decide) h (fun h => ?_) (fun h => ?_)
                · refine aw_aload_n C (tb_at ok_X8_door 52 rfl) rfl ?_
                  refine aw_getR C (ob_85 hn) rfl (by decide) rfl p_85_14 fl_RX8_41 (tb_at ok_X8_door 53 rfl) ?_
                  refine aw_iload_n C (tb_at ok_X8_door 54 rfl) rfl ?_
                  refine aw_iald C (ob_94 hn) (tb_at ok_X8_door 55 rfl) h (fun h => ?_)
                  refine aw_goto C 107 (tb_at ok_X8_door 56 rfl) (by decide) ?_
                  exact aw_loc [some (.ref 85), some (.int a1), some (.int a2), some (.int a3), none, none, none, none] (sl_k (sl_k (sl_k (sl_k (sl_n (sl_n (sl_n (sl_n sl_0)))))))) (t_fM_door_b107 C S hn h)
                · refine aw_aload_n C (tb_at ok_X8_door 57 rfl) rfl ?_
                  refine aw_get C (ob_85 hn) rfl (by decide) rfl fl_RX8_297 (tb_at ok_X8_door 58 rfl) ?_
                  exact aw_loc [some (.ref 85), some (.int a1), some (.int a2), some (.int a3), none, none, none, none] (sl_k (sl_k (sl_k (sl_k (sl_n (sl_n (sl_n (sl_n sl_0)))))))) (t_fM_door_b107 C S hn h)
theorem m_fM_door {l : Launch} {w : Wd} {n : Nat} {a1 : Int32} {a2 : Int32} {a3 : Int32} {M : Mem} {r : Int32 × Mem} (hn : 113 ≤ n) (h : fM_door a1 a2 a3 M = some r) : CM l w yX8_door cX8_door 8 (some .int) 71 0 0 [.ref 85, .int a1, .int a2, .int a3] n M (PD M) (Ti n r) := sm_of (loc := [some (.ref 85), some (.int a1), some (.int a2), some (.int a3), none, none, none, none]) mf_X8_door (by decide) (Nat.le_of_ble_eq_true rfl) rfl (fun K _ _ C S => t_fM_door C S hn h)
def tb_X8_sheet : List (Nat × Instr × Nat) := [(0, .iload_n 1, 1), (1, .invokestatic 357, 3), (4, .ifCond .eq 27, 3), (7, .iload_n 2, 1), (8, .i2l, 1), (9, .ldc2_w 392, 3), (12, .ldc2_w 394, 3), (15, .invokestatic 114, 3), (18, .ifCond .eq 13, 3), (21, .iload_n 2, 1), (22, .ifCond .lt 12, 3), (25, .iload_n 3, 1), (26, .bipush 40, 2), (28, .if_icmp .le 6, 3), (31, .bipush (-2), 2), (33, .ireturn, 1), (34, .iload_n 2, 1), (35, .ifCond .lt 10, 3), (38, .iload_n 3, 1), (39, .ifCond .ge 6, 3), (42, .bipush (-14), 2), (44, .ireturn, 1), (45, .aload_n 0, 1), (46, .getfield 92, 3), (49, .iload_n 1, 1), (50, .iload_n 2, 1), (51, .ifCond .lt 7, 3), (54, .iconst 1, 1), (55, .goto 4, 3), (58, .iconst 0, 1), (59, .bastore, 1), (60, .aload_n 0, 1), (61, .getfield 96, 3), (64, .iload_n 1, 1), (65, .iload_n 2, 1), (66, .iastore, 1), (67, .aload_n 0, 1), (68, .getfield 99, 3), (71, .iload_n 1, 1), (72, .iload_n 3, 1), (73, .iastore, 1), (74, .iconst 0, 1), (75, .istore 4, 2), (77, .iload 4, 2), (79, .iload_n 3, 1), (80, .if_icmp .ge 26, 3), (83, .iload_n 2, 1), (84, .ifCond .lt 22, 3), (87, .aload_n 0, 1), (88, .getfield 102, 3), (91, .bipush 40, 2), (93, .iload_n 1, 1), (94, .imul, 1), (95, .iload 4, 2), (97, .iadd, 1), (98, .iconst 0, 1), (99, .iastore, 1), (100, .iinc 4 1, 3), (103, .goto (-26), 3), (106, .iconst 1, 1), (107, .ireturn, 1)]
theorem ok_X8_sheet : TB cX8_sheet tb_X8_sheet := (by decide +kernel : tb_X8_sheet.all (fun q => tbq cX8_sheet q) = true)
set_option maxHeartbeats 4000000 in
set_option maxRecDepth 20000 in
theorem t_fM_sheet_b77 {K : Cx} {n : Nat} {a1 : Int32} {a2 : Int32} {a3 : Int32} {r : Int32 × Mem} (C : Ctx K RX8 cX8_sheet) (S : SS K n 3 5 (some .int) (Ti n r)) (hn : 113 ≤ n) : ∀ (z : Nat) (a4 : Int32) (M : Mem), fM_sheet_b77 a1 a2 a3 z a4 M = some r → AS K n M 77 [some (.ref 85), some (.int a1), some (.int a2), some (.int a3), some (.int a4)] [] := by
  intro z
  induction z with
  | zero => intro a4 M h; cases h
  | succ z ih =>
    intro a4 M h
    refine aw_iload C (tb_at ok_X8_sheet 43 rfl) rfl ?_
    refine aw_iload_n C (tb_at ok_X8_sheet 44 rfl) rfl ?_
    refine aw_icmp_ge C 106 (tb_at ok_X8_sheet 45 rfl) (by decide) h (fun h => ?_) (fun h => ?_)
    · refine aw_iconst C (tb_at ok_X8_sheet 59 rfl) ki_1 ?_
      exact sw_iret C S rfl (tb_at ok_X8_sheet 60 rfl) h
    · refine aw_iload_n C (tb_at ok_X8_sheet 46 rfl) rfl ?_
      refine aw_if_lt C 106 (tb_at ok_X8_sheet 47 rfl) (by decide) h (fun h => ?_) (fun h => ?_)
      · refine aw_iconst C (tb_at ok_X8_sheet 59 rfl) ki_1 ?_
        exact sw_iret C S rfl (tb_at ok_X8_sheet 60 rfl) h
      · refine aw_aload_n C (tb_at ok_X8_sheet 48 rfl) rfl ?_
        refine aw_getR C (ob_85 hn) rfl (by decide) rfl p_85_58 fl_RX8_102 (tb_at ok_X8_sheet 49 rfl) ?_
        refine aw_bipush C (tb_at ok_X8_sheet 50 rfl) kb_40 ?_
        refine aw_iload_n C (tb_at ok_X8_sheet 51 rfl) rfl ?_
        refine aw_imul C (tb_at ok_X8_sheet 52 rfl) ?_
        refine aw_iload C (tb_at ok_X8_sheet 53 rfl) rfl ?_
        refine aw_iadd C (tb_at ok_X8_sheet 54 rfl) ?_
        refine aw_iconst C (tb_at ok_X8_sheet 55 rfl) ki_0 ?_
        refine sw_iast C (ob_112 hn) (tb_at ok_X8_sheet 56 rfl) h (fun h => ?_)
        refine aw_iinc C [some (.ref 85), some (.int a1), some (.int a2), some (.int a3), some (.int (a4 + 1))] (tb_at ok_X8_sheet 57 rfl) rfl S.2.2.2.1 (by decide) ki_1 rfl ?_
        refine aw_goto C 77 (tb_at ok_X8_sheet 58 rfl) (by decide) ?_
        exact aw_loc [some (.ref 85), some (.int a1), some (.int a2), some (.int a3), some (.int (a4 + 1))] (sl_k (sl_k (sl_k (sl_k (sl_k sl_0))))) (ih _ _ h)
set_option maxHeartbeats 4000000 in
set_option maxRecDepth 20000 in
theorem t_fM_sheet_b59 {K : Cx} {n : Nat} {a1 : Int32} {a2 : Int32} {a3 : Int32} {s0 : Int32} {s1 : Int32} {M : Mem} {r : Int32 × Mem} (C : Ctx K RX8 cX8_sheet) (S : SS K n 3 5 (some .int) (Ti n r)) (hn : 113 ≤ n) (h : fM_sheet_b59 a1 a2 a3 s0 s1 M = some r) : AS K n M 59 [some (.ref 85), some (.int a1), some (.int a2), some (.int a3), none] [.int s0, .int s1, .ref 109] := by
  refine sw_zast C (ob_109 hn) (tb_at ok_X8_sheet 30 rfl) h (fun h => ?_)
  refine aw_aload_n C (tb_at ok_X8_sheet 31 rfl) rfl ?_
  refine aw_getR C (ob_85 hn) rfl (by decide) rfl p_85_56 fl_RX8_96 (tb_at ok_X8_sheet 32 rfl) ?_
  refine aw_iload_n C (tb_at ok_X8_sheet 33 rfl) rfl ?_
  refine aw_iload_n C (tb_at ok_X8_sheet 34 rfl) rfl ?_
  refine sw_iast C (ob_110 hn) (tb_at ok_X8_sheet 35 rfl) h (fun h => ?_)
  refine aw_aload_n C (tb_at ok_X8_sheet 36 rfl) rfl ?_
  refine aw_getR C (ob_85 hn) rfl (by decide) rfl p_85_57 fl_RX8_99 (tb_at ok_X8_sheet 37 rfl) ?_
  refine aw_iload_n C (tb_at ok_X8_sheet 38 rfl) rfl ?_
  refine aw_iload_n C (tb_at ok_X8_sheet 39 rfl) rfl ?_
  refine sw_iast C (ob_111 hn) (tb_at ok_X8_sheet 40 rfl) h (fun h => ?_)
  refine aw_iconst C (tb_at ok_X8_sheet 41 rfl) ki_0 ?_
  refine aw_istore C [some (.ref 85), some (.int a1), some (.int a2), some (.int a3), some (.int 0)] (tb_at ok_X8_sheet 42 rfl) S.2.2.2.1 (by decide) rfl ?_
  exact aw_loc [some (.ref 85), some (.int a1), some (.int a2), some (.int a3), some (.int 0)] (sl_k (sl_k (sl_k (sl_k (sl_k sl_0))))) (t_fM_sheet_b77 C S hn 1000 _ _ h)
set_option maxHeartbeats 4000000 in
set_option maxRecDepth 20000 in
theorem t_fM_sheet_b45 {K : Cx} {n : Nat} {a1 : Int32} {a2 : Int32} {a3 : Int32} {M : Mem} {r : Int32 × Mem} (C : Ctx K RX8 cX8_sheet) (S : SS K n 3 5 (some .int) (Ti n r)) (hn : 113 ≤ n) (h : fM_sheet_b45 a1 a2 a3 M = some r) : AS K n M 45 [some (.ref 85), some (.int a1), some (.int a2), some (.int a3), none] [] := by
  refine aw_aload_n C (tb_at ok_X8_sheet 22 rfl) rfl ?_
  refine aw_getR C (ob_85 hn) rfl (by decide) rfl p_85_55 fl_RX8_92 (tb_at ok_X8_sheet 23 rfl) ?_
  refine aw_iload_n C (tb_at ok_X8_sheet 24 rfl) rfl ?_
  refine aw_iload_n C (tb_at ok_X8_sheet 25 rfl) rfl ?_
  refine aw_if_lt C 58 (tb_at ok_X8_sheet 26 rfl) (by decide) h (fun h => ?_) (fun h => ?_)
  · refine aw_iconst C (tb_at ok_X8_sheet 29 rfl) ki_0 ?_
    exact aw_loc [some (.ref 85), some (.int a1), some (.int a2), some (.int a3), none] (sl_k (sl_k (sl_k (sl_k (sl_n sl_0))))) (t_fM_sheet_b59 C S hn h)
  · refine aw_iconst C (tb_at ok_X8_sheet 27 rfl) ki_1 ?_
    refine aw_goto C 59 (tb_at ok_X8_sheet 28 rfl) (by decide) ?_
    exact aw_loc [some (.ref 85), some (.int a1), some (.int a2), some (.int a3), none] (sl_k (sl_k (sl_k (sl_k (sl_n sl_0))))) (t_fM_sheet_b59 C S hn h)
set_option maxHeartbeats 4000000 in
set_option maxRecDepth 20000 in
theorem t_fM_sheet_b34 {K : Cx} {n : Nat} {a1 : Int32} {a2 : Int32} {a3 : Int32} {M : Mem} {r : Int32 × Mem} (C : Ctx K RX8 cX8_sheet) (S : SS K n 3 5 (some .int) (Ti n r)) (hn : 113 ≤ n) (h : fM_sheet_b34 a1 a2 a3 M = some r) : AS K n M 34 [some (.ref 85), some (.int a1), some (.int a2), some (.int a3), none] [] := by
  refine aw_iload_n C (tb_at ok_X8_sheet 16 rfl) rfl ?_
  refine aw_if_lt C 45 (tb_at ok_X8_sheet 17 rfl) (by decide) h (fun h => ?_) (fun h => ?_)
  · exact aw_loc [some (.ref 85), some (.int a1), some (.int a2), some (.int a3), none] (sl_k (sl_k (sl_k (sl_k (sl_n sl_0))))) (t_fM_sheet_b45 C S hn h)
  · refine aw_iload_n C (tb_at ok_X8_sheet 18 rfl) rfl ?_
    refine aw_if_ge C 45 (tb_at ok_X8_sheet 19 rfl) (by decide) h (fun h => ?_) (fun h => ?_)
    · exact aw_loc [some (.ref 85), some (.int a1), some (.int a2), some (.int a3), none] (sl_k (sl_k (sl_k (sl_k (sl_n sl_0))))) (t_fM_sheet_b45 C S hn h)
    · refine aw_bipush C (tb_at ok_X8_sheet 20 rfl) kb_m14 ?_
      exact sw_iret C S rfl (tb_at ok_X8_sheet 21 rfl) h
set_option maxHeartbeats 4000000 in
set_option maxRecDepth 20000 in
theorem t_fM_sheet {K : Cx} {n : Nat} {a1 : Int32} {a2 : Int32} {a3 : Int32} {M : Mem} {r : Int32 × Mem} (C : Ctx K RX8 cX8_sheet) (S : SS K n 3 5 (some .int) (Ti n r)) (hn : 113 ≤ n) (h : fM_sheet a1 a2 a3 M = some r) : AS K n M 0 [some (.ref 85), some (.int a1), some (.int a2), some (.int a3), none] [] := by
  refine aw_iload_n C (tb_at ok_X8_sheet 0 rfl) rfl ?_
  refine sw_cSi C S [.int a1] [] (tb_at ok_X8_sheet 1 rfl) h (fun q e => m_fM_isSheet hn e) mf_X8_isSheet cw_RX8_357 rfl (by decide) rfl (Nat.le_of_ble_eq_true rfl) (fun r1 M1 h => ?_)
  refine aw_if_eq C 31 (tb_at ok_X8_sheet 2 rfl) (by decide) h (fun h => ?_) (fun h => ?_)
  · refine aw_bipush C (tb_at ok_X8_sheet 14 rfl) kb_m2 ?_
    exact sw_iret C S rfl (tb_at ok_X8_sheet 15 rfl) h
  · refine aw_iload_n C (tb_at ok_X8_sheet 3 rfl) rfl ?_
    refine aw_i2l C (tb_at ok_X8_sheet 4 rfl) ?_
    refine aw_ldc2 C kc_RX8_392 (tb_at ok_X8_sheet 5 rfl) ?_
    refine aw_ldc2 C kc_RX8_394 (tb_at ok_X8_sheet 6 rfl) ?_
    refine sw_cSi C S [.long (a2.toInt64), .long (-1 : Int64), .long (2 : Int64)] [] (tb_at ok_X8_sheet 7 rfl) h (fun q e => m_fM_in hn e) mf_X8_in cw_RX8_114 rfl (by decide) rfl (Nat.le_of_ble_eq_true rfl) (fun r2 M2 h => ?_)
    refine aw_if_eq C 31 (tb_at ok_X8_sheet 8 rfl) (by decide) h (fun h => ?_) (fun h => ?_)
    · refine aw_bipush C (tb_at ok_X8_sheet 14 rfl) kb_m2 ?_
      exact sw_iret C S rfl (tb_at ok_X8_sheet 15 rfl) h
    · refine aw_iload_n C (tb_at ok_X8_sheet 9 rfl) rfl ?_
      refine aw_if_lt C 34 (tb_at ok_X8_sheet 10 rfl) (by decide) h (fun h => ?_) (fun h => ?_)
      · exact aw_loc [some (.ref 85), some (.int a1), some (.int a2), some (.int a3), none] (sl_k (sl_k (sl_k (sl_k (sl_n sl_0))))) (t_fM_sheet_b34 C S hn h)
      · refine aw_iload_n C (tb_at ok_X8_sheet 11 rfl) rfl ?_
        refine aw_bipush C (tb_at ok_X8_sheet 12 rfl) kb_40 ?_
        refine aw_icmp_le C 34 (tb_at ok_X8_sheet 13 rfl) (by decide) h (fun h => ?_) (fun h => ?_)
        · exact aw_loc [some (.ref 85), some (.int a1), some (.int a2), some (.int a3), none] (sl_k (sl_k (sl_k (sl_k (sl_n sl_0))))) (t_fM_sheet_b34 C S hn h)
        · refine aw_bipush C (tb_at ok_X8_sheet 14 rfl) kb_m2 ?_
          exact sw_iret C S rfl (tb_at ok_X8_sheet 15 rfl) h
theorem m_fM_sheet {l : Launch} {w : Wd} {n : Nat} {a1 : Int32} {a2 : Int32} {a3 : Int32} {M : Mem} {r : Int32 × Mem} (hn : 113 ≤ n) (h : fM_sheet a1 a2 a3 M = some r) : CM l w yX8_sheet cX8_sheet 5 (some .int) 3 0 0 [.ref 85, .int a1, .int a2, .int a3] n M (PD M) (Ti n r) := sm_of (loc := [some (.ref 85), some (.int a1), some (.int a2), some (.int a3), none]) mf_X8_sheet (by decide) (Nat.le_of_ble_eq_true rfl) rfl (fun K _ _ C S => t_fM_sheet C S hn h)
