/-! theorems 5 -/
def tb_X8_lays : List (Nat × Instr × Nat) := [(0, .iload_n 1, 1), (1, .ifCond .ne 11, 3), (4, .aload_n 0, 1), (5, .iload_n 3, 1), (6, .putfield 23, 3), (9, .goto 70, 3), (12, .iload_n 1, 1), (13, .iconst 1, 1), (14, .if_icmp .ne 13, 3), (17, .aload_n 0, 1), (18, .getfield 26, 3), (21, .iload_n 2, 1), (22, .iload_n 3, 1), (23, .iastore, 1), (24, .goto 55, 3), (27, .iload_n 1, 1), (28, .iconst 2, 1), (29, .if_icmp .ne 13, 3), (32, .aload_n 0, 1), (33, .getfield 29, 3), (36, .iload_n 2, 1), (37, .iload_n 3, 1), (38, .iastore, 1), (39, .goto 40, 3), (42, .iload_n 1, 1), (43, .iconst 3, 1), (44, .if_icmp .ne 13, 3), (47, .aload_n 0, 1), (48, .getfield 32, 3), (51, .iload_n 2, 1), (52, .iload_n 3, 1), (53, .iastore, 1), (54, .goto 25, 3), (57, .iload_n 1, 1), (58, .iconst 4, 1), (59, .if_icmp .ne 13, 3), (62, .aload_n 0, 1), (63, .getfield 38, 3), (66, .iload_n 2, 1), (67, .iload_n 3, 1), (68, .iastore, 1), (69, .goto 10, 3), (72, .aload_n 0, 1), (73, .getfield 41, 3), (76, .iload_n 2, 1), (77, .iload_n 3, 1), (78, .iastore, 1), (79, .return_, 1)]
theorem ok_X8_lays : TB cX8_lays tb_X8_lays := (by decide +kernel : tb_X8_lays.all (fun q => tbq cX8_lays q) = true)
set_option maxHeartbeats 4000000 in
set_option maxRecDepth 20000 in
theorem t_fM_lays {K : Cx} {n : Nat} {a1 : Int32} {a2 : Int32} {a3 : Int32} {M : Mem} {r : Mem} (C : Ctx K RX8 cX8_lays) (S : SS K n 1 4 none (Tv n r)) (hn : 113 ≤ n) (h : fM_lays a1 a2 a3 M = some r) : AS K n M 0 [some (.ref 85), some (.int a1), some (.int a2), some (.int a3)] [] := by
  refine aw_iload_n C (tb_at ok_X8_lays 0 rfl) rfl ?_
  refine aw_if_ne C 12 (tb_at ok_X8_lays 1 rfl) (by decide) h (fun h => ?_) (fun h => ?_)
  · refine aw_aload_n C (tb_at ok_X8_lays 2 rfl) rfl ?_
    refine aw_iload_n C (tb_at ok_X8_lays 3 rfl) rfl ?_
    refine sw_put C (ob_85 hn) rfl (by decide) (by decide) (Or.inr (by decide)) rfl rfl rfl rfl fl_RX8_23 (tb_at ok_X8_lays 4 rfl) ?_
    refine aw_goto C 79 (tb_at ok_X8_lays 5 rfl) (by decide) ?_
    exact sw_vret C S (tb_at ok_X8_lays 47 rfl) h
  · refine aw_iload_n C (tb_at ok_X8_lays 6 rfl) rfl ?_
    refine aw_iconst C (tb_at ok_X8_lays 7 rfl) ki_1 ?_
    refine aw_icmp_ne C 27 (tb_at ok_X8_lays 8 rfl) (by decide) h (fun h => ?_) (fun h => ?_)
    · refine aw_aload_n C (tb_at ok_X8_lays 9 rfl) rfl ?_
      refine aw_getR C (ob_85 hn) rfl (by decide) rfl p_85_8 fl_RX8_26 (tb_at ok_X8_lays 10 rfl) ?_
      refine aw_iload_n C (tb_at ok_X8_lays 11 rfl) rfl ?_
      refine aw_iload_n C (tb_at ok_X8_lays 12 rfl) rfl ?_
      refine sw_iast C (ob_89 hn) (tb_at ok_X8_lays 13 rfl) h (fun h => ?_)
      refine aw_goto C 79 (tb_at ok_X8_lays 14 rfl) (by decide) ?_
      exact sw_vret C S (tb_at ok_X8_lays 47 rfl) h
    · refine aw_iload_n C (tb_at ok_X8_lays 15 rfl) rfl ?_
      refine aw_iconst C (tb_at ok_X8_lays 16 rfl) ki_2 ?_
      refine aw_icmp_ne C 42 (tb_at ok_X8_lays 17 rfl) (by decide) h (fun h => ?_) (fun h => ?_)
      · refine aw_aload_n C (tb_at ok_X8_lays 18 rfl) rfl ?_
        refine aw_getR C (ob_85 hn) rfl (by decide) rfl p_85_9 fl_RX8_29 (tb_at ok_X8_lays 19 rfl) ?_
        refine aw_iload_n C (tb_at ok_X8_lays 20 rfl) rfl ?_
        refine aw_iload_n C (tb_at ok_X8_lays 21 rfl) rfl ?_
        refine sw_iast C (ob_90 hn) (tb_at ok_X8_lays 22 rfl) h (fun h => ?_)
        refine aw_goto C 79 (tb_at ok_X8_lays 23 rfl) (by decide) ?_
        exact sw_vret C S (tb_at ok_X8_lays 47 rfl) h
      · refine aw_iload_n C (tb_at ok_X8_lays 24 rfl) rfl ?_
        refine aw_iconst C (tb_at ok_X8_lays 25 rfl) ki_3 ?_
        refine aw_icmp_ne C 57 (tb_at ok_X8_lays 26 rfl) (by decide) h (fun h => ?_) (fun h => ?_)
        · refine aw_aload_n C (tb_at ok_X8_lays 27 rfl) rfl ?_
          refine aw_getR C (ob_85 hn) rfl (by decide) rfl p_85_10 fl_RX8_32 (tb_at ok_X8_lays 28 rfl) ?_
          refine aw_iload_n C (tb_at ok_X8_lays 29 rfl) rfl ?_
          refine aw_iload_n C (tb_at ok_X8_lays 30 rfl) rfl ?_
          refine sw_iast C (ob_91 hn) (tb_at ok_X8_lays 31 rfl) h (fun h => ?_)
          refine aw_goto C 79 (tb_at ok_X8_lays 32 rfl) (by decide) ?_
          exact sw_vret C S (tb_at ok_X8_lays 47 rfl) h
        · refine aw_iload_n C (tb_at ok_X8_lays 33 rfl) rfl ?_
          refine aw_iconst C (tb_at ok_X8_lays 34 rfl) ki_4 ?_
          refine aw_icmp_ne C 72 (tb_at ok_X8_lays 35 rfl) (by decide) h (fun h => ?_) (fun h => ?_)
          · refine aw_aload_n C (tb_at ok_X8_lays 36 rfl) rfl ?_
            refine aw_getR C (ob_85 hn) rfl (by decide) rfl p_85_13 fl_RX8_38 (tb_at ok_X8_lays 37 rfl) ?_
            refine aw_iload_n C (tb_at ok_X8_lays 38 rfl) rfl ?_
            refine aw_iload_n C (tb_at ok_X8_lays 39 rfl) rfl ?_
            refine sw_iast C (ob_93 hn) (tb_at ok_X8_lays 40 rfl) h (fun h => ?_)
            refine aw_goto C 79 (tb_at ok_X8_lays 41 rfl) (by decide) ?_
            exact sw_vret C S (tb_at ok_X8_lays 47 rfl) h
          · refine aw_aload_n C (tb_at ok_X8_lays 42 rfl) rfl ?_
            refine aw_getR C (ob_85 hn) rfl (by decide) rfl p_85_14 fl_RX8_41 (tb_at ok_X8_lays 43 rfl) ?_
            refine aw_iload_n C (tb_at ok_X8_lays 44 rfl) rfl ?_
            refine aw_iload_n C (tb_at ok_X8_lays 45 rfl) rfl ?_
            refine sw_iast C (ob_94 hn) (tb_at ok_X8_lays 46 rfl) h (fun h => ?_)
            exact sw_vret C S (tb_at ok_X8_lays 47 rfl) h
theorem m_fM_lays {l : Launch} {w : Wd} {n : Nat} {a1 : Int32} {a2 : Int32} {a3 : Int32} {M : Mem} {r : Mem} (hn : 113 ≤ n) (h : fM_lays a1 a2 a3 M = some r) : CM l w yX8_lays cX8_lays 4 none 1 0 0 [.ref 85, .int a1, .int a2, .int a3] n M (PD M) (Tv n r) := sm_of (loc := [some (.ref 85), some (.int a1), some (.int a2), some (.int a3)]) mf_X8_lays (by decide) (Nat.le_of_ble_eq_true rfl) rfl (fun K _ _ C S => t_fM_lays C S hn h)
def tb_X8_told : List (Nat × Instr × Nat) := [(0, .iload_n 2, 1), (1, .i2l, 1), (2, .lconst 0, 1), (3, .ldc2_w 112, 3), (6, .invokestatic 114, 3), (9, .ifCond .ne 17, 3), (12, .iload_n 2, 1), (13, .i2l, 1), (14, .ldc2_w 156, 3), (17, .ldc2_w 158, 3), (20, .invokestatic 114, 3), (23, .ifCond .eq 12, 3), (26, .aload_n 0, 1), (27, .iload_n 2, 1), (28, .iload_n 1, 1), (29, .invokevirtual 136, 3), (32, .ifCond .ne 6, 3), (35, .bipush (-2), 2), (37, .ireturn, 1), (38, .iload_n 2, 1), (39, .iconst 4, 1), (40, .if_icmp .ge 49, 3), (43, .iload_n 2, 1), (44, .ifCond .ne 10, 3), (47, .aload_n 0, 1), (48, .getfield 23, 3), (51, .goto 37, 3), (54, .iload_n 2, 1), (55, .iconst 1, 1), (56, .if_icmp .ne 12, 3), (59, .aload_n 0, 1), (60, .getfield 26, 3), (63, .iload_n 1, 1), (64, .iaload, 1), (65, .goto 23, 3), (68, .iload_n 2, 1), (69, .iconst 2, 1), (70, .if_icmp .ne 12, 3), (73, .aload_n 0, 1), (74, .getfield 29, 3), (77, .iload_n 1, 1), (78, .iaload, 1), (79, .goto 9, 3), (82, .aload_n 0, 1), (83, .getfield 32, 3), (86, .iload_n 1, 1), (87, .iaload, 1), (88, .ireturn, 1), (89, .iload_n 2, 1), (90, .bipush 8, 2), (92, .if_icmp .ge 53, 3), (95, .iload_n 2, 1), (96, .iconst 4, 1), (97, .if_icmp .ne 12, 3), (100, .aload_n 0, 1), (101, .getfield 38, 3), (104, .iload_n 1, 1), (105, .iaload, 1), (106, .goto 38, 3), (109, .iload_n 2, 1), (110, .iconst 5, 1), (111, .if_icmp .ne 12, 3), (114, .aload_n 0, 1), (115, .getfield 41, 3), (118, .iload_n 1, 1), (119, .iaload, 1), (120, .goto 24, 3), (123, .iload_n 2, 1), (124, .bipush 6, 2), (126, .if_icmp .ne 12, 3), (129, .aload_n 0, 1), (130, .getfield 35, 3), (133, .iload_n 1, 1), (134, .iaload, 1), (135, .goto 9, 3), (138, .aload_n 0, 1), (139, .getfield 47, 3), (142, .iload_n 1, 1), (143, .iaload, 1), (144, .ireturn, 1), (145, .iload_n 2, 1), (146, .bipush 10, 2), (148, .isub, 1), (149, .aload_n 0, 1), (150, .getfield 47, 3), (153, .iload_n 1, 1), (154, .iaload, 1), (155, .if_icmp .ge 19, 3), (158, .aload_n 0, 1), (159, .getfield 44, 3), (162, .iconst 5, 1), (163, .iload_n 1, 1), (164, .imul, 1), (165, .iload_n 2, 1), (166, .iadd, 1), (167, .bipush 10, 2), (169, .isub, 1), (170, .iaload, 1), (171, .goto 4, 3), (174, .iconst (-1), 1), (175, .ireturn, 1)]
theorem ok_X8_told : TB cX8_told tb_X8_told := (by decide +kernel : tb_X8_told.all (fun q => tbq cX8_told q) = true)
set_option maxHeartbeats 4000000 in
set_option maxRecDepth 20000 in
theorem t_fM_told_b26 {K : Cx} {n : Nat} {a1 : Int32} {a2 : Int32} {M : Mem} {r : Int32 × Mem} (C : Ctx K RX8 cX8_told) (S : SS K n 4 3 (some .int) (Ti n r)) (hn : 113 ≤ n) (h : fM_told_b26 a1 a2 M = some r) : AS K n M 26 [some (.ref 85), some (.int a1), some (.int a2)] [] := by
  refine aw_aload_n C (tb_at ok_X8_told 12 rfl) rfl ?_
  refine aw_iload_n C (tb_at ok_X8_told 13 rfl) rfl ?_
  refine aw_iload_n C (tb_at ok_X8_told 14 rfl) rfl ?_
  refine sw_cVi C S [.int a2, .int a1] [] (tb_at ok_X8_told 15 rfl) h (fun q e => m_fM_isOf hn e) mf_X8_isOf (ob_85 hn) rfl rfl cw_RX8_136 rfl (by decide) rfl (Nat.le_of_ble_eq_true rfl) (fun r3 M3 h => ?_)
  refine aw_if_ne C 38 (tb_at ok_X8_told 16 rfl) (by decide) h (fun h => ?_) (fun h => ?_)
  · refine aw_bipush C (tb_at ok_X8_told 17 rfl) kb_m2 ?_
    exact sw_iret C S rfl (tb_at ok_X8_told 18 rfl) h
  · refine aw_iload_n C (tb_at ok_X8_told 19 rfl) rfl ?_
    refine aw_iconst C (tb_at ok_X8_told 20 rfl) ki_4 ?_
    refine aw_icmp_ge C 89 (tb_at ok_X8_told 21 rfl) (by decide) h (fun h => ?_) (fun h => ?_)
    · refine aw_iload_n C (tb_at ok_X8_told 48 rfl) rfl ?_
      refine aw_bipush C (tb_at ok_X8_told 49 rfl) kb_8 ?_
      refine aw_icmp_ge C 145 (tb_at ok_X8_told 50 rfl) (by decide) h (fun h => ?_) (fun h => ?_)
      · refine aw_iload_n C (tb_at ok_X8_told 80 rfl) rfl ?_
        refine aw_bipush C (tb_at ok_X8_told 81 rfl) kb_10 ?_
        refine aw_isub C (tb_at ok_X8_told 82 rfl) ?_
        refine aw_aload_n C (tb_at ok_X8_told 83 rfl) rfl ?_
        refine aw_getR C (ob_85 hn) rfl (by decide) rfl p_85_16 fl_RX8_47 (tb_at ok_X8_told 84 rfl) ?_
        refine aw_iload_n C (tb_at ok_X8_told 85 rfl) rfl ?_
        refine aw_iald C (ob_96 hn) (tb_at ok_X8_told 86 rfl) h (fun h => ?_)
        refine aw_icmp_ge C 174 (tb_at ok_X8_told 87 rfl) (by decide) h (fun h => ?_) (fun h => ?_)
        · refine aw_iconst C (tb_at ok_X8_told 99 rfl) ki_m1 ?_
          exact sw_iret C S rfl (tb_at ok_X8_told 100 rfl) h
        · refine aw_aload_n C (tb_at ok_X8_told 88 rfl) rfl ?_
          refine aw_getR C (ob_85 hn) rfl (by decide) rfl p_85_15 fl_RX8_44 (tb_at ok_X8_told 89 rfl) ?_
          refine aw_iconst C (tb_at ok_X8_told 90 rfl) ki_5 ?_
          refine aw_iload_n C (tb_at ok_X8_told 91 rfl) rfl ?_
          refine aw_imul C (tb_at ok_X8_told 92 rfl) ?_
          refine aw_iload_n C (tb_at ok_X8_told 93 rfl) rfl ?_
          refine aw_iadd C (tb_at ok_X8_told 94 rfl) ?_
          refine aw_bipush C (tb_at ok_X8_told 95 rfl) kb_10 ?_
          refine aw_isub C (tb_at ok_X8_told 96 rfl) ?_
          refine aw_iald C (ob_95 hn) (tb_at ok_X8_told 97 rfl) h (fun h => ?_)
          refine aw_goto C 175 (tb_at ok_X8_told 98 rfl) (by decide) ?_
          exact sw_iret C S rfl (tb_at ok_X8_told 100 rfl) h
      · refine aw_iload_n C (tb_at ok_X8_told 51 rfl) rfl ?_
        refine aw_iconst C (tb_at ok_X8_told 52 rfl) ki_4 ?_
        refine aw_icmp_ne C 109 (tb_at ok_X8_told 53 rfl) (by decide) h (fun h => ?_) (fun h => ?_)
        · refine aw_aload_n C (tb_at ok_X8_told 54 rfl) rfl ?_
          refine aw_getR C (ob_85 hn) rfl (by decide) rfl p_85_13 fl_RX8_38 (tb_at ok_X8_told 55 rfl) ?_
          refine aw_iload_n C (tb_at ok_X8_told 56 rfl) rfl ?_
          refine aw_iald C (ob_93 hn) (tb_at ok_X8_told 57 rfl) h (fun h => ?_)
          refine aw_goto C 144 (tb_at ok_X8_told 58 rfl) (by decide) ?_
          exact sw_iret C S rfl (tb_at ok_X8_told 79 rfl) h
        · refine aw_iload_n C (tb_at ok_X8_told 59 rfl) rfl ?_
          refine aw_iconst C (tb_at ok_X8_told 60 rfl) ki_5 ?_
          refine aw_icmp_ne C 123 (tb_at ok_X8_told 61 rfl) (by decide) h (fun h => ?_) (fun h => ?_)
          · refine aw_aload_n C (tb_at ok_X8_told 62 rfl) rfl ?_
            refine aw_getR C (ob_85 hn) rfl (by decide) rfl p_85_14 fl_RX8_41 (tb_at ok_X8_told 63 rfl) ?_
            refine aw_iload_n C (tb_at ok_X8_told 64 rfl) rfl ?_
            refine aw_iald C (ob_94 hn) (tb_at ok_X8_told 65 rfl) h (fun h => ?_)
            refine aw_goto C 144 (tb_at ok_X8_told 66 rfl) (by decide) ?_
            exact sw_iret C S rfl (tb_at ok_X8_told 79 rfl) h
          · refine aw_iload_n C (tb_at ok_X8_told 67 rfl) rfl ?_
            refine aw_bipush C (tb_at ok_X8_told 68 rfl) kb_6 ?_
            refine aw_icmp_ne C 138 (tb_at ok_X8_told 69 rfl) (by decide) h (fun h => ?_) (fun h => ?_)
            · refine aw_aload_n C (tb_at ok_X8_told 70 rfl) rfl ?_
              refine aw_getR C (ob_85 hn) rfl (by decide) rfl p_85_12 fl_RX8_35 (tb_at ok_X8_told 71 rfl) ?_
              refine aw_iload_n C (tb_at ok_X8_told 72 rfl) rfl ?_
              refine aw_iald C (ob_92 hn) (tb_at ok_X8_told 73 rfl) h (fun h => ?_)
              refine aw_goto C 144 (tb_at ok_X8_told 74 rfl) (by decide) ?_
              exact sw_iret C S rfl (tb_at ok_X8_told 79 rfl) h
            · refine aw_aload_n C (tb_at ok_X8_told 75 rfl) rfl ?_
              refine aw_getR C (ob_85 hn) rfl (by decide) rfl p_85_16 fl_RX8_47 (tb_at ok_X8_told 76 rfl) ?_
              refine aw_iload_n C (tb_at ok_X8_told 77 rfl) rfl ?_
              refine aw_iald C (ob_96 hn) (tb_at ok_X8_told 78 rfl) h (fun h => ?_)
              exact sw_iret C S rfl (tb_at ok_X8_told 79 rfl) h
    · refine aw_iload_n C (tb_at ok_X8_told 22 rfl) rfl ?_
      refine aw_if_ne C 54 (tb_at ok_X8_told 23 rfl) (by decide) h (fun h => ?_) (fun h => ?_)
      · refine aw_aload_n C (tb_at ok_X8_told 24 rfl) rfl ?_
        refine aw_get C (ob_85 hn) rfl (by decide) rfl fl_RX8_23 (tb_at ok_X8_told 25 rfl) ?_
        refine aw_goto C 88 (tb_at ok_X8_told 26 rfl) (by decide) ?_
        exact sw_iret C S rfl (tb_at ok_X8_told 47 rfl) h
      · refine aw_iload_n C (tb_at ok_X8_told 27 rfl) rfl ?_
        refine aw_iconst C (tb_at ok_X8_told 28 rfl) ki_1 ?_
        refine aw_icmp_ne C 68 (tb_at ok_X8_told 29 rfl) (by decide) h (fun h => ?_) (fun h => ?_)
        · refine aw_aload_n C (tb_at ok_X8_told 30 rfl) rfl ?_
          refine aw_getR C (ob_85 hn) rfl (by decide) rfl p_85_8 fl_RX8_26 (tb_at ok_X8_told 31 rfl) ?_
          refine aw_iload_n C (tb_at ok_X8_told 32 rfl) rfl ?_
          refine aw_iald C (ob_89 hn) (tb_at ok_X8_told 33 rfl) h (fun h => ?_)
          refine aw_goto C 88 (tb_at ok_X8_told 34 rfl) (by decide) ?_
          exact sw_iret C S rfl (tb_at ok_X8_told 47 rfl) h
        · refine aw_iload_n C (tb_at ok_X8_told 35 rfl) rfl ?_
          refine aw_iconst C (tb_at ok_X8_told 36 rfl) ki_2 ?_
          refine aw_icmp_ne C 82 (tb_at ok_X8_told 37 rfl) (by decide) h (fun h => ?_) (fun h => ?_)
          · refine aw_aload_n C (tb_at ok_X8_told 38 rfl) rfl ?_
            refine aw_getR C (ob_85 hn) rfl (by decide) rfl p_85_9 fl_RX8_29 (tb_at ok_X8_told 39 rfl) ?_
            refine aw_iload_n C (tb_at ok_X8_told 40 rfl) rfl ?_
            refine aw_iald C (ob_90 hn) (tb_at ok_X8_told 41 rfl) h (fun h => ?_)
            refine aw_goto C 88 (tb_at ok_X8_told 42 rfl) (by decide) ?_
            exact sw_iret C S rfl (tb_at ok_X8_told 47 rfl) h
          · refine aw_aload_n C (tb_at ok_X8_told 43 rfl) rfl ?_
            refine aw_getR C (ob_85 hn) rfl (by decide) rfl p_85_10 fl_RX8_32 (tb_at ok_X8_told 44 rfl) ?_
            refine aw_iload_n C (tb_at ok_X8_told 45 rfl) rfl ?_
            refine aw_iald C (ob_91 hn) (tb_at ok_X8_told 46 rfl) h (fun h => ?_)
            exact sw_iret C S rfl (tb_at ok_X8_told 47 rfl) h
set_option maxHeartbeats 4000000 in
set_option maxRecDepth 20000 in
theorem t_fM_told {K : Cx} {n : Nat} {a1 : Int32} {a2 : Int32} {M : Mem} {r : Int32 × Mem} (C : Ctx K RX8 cX8_told) (S : SS K n 4 3 (some .int) (Ti n r)) (hn : 113 ≤ n) (h : fM_told a1 a2 M = some r) : AS K n M 0 [some (.ref 85), some (.int a1), some (.int a2)] [] := by
  refine aw_iload_n C (tb_at ok_X8_told 0 rfl) rfl ?_
  refine aw_i2l C (tb_at ok_X8_told 1 rfl) ?_
  refine aw_lconst C (tb_at ok_X8_told 2 rfl) kl_0 ?_
  refine aw_ldc2 C kc_RX8_112 (tb_at ok_X8_told 3 rfl) ?_
  refine sw_cSi C S [.long (a2.toInt64), .long (0 : Int64), .long (7 : Int64)] [] (tb_at ok_X8_told 4 rfl) h (fun q e => m_fM_in hn e) mf_X8_in cw_RX8_114 rfl (by decide) rfl (Nat.le_of_ble_eq_true rfl) (fun r1 M1 h => ?_)
  refine aw_if_ne C 26 (tb_at ok_X8_told 5 rfl) (by decide) h (fun h => ?_) (fun h => ?_)
  · refine aw_iload_n C (tb_at ok_X8_told 6 rfl) rfl ?_
    refine aw_i2l C (tb_at ok_X8_told 7 rfl) ?_
    refine aw_ldc2 C kc_RX8_156 (tb_at ok_X8_told 8 rfl) ?_
    refine aw_ldc2 C kc_RX8_158 (tb_at ok_X8_told 9 rfl) ?_
    refine sw_cSi C S [.long (a2.toInt64), .long (10 : Int64), .long (14 : Int64)] [] (tb_at ok_X8_told 10 rfl) h (fun q e => m_fM_in hn e) mf_X8_in cw_RX8_114 rfl (by decide) rfl (Nat.le_of_ble_eq_true rfl) (fun r2 M2 h => ?_)
    refine aw_if_eq C 35 (tb_at ok_X8_told 11 rfl) (by decide) h (fun h => ?_) (fun h => ?_)
    · refine aw_bipush C (tb_at ok_X8_told 17 rfl) kb_m2 ?_
      exact sw_iret C S rfl (tb_at ok_X8_told 18 rfl) h
    · exact aw_loc [some (.ref 85), some (.int a1), some (.int a2)] (sl_k (sl_k (sl_k sl_0))) (t_fM_told_b26 C S hn h)
  · exact aw_loc [some (.ref 85), some (.int a1), some (.int a2)] (sl_k (sl_k (sl_k sl_0))) (t_fM_told_b26 C S hn h)
theorem m_fM_told {l : Launch} {w : Wd} {n : Nat} {a1 : Int32} {a2 : Int32} {M : Mem} {r : Int32 × Mem} (hn : 113 ≤ n) (h : fM_told a1 a2 M = some r) : CM l w yX8_told cX8_told 3 (some .int) 4 0 0 [.ref 85, .int a1, .int a2] n M (PD M) (Ti n r) := sm_of (loc := [some (.ref 85), some (.int a1), some (.int a2)]) mf_X8_told (by decide) (Nat.le_of_ble_eq_true rfl) rfl (fun K _ _ C S => t_fM_told C S hn h)
def tb_X8_set : List (Nat × Instr × Nat) := [(0, .iload_n 1, 1), (1, .i2l, 1), (2, .lconst 0, 1), (3, .ldc2_w 134, 3), (6, .invokestatic 114, 3), (9, .ifCond .eq 12, 3), (12, .aload_n 0, 1), (13, .iload_n 1, 1), (14, .iload_n 2, 1), (15, .invokevirtual 136, 3), (18, .ifCond .ne 6, 3), (21, .bipush (-2), 2), (23, .ireturn, 1), (24, .iload_n 3, 1), (25, .i2l, 1), (26, .iload_n 1, 1), (27, .iconst 3, 1), (28, .if_icmp .ne 7, 3), (31, .lconst 1, 1), (32, .goto 4, 3), (35, .lconst 0, 1), (36, .iload_n 1, 1), (37, .ifCond .ne 9, 3), (40, .ldc2_w 140, 3), (43, .goto 39, 3), (46, .iload_n 1, 1), (47, .iconst 1, 1), (48, .if_icmp .ne 9, 3), (51, .ldc2_w 142, 3), (54, .goto 28, 3), (57, .iload_n 1, 1), (58, .iconst 3, 1), (59, .if_icmp .ne 9, 3), (62, .ldc2_w 144, 3), (65, .goto 17, 3), (68, .iload_n 1, 1), (69, .iconst 4, 1), (70, .if_icmp .ne 9, 3), (73, .ldc2_w 146, 3), (76, .goto 6, 3), (79, .ldc2_w 112, 3), (82, .invokestatic 114, 3), (85, .ifCond .ne 6, 3), (88, .bipush (-2), 2), (90, .ireturn, 1), (91, .aload_n 0, 1), (92, .iload_n 2, 1), (93, .iload_n 1, 1), (94, .invokevirtual 148, 3), (97, .istore 4, 2), (99, .aload_n 0, 1), (100, .iload_n 1, 1), (101, .iload_n 2, 1), (102, .iload_n 3, 1), (103, .invokevirtual 152, 3), (106, .iload 4, 2), (108, .ireturn, 1)]
theorem ok_X8_set : TB cX8_set tb_X8_set := (by decide +kernel : tb_X8_set.all (fun q => tbq cX8_set q) = true)
set_option maxHeartbeats 4000000 in
set_option maxRecDepth 20000 in
theorem t_fM_set_b82 {K : Cx} {n : Nat} {a1 : Int32} {a2 : Int32} {a3 : Int32} {s0 : Int64} {s1 : Int64} {s2 : Int64} {M : Mem} {r : Int32 × Mem} (C : Ctx K RX8 cX8_set) (S : SS K n 5 5 (some .int) (Ti n r)) (hn : 113 ≤ n) (h : fM_set_b82 a1 a2 a3 s0 s1 s2 M = some r) : AS K n M 82 [some (.ref 85), some (.int a1), some (.int a2), some (.int a3), none] [.long s0, .long s1, .long s2] := by
  refine sw_cSi C S [.long s2, .long s1, .long s0] [] (tb_at ok_X8_set 41 rfl) h (fun q e => m_fM_in hn e) mf_X8_in cw_RX8_114 rfl (by decide) rfl (Nat.le_of_ble_eq_true rfl) (fun r3 M3 h => ?_)
  refine aw_if_ne C 91 (tb_at ok_X8_set 42 rfl) (by decide) h (fun h => ?_) (fun h => ?_)
  · refine aw_bipush C (tb_at ok_X8_set 43 rfl) kb_m2 ?_
    exact sw_iret C S rfl (tb_at ok_X8_set 44 rfl) h
  · refine aw_aload_n C (tb_at ok_X8_set 45 rfl) rfl ?_
    refine aw_iload_n C (tb_at ok_X8_set 46 rfl) rfl ?_
    refine aw_iload_n C (tb_at ok_X8_set 47 rfl) rfl ?_
    refine sw_cVi C S [.int a2, .int a1] [] (tb_at ok_X8_set 48 rfl) h (fun q e => m_fM_told hn e) mf_X8_told (ob_85 hn) rfl rfl cw_RX8_148 rfl (by decide) rfl (Nat.le_of_ble_eq_true rfl) (fun r4 M4 h => ?_)
    refine aw_istore C [some (.ref 85), some (.int a1), some (.int a2), some (.int a3), some (.int r4)] (tb_at ok_X8_set 49 rfl) S.2.2.2.1 (by decide) rfl ?_
    refine aw_aload_n C (tb_at ok_X8_set 50 rfl) rfl ?_
    refine aw_iload_n C (tb_at ok_X8_set 51 rfl) rfl ?_
    refine aw_iload_n C (tb_at ok_X8_set 52 rfl) rfl ?_
    refine aw_iload_n C (tb_at ok_X8_set 53 rfl) rfl ?_
    refine sw_cVv C S [.int a1, .int a2, .int a3] [] (tb_at ok_X8_set 54 rfl) h (fun q e => m_fM_lays hn e) mf_X8_lays (ob_85 hn) rfl rfl cw_RX8_152 rfl (by decide) rfl (Nat.le_of_ble_eq_true rfl) (fun M5 h => ?_)
    refine aw_iload C (tb_at ok_X8_set 55 rfl) rfl ?_
    exact sw_iret C S rfl (tb_at ok_X8_set 56 rfl) h
set_option maxHeartbeats 4000000 in
set_option maxRecDepth 20000 in
theorem t_fM_set_b36 {K : Cx} {n : Nat} {a1 : Int32} {a2 : Int32} {a3 : Int32} {s0 : Int64} {s1 : Int64} {M : Mem} {r : Int32 × Mem} (C : Ctx K RX8 cX8_set) (S : SS K n 5 5 (some .int) (Ti n r)) (hn : 113 ≤ n) (h : fM_set_b36 a1 a2 a3 s0 s1 M = some r) : AS K n M 36 [some (.ref 85), some (.int a1), some (.int a2), some (.int a3), none] [.long s0, .long s1] := by
  refine aw_iload_n C (tb_at ok_X8_set 21 rfl) rfl ?_
  refine aw_if_ne C 46 (tb_at ok_X8_set 22 rfl) (by decide) h (fun h => ?_) (fun h => ?_)
  · refine aw_ldc2 C kc_RX8_140 (tb_at ok_X8_set 23 rfl) ?_
    refine aw_goto C 82 (tb_at ok_X8_set 24 rfl) (by decide) ?_
    exact aw_loc [some (.ref 85), some (.int a1), some (.int a2), some (.int a3), none] (sl_k (sl_k (sl_k (sl_k (sl_n sl_0))))) (t_fM_set_b82 C S hn h)
  · refine aw_iload_n C (tb_at ok_X8_set 25 rfl) rfl ?_
    refine aw_iconst C (tb_at ok_X8_set 26 rfl) ki_1 ?_
    refine aw_icmp_ne C 57 (tb_at ok_X8_set 27 rfl) (by decide) h (fun h => ?_) (fun h => ?_)
    · refine aw_ldc2 C kc_RX8_142 (tb_at ok_X8_set 28 rfl) ?_
      refine aw_goto C 82 (tb_at ok_X8_set 29 rfl) (by decide) ?_
      exact aw_loc [some (.ref 85), some (.int a1), some (.int a2), some (.int a3), none] (sl_k (sl_k (sl_k (sl_k (sl_n sl_0))))) (t_fM_set_b82 C S hn h)
    · refine aw_iload_n C (tb_at ok_X8_set 30 rfl) rfl ?_
      refine aw_iconst C (tb_at ok_X8_set 31 rfl) ki_3 ?_
      refine aw_icmp_ne C 68 (tb_at ok_X8_set 32 rfl) (by decide) h (fun h => ?_) (fun h => ?_)
      · refine aw_ldc2 C kc_RX8_144 (tb_at ok_X8_set 33 rfl) ?_
        refine aw_goto C 82 (tb_at ok_X8_set 34 rfl) (by decide) ?_
        exact aw_loc [some (.ref 85), some (.int a1), some (.int a2), some (.int a3), none] (sl_k (sl_k (sl_k (sl_k (sl_n sl_0))))) (t_fM_set_b82 C S hn h)
      · refine aw_iload_n C (tb_at ok_X8_set 35 rfl) rfl ?_
        refine aw_iconst C (tb_at ok_X8_set 36 rfl) ki_4 ?_
        refine aw_icmp_ne C 79 (tb_at ok_X8_set 37 rfl) (by decide) h (fun h => ?_) (fun h => ?_)
        · refine aw_ldc2 C kc_RX8_146 (tb_at ok_X8_set 38 rfl) ?_
          refine aw_goto C 82 (tb_at ok_X8_set 39 rfl) (by decide) ?_
          exact aw_loc [some (.ref 85), some (.int a1), some (.int a2), some (.int a3), none] (sl_k (sl_k (sl_k (sl_k (sl_n sl_0))))) (t_fM_set_b82 C S hn h)
        · refine aw_ldc2 C kc_RX8_112 (tb_at ok_X8_set 40 rfl) ?_
          exact aw_loc [some (.ref 85), some (.int a1), some (.int a2), some (.int a3), none] (sl_k (sl_k (sl_k (sl_k (sl_n sl_0))))) (t_fM_set_b82 C S hn h)
set_option maxHeartbeats 4000000 in
set_option maxRecDepth 20000 in
theorem t_fM_set {K : Cx} {n : Nat} {a1 : Int32} {a2 : Int32} {a3 : Int32} {M : Mem} {r : Int32 × Mem} (C : Ctx K RX8 cX8_set) (S : SS K n 5 5 (some .int) (Ti n r)) (hn : 113 ≤ n) (h : fM_set a1 a2 a3 M = some r) : AS K n M 0 [some (.ref 85), some (.int a1), some (.int a2), some (.int a3), none] [] := by
  refine aw_iload_n C (tb_at ok_X8_set 0 rfl) rfl ?_
  refine aw_i2l C (tb_at ok_X8_set 1 rfl) ?_
  refine aw_lconst C (tb_at ok_X8_set 2 rfl) kl_0 ?_
  refine aw_ldc2 C kc_RX8_134 (tb_at ok_X8_set 3 rfl) ?_
  refine sw_cSi C S [.long (a1.toInt64), .long (0 : Int64), .long (5 : Int64)] [] (tb_at ok_X8_set 4 rfl) h (fun q e => m_fM_in hn e) mf_X8_in cw_RX8_114 rfl (by decide) rfl (Nat.le_of_ble_eq_true rfl) (fun r1 M1 h => ?_)
  refine aw_if_eq C 21 (tb_at ok_X8_set 5 rfl) (by decide) h (fun h => ?_) (fun h => ?_)
  · refine aw_bipush C (tb_at ok_X8_set 11 rfl) kb_m2 ?_
    exact sw_iret C S rfl (tb_at ok_X8_set 12 rfl) h
  · refine aw_aload_n C (tb_at ok_X8_set 6 rfl) rfl ?_
    refine aw_iload_n C (tb_at ok_X8_set 7 rfl) rfl ?_
    refine aw_iload_n C (tb_at ok_X8_set 8 rfl) rfl ?_
    refine sw_cVi C S [.int a1, .int a2] [] (tb_at ok_X8_set 9 rfl) h (fun q e => m_fM_isOf hn e) mf_X8_isOf (ob_85 hn) rfl rfl cw_RX8_136 rfl (by decide) rfl (Nat.le_of_ble_eq_true rfl) (fun r2 M2 h => ?_)
    refine aw_if_ne C 24 (tb_at ok_X8_set 10 rfl) (by decide) h (fun h => ?_) (fun h => ?_)
    · refine aw_bipush C (tb_at ok_X8_set 11 rfl) kb_m2 ?_
      exact sw_iret C S rfl (tb_at ok_X8_set 12 rfl) h
    · refine aw_iload_n C (tb_at ok_X8_set 13 rfl) rfl ?_
      refine aw_i2l C (tb_at ok_X8_set 14 rfl) ?_
      refine aw_iload_n C (tb_at ok_X8_set 15 rfl) rfl ?_
      refine aw_iconst C (tb_at ok_X8_set 16 rfl) ki_3 ?_
      refine aw_icmp_ne C 35 (tb_at ok_X8_set 17 rfl) (by decide) h (fun h => ?_) (fun h => ?_)
      · refine aw_lconst C (tb_at ok_X8_set 18 rfl) kl_1 ?_
        refine aw_goto C 36 (tb_at ok_X8_set 19 rfl) (by decide) ?_
        exact aw_loc [some (.ref 85), some (.int a1), some (.int a2), some (.int a3), none] (sl_k (sl_k (sl_k (sl_k (sl_n sl_0))))) (t_fM_set_b36 C S hn h)
      · refine aw_lconst C (tb_at ok_X8_set 20 rfl) kl_0 ?_
        exact aw_loc [some (.ref 85), some (.int a1), some (.int a2), some (.int a3), none] (sl_k (sl_k (sl_k (sl_k (sl_n sl_0))))) (t_fM_set_b36 C S hn h)
theorem m_fM_set {l : Launch} {w : Wd} {n : Nat} {a1 : Int32} {a2 : Int32} {a3 : Int32} {M : Mem} {r : Int32 × Mem} (hn : 113 ≤ n) (h : fM_set a1 a2 a3 M = some r) : CM l w yX8_set cX8_set 5 (some .int) 5 0 0 [.ref 85, .int a1, .int a2, .int a3] n M (PD M) (Ti n r) := sm_of (loc := [some (.ref 85), some (.int a1), some (.int a2), some (.int a3), none]) mf_X8_set (by decide) (Nat.le_of_ble_eq_true rfl) rfl (fun K _ _ C S => t_fM_set C S hn h)
def tb_X8_stay : List (Nat × Instr × Nat) := [(0, .iload_n 1, 1), (1, .invokestatic 124, 3), (4, .ifCond .eq 15, 3), (7, .iload_n 2, 1), (8, .i2l, 1), (9, .lconst 1, 1), (10, .ldc2_w 144, 3), (13, .invokestatic 114, 3), (16, .ifCond .ne 6, 3), (19, .bipush (-2), 2), (21, .ireturn, 1), (22, .aload_n 0, 1), (23, .getfield 121, 3), (26, .bipush 8, 2), (28, .if_icmp .ne 6, 3), (31, .bipush (-4), 2), (33, .ireturn, 1), (34, .aload_n 0, 1), (35, .getfield 29, 3), (38, .aload_n 0, 1), (39, .getfield 121, 3), (42, .iload_n 1, 1), (43, .iastore, 1), (44, .aload_n 0, 1), (45, .getfield 32, 3), (48, .aload_n 0, 1), (49, .getfield 121, 3), (52, .iload_n 2, 1), (53, .iastore, 1), (54, .aload_n 0, 1), (55, .dup, 1), (56, .getfield 121, 3), (59, .iconst 1, 1), (60, .iadd, 1), (61, .putfield 121, 3), (64, .aload_n 0, 1), (65, .getfield 121, 3), (68, .ireturn, 1)]
theorem ok_X8_stay : TB cX8_stay tb_X8_stay := (by decide +kernel : tb_X8_stay.all (fun q => tbq cX8_stay q) = true)
set_option maxHeartbeats 4000000 in
set_option maxRecDepth 20000 in
theorem t_fM_stay {K : Cx} {n : Nat} {a1 : Int32} {a2 : Int32} {M : Mem} {r : Int32 × Mem} (C : Ctx K RX8 cX8_stay) (S : SS K n 3 3 (some .int) (Ti n r)) (hn : 113 ≤ n) (h : fM_stay a1 a2 M = some r) : AS K n M 0 [some (.ref 85), some (.int a1), some (.int a2)] [] := by
  refine aw_iload_n C (tb_at ok_X8_stay 0 rfl) rfl ?_
  refine sw_cSi C S [.int a1] [] (tb_at ok_X8_stay 1 rfl) h (fun q e => m_fM_isRoom hn e) mf_X8_isRoom cw_RX8_124 rfl (by decide) rfl (Nat.le_of_ble_eq_true rfl) (fun r1 M1 h => ?_)
  refine aw_if_eq C 19 (tb_at ok_X8_stay 2 rfl) (by decide) h (fun h => ?_) (fun h => ?_)
  · refine aw_bipush C (tb_at ok_X8_stay 9 rfl) kb_m2 ?_
    exact sw_iret C S rfl (tb_at ok_X8_stay 10 rfl) h
  · refine aw_iload_n C (tb_at ok_X8_stay 3 rfl) rfl ?_
    refine aw_i2l C (tb_at ok_X8_stay 4 rfl) ?_
    refine aw_lconst C (tb_at ok_X8_stay 5 rfl) kl_1 ?_
    refine aw_ldc2 C kc_RX8_144 (tb_at ok_X8_stay 6 rfl) ?_
    refine sw_cSi C S [.long (a2.toInt64), .long (1 : Int64), .long (50 : Int64)] [] (tb_at ok_X8_stay 7 rfl) h (fun q e => m_fM_in hn e) mf_X8_in cw_RX8_114 rfl (by decide) rfl (Nat.le_of_ble_eq_true rfl) (fun r2 M2 h => ?_)
    refine aw_if_ne C 22 (tb_at ok_X8_stay 8 rfl) (by decide) h (fun h => ?_) (fun h => ?_)
    · refine aw_bipush C (tb_at ok_X8_stay 9 rfl) kb_m2 ?_
      exact sw_iret C S rfl (tb_at ok_X8_stay 10 rfl) h
    · refine aw_aload_n C (tb_at ok_X8_stay 11 rfl) rfl ?_
      refine aw_get C (ob_85 hn) rfl (by decide) rfl fl_RX8_121 (tb_at ok_X8_stay 12 rfl) ?_
      refine aw_bipush C (tb_at ok_X8_stay 13 rfl) kb_8 ?_
      refine aw_icmp_ne C 34 (tb_at ok_X8_stay 14 rfl) (by decide) h (fun h => ?_) (fun h => ?_)
      · refine aw_bipush C (tb_at ok_X8_stay 15 rfl) kb_m4 ?_
        exact sw_iret C S rfl (tb_at ok_X8_stay 16 rfl) h
      · refine aw_aload_n C (tb_at ok_X8_stay 17 rfl) rfl ?_
        refine aw_getR C (ob_85 hn) rfl (by decide) rfl p_85_9 fl_RX8_29 (tb_at ok_X8_stay 18 rfl) ?_
        refine aw_aload_n C (tb_at ok_X8_stay 19 rfl) rfl ?_
        refine aw_get C (ob_85 hn) rfl (by decide) rfl fl_RX8_121 (tb_at ok_X8_stay 20 rfl) ?_
        refine aw_iload_n C (tb_at ok_X8_stay 21 rfl) rfl ?_
        refine sw_iast C (ob_90 hn) (tb_at ok_X8_stay 22 rfl) h (fun h => ?_)
        refine aw_aload_n C (tb_at ok_X8_stay 23 rfl) rfl ?_
        refine aw_getR C (ob_85 hn) rfl (by decide) rfl p_85_10 fl_RX8_32 (tb_at ok_X8_stay 24 rfl) ?_
        refine aw_aload_n C (tb_at ok_X8_stay 25 rfl) rfl ?_
        refine aw_get C (ob_85 hn) rfl (by decide) rfl fl_RX8_121 (tb_at ok_X8_stay 26 rfl) ?_
        refine aw_iload_n C (tb_at ok_X8_stay 27 rfl) rfl ?_
        refine sw_iast C (ob_91 hn) (tb_at ok_X8_stay 28 rfl) h (fun h => ?_)
        refine aw_aload_n C (tb_at ok_X8_stay 29 rfl) rfl ?_
        refine aw_dup C (tb_at ok_X8_stay 30 rfl) rfl ?_
        refine aw_get C (ob_85 hn) rfl (by decide) rfl fl_RX8_121 (tb_at ok_X8_stay 31 rfl) ?_
        refine aw_iconst C (tb_at ok_X8_stay 32 rfl) ki_1 ?_
        refine aw_iadd C (tb_at ok_X8_stay 33 rfl) ?_
        refine sw_put C (ob_85 hn) rfl (by decide) (by decide) (Or.inr (by decide)) rfl rfl rfl rfl fl_RX8_121 (tb_at ok_X8_stay 34 rfl) ?_
        refine aw_aload_n C (tb_at ok_X8_stay 35 rfl) rfl ?_
        refine aw_get C (ob_85 hn) rfl (by decide) rfl fl_RX8_121 (tb_at ok_X8_stay 36 rfl) ?_
        exact sw_iret C S rfl (tb_at ok_X8_stay 37 rfl) h
theorem m_fM_stay {l : Launch} {w : Wd} {n : Nat} {a1 : Int32} {a2 : Int32} {M : Mem} {r : Int32 × Mem} (hn : 113 ≤ n) (h : fM_stay a1 a2 M = some r) : CM l w yX8_stay cX8_stay 3 (some .int) 3 0 0 [.ref 85, .int a1, .int a2] n M (PD M) (Ti n r) := sm_of (loc := [some (.ref 85), some (.int a1), some (.int a2)]) mf_X8_stay (by decide) (Nat.le_of_ble_eq_true rfl) rfl (fun K _ _ C S => t_fM_stay C S hn h)
def tb_X8_maid : List (Nat × Instr × Nat) := [(0, .iload_n 1, 1), (1, .i2l, 1), (2, .lconst 0, 1), (3, .ldc2_w 134, 3), (6, .invokestatic 114, 3), (9, .ifCond .eq 22, 3), (12, .iload_n 2, 1), (13, .i2l, 1), (14, .lconst 0, 1), (15, .ldc2_w 146, 3), (18, .invokestatic 114, 3), (21, .ifCond .eq 10, 3), (24, .iload_n 3, 1), (25, .invokestatic 124, 3), (28, .ifCond .ne 6, 3), (31, .bipush (-2), 2), (33, .ireturn, 1), (34, .aload_n 0, 1), (35, .getfield 118, 3), (38, .iconst 4, 1), (39, .if_icmp .ne 6, 3), (42, .bipush (-4), 2), (44, .ireturn, 1), (45, .aload_n 0, 1), (46, .getfield 35, 3), (49, .aload_n 0, 1), (50, .getfield 118, 3), (53, .iload_n 1, 1), (54, .iastore, 1), (55, .aload_n 0, 1), (56, .getfield 38, 3), (59, .aload_n 0, 1), (60, .getfield 118, 3), (63, .iload_n 2, 1), (64, .iastore, 1), (65, .aload_n 0, 1), (66, .getfield 41, 3), (69, .aload_n 0, 1), (70, .getfield 118, 3), (73, .iload_n 3, 1), (74, .iastore, 1), (75, .aload_n 0, 1), (76, .getfield 47, 3), (79, .aload_n 0, 1), (80, .getfield 118, 3), (83, .iconst 0, 1), (84, .iastore, 1), (85, .aload_n 0, 1), (86, .dup, 1), (87, .getfield 118, 3), (90, .iconst 1, 1), (91, .iadd, 1), (92, .putfield 118, 3), (95, .aload_n 0, 1), (96, .getfield 118, 3), (99, .iconst 1, 1), (100, .isub, 1), (101, .ireturn, 1)]
theorem ok_X8_maid : TB cX8_maid tb_X8_maid := (by decide +kernel : tb_X8_maid.all (fun q => tbq cX8_maid q) = true)
set_option maxHeartbeats 4000000 in
set_option maxRecDepth 20000 in
theorem t_fM_maid {K : Cx} {n : Nat} {a1 : Int32} {a2 : Int32} {a3 : Int32} {M : Mem} {r : Int32 × Mem} (C : Ctx K RX8 cX8_maid) (S : SS K n 3 4 (some .int) (Ti n r)) (hn : 113 ≤ n) (h : fM_maid a1 a2 a3 M = some r) : AS K n M 0 [some (.ref 85), some (.int a1), some (.int a2), some (.int a3)] [] := by
  refine aw_iload_n C (tb_at ok_X8_maid 0 rfl) rfl ?_
  refine aw_i2l C (tb_at ok_X8_maid 1 rfl) ?_
  refine aw_lconst C (tb_at ok_X8_maid 2 rfl) kl_0 ?_
  refine aw_ldc2 C kc_RX8_134 (tb_at ok_X8_maid 3 rfl) ?_
  refine sw_cSi C S [.long (a1.toInt64), .long (0 : Int64), .long (5 : Int64)] [] (tb_at ok_X8_maid 4 rfl) h (fun q e => m_fM_in hn e) mf_X8_in cw_RX8_114 rfl (by decide) rfl (Nat.le_of_ble_eq_true rfl) (fun r1 M1 h => ?_)
  refine aw_if_eq C 31 (tb_at ok_X8_maid 5 rfl) (by decide) h (fun h => ?_) (fun h => ?_)
  · refine aw_bipush C (tb_at ok_X8_maid 15 rfl) kb_m2 ?_
    exact sw_iret C S rfl (tb_at ok_X8_maid 16 rfl) h
  · refine aw_iload_n C (tb_at ok_X8_maid 6 rfl) rfl ?_
    refine aw_i2l C (tb_at ok_X8_maid 7 rfl) ?_
    refine aw_lconst C (tb_at ok_X8_maid 8 rfl) kl_0 ?_
    refine aw_ldc2 C kc_RX8_146 (tb_at ok_X8_maid 9 rfl) ?_
    refine sw_cSi C S [.long (a2.toInt64), .long (0 : Int64), .long (9 : Int64)] [] (tb_at ok_X8_maid 10 rfl) h (fun q e => m_fM_in hn e) mf_X8_in cw_RX8_114 rfl (by decide) rfl (Nat.le_of_ble_eq_true rfl) (fun r2 M2 h => ?_)
    refine aw_if_eq C 31 (tb_at ok_X8_maid 11 rfl) (by decide) h (fun h => ?_) (fun h => ?_)
    · refine aw_bipush C (tb_at ok_X8_maid 15 rfl) kb_m2 ?_
      exact sw_iret C S rfl (tb_at ok_X8_maid 16 rfl) h
    · refine aw_iload_n C (tb_at ok_X8_maid 12 rfl) rfl ?_
      refine sw_cSi C S [.int a3] [] (tb_at ok_X8_maid 13 rfl) h (fun q e => m_fM_isRoom hn e) mf_X8_isRoom cw_RX8_124 rfl (by decide) rfl (Nat.le_of_ble_eq_true rfl) (fun r3 M3 h => ?_)
      refine aw_if_ne C 34 (tb_at ok_X8_maid 14 rfl) (by decide) h (fun h => ?_) (fun h => ?_)
      · refine aw_bipush C (tb_at ok_X8_maid 15 rfl) kb_m2 ?_
        exact sw_iret C S rfl (tb_at ok_X8_maid 16 rfl) h
      · refine aw_aload_n C (tb_at ok_X8_maid 17 rfl) rfl ?_
        refine aw_get C (ob_85 hn) rfl (by decide) rfl fl_RX8_118 (tb_at ok_X8_maid 18 rfl) ?_
        refine aw_iconst C (tb_at ok_X8_maid 19 rfl) ki_4 ?_
        refine aw_icmp_ne C 45 (tb_at ok_X8_maid 20 rfl) (by decide) h (fun h => ?_) (fun h => ?_)
        · refine aw_bipush C (tb_at ok_X8_maid 21 rfl) kb_m4 ?_
          exact sw_iret C S rfl (tb_at ok_X8_maid 22 rfl) h
        · refine aw_aload_n C (tb_at ok_X8_maid 23 rfl) rfl ?_
          refine aw_getR C (ob_85 hn) rfl (by decide) rfl p_85_12 fl_RX8_35 (tb_at ok_X8_maid 24 rfl) ?_
          refine aw_aload_n C (tb_at ok_X8_maid 25 rfl) rfl ?_
          refine aw_get C (ob_85 hn) rfl (by decide) rfl fl_RX8_118 (tb_at ok_X8_maid 26 rfl) ?_
          refine aw_iload_n C (tb_at ok_X8_maid 27 rfl) rfl ?_
          refine sw_iast C (ob_92 hn) (tb_at ok_X8_maid 28 rfl) h (fun h => ?_)
          refine aw_aload_n C (tb_at ok_X8_maid 29 rfl) rfl ?_
          refine aw_getR C (ob_85 hn) rfl (by decide) rfl p_85_13 fl_RX8_38 (tb_at ok_X8_maid 30 rfl) ?_
          refine aw_aload_n C (tb_at ok_X8_maid 31 rfl) rfl ?_
          refine aw_get C (ob_85 hn) rfl (by decide) rfl fl_RX8_118 (tb_at ok_X8_maid 32 rfl) ?_
          refine aw_iload_n C (tb_at ok_X8_maid 33 rfl) rfl ?_
          refine sw_iast C (ob_93 hn) (tb_at ok_X8_maid 34 rfl) h (fun h => ?_)
          refine aw_aload_n C (tb_at ok_X8_maid 35 rfl) rfl ?_
          refine aw_getR C (ob_85 hn) rfl (by decide) rfl p_85_14 fl_RX8_41 (tb_at ok_X8_maid 36 rfl) ?_
          refine aw_aload_n C (tb_at ok_X8_maid 37 rfl) rfl ?_
          refine aw_get C (ob_85 hn) rfl (by decide) rfl fl_RX8_118 (tb_at ok_X8_maid 38 rfl) ?_
          refine aw_iload_n C (tb_at ok_X8_maid 39 rfl) rfl ?_
          refine sw_iast C (ob_94 hn) (tb_at ok_X8_maid 40 rfl) h (fun h => ?_)
          refine aw_aload_n C (tb_at ok_X8_maid 41 rfl) rfl ?_
          refine aw_getR C (ob_85 hn) rfl (by decide) rfl p_85_16 fl_RX8_47 (tb_at ok_X8_maid 42 rfl) ?_
          refine aw_aload_n C (tb_at ok_X8_maid 43 rfl) rfl ?_
          refine aw_get C (ob_85 hn) rfl (by decide) rfl fl_RX8_118 (tb_at ok_X8_maid 44 rfl) ?_
          refine aw_iconst C (tb_at ok_X8_maid 45 rfl) ki_0 ?_
          refine sw_iast C (ob_96 hn) (tb_at ok_X8_maid 46 rfl) h (fun h => ?_)
          refine aw_aload_n C (tb_at ok_X8_maid 47 rfl) rfl ?_
          refine aw_dup C (tb_at ok_X8_maid 48 rfl) rfl ?_
          refine aw_get C (ob_85 hn) rfl (by decide) rfl fl_RX8_118 (tb_at ok_X8_maid 49 rfl) ?_
          refine aw_iconst C (tb_at ok_X8_maid 50 rfl) ki_1 ?_
          refine aw_iadd C (tb_at ok_X8_maid 51 rfl) ?_
          refine sw_put C (ob_85 hn) rfl (by decide) (by decide) (Or.inr (by decide)) rfl rfl rfl rfl fl_RX8_118 (tb_at ok_X8_maid 52 rfl) ?_
          refine aw_aload_n C (tb_at ok_X8_maid 53 rfl) rfl ?_
          refine aw_get C (ob_85 hn) rfl (by decide) rfl fl_RX8_118 (tb_at ok_X8_maid 54 rfl) ?_
          refine aw_iconst C (tb_at ok_X8_maid 55 rfl) ki_1 ?_
          refine aw_isub C (tb_at ok_X8_maid 56 rfl) ?_
          exact sw_iret C S rfl (tb_at ok_X8_maid 57 rfl) h
theorem m_fM_maid {l : Launch} {w : Wd} {n : Nat} {a1 : Int32} {a2 : Int32} {a3 : Int32} {M : Mem} {r : Int32 × Mem} (hn : 113 ≤ n) (h : fM_maid a1 a2 a3 M = some r) : CM l w yX8_maid cX8_maid 4 (some .int) 3 0 0 [.ref 85, .int a1, .int a2, .int a3] n M (PD M) (Ti n r) := sm_of (loc := [some (.ref 85), some (.int a1), some (.int a2), some (.int a3)]) mf_X8_maid (by decide) (Nat.le_of_ble_eq_true rfl) rfl (fun K _ _ C S => t_fM_maid C S hn h)
def tb_X8_list : List (Nat × Instr × Nat) := [(0, .aload_n 0, 1), (1, .iload_n 1, 1), (2, .invokevirtual 131, 3), (5, .ifCond .eq 10, 3), (8, .iload_n 2, 1), (9, .invokestatic 124, 3), (12, .ifCond .ne 6, 3), (15, .bipush (-2), 2), (17, .ireturn, 1), (18, .aload_n 0, 1), (19, .getfield 47, 3), (22, .iload_n 1, 1), (23, .iaload, 1), (24, .iconst 5, 1), (25, .if_icmp .ne 6, 3), (28, .bipush (-4), 2), (30, .ireturn, 1), (31, .aload_n 0, 1), (32, .getfield 44, 3), (35, .iconst 5, 1), (36, .iload_n 1, 1), (37, .imul, 1), (38, .aload_n 0, 1), (39, .getfield 47, 3), (42, .iload_n 1, 1), (43, .iaload, 1), (44, .iadd, 1), (45, .iload_n 2, 1), (46, .iastore, 1), (47, .aload_n 0, 1), (48, .getfield 47, 3), (51, .iload_n 1, 1), (52, .dup2, 1), (53, .iaload, 1), (54, .iconst 1, 1), (55, .iadd, 1), (56, .iastore, 1), (57, .aload_n 0, 1), (58, .getfield 47, 3), (61, .iload_n 1, 1), (62, .iaload, 1), (63, .ireturn, 1)]
theorem ok_X8_list : TB cX8_list tb_X8_list := (by decide +kernel : tb_X8_list.all (fun q => tbq cX8_list q) = true)
set_option maxHeartbeats 4000000 in
set_option maxRecDepth 20000 in
theorem t_fM_list {K : Cx} {n : Nat} {a1 : Int32} {a2 : Int32} {M : Mem} {r : Int32 × Mem} (C : Ctx K RX8 cX8_list) (S : SS K n 3 3 (some .int) (Ti n r)) (hn : 113 ≤ n) (h : fM_list a1 a2 M = some r) : AS K n M 0 [some (.ref 85), some (.int a1), some (.int a2)] [] := by
  refine aw_aload_n C (tb_at ok_X8_list 0 rfl) rfl ?_
  refine aw_iload_n C (tb_at ok_X8_list 1 rfl) rfl ?_
  refine sw_cVi C S [.int a1] [] (tb_at ok_X8_list 2 rfl) h (fun q e => m_fM_isMaid hn e) mf_X8_isMaid (ob_85 hn) rfl rfl cw_RX8_131 rfl (by decide) rfl (Nat.le_of_ble_eq_true rfl) (fun r1 M1 h => ?_)
  refine aw_if_eq C 15 (tb_at ok_X8_list 3 rfl) (by decide) h (fun h => ?_) (fun h => ?_)
  · refine aw_bipush C (tb_at ok_X8_list 7 rfl) kb_m2 ?_
    exact sw_iret C S rfl (tb_at ok_X8_list 8 rfl) h
  · refine aw_iload_n C (tb_at ok_X8_list 4 rfl) rfl ?_
    refine sw_cSi C S [.int a2] [] (tb_at ok_X8_list 5 rfl) h (fun q e => m_fM_isRoom hn e) mf_X8_isRoom cw_RX8_124 rfl (by decide) rfl (Nat.le_of_ble_eq_true rfl) (fun r2 M2 h => ?_)
    refine aw_if_ne C 18 (tb_at ok_X8_list 6 rfl) (by decide) h (fun h => ?_) (fun h => ?_)
    · refine aw_bipush C (tb_at ok_X8_list 7 rfl) kb_m2 ?_
      exact sw_iret C S rfl (tb_at ok_X8_list 8 rfl) h
    · refine aw_aload_n C (tb_at ok_X8_list 9 rfl) rfl ?_
      refine aw_getR C (ob_85 hn) rfl (by decide) rfl p_85_16 fl_RX8_47 (tb_at ok_X8_list 10 rfl) ?_
      refine aw_iload_n C (tb_at ok_X8_list 11 rfl) rfl ?_
      refine aw_iald C (ob_96 hn) (tb_at ok_X8_list 12 rfl) h (fun h => ?_)
      refine aw_iconst C (tb_at ok_X8_list 13 rfl) ki_5 ?_
      refine aw_icmp_ne C 31 (tb_at ok_X8_list 14 rfl) (by decide) h (fun h => ?_) (fun h => ?_)
      · refine aw_bipush C (tb_at ok_X8_list 15 rfl) kb_m4 ?_
        exact sw_iret C S rfl (tb_at ok_X8_list 16 rfl) h
      · refine aw_aload_n C (tb_at ok_X8_list 17 rfl) rfl ?_
        refine aw_getR C (ob_85 hn) rfl (by decide) rfl p_85_15 fl_RX8_44 (tb_at ok_X8_list 18 rfl) ?_
        refine aw_iconst C (tb_at ok_X8_list 19 rfl) ki_5 ?_
        refine aw_iload_n C (tb_at ok_X8_list 20 rfl) rfl ?_
        refine aw_imul C (tb_at ok_X8_list 21 rfl) ?_
        refine aw_aload_n C (tb_at ok_X8_list 22 rfl) rfl ?_
        refine aw_getR C (ob_85 hn) rfl (by decide) rfl p_85_16 fl_RX8_47 (tb_at ok_X8_list 23 rfl) ?_
        refine aw_iload_n C (tb_at ok_X8_list 24 rfl) rfl ?_
        refine aw_iald C (ob_96 hn) (tb_at ok_X8_list 25 rfl) h (fun h => ?_)
        refine aw_iadd C (tb_at ok_X8_list 26 rfl) ?_
        refine aw_iload_n C (tb_at ok_X8_list 27 rfl) rfl ?_
        refine sw_iast C (ob_95 hn) (tb_at ok_X8_list 28 rfl) h (fun h => ?_)
        refine aw_aload_n C (tb_at ok_X8_list 29 rfl) rfl ?_
        refine aw_getR C (ob_85 hn) rfl (by decide) rfl p_85_16 fl_RX8_47 (tb_at ok_X8_list 30 rfl) ?_
        refine aw_iload_n C (tb_at ok_X8_list 31 rfl) rfl ?_
        refine aw_dup2 C (tb_at ok_X8_list 32 rfl) rfl rfl ?_
        refine aw_iald C (ob_96 hn) (tb_at ok_X8_list 33 rfl) h (fun h => ?_)
        refine aw_iconst C (tb_at ok_X8_list 34 rfl) ki_1 ?_
        refine aw_iadd C (tb_at ok_X8_list 35 rfl) ?_
        refine sw_iast C (ob_96 hn) (tb_at ok_X8_list 36 rfl) h (fun h => ?_)
        refine aw_aload_n C (tb_at ok_X8_list 37 rfl) rfl ?_
        refine aw_getR C (ob_85 hn) rfl (by decide) rfl p_85_16 fl_RX8_47 (tb_at ok_X8_list 38 rfl) ?_
        refine aw_iload_n C (tb_at ok_X8_list 39 rfl) rfl ?_
        refine aw_iald C (ob_96 hn) (tb_at ok_X8_list 40 rfl) h (fun h => ?_)
        exact sw_iret C S rfl (tb_at ok_X8_list 41 rfl) h
theorem m_fM_list {l : Launch} {w : Wd} {n : Nat} {a1 : Int32} {a2 : Int32} {M : Mem} {r : Int32 × Mem} (hn : 113 ≤ n) (h : fM_list a1 a2 M = some r) : CM l w yX8_list cX8_list 3 (some .int) 3 0 0 [.ref 85, .int a1, .int a2] n M (PD M) (Ti n r) := sm_of (loc := [some (.ref 85), some (.int a1), some (.int a2)]) mf_X8_list (by decide) (Nat.le_of_ble_eq_true rfl) rfl (fun K _ _ C S => t_fM_list C S hn h)
def tb_X8_clear : List (Nat × Instr × Nat) := [(0, .aload_n 0, 1), (1, .iload_n 1, 1), (2, .invokevirtual 131, 3), (5, .ifCond .ne 6, 3), (8, .bipush (-2), 2), (10, .ireturn, 1), (11, .aload_n 0, 1), (12, .getfield 47, 3), (15, .iload_n 1, 1), (16, .iaload, 1), (17, .istore_n 2, 1), (18, .aload_n 0, 1), (19, .getfield 47, 3), (22, .iload_n 1, 1), (23, .iconst 0, 1), (24, .iastore, 1), (25, .iload_n 2, 1), (26, .ireturn, 1)]
theorem ok_X8_clear : TB cX8_clear tb_X8_clear := (by decide +kernel : tb_X8_clear.all (fun q => tbq cX8_clear q) = true)
set_option maxHeartbeats 4000000 in
set_option maxRecDepth 20000 in
theorem t_fM_clear {K : Cx} {n : Nat} {a1 : Int32} {M : Mem} {r : Int32 × Mem} (C : Ctx K RX8 cX8_clear) (S : SS K n 3 3 (some .int) (Ti n r)) (hn : 113 ≤ n) (h : fM_clear a1 M = some r) : AS K n M 0 [some (.ref 85), some (.int a1), none] [] := by
  refine aw_aload_n C (tb_at ok_X8_clear 0 rfl) rfl ?_
  refine aw_iload_n C (tb_at ok_X8_clear 1 rfl) rfl ?_
  refine sw_cVi C S [.int a1] [] (tb_at ok_X8_clear 2 rfl) h (fun q e => m_fM_isMaid hn e) mf_X8_isMaid (ob_85 hn) rfl rfl cw_RX8_131 rfl (by decide) rfl (Nat.le_of_ble_eq_true rfl) (fun r1 M1 h => ?_)
  refine aw_if_ne C 11 (tb_at ok_X8_clear 3 rfl) (by decide) h (fun h => ?_) (fun h => ?_)
  · refine aw_bipush C (tb_at ok_X8_clear 4 rfl) kb_m2 ?_
    exact sw_iret C S rfl (tb_at ok_X8_clear 5 rfl) h
  · refine aw_aload_n C (tb_at ok_X8_clear 6 rfl) rfl ?_
    refine aw_getR C (ob_85 hn) rfl (by decide) rfl p_85_16 fl_RX8_47 (tb_at ok_X8_clear 7 rfl) ?_
    refine aw_iload_n C (tb_at ok_X8_clear 8 rfl) rfl ?_
    refine aw_iald C (ob_96 hn) (tb_at ok_X8_clear 9 rfl) h (fun h => ?_)
    refine aw_istore_n C [some (.ref 85), some (.int a1), some (.int (M1 96 (ix a1)))] (tb_at ok_X8_clear 10 rfl) S.2.2.2.1 (by decide) rfl ?_
    refine aw_aload_n C (tb_at ok_X8_clear 11 rfl) rfl ?_
    refine aw_getR C (ob_85 hn) rfl (by decide) rfl p_85_16 fl_RX8_47 (tb_at ok_X8_clear 12 rfl) ?_
    refine aw_iload_n C (tb_at ok_X8_clear 13 rfl) rfl ?_
    refine aw_iconst C (tb_at ok_X8_clear 14 rfl) ki_0 ?_
    refine sw_iast C (ob_96 hn) (tb_at ok_X8_clear 15 rfl) h (fun h => ?_)
    refine aw_iload_n C (tb_at ok_X8_clear 16 rfl) rfl ?_
    exact sw_iret C S rfl (tb_at ok_X8_clear 17 rfl) h
theorem m_fM_clear {l : Launch} {w : Wd} {n : Nat} {a1 : Int32} {M : Mem} {r : Int32 × Mem} (hn : 113 ≤ n) (h : fM_clear a1 M = some r) : CM l w yX8_clear cX8_clear 3 (some .int) 3 0 0 [.ref 85, .int a1] n M (PD M) (Ti n r) := sm_of (loc := [some (.ref 85), some (.int a1), none]) mf_X8_clear (by decide) (Nat.le_of_ble_eq_true rfl) rfl (fun K _ _ C S => t_fM_clear C S hn h)
def tb_X8_isBeside : List (Nat × Instr × Nat) := [(0, .iload_n 1, 1), (1, .iload_n 2, 1), (2, .if_icmp .ge 7, 3), (5, .iload_n 1, 1), (6, .goto 4, 3), (9, .iload_n 2, 1), (10, .istore_n 3, 1), (11, .iload_n 1, 1), (12, .iload_n 2, 1), (13, .if_icmp .ge 7, 3), (16, .iload_n 2, 1), (17, .goto 4, 3), (20, .iload_n 1, 1), (21, .istore 4, 2), (23, .iload 4, 2), (25, .iload_n 3, 1), (26, .isub, 1), (27, .iconst 1, 1), (28, .if_icmp .ne 14, 3), (31, .iload_n 3, 1), (32, .iconst 3, 1), (33, .if_icmp .eq 7, 3), (36, .iconst 1, 1), (37, .goto 4, 3), (40, .iconst 0, 1), (41, .ireturn, 1), (42, .iload 4, 2), (44, .iload_n 3, 1), (45, .isub, 1), (46, .iconst 4, 1), (47, .if_icmp .ne 34, 3), (50, .iload_n 3, 1), (51, .ifCond .ne 13, 3), (54, .aload_n 0, 1), (55, .getfield 23, 3), (58, .iconst 2, 1), (59, .irem, 1), (60, .iconst 1, 1), (61, .if_icmp .eq 16, 3), (64, .iload_n 3, 1), (65, .iconst 3, 1), (66, .if_icmp .ne 15, 3), (69, .aload_n 0, 1), (70, .getfield 23, 3), (73, .iconst 1, 1), (74, .if_icmp .le 7, 3), (77, .iconst 1, 1), (78, .goto 4, 3), (81, .iconst 0, 1), (82, .ireturn, 1)]
theorem ok_X8_isBeside : TB cX8_isBeside tb_X8_isBeside := (by decide +kernel : tb_X8_isBeside.all (fun q => tbq cX8_isBeside q) = true)
set_option maxHeartbeats 4000000 in
set_option maxRecDepth 20000 in
theorem t_fM_isBeside_b77 {K : Cx} {n : Nat} {M : Mem} {r : Int32 × Mem} (C : Ctx K RX8 cX8_isBeside) (S : SS K n 1 5 (some .boolean) (Ti n r)) (hn : 113 ≤ n) (h : fM_isBeside_b77 M = some r) : AS K n M 77 [none, none, none, none, none] [] := by
  refine aw_iconst C (tb_at ok_X8_isBeside 46 rfl) ki_1 ?_
  refine aw_goto C 82 (tb_at ok_X8_isBeside 47 rfl) (by decide) ?_
  exact sw_iret C S rfl (tb_at ok_X8_isBeside 49 rfl) h
set_option maxHeartbeats 4000000 in
set_option maxRecDepth 20000 in
theorem t_fM_isBeside_b64 {K : Cx} {n : Nat} {a3 : Int32} {M : Mem} {r : Int32 × Mem} (C : Ctx K RX8 cX8_isBeside) (S : SS K n 1 5 (some .boolean) (Ti n r)) (hn : 113 ≤ n) (h : fM_isBeside_b64 a3 M = some r) : AS K n M 64 [some (.ref 85), none, none, some (.int a3), none] [] := by
  refine aw_iload_n C (tb_at ok_X8_isBeside 39 rfl) rfl ?_
  refine aw_iconst C (tb_at ok_X8_isBeside 40 rfl) ki_3 ?_
  refine aw_icmp_ne C 81 (tb_at ok_X8_isBeside 41 rfl) (by decide) h (fun h => ?_) (fun h => ?_)
  · refine aw_aload_n C (tb_at ok_X8_isBeside 42 rfl) rfl ?_
    refine aw_get C (ob_85 hn) rfl (by decide) rfl fl_RX8_23 (tb_at ok_X8_isBeside 43 rfl) ?_
    refine aw_iconst C (tb_at ok_X8_isBeside 44 rfl) ki_1 ?_
    refine aw_icmp_le C 81 (tb_at ok_X8_isBeside 45 rfl) (by decide) h (fun h => ?_) (fun h => ?_)
    · refine aw_iconst C (tb_at ok_X8_isBeside 48 rfl) ki_0 ?_
      exact sw_iret C S rfl (tb_at ok_X8_isBeside 49 rfl) h
    · exact aw_loc [none, none, none, none, none] (sl_n (sl_n (sl_n (sl_n (sl_n sl_0))))) (t_fM_isBeside_b77 C S hn h)
  · refine aw_iconst C (tb_at ok_X8_isBeside 48 rfl) ki_0 ?_
    exact sw_iret C S rfl (tb_at ok_X8_isBeside 49 rfl) h
set_option maxHeartbeats 4000000 in
set_option maxRecDepth 20000 in
theorem t_fM_isBeside_b21 {K : Cx} {n : Nat} {a3 : Int32} {s0 : Int32} {M : Mem} {r : Int32 × Mem} (C : Ctx K RX8 cX8_isBeside) (S : SS K n 1 5 (some .boolean) (Ti n r)) (hn : 113 ≤ n) (h : fM_isBeside_b21 a3 s0 M = some r) : AS K n M 21 [some (.ref 85), none, none, some (.int a3), none] [.int s0] := by
  refine aw_istore C [some (.ref 85), none, none, some (.int a3), some (.int s0)] (tb_at ok_X8_isBeside 13 rfl) S.2.2.2.1 (by decide) rfl ?_
  refine aw_iload C (tb_at ok_X8_isBeside 14 rfl) rfl ?_
  refine aw_iload_n C (tb_at ok_X8_isBeside 15 rfl) rfl ?_
  refine aw_isub C (tb_at ok_X8_isBeside 16 rfl) ?_
  refine aw_iconst C (tb_at ok_X8_isBeside 17 rfl) ki_1 ?_
  refine aw_icmp_ne C 42 (tb_at ok_X8_isBeside 18 rfl) (by decide) h (fun h => ?_) (fun h => ?_)
  · refine aw_iload_n C (tb_at ok_X8_isBeside 19 rfl) rfl ?_
    refine aw_iconst C (tb_at ok_X8_isBeside 20 rfl) ki_3 ?_
    refine aw_icmp_eq C 40 (tb_at ok_X8_isBeside 21 rfl) (by decide) h (fun h => ?_) (fun h => ?_)
    · refine aw_iconst C (tb_at ok_X8_isBeside 24 rfl) ki_0 ?_
      exact sw_iret C S rfl (tb_at ok_X8_isBeside 25 rfl) h
    · refine aw_iconst C (tb_at ok_X8_isBeside 22 rfl) ki_1 ?_
      refine aw_goto C 41 (tb_at ok_X8_isBeside 23 rfl) (by decide) ?_
      exact sw_iret C S rfl (tb_at ok_X8_isBeside 25 rfl) h
  · refine aw_iload C (tb_at ok_X8_isBeside 26 rfl) rfl ?_
    refine aw_iload_n C (tb_at ok_X8_isBeside 27 rfl) rfl ?_
    refine aw_isub C (tb_at ok_X8_isBeside 28 rfl) ?_
    refine aw_iconst C (tb_at ok_X8_isBeside 29 rfl) ki_4 ?_
    refine aw_icmp_ne C 81 (tb_at ok_X8_isBeside 30 rfl) (by decide) h (fun h => ?_) (fun h => ?_)
    · refine aw_iload_n C (tb_at ok_X8_isBeside 31 rfl) rfl ?_
      refine aw_if_ne C 64 (tb_at ok_X8_isBeside 32 rfl) (by decide) h (fun h => ?_) (fun h => ?_)
      · refine aw_aload_n C (tb_at ok_X8_isBeside 33 rfl) rfl ?_
        refine aw_get C (ob_85 hn) rfl (by decide) rfl fl_RX8_23 (tb_at ok_X8_isBeside 34 rfl) ?_
        refine aw_iconst C (tb_at ok_X8_isBeside 35 rfl) ki_2 ?_
        refine aw_irem C (by decide) (tb_at ok_X8_isBeside 36 rfl) ?_
        refine aw_iconst C (tb_at ok_X8_isBeside 37 rfl) ki_1 ?_
        refine aw_icmp_eq C 77 (tb_at ok_X8_isBeside 38 rfl) (by decide) h (fun h => ?_) (fun h => ?_)
        · exact aw_loc [none, none, none, none, none] (sl_n (sl_n (sl_n (sl_n (sl_n sl_0))))) (t_fM_isBeside_b77 C S hn h)
        · exact aw_loc [some (.ref 85), none, none, some (.int a3), none] (sl_k (sl_n (sl_n (sl_k (sl_n sl_0))))) (t_fM_isBeside_b64 C S hn h)
      · exact aw_loc [some (.ref 85), none, none, some (.int a3), none] (sl_k (sl_n (sl_n (sl_k (sl_n sl_0))))) (t_fM_isBeside_b64 C S hn h)
    · refine aw_iconst C (tb_at ok_X8_isBeside 48 rfl) ki_0 ?_
      exact sw_iret C S rfl (tb_at ok_X8_isBeside 49 rfl) h
set_option maxHeartbeats 4000000 in
set_option maxRecDepth 20000 in
theorem t_fM_isBeside_b10 {K : Cx} {n : Nat} {a1 : Int32} {a2 : Int32} {s0 : Int32} {M : Mem} {r : Int32 × Mem} (C : Ctx K RX8 cX8_isBeside) (S : SS K n 1 5 (some .boolean) (Ti n r)) (hn : 113 ≤ n) (h : fM_isBeside_b10 a1 a2 s0 M = some r) : AS K n M 10 [some (.ref 85), some (.int a1), some (.int a2), none, none] [.int s0] := by
  refine aw_istore_n C [some (.ref 85), some (.int a1), some (.int a2), some (.int s0), none] (tb_at ok_X8_isBeside 6 rfl) S.2.2.2.1 (by decide) rfl ?_
  refine aw_iload_n C (tb_at ok_X8_isBeside 7 rfl) rfl ?_
  refine aw_iload_n C (tb_at ok_X8_isBeside 8 rfl) rfl ?_
  refine aw_icmp_ge C 20 (tb_at ok_X8_isBeside 9 rfl) (by decide) h (fun h => ?_) (fun h => ?_)
  · refine aw_iload_n C (tb_at ok_X8_isBeside 12 rfl) rfl ?_
    exact aw_loc [some (.ref 85), none, none, some (.int s0), none] (sl_k (sl_n (sl_n (sl_k (sl_n sl_0))))) (t_fM_isBeside_b21 C S hn h)
  · refine aw_iload_n C (tb_at ok_X8_isBeside 10 rfl) rfl ?_
    refine aw_goto C 21 (tb_at ok_X8_isBeside 11 rfl) (by decide) ?_
    exact aw_loc [some (.ref 85), none, none, some (.int s0), none] (sl_k (sl_n (sl_n (sl_k (sl_n sl_0))))) (t_fM_isBeside_b21 C S hn h)
set_option maxHeartbeats 4000000 in
set_option maxRecDepth 20000 in
theorem t_fM_isBeside {K : Cx} {n : Nat} {a1 : Int32} {a2 : Int32} {M : Mem} {r : Int32 × Mem} (C : Ctx K RX8 cX8_isBeside) (S : SS K n 1 5 (some .boolean) (Ti n r)) (hn : 113 ≤ n) (h : fM_isBeside a1 a2 M = some r) : AS K n M 0 [some (.ref 85), some (.int a1), some (.int a2), none, none] [] := by
  refine aw_iload_n C (tb_at ok_X8_isBeside 0 rfl) rfl ?_
  refine aw_iload_n C (tb_at ok_X8_isBeside 1 rfl) rfl ?_
  refine aw_icmp_ge C 9 (tb_at ok_X8_isBeside 2 rfl) (by decide) h (fun h => ?_) (fun h => ?_)
  · refine aw_iload_n C (tb_at ok_X8_isBeside 5 rfl) rfl ?_
    exact aw_loc [some (.ref 85), some (.int a1), some (.int a2), none, none] (sl_k (sl_k (sl_k (sl_n (sl_n sl_0))))) (t_fM_isBeside_b10 C S hn h)
  · refine aw_iload_n C (tb_at ok_X8_isBeside 3 rfl) rfl ?_
    refine aw_goto C 10 (tb_at ok_X8_isBeside 4 rfl) (by decide) ?_
    exact aw_loc [some (.ref 85), some (.int a1), some (.int a2), none, none] (sl_k (sl_k (sl_k (sl_n (sl_n sl_0))))) (t_fM_isBeside_b10 C S hn h)
theorem m_fM_isBeside {l : Launch} {w : Wd} {n : Nat} {a1 : Int32} {a2 : Int32} {M : Mem} {r : Int32 × Mem} (hn : 113 ≤ n) (h : fM_isBeside a1 a2 M = some r) : CM l w yX8_isBeside cX8_isBeside 5 (some .boolean) 1 0 0 [.ref 85, .int a1, .int a2] n M (PD M) (Ti n r) := sm_of (loc := [some (.ref 85), some (.int a1), some (.int a2), none, none]) mf_X8_isBeside (by decide) (Nat.le_of_ble_eq_true rfl) rfl (fun K _ _ C S => t_fM_isBeside C S hn h)
def tb_X8_gathers : List (Nat × Instr × Nat) := [(0, .iconst 0, 1), (1, .istore_n 1, 1), (2, .iload_n 1, 1), (3, .bipush 8, 2), (5, .if_icmp .ge 58, 3), (8, .iconst 0, 1), (9, .istore_n 2, 1), (10, .iload_n 2, 1), (11, .bipush 8, 2), (13, .if_icmp .ge 44, 3), (16, .aload_n 0, 1), (17, .getfield 53, 3), (20, .bipush 8, 2), (22, .iload_n 1, 1), (23, .imul, 1), (24, .iload_n 2, 1), (25, .iadd, 1), (26, .iload_n 1, 1), (27, .iload_n 2, 1), (28, .if_icmp .ne 7, 3), (31, .iconst 0, 1), (32, .goto 18, 3), (35, .aload_n 0, 1), (36, .iload_n 1, 1), (37, .iload_n 2, 1), (38, .invokevirtual 160, 3), (41, .ifCond .eq 7, 3), (44, .iconst 1, 1), (45, .goto 5, 3), (48, .bipush 8, 2), (50, .iastore, 1), (51, .iinc 2 1, 3), (54, .goto (-44), 3), (57, .iinc 1 1, 3), (60, .goto (-58), 3), (63, .iconst 0, 1), (64, .istore_n 1, 1), (65, .iload_n 1, 1), (66, .bipush 8, 2), (68, .if_icmp .ge 91, 3), (71, .iconst 0, 1), (72, .istore_n 2, 1), (73, .iload_n 2, 1), (74, .bipush 8, 2), (76, .if_icmp .ge 77, 3), (79, .iconst 0, 1), (80, .istore_n 3, 1), (81, .iload_n 3, 1), (82, .bipush 8, 2), (84, .if_icmp .ge 63, 3), (87, .aload_n 0, 1), (88, .getfield 53, 3), (91, .bipush 8, 2), (93, .iload_n 2, 1), (94, .imul, 1), (95, .iload_n 1, 1), (96, .iadd, 1), (97, .iaload, 1), (98, .aload_n 0, 1), (99, .getfield 53, 3), (102, .bipush 8, 2), (104, .iload_n 1, 1), (105, .imul, 1), (106, .iload_n 3, 1), (107, .iadd, 1), (108, .iaload, 1), (109, .iadd, 1), (110, .istore 4, 2), (112, .iload 4, 2), (114, .aload_n 0, 1), (115, .getfield 53, 3), (118, .bipush 8, 2), (120, .iload_n 2, 1), (121, .imul, 1), (122, .iload_n 3, 1), (123, .iadd, 1), (124, .iaload, 1), (125, .if_icmp .ge 16, 3), (128, .aload_n 0, 1), (129, .getfield 53, 3), (132, .bipush 8, 2), (134, .iload_n 2, 1), (135, .imul, 1), (136, .iload_n 3, 1), (137, .iadd, 1), (138, .iload 4, 2), (140, .iastore, 1), (141, .iinc 3 1, 3), (144, .goto (-63), 3), (147, .iinc 2 1, 3), (150, .goto (-77), 3), (153, .iinc 1 1, 3), (156, .goto (-91), 3), (159, .return_, 1)]
theorem ok_X8_gathers : TB cX8_gathers tb_X8_gathers := (by decide +kernel : tb_X8_gathers.all (fun q => tbq cX8_gathers q) = true)
set_option maxHeartbeats 4000000 in
set_option maxRecDepth 20000 in
theorem t_fM_gathers_b141 {K : Cx} {n : Nat} {k65 : Int32 → Mem → Option (Mem)} {k73 : Int32 → Mem → Option (Mem)} {k81 : Int32 → Mem → Option (Mem)} {a1 : Int32} {a2 : Int32} {a3 : Int32} {M : Mem} {r : Mem} (C : Ctx K RX8 cX8_gathers) (S : SS K n 2 5 none (Tv n r)) (hn : 113 ≤ n) (hk65 : ∀ (va1 : Int32) (M1 : Mem), k65 va1 M1 = some r → AS K n M1 65 [some (.ref 85), some (.int va1), none, none, none] []) (hk73 : ∀ (va2 : Int32) (M1 : Mem), k73 va2 M1 = some r → AS K n M1 73 [some (.ref 85), some (.int a1), some (.int va2), none, none] []) (hk81 : ∀ (va3 : Int32) (M1 : Mem), k81 va3 M1 = some r → AS K n M1 81 [some (.ref 85), some (.int a1), some (.int a2), some (.int va3), none] []) (h : fM_gathers_b141 k65 k73 k81 a1 a2 a3 M = some r) : AS K n M 141 [some (.ref 85), some (.int a1), some (.int a2), some (.int a3), none] [] := by
  refine aw_iinc C [some (.ref 85), some (.int a1), some (.int a2), some (.int (a3 + 1)), none] (tb_at ok_X8_gathers 87 rfl) rfl S.2.2.2.1 (by decide) ki_1 rfl ?_
  refine aw_goto C 81 (tb_at ok_X8_gathers 88 rfl) (by decide) ?_
  exact aw_loc [some (.ref 85), some (.int a1), some (.int a2), some (.int (a3 + 1)), none] (sl_k (sl_k (sl_k (sl_k (sl_n sl_0))))) (hk81 _ _ h)
set_option maxHeartbeats 4000000 in
set_option maxRecDepth 20000 in
theorem t_fM_gathers_b81 {K : Cx} {n : Nat} {k65 : Int32 → Mem → Option (Mem)} {k73 : Int32 → Mem → Option (Mem)} {a1 : Int32} {a2 : Int32} {r : Mem} (C : Ctx K RX8 cX8_gathers) (S : SS K n 2 5 none (Tv n r)) (hn : 113 ≤ n) (hk65 : ∀ (va1 : Int32) (M1 : Mem), k65 va1 M1 = some r → AS K n M1 65 [some (.ref 85), some (.int va1), none, none, none] []) (hk73 : ∀ (va2 : Int32) (M1 : Mem), k73 va2 M1 = some r → AS K n M1 73 [some (.ref 85), some (.int a1), some (.int va2), none, none] []) : ∀ (z : Nat) (a3 : Int32) (M : Mem), fM_gathers_b81 k65 k73 a1 a2 z a3 M = some r → AS K n M 81 [some (.ref 85), some (.int a1), some (.int a2), some (.int a3), none] [] := by
  intro z
  induction z with
  | zero => intro a3 M h; cases h
  | succ z ih =>
    intro a3 M h
    refine aw_iload_n C (tb_at ok_X8_gathers 47 rfl) rfl ?_
    refine aw_bipush C (tb_at ok_X8_gathers 48 rfl) kb_8 ?_
    refine aw_icmp_ge C 147 (tb_at ok_X8_gathers 49 rfl) (by decide) h (fun h => ?_) (fun h => ?_)
    · refine aw_iinc C [some (.ref 85), some (.int a1), some (.int (a2 + 1)), some (.int a3), none] (tb_at ok_X8_gathers 89 rfl) rfl S.2.2.2.1 (by decide) ki_1 rfl ?_
      refine aw_goto C 73 (tb_at ok_X8_gathers 90 rfl) (by decide) ?_
      exact aw_loc [some (.ref 85), some (.int a1), some (.int (a2 + 1)), none, none] (sl_k (sl_k (sl_k (sl_n (sl_n sl_0))))) (hk73 _ _ h)
    · refine aw_aload_n C (tb_at ok_X8_gathers 50 rfl) rfl ?_
      refine aw_getR C (ob_85 hn) rfl (by decide) rfl p_85_19 fl_RX8_53 (tb_at ok_X8_gathers 51 rfl) ?_
      refine aw_bipush C (tb_at ok_X8_gathers 52 rfl) kb_8 ?_
      refine aw_iload_n C (tb_at ok_X8_gathers 53 rfl) rfl ?_
      refine aw_imul C (tb_at ok_X8_gathers 54 rfl) ?_
      refine aw_iload_n C (tb_at ok_X8_gathers 55 rfl) rfl ?_
      refine aw_iadd C (tb_at ok_X8_gathers 56 rfl) ?_
      refine aw_iald C (ob_97 hn) (tb_at ok_X8_gathers 57 rfl) h (fun h => ?_)
      refine aw_aload_n C (tb_at ok_X8_gathers 58 rfl) rfl ?_
      refine aw_getR C (ob_85 hn) rfl (by decide) rfl p_85_19 fl_RX8_53 (tb_at ok_X8_gathers 59 rfl) ?_
      refine aw_bipush C (tb_at ok_X8_gathers 60 rfl) kb_8 ?_
      refine aw_iload_n C (tb_at ok_X8_gathers 61 rfl) rfl ?_
      refine aw_imul C (tb_at ok_X8_gathers 62 rfl) ?_
      refine aw_iload_n C (tb_at ok_X8_gathers 63 rfl) rfl ?_
      refine aw_iadd C (tb_at ok_X8_gathers 64 rfl) ?_
      refine aw_iald C (ob_97 hn) (tb_at ok_X8_gathers 65 rfl) h (fun h => ?_)
      refine aw_iadd C (tb_at ok_X8_gathers 66 rfl) ?_
      refine aw_istore C [some (.ref 85), some (.int a1), some (.int a2), some (.int a3), some (.int ((M 97 (ix ((8 * a2) + a1))) + (M 97 (ix ((8 * a1) + a3)))))] (tb_at ok_X8_gathers 67 rfl) S.2.2.2.1 (by decide) rfl ?_
      refine aw_iload C (tb_at ok_X8_gathers 68 rfl) rfl ?_
      refine aw_aload_n C (tb_at ok_X8_gathers 69 rfl) rfl ?_
      refine aw_getR C (ob_85 hn) rfl (by decide) rfl p_85_19 fl_RX8_53 (tb_at ok_X8_gathers 70 rfl) ?_
      refine aw_bipush C (tb_at ok_X8_gathers 71 rfl) kb_8 ?_
      refine aw_iload_n C (tb_at ok_X8_gathers 72 rfl) rfl ?_
      refine aw_imul C (tb_at ok_X8_gathers 73 rfl) ?_
      refine aw_iload_n C (tb_at ok_X8_gathers 74 rfl) rfl ?_
      refine aw_iadd C (tb_at ok_X8_gathers 75 rfl) ?_
      refine aw_iald C (ob_97 hn) (tb_at ok_X8_gathers 76 rfl) h (fun h => ?_)
      refine aw_icmp_ge C 141 (tb_at ok_X8_gathers 77 rfl) (by decide) h (fun h => ?_) (fun h => ?_)
      · exact aw_loc [some (.ref 85), some (.int a1), some (.int a2), some (.int a3), none] (sl_k (sl_k (sl_k (sl_k (sl_n sl_0))))) (t_fM_gathers_b141 C S hn hk65 hk73 ih h)
      · refine aw_aload_n C (tb_at ok_X8_gathers 78 rfl) rfl ?_
        refine aw_getR C (ob_85 hn) rfl (by decide) rfl p_85_19 fl_RX8_53 (tb_at ok_X8_gathers 79 rfl) ?_
        refine aw_bipush C (tb_at ok_X8_gathers 80 rfl) kb_8 ?_
        refine aw_iload_n C (tb_at ok_X8_gathers 81 rfl) rfl ?_
        refine aw_imul C (tb_at ok_X8_gathers 82 rfl) ?_
        refine aw_iload_n C (tb_at ok_X8_gathers 83 rfl) rfl ?_
        refine aw_iadd C (tb_at ok_X8_gathers 84 rfl) ?_
        refine aw_iload C (tb_at ok_X8_gathers 85 rfl) rfl ?_
        refine sw_iast C (ob_97 hn) (tb_at ok_X8_gathers 86 rfl) h (fun h => ?_)
        exact aw_loc [some (.ref 85), some (.int a1), some (.int a2), some (.int a3), none] (sl_k (sl_k (sl_k (sl_k (sl_n sl_0))))) (t_fM_gathers_b141 C S hn hk65 hk73 ih h)
set_option maxHeartbeats 4000000 in
set_option maxRecDepth 20000 in
theorem t_fM_gathers_b73 {K : Cx} {n : Nat} {k65 : Int32 → Mem → Option (Mem)} {a1 : Int32} {r : Mem} (C : Ctx K RX8 cX8_gathers) (S : SS K n 2 5 none (Tv n r)) (hn : 113 ≤ n) (hk65 : ∀ (va1 : Int32) (M1 : Mem), k65 va1 M1 = some r → AS K n M1 65 [some (.ref 85), some (.int va1), none, none, none] []) : ∀ (z : Nat) (a2 : Int32) (M : Mem), fM_gathers_b73 k65 a1 z a2 M = some r → AS K n M 73 [some (.ref 85), some (.int a1), some (.int a2), none, none] [] := by
  intro z
  induction z with
  | zero => intro a2 M h; cases h
  | succ z ih =>
    intro a2 M h
    refine aw_iload_n C (tb_at ok_X8_gathers 42 rfl) rfl ?_
    refine aw_bipush C (tb_at ok_X8_gathers 43 rfl) kb_8 ?_
    refine aw_icmp_ge C 153 (tb_at ok_X8_gathers 44 rfl) (by decide) h (fun h => ?_) (fun h => ?_)
    · refine aw_iinc C [some (.ref 85), some (.int (a1 + 1)), some (.int a2), none, none] (tb_at ok_X8_gathers 91 rfl) rfl S.2.2.2.1 (by decide) ki_1 rfl ?_
      refine aw_goto C 65 (tb_at ok_X8_gathers 92 rfl) (by decide) ?_
      exact aw_loc [some (.ref 85), some (.int (a1 + 1)), none, none, none] (sl_k (sl_k (sl_n (sl_n (sl_n sl_0))))) (hk65 _ _ h)
    · refine aw_iconst C (tb_at ok_X8_gathers 45 rfl) ki_0 ?_
      refine aw_istore_n C [some (.ref 85), some (.int a1), some (.int a2), some (.int 0), none] (tb_at ok_X8_gathers 46 rfl) S.2.2.2.1 (by decide) rfl ?_
      exact aw_loc [some (.ref 85), some (.int a1), some (.int a2), some (.int 0), none] (sl_k (sl_k (sl_k (sl_k (sl_n sl_0))))) (t_fM_gathers_b81 C S hn hk65 ih 1000 _ _ h)
set_option maxHeartbeats 4000000 in
set_option maxRecDepth 20000 in
theorem t_fM_gathers_b65 {K : Cx} {n : Nat} {r : Mem} (C : Ctx K RX8 cX8_gathers) (S : SS K n 2 5 none (Tv n r)) (hn : 113 ≤ n) : ∀ (z : Nat) (a1 : Int32) (M : Mem), fM_gathers_b65 z a1 M = some r → AS K n M 65 [some (.ref 85), some (.int a1), none, none, none] [] := by
  intro z
  induction z with
  | zero => intro a1 M h; cases h
  | succ z ih =>
    intro a1 M h
    refine aw_iload_n C (tb_at ok_X8_gathers 37 rfl) rfl ?_
    refine aw_bipush C (tb_at ok_X8_gathers 38 rfl) kb_8 ?_
    refine aw_icmp_ge C 159 (tb_at ok_X8_gathers 39 rfl) (by decide) h (fun h => ?_) (fun h => ?_)
    · exact sw_vret C S (tb_at ok_X8_gathers 93 rfl) h
    · refine aw_iconst C (tb_at ok_X8_gathers 40 rfl) ki_0 ?_
      refine aw_istore_n C [some (.ref 85), some (.int a1), some (.int 0), none, none] (tb_at ok_X8_gathers 41 rfl) S.2.2.2.1 (by decide) rfl ?_
      exact aw_loc [some (.ref 85), some (.int a1), some (.int 0), none, none] (sl_k (sl_k (sl_k (sl_n (sl_n sl_0))))) (t_fM_gathers_b73 C S hn ih 1000 _ _ h)
set_option maxHeartbeats 4000000 in
set_option maxRecDepth 20000 in
theorem t_fM_gathers_b50 {K : Cx} {n : Nat} {k2 : Int32 → Mem → Option (Mem)} {k10 : Int32 → Mem → Option (Mem)} {a1 : Int32} {a2 : Int32} {s0 : Int32} {s1 : Int32} {M : Mem} {r : Mem} (C : Ctx K RX8 cX8_gathers) (S : SS K n 2 5 none (Tv n r)) (hn : 113 ≤ n) (hk2 : ∀ (va1 : Int32) (M1 : Mem), k2 va1 M1 = some r → AS K n M1 2 [some (.ref 85), some (.int va1), none, none, none] []) (hk10 : ∀ (va2 : Int32) (M1 : Mem), k10 va2 M1 = some r → AS K n M1 10 [some (.ref 85), some (.int a1), some (.int va2), none, none] []) (h : fM_gathers_b50 k2 k10 a1 a2 s0 s1 M = some r) : AS K n M 50 [some (.ref 85), some (.int a1), some (.int a2), none, none] [.int s0, .int s1, .ref 97] := by
  refine sw_iast C (ob_97 hn) (tb_at ok_X8_gathers 30 rfl) h (fun h => ?_)
  refine aw_iinc C [some (.ref 85), some (.int a1), some (.int (a2 + 1)), none, none] (tb_at ok_X8_gathers 31 rfl) rfl S.2.2.2.1 (by decide) ki_1 rfl ?_
  refine aw_goto C 10 (tb_at ok_X8_gathers 32 rfl) (by decide) ?_
  exact aw_loc [some (.ref 85), some (.int a1), some (.int (a2 + 1)), none, none] (sl_k (sl_k (sl_k (sl_n (sl_n sl_0))))) (hk10 _ _ h)
set_option maxHeartbeats 4000000 in
set_option maxRecDepth 20000 in
theorem t_fM_gathers_b10 {K : Cx} {n : Nat} {k2 : Int32 → Mem → Option (Mem)} {a1 : Int32} {r : Mem} (C : Ctx K RX8 cX8_gathers) (S : SS K n 2 5 none (Tv n r)) (hn : 113 ≤ n) (hk2 : ∀ (va1 : Int32) (M1 : Mem), k2 va1 M1 = some r → AS K n M1 2 [some (.ref 85), some (.int va1), none, none, none] []) : ∀ (z : Nat) (a2 : Int32) (M : Mem), fM_gathers_b10 k2 a1 z a2 M = some r → AS K n M 10 [some (.ref 85), some (.int a1), some (.int a2), none, none] [] := by
  intro z
  induction z with
  | zero => intro a2 M h; cases h
  | succ z ih =>
    intro a2 M h
    refine aw_iload_n C (tb_at ok_X8_gathers 7 rfl) rfl ?_
    refine aw_bipush C (tb_at ok_X8_gathers 8 rfl) kb_8 ?_
    refine aw_icmp_ge C 57 (tb_at ok_X8_gathers 9 rfl) (by decide) h (fun h => ?_) (fun h => ?_)
    · refine aw_iinc C [some (.ref 85), some (.int (a1 + 1)), some (.int a2), none, none] (tb_at ok_X8_gathers 33 rfl) rfl S.2.2.2.1 (by decide) ki_1 rfl ?_
      refine aw_goto C 2 (tb_at ok_X8_gathers 34 rfl) (by decide) ?_
      exact aw_loc [some (.ref 85), some (.int (a1 + 1)), none, none, none] (sl_k (sl_k (sl_n (sl_n (sl_n sl_0))))) (hk2 _ _ h)
    · refine aw_aload_n C (tb_at ok_X8_gathers 10 rfl) rfl ?_
      refine aw_getR C (ob_85 hn) rfl (by decide) rfl p_85_19 fl_RX8_53 (tb_at ok_X8_gathers 11 rfl) ?_
      refine aw_bipush C (tb_at ok_X8_gathers 12 rfl) kb_8 ?_
      refine aw_iload_n C (tb_at ok_X8_gathers 13 rfl) rfl ?_
      refine aw_imul C (tb_at ok_X8_gathers 14 rfl) ?_
      refine aw_iload_n C (tb_at ok_X8_gathers 15 rfl) rfl ?_
      refine aw_iadd C (tb_at ok_X8_gathers 16 rfl) ?_
      refine aw_iload_n C (tb_at ok_X8_gathers 17 rfl) rfl ?_
      refine aw_iload_n C (tb_at ok_X8_gathers 18 rfl) rfl ?_
      refine aw_icmp_ne C 35 (tb_at ok_X8_gathers 19 rfl) (by decide) h (fun h => ?_) (fun h => ?_)
      · refine aw_iconst C (tb_at ok_X8_gathers 20 rfl) ki_0 ?_
        refine aw_goto C 50 (tb_at ok_X8_gathers 21 rfl) (by decide) ?_
        exact aw_loc [some (.ref 85), some (.int a1), some (.int a2), none, none] (sl_k (sl_k (sl_k (sl_n (sl_n sl_0))))) (t_fM_gathers_b50 C S hn hk2 ih h)
      · refine aw_aload_n C (tb_at ok_X8_gathers 22 rfl) rfl ?_
        refine aw_iload_n C (tb_at ok_X8_gathers 23 rfl) rfl ?_
        refine aw_iload_n C (tb_at ok_X8_gathers 24 rfl) rfl ?_
        refine sw_cVi C S [.int a1, .int a2] [.int ((8 * a1) + a2), .ref 97] (tb_at ok_X8_gathers 25 rfl) h (fun q e => m_fM_isBeside hn e) mf_X8_isBeside (ob_85 hn) rfl rfl cw_RX8_160 rfl (by decide) rfl (Nat.le_of_ble_eq_true rfl) (fun r1 M1 h => ?_)
        refine aw_if_eq C 48 (tb_at ok_X8_gathers 26 rfl) (by decide) h (fun h => ?_) (fun h => ?_)
        · refine aw_bipush C (tb_at ok_X8_gathers 29 rfl) kb_8 ?_
          exact aw_loc [some (.ref 85), some (.int a1), some (.int a2), none, none] (sl_k (sl_k (sl_k (sl_n (sl_n sl_0))))) (t_fM_gathers_b50 C S hn hk2 ih h)
        · refine aw_iconst C (tb_at ok_X8_gathers 27 rfl) ki_1 ?_
          refine aw_goto C 50 (tb_at ok_X8_gathers 28 rfl) (by decide) ?_
          exact aw_loc [some (.ref 85), some (.int a1), some (.int a2), none, none] (sl_k (sl_k (sl_k (sl_n (sl_n sl_0))))) (t_fM_gathers_b50 C S hn hk2 ih h)
set_option maxHeartbeats 4000000 in
set_option maxRecDepth 20000 in
theorem t_fM_gathers_b2 {K : Cx} {n : Nat} {r : Mem} (C : Ctx K RX8 cX8_gathers) (S : SS K n 2 5 none (Tv n r)) (hn : 113 ≤ n) : ∀ (z : Nat) (a1 : Int32) (M : Mem), fM_gathers_b2 z a1 M = some r → AS K n M 2 [some (.ref 85), some (.int a1), none, none, none] [] := by
  intro z
  induction z with
  | zero => intro a1 M h; cases h
  | succ z ih =>
    intro a1 M h
    refine aw_iload_n C (tb_at ok_X8_gathers 2 rfl) rfl ?_
    refine aw_bipush C (tb_at ok_X8_gathers 3 rfl) kb_8 ?_
    refine aw_icmp_ge C 63 (tb_at ok_X8_gathers 4 rfl) (by decide) h (fun h => ?_) (fun h => ?_)
    · refine aw_iconst C (tb_at ok_X8_gathers 35 rfl) ki_0 ?_
      refine aw_istore_n C [some (.ref 85), some (.int 0), none, none, none] (tb_at ok_X8_gathers 36 rfl) S.2.2.2.1 (by decide) rfl ?_
      exact aw_loc [some (.ref 85), some (.int 0), none, none, none] (sl_k (sl_k (sl_n (sl_n (sl_n sl_0))))) (t_fM_gathers_b65 C S hn 1000 _ _ h)
    · refine aw_iconst C (tb_at ok_X8_gathers 5 rfl) ki_0 ?_
      refine aw_istore_n C [some (.ref 85), some (.int a1), some (.int 0), none, none] (tb_at ok_X8_gathers 6 rfl) S.2.2.2.1 (by decide) rfl ?_
      exact aw_loc [some (.ref 85), some (.int a1), some (.int 0), none, none] (sl_k (sl_k (sl_k (sl_n (sl_n sl_0))))) (t_fM_gathers_b10 C S hn ih 1000 _ _ h)
set_option maxHeartbeats 4000000 in
set_option maxRecDepth 20000 in
theorem t_fM_gathers {K : Cx} {n : Nat} {M : Mem} {r : Mem} (C : Ctx K RX8 cX8_gathers) (S : SS K n 2 5 none (Tv n r)) (hn : 113 ≤ n) (h : fM_gathers M = some r) : AS K n M 0 [some (.ref 85), none, none, none, none] [] := by
  refine aw_iconst C (tb_at ok_X8_gathers 0 rfl) ki_0 ?_
  refine aw_istore_n C [some (.ref 85), some (.int 0), none, none, none] (tb_at ok_X8_gathers 1 rfl) S.2.2.2.1 (by decide) rfl ?_
  exact aw_loc [some (.ref 85), some (.int 0), none, none, none] (sl_k (sl_k (sl_n (sl_n (sl_n sl_0))))) (t_fM_gathers_b2 C S hn 1000 _ _ h)
theorem m_fM_gathers {l : Launch} {w : Wd} {n : Nat} {M : Mem} {r : Mem} (hn : 113 ≤ n) (h : fM_gathers M = some r) : CM l w yX8_gathers cX8_gathers 5 none 2 0 0 [.ref 85] n M (PD M) (Tv n r) := sm_of (loc := [some (.ref 85), none, none, none, none]) mf_X8_gathers (by decide) (Nat.le_of_ble_eq_true rfl) rfl (fun K _ _ C S => t_fM_gathers C S hn h)
def tb_X8_nextTo : List (Nat × Instr × Nat) := [(0, .iload_n 1, 1), (1, .iload_n 2, 1), (2, .if_icmp .eq 19, 3), (5, .aload_n 0, 1), (6, .getfield 53, 3), (9, .bipush 8, 2), (11, .iload_n 1, 1), (12, .imul, 1), (13, .iload_n 2, 1), (14, .iadd, 1), (15, .iaload, 1), (16, .bipush 7, 2), (18, .if_icmp .le 5, 3), (21, .iconst (-1), 1), (22, .ireturn, 1), (23, .iconst (-1), 1), (24, .istore_n 3, 1), (25, .iconst 0, 1), (26, .istore 4, 2), (28, .iload 4, 2), (30, .bipush 8, 2), (32, .if_icmp .ge 53, 3), (35, .aload_n 0, 1), (36, .iload_n 1, 1), (37, .iload 4, 2), (39, .invokevirtual 160, 3), (42, .ifCond .eq 37, 3), (45, .iload_n 3, 1), (46, .iconst (-1), 1), (47, .if_icmp .eq 29, 3), (50, .aload_n 0, 1), (51, .getfield 53, 3), (54, .bipush 8, 2), (56, .iload 4, 2), (58, .imul, 1), (59, .iload_n 2, 1), (60, .iadd, 1), (61, .iaload, 1), (62, .aload_n 0, 1), (63, .getfield 53, 3), (66, .bipush 8, 2), (68, .iload_n 3, 1), (69, .imul, 1), (70, .iload_n 2, 1), (71, .iadd, 1), (72, .iaload, 1), (73, .if_icmp .ge 6, 3), (76, .iload 4, 2), (78, .istore_n 3, 1), (79, .iinc 4 1, 3), (82, .goto (-54), 3), (85, .iload_n 3, 1), (86, .ireturn, 1)]
theorem ok_X8_nextTo : TB cX8_nextTo tb_X8_nextTo := (by decide +kernel : tb_X8_nextTo.all (fun q => tbq cX8_nextTo q) = true)
set_option maxHeartbeats 4000000 in
set_option maxRecDepth 20000 in
theorem t_fM_nextTo_b79 {K : Cx} {n : Nat} {k28 : Int32 → Int32 → Mem → Option (Int32 × Mem)} {a1 : Int32} {a2 : Int32} {a3 : Int32} {a4 : Int32} {M : Mem} {r : Int32 × Mem} (C : Ctx K RX8 cX8_nextTo) (S : SS K n 2 5 (some .int) (Ti n r)) (hn : 113 ≤ n) (hk28 : ∀ (va3 : Int32) (va4 : Int32) (M1 : Mem), k28 va3 va4 M1 = some r → AS K n M1 28 [some (.ref 85), some (.int a1), some (.int a2), some (.int va3), some (.int va4)] []) (h : fM_nextTo_b79 k28 a1 a2 a3 a4 M = some r) : AS K n M 79 [some (.ref 85), some (.int a1), some (.int a2), some (.int a3), some (.int a4)] [] := by
  refine aw_iinc C [some (.ref 85), some (.int a1), some (.int a2), some (.int a3), some (.int (a4 + 1))] (tb_at ok_X8_nextTo 49 rfl) rfl S.2.2.2.1 (by decide) ki_1 rfl ?_
  refine aw_goto C 28 (tb_at ok_X8_nextTo 50 rfl) (by decide) ?_
  exact aw_loc [some (.ref 85), some (.int a1), some (.int a2), some (.int a3), some (.int (a4 + 1))] (sl_k (sl_k (sl_k (sl_k (sl_k sl_0))))) (hk28 _ _ _ h)
set_option maxHeartbeats 4000000 in
set_option maxRecDepth 20000 in
theorem t_fM_nextTo_b76 {K : Cx} {n : Nat} {k28 : Int32 → Int32 → Mem → Option (Int32 × Mem)} {a1 : Int32} {a2 : Int32} {a4 : Int32} {M : Mem} {r : Int32 × Mem} (C : Ctx K RX8 cX8_nextTo) (S : SS K n 2 5 (some .int) (Ti n r)) (hn : 113 ≤ n) (hk28 : ∀ (va3 : Int32) (va4 : Int32) (M1 : Mem), k28 va3 va4 M1 = some r → AS K n M1 28 [some (.ref 85), some (.int a1), some (.int a2), some (.int va3), some (.int va4)] []) (h : fM_nextTo_b76 k28 a1 a2 a4 M = some r) : AS K n M 76 [some (.ref 85), some (.int a1), some (.int a2), none, some (.int a4)] [] := by
  refine aw_iload C (tb_at ok_X8_nextTo 47 rfl) rfl ?_
  refine aw_istore_n C [some (.ref 85), some (.int a1), some (.int a2), some (.int a4), some (.int a4)] (tb_at ok_X8_nextTo 48 rfl) S.2.2.2.1 (by decide) rfl ?_
  exact aw_loc [some (.ref 85), some (.int a1), some (.int a2), some (.int a4), some (.int a4)] (sl_k (sl_k (sl_k (sl_k (sl_k sl_0))))) (t_fM_nextTo_b79 C S hn hk28 h)
set_option maxHeartbeats 4000000 in
set_option maxRecDepth 20000 in
theorem t_fM_nextTo_b28 {K : Cx} {n : Nat} {a1 : Int32} {a2 : Int32} {r : Int32 × Mem} (C : Ctx K RX8 cX8_nextTo) (S : SS K n 2 5 (some .int) (Ti n r)) (hn : 113 ≤ n) : ∀ (z : Nat) (a3 : Int32) (a4 : Int32) (M : Mem), fM_nextTo_b28 a1 a2 z a3 a4 M = some r → AS K n M 28 [some (.ref 85), some (.int a1), some (.int a2), some (.int a3), some (.int a4)] [] := by
  intro z
  induction z with
  | zero => intro a3 a4 M h; cases h
  | succ z ih =>
    intro a3 a4 M h
    refine aw_iload C (tb_at ok_X8_nextTo 19 rfl) rfl ?_
    refine aw_bipush C (tb_at ok_X8_nextTo 20 rfl) kb_8 ?_
    refine aw_icmp_ge C 85 (tb_at ok_X8_nextTo 21 rfl) (by decide) h (fun h => ?_) (fun h => ?_)
    · refine aw_iload_n C (tb_at ok_X8_nextTo 51 rfl) rfl ?_
      exact sw_iret C S rfl (tb_at ok_X8_nextTo 52 rfl) h
    · refine aw_aload_n C (tb_at ok_X8_nextTo 22 rfl) rfl ?_
      refine aw_iload_n C (tb_at ok_X8_nextTo 23 rfl) rfl ?_
      refine aw_iload C (tb_at ok_X8_nextTo 24 rfl) rfl ?_
      refine sw_cVi C S [.int a1, .int a4] [] (tb_at ok_X8_nextTo 25 rfl) h (fun q e => m_fM_isBeside hn e) mf_X8_isBeside (ob_85 hn) rfl rfl cw_RX8_160 rfl (by decide) rfl (Nat.le_of_ble_eq_true rfl) (fun r1 M1 h => ?_)
      refine aw_if_eq C 79 (tb_at ok_X8_nextTo 26 rfl) (by decide) h (fun h => ?_) (fun h => ?_)
      · exact aw_loc [some (.ref 85), some (.int a1), some (.int a2), some (.int a3), some (.int a4)] (sl_k (sl_k (sl_k (sl_k (sl_k sl_0))))) (t_fM_nextTo_b79 C S hn ih h)
      · refine aw_iload_n C (tb_at ok_X8_nextTo 27 rfl) rfl ?_
        refine aw_iconst C (tb_at ok_X8_nextTo 28 rfl) ki_m1 ?_
        refine aw_icmp_eq C 76 (tb_at ok_X8_nextTo 29 rfl) (by decide) h (fun h => ?_) (fun h => ?_)
        · exact aw_loc [some (.ref 85), some (.int a1), some (.int a2), none, some (.int a4)] (sl_k (sl_k (sl_k (sl_n (sl_k sl_0))))) (t_fM_nextTo_b76 C S hn ih h)
        · refine aw_aload_n C (tb_at ok_X8_nextTo 30 rfl) rfl ?_
          refine aw_getR C (ob_85 hn) rfl (by decide) rfl p_85_19 fl_RX8_53 (tb_at ok_X8_nextTo 31 rfl) ?_
          refine aw_bipush C (tb_at ok_X8_nextTo 32 rfl) kb_8 ?_
          refine aw_iload C (tb_at ok_X8_nextTo 33 rfl) rfl ?_
          refine aw_imul C (tb_at ok_X8_nextTo 34 rfl) ?_
          refine aw_iload_n C (tb_at ok_X8_nextTo 35 rfl) rfl ?_
          refine aw_iadd C (tb_at ok_X8_nextTo 36 rfl) ?_
          refine aw_iald C (ob_97 hn) (tb_at ok_X8_nextTo 37 rfl) h (fun h => ?_)
          refine aw_aload_n C (tb_at ok_X8_nextTo 38 rfl) rfl ?_
          refine aw_getR C (ob_85 hn) rfl (by decide) rfl p_85_19 fl_RX8_53 (tb_at ok_X8_nextTo 39 rfl) ?_
          refine aw_bipush C (tb_at ok_X8_nextTo 40 rfl) kb_8 ?_
          refine aw_iload_n C (tb_at ok_X8_nextTo 41 rfl) rfl ?_
          refine aw_imul C (tb_at ok_X8_nextTo 42 rfl) ?_
          refine aw_iload_n C (tb_at ok_X8_nextTo 43 rfl) rfl ?_
          refine aw_iadd C (tb_at ok_X8_nextTo 44 rfl) ?_
          refine aw_iald C (ob_97 hn) (tb_at ok_X8_nextTo 45 rfl) h (fun h => ?_)
          refine aw_icmp_ge C 79 (tb_at ok_X8_nextTo 46 rfl) (by decide) h (fun h => ?_) (fun h => ?_)
          · exact aw_loc [some (.ref 85), some (.int a1), some (.int a2), some (.int a3), some (.int a4)] (sl_k (sl_k (sl_k (sl_k (sl_k sl_0))))) (t_fM_nextTo_b79 C S hn ih h)
          · exact aw_loc [some (.ref 85), some (.int a1), some (.int a2), none, some (.int a4)] (sl_k (sl_k (sl_k (sl_n (sl_k sl_0))))) (t_fM_nextTo_b76 C S hn ih h)
set_option maxHeartbeats 4000000 in
set_option maxRecDepth 20000 in
theorem t_fM_nextTo {K : Cx} {n : Nat} {a1 : Int32} {a2 : Int32} {M : Mem} {r : Int32 × Mem} (C : Ctx K RX8 cX8_nextTo) (S : SS K n 2 5 (some .int) (Ti n r)) (hn : 113 ≤ n) (h : fM_nextTo a1 a2 M = some r) : AS K n M 0 [some (.ref 85), some (.int a1), some (.int a2), none, none] [] := by
  refine aw_iload_n C (tb_at ok_X8_nextTo 0 rfl) rfl ?_
  refine aw_iload_n C (tb_at ok_X8_nextTo 1 rfl) rfl ?_
  refine aw_icmp_eq C 21 (tb_at ok_X8_nextTo 2 rfl) (by decide) h (fun h => ?_) (fun h => ?_)
  · refine aw_iconst C (tb_at ok_X8_nextTo 13 rfl) ki_m1 ?_
    exact sw_iret C S rfl (tb_at ok_X8_nextTo 14 rfl) h
  · refine aw_aload_n C (tb_at ok_X8_nextTo 3 rfl) rfl ?_
    refine aw_getR C (ob_85 hn) rfl (by decide) rfl p_85_19 fl_RX8_53 (tb_at ok_X8_nextTo 4 rfl) ?_
    refine aw_bipush C (tb_at ok_X8_nextTo 5 rfl) kb_8 ?_
    refine aw_iload_n C (tb_at ok_X8_nextTo 6 rfl) rfl ?_
    refine aw_imul C (tb_at ok_X8_nextTo 7 rfl) ?_
    refine aw_iload_n C (tb_at ok_X8_nextTo 8 rfl) rfl ?_
    refine aw_iadd C (tb_at ok_X8_nextTo 9 rfl) ?_
    refine aw_iald C (ob_97 hn) (tb_at ok_X8_nextTo 10 rfl) h (fun h => ?_)
    refine aw_bipush C (tb_at ok_X8_nextTo 11 rfl) kb_7 ?_
    refine aw_icmp_le C 23 (tb_at ok_X8_nextTo 12 rfl) (by decide) h (fun h => ?_) (fun h => ?_)
    · refine aw_iconst C (tb_at ok_X8_nextTo 15 rfl) ki_m1 ?_
      refine aw_istore_n C [some (.ref 85), some (.int a1), some (.int a2), some (.int (-1)), none] (tb_at ok_X8_nextTo 16 rfl) S.2.2.2.1 (by decide) rfl ?_
      refine aw_iconst C (tb_at ok_X8_nextTo 17 rfl) ki_0 ?_
      refine aw_istore C [some (.ref 85), some (.int a1), some (.int a2), some (.int (-1)), some (.int 0)] (tb_at ok_X8_nextTo 18 rfl) S.2.2.2.1 (by decide) rfl ?_
      exact aw_loc [some (.ref 85), some (.int a1), some (.int a2), some (.int (-1)), some (.int 0)] (sl_k (sl_k (sl_k (sl_k (sl_k sl_0))))) (t_fM_nextTo_b28 C S hn 1000 _ _ _ h)
    · refine aw_iconst C (tb_at ok_X8_nextTo 13 rfl) ki_m1 ?_
      exact sw_iret C S rfl (tb_at ok_X8_nextTo 14 rfl) h
theorem m_fM_nextTo {l : Launch} {w : Wd} {n : Nat} {a1 : Int32} {a2 : Int32} {M : Mem} {r : Int32 × Mem} (hn : 113 ≤ n) (h : fM_nextTo a1 a2 M = some r) : CM l w yX8_nextTo cX8_nextTo 5 (some .int) 2 0 0 [.ref 85, .int a1, .int a2] n M (PD M) (Ti n r) := sm_of (loc := [some (.ref 85), some (.int a1), some (.int a2), none, none]) mf_X8_nextTo (by decide) (Nat.le_of_ble_eq_true rfl) rfl (fun K _ _ C S => t_fM_nextTo C S hn h)
def tb_X8_way : List (Nat × Instr × Nat) := [(0, .iload_n 1, 1), (1, .invokestatic 124, 3), (4, .ifCond .eq 20, 3), (7, .iload_n 2, 1), (8, .invokestatic 124, 3), (11, .ifCond .eq 13, 3), (14, .iload_n 3, 1), (15, .i2l, 1), (16, .lconst 0, 1), (17, .lconst 1, 1), (18, .invokestatic 114, 3), (21, .ifCond .ne 6, 3), (24, .bipush (-2), 2), (26, .ireturn, 1), (27, .aload_n 0, 1), (28, .invokevirtual 163, 3), (31, .iload_n 3, 1), (32, .ifCond .ne 17, 3), (35, .aload_n 0, 1), (36, .getfield 53, 3), (39, .bipush 8, 2), (41, .iload_n 1, 1), (42, .imul, 1), (43, .iload_n 2, 1), (44, .iadd, 1), (45, .iaload, 1), (46, .goto 9, 3), (49, .aload_n 0, 1), (50, .iload_n 1, 1), (51, .iload_n 2, 1), (52, .invokevirtual 166, 3), (55, .ireturn, 1)]
theorem ok_X8_way : TB cX8_way tb_X8_way := (by decide +kernel : tb_X8_way.all (fun q => tbq cX8_way q) = true)
set_option maxHeartbeats 4000000 in
set_option maxRecDepth 20000 in
theorem t_fM_way {K : Cx} {n : Nat} {a1 : Int32} {a2 : Int32} {a3 : Int32} {M : Mem} {r : Int32 × Mem} (C : Ctx K RX8 cX8_way) (S : SS K n 3 4 (some .int) (Ti n r)) (hn : 113 ≤ n) (h : fM_way a1 a2 a3 M = some r) : AS K n M 0 [some (.ref 85), some (.int a1), some (.int a2), some (.int a3)] [] := by
  refine aw_iload_n C (tb_at ok_X8_way 0 rfl) rfl ?_
  refine sw_cSi C S [.int a1] [] (tb_at ok_X8_way 1 rfl) h (fun q e => m_fM_isRoom hn e) mf_X8_isRoom cw_RX8_124 rfl (by decide) rfl (Nat.le_of_ble_eq_true rfl) (fun r1 M1 h => ?_)
  refine aw_if_eq C 24 (tb_at ok_X8_way 2 rfl) (by decide) h (fun h => ?_) (fun h => ?_)
  · refine aw_bipush C (tb_at ok_X8_way 12 rfl) kb_m2 ?_
    exact sw_iret C S rfl (tb_at ok_X8_way 13 rfl) h
  · refine aw_iload_n C (tb_at ok_X8_way 3 rfl) rfl ?_
    refine sw_cSi C S [.int a2] [] (tb_at ok_X8_way 4 rfl) h (fun q e => m_fM_isRoom hn e) mf_X8_isRoom cw_RX8_124 rfl (by decide) rfl (Nat.le_of_ble_eq_true rfl) (fun r2 M2 h => ?_)
    refine aw_if_eq C 24 (tb_at ok_X8_way 5 rfl) (by decide) h (fun h => ?_) (fun h => ?_)
    · refine aw_bipush C (tb_at ok_X8_way 12 rfl) kb_m2 ?_
      exact sw_iret C S rfl (tb_at ok_X8_way 13 rfl) h
    · refine aw_iload_n C (tb_at ok_X8_way 6 rfl) rfl ?_
      refine aw_i2l C (tb_at ok_X8_way 7 rfl) ?_
      refine aw_lconst C (tb_at ok_X8_way 8 rfl) kl_0 ?_
      refine aw_lconst C (tb_at ok_X8_way 9 rfl) kl_1 ?_
      refine sw_cSi C S [.long (a3.toInt64), .long (0 : Int64), .long (1 : Int64)] [] (tb_at ok_X8_way 10 rfl) h (fun q e => m_fM_in hn e) mf_X8_in cw_RX8_114 rfl (by decide) rfl (Nat.le_of_ble_eq_true rfl) (fun r3 M3 h => ?_)
      refine aw_if_ne C 27 (tb_at ok_X8_way 11 rfl) (by decide) h (fun h => ?_) (fun h => ?_)
      · refine aw_bipush C (tb_at ok_X8_way 12 rfl) kb_m2 ?_
        exact sw_iret C S rfl (tb_at ok_X8_way 13 rfl) h
      · refine aw_aload_n C (tb_at ok_X8_way 14 rfl) rfl ?_
        refine sw_cVv C S [] [] (tb_at ok_X8_way 15 rfl) h (fun q e => m_fM_gathers hn e) mf_X8_gathers (ob_85 hn) rfl rfl cw_RX8_163 rfl (by decide) rfl (Nat.le_of_ble_eq_true rfl) (fun M4 h => ?_)
        refine aw_iload_n C (tb_at ok_X8_way 16 rfl) rfl ?_
        refine aw_if_ne C 49 (tb_at ok_X8_way 17 rfl) (by decide) h (fun h => ?_) (fun h => ?_)
        · refine aw_aload_n C (tb_at ok_X8_way 18 rfl) rfl ?_
          refine aw_getR C (ob_85 hn) rfl (by decide) rfl p_85_19 fl_RX8_53 (tb_at ok_X8_way 19 rfl) ?_
          refine aw_bipush C (tb_at ok_X8_way 20 rfl) kb_8 ?_
          refine aw_iload_n C (tb_at ok_X8_way 21 rfl) rfl ?_
          refine aw_imul C (tb_at ok_X8_way 22 rfl) ?_
          refine aw_iload_n C (tb_at ok_X8_way 23 rfl) rfl ?_
          refine aw_iadd C (tb_at ok_X8_way 24 rfl) ?_
          refine aw_iald C (ob_97 hn) (tb_at ok_X8_way 25 rfl) h (fun h => ?_)
          refine aw_goto C 55 (tb_at ok_X8_way 26 rfl) (by decide) ?_
          exact sw_iret C S rfl (tb_at ok_X8_way 31 rfl) h
        · refine aw_aload_n C (tb_at ok_X8_way 27 rfl) rfl ?_
          refine aw_iload_n C (tb_at ok_X8_way 28 rfl) rfl ?_
          refine aw_iload_n C (tb_at ok_X8_way 29 rfl) rfl ?_
          refine sw_cVi C S [.int a1, .int a2] [] (tb_at ok_X8_way 30 rfl) h (fun q e => m_fM_nextTo hn e) mf_X8_nextTo (ob_85 hn) rfl rfl cw_RX8_166 rfl (by decide) rfl (Nat.le_of_ble_eq_true rfl) (fun r5 M5 h => ?_)
          exact sw_iret C S rfl (tb_at ok_X8_way 31 rfl) h
theorem m_fM_way {l : Launch} {w : Wd} {n : Nat} {a1 : Int32} {a2 : Int32} {a3 : Int32} {M : Mem} {r : Int32 × Mem} (hn : 113 ≤ n) (h : fM_way a1 a2 a3 M = some r) : CM l w yX8_way cX8_way 4 (some .int) 3 0 0 [.ref 85, .int a1, .int a2, .int a3] n M (PD M) (Ti n r) := sm_of (loc := [some (.ref 85), some (.int a1), some (.int a2), some (.int a3)]) mf_X8_way (by decide) (Nat.le_of_ble_eq_true rfl) rfl (fun K _ _ C S => t_fM_way C S hn h)
def tb_X8_masterIn : List (Nat × Instr × Nat) := [(0, .iconst 0, 1), (1, .istore_n 2, 1), (2, .iconst 0, 1), (3, .istore_n 3, 1), (4, .iload_n 3, 1), (5, .aload_n 0, 1), (6, .getfield 121, 3), (9, .if_icmp .ge 18, 3), (12, .iload_n 2, 1), (13, .aload_n 0, 1), (14, .getfield 32, 3), (17, .iload_n 3, 1), (18, .iaload, 1), (19, .iadd, 1), (20, .istore_n 2, 1), (21, .iinc 3 1, 3), (24, .goto (-20), 3), (27, .iload_n 2, 1), (28, .ifCond .ne 5, 3), (31, .iconst (-1), 1), (32, .ireturn, 1), (33, .iload_n 1, 1), (34, .iload_n 2, 1), (35, .irem, 1), (36, .istore_n 3, 1), (37, .iconst 0, 1), (38, .istore 4, 2), (40, .iload_n 3, 1), (41, .aload_n 0, 1), (42, .getfield 32, 3), (45, .iload 4, 2), (47, .iaload, 1), (48, .if_icmp .lt 19, 3), (51, .iload_n 3, 1), (52, .aload_n 0, 1), (53, .getfield 32, 3), (56, .iload 4, 2), (58, .iaload, 1), (59, .isub, 1), (60, .istore_n 3, 1), (61, .iinc 4 1, 3), (64, .goto (-24), 3), (67, .aload_n 0, 1), (68, .getfield 29, 3), (71, .iload 4, 2), (73, .iaload, 1), (74, .ireturn, 1)]
theorem ok_X8_masterIn : TB cX8_masterIn tb_X8_masterIn := (by decide +kernel : tb_X8_masterIn.all (fun q => tbq cX8_masterIn q) = true)
set_option maxHeartbeats 4000000 in
set_option maxRecDepth 20000 in
theorem t_fM_masterIn_b40 {K : Cx} {n : Nat} {r : Int32 × Mem} (C : Ctx K RX8 cX8_masterIn) (S : SS K n 1 5 (some .int) (Ti n r)) (hn : 113 ≤ n) : ∀ (z : Nat) (a3 : Int32) (a4 : Int32) (M : Mem), fM_masterIn_b40 z a3 a4 M = some r → AS K n M 40 [some (.ref 85), none, none, some (.int a3), some (.int a4)] [] := by
  intro z
  induction z with
  | zero => intro a3 a4 M h; cases h
  | succ z ih =>
    intro a3 a4 M h
    refine aw_iload_n C (tb_at ok_X8_masterIn 27 rfl) rfl ?_
    refine aw_aload_n C (tb_at ok_X8_masterIn 28 rfl) rfl ?_
    refine aw_getR C (ob_85 hn) rfl (by decide) rfl p_85_10 fl_RX8_32 (tb_at ok_X8_masterIn 29 rfl) ?_
    refine aw_iload C (tb_at ok_X8_masterIn 30 rfl) rfl ?_
    refine aw_iald C (ob_91 hn) (tb_at ok_X8_masterIn 31 rfl) h (fun h => ?_)
    refine aw_icmp_lt C 67 (tb_at ok_X8_masterIn 32 rfl) (by decide) h (fun h => ?_) (fun h => ?_)
    · refine aw_aload_n C (tb_at ok_X8_masterIn 42 rfl) rfl ?_
      refine aw_getR C (ob_85 hn) rfl (by decide) rfl p_85_9 fl_RX8_29 (tb_at ok_X8_masterIn 43 rfl) ?_
      refine aw_iload C (tb_at ok_X8_masterIn 44 rfl) rfl ?_
      refine aw_iald C (ob_90 hn) (tb_at ok_X8_masterIn 45 rfl) h (fun h => ?_)
      exact sw_iret C S rfl (tb_at ok_X8_masterIn 46 rfl) h
    · refine aw_iload_n C (tb_at ok_X8_masterIn 33 rfl) rfl ?_
      refine aw_aload_n C (tb_at ok_X8_masterIn 34 rfl) rfl ?_
      refine aw_getR C (ob_85 hn) rfl (by decide) rfl p_85_10 fl_RX8_32 (tb_at ok_X8_masterIn 35 rfl) ?_
      refine aw_iload C (tb_at ok_X8_masterIn 36 rfl) rfl ?_
      refine aw_iald C (ob_91 hn) (tb_at ok_X8_masterIn 37 rfl) h (fun h => ?_)
      refine aw_isub C (tb_at ok_X8_masterIn 38 rfl) ?_
      refine aw_istore_n C [some (.ref 85), none, none, some (.int (a3 - (M 91 (ix a4)))), some (.int a4)] (tb_at ok_X8_masterIn 39 rfl) S.2.2.2.1 (by decide) rfl ?_
      refine aw_iinc C [some (.ref 85), none, none, some (.int (a3 - (M 91 (ix a4)))), some (.int (a4 + 1))] (tb_at ok_X8_masterIn 40 rfl) rfl S.2.2.2.1 (by decide) ki_1 rfl ?_
      refine aw_goto C 40 (tb_at ok_X8_masterIn 41 rfl) (by decide) ?_
      exact aw_loc [some (.ref 85), none, none, some (.int (a3 - (M 91 (ix a4)))), some (.int (a4 + 1))] (sl_k (sl_n (sl_n (sl_k (sl_k sl_0))))) (ih _ _ _ h)
set_option maxHeartbeats 4000000 in
set_option maxRecDepth 20000 in
theorem t_fM_masterIn_b4 {K : Cx} {n : Nat} {a1 : Int32} {r : Int32 × Mem} (C : Ctx K RX8 cX8_masterIn) (S : SS K n 1 5 (some .int) (Ti n r)) (hn : 113 ≤ n) : ∀ (z : Nat) (a2 : Int32) (a3 : Int32) (M : Mem), fM_masterIn_b4 a1 z a2 a3 M = some r → AS K n M 4 [some (.ref 85), some (.int a1), some (.int a2), some (.int a3), none] [] := by
  intro z
  induction z with
  | zero => intro a2 a3 M h; cases h
  | succ z ih =>
    intro a2 a3 M h
    refine aw_iload_n C (tb_at ok_X8_masterIn 4 rfl) rfl ?_
    refine aw_aload_n C (tb_at ok_X8_masterIn 5 rfl) rfl ?_
    refine aw_get C (ob_85 hn) rfl (by decide) rfl fl_RX8_121 (tb_at ok_X8_masterIn 6 rfl) ?_
    refine aw_icmp_ge C 27 (tb_at ok_X8_masterIn 7 rfl) (by decide) h (fun h => ?_) (fun h => ?_)
    · refine aw_iload_n C (tb_at ok_X8_masterIn 17 rfl) rfl ?_
      refine aw_if_ne C 33 (tb_at ok_X8_masterIn 18 rfl) (by decide) h (fun h => ?_) (fun h => ?_)
      · refine aw_iconst C (tb_at ok_X8_masterIn 19 rfl) ki_m1 ?_
        exact sw_iret C S rfl (tb_at ok_X8_masterIn 20 rfl) h
      · refine aw_iload_n C (tb_at ok_X8_masterIn 21 rfl) rfl ?_
        refine aw_iload_n C (tb_at ok_X8_masterIn 22 rfl) rfl ?_
        refine sw_irem C (tb_at ok_X8_masterIn 23 rfl) h (fun h => ?_)
        refine aw_istore_n C [some (.ref 85), some (.int a1), some (.int a2), some (.int (a1 - a1 / a2 * a2)), none] (tb_at ok_X8_masterIn 24 rfl) S.2.2.2.1 (by decide) rfl ?_
        refine aw_iconst C (tb_at ok_X8_masterIn 25 rfl) ki_0 ?_
        refine aw_istore C [some (.ref 85), some (.int a1), some (.int a2), some (.int (a1 - a1 / a2 * a2)), some (.int 0)] (tb_at ok_X8_masterIn 26 rfl) S.2.2.2.1 (by decide) rfl ?_
        exact aw_loc [some (.ref 85), none, none, some (.int (a1 - a1 / a2 * a2)), some (.int 0)] (sl_k (sl_n (sl_n (sl_k (sl_k sl_0))))) (t_fM_masterIn_b40 C S hn 1000 _ _ _ h)
    · refine aw_iload_n C (tb_at ok_X8_masterIn 8 rfl) rfl ?_
      refine aw_aload_n C (tb_at ok_X8_masterIn 9 rfl) rfl ?_
      refine aw_getR C (ob_85 hn) rfl (by decide) rfl p_85_10 fl_RX8_32 (tb_at ok_X8_masterIn 10 rfl) ?_
      refine aw_iload_n C (tb_at ok_X8_masterIn 11 rfl) rfl ?_
      refine aw_iald C (ob_91 hn) (tb_at ok_X8_masterIn 12 rfl) h (fun h => ?_)
      refine aw_iadd C (tb_at ok_X8_masterIn 13 rfl) ?_
      refine aw_istore_n C [some (.ref 85), some (.int a1), some (.int (a2 + (M 91 (ix a3)))), some (.int a3), none] (tb_at ok_X8_masterIn 14 rfl) S.2.2.2.1 (by decide) rfl ?_
      refine aw_iinc C [some (.ref 85), some (.int a1), some (.int (a2 + (M 91 (ix a3)))), some (.int (a3 + 1)), none] (tb_at ok_X8_masterIn 15 rfl) rfl S.2.2.2.1 (by decide) ki_1 rfl ?_
      refine aw_goto C 4 (tb_at ok_X8_masterIn 16 rfl) (by decide) ?_
      exact aw_loc [some (.ref 85), some (.int a1), some (.int (a2 + (M 91 (ix a3)))), some (.int (a3 + 1)), none] (sl_k (sl_k (sl_k (sl_k (sl_n sl_0))))) (ih _ _ _ h)
set_option maxHeartbeats 4000000 in
set_option maxRecDepth 20000 in
theorem t_fM_masterIn {K : Cx} {n : Nat} {a1 : Int32} {M : Mem} {r : Int32 × Mem} (C : Ctx K RX8 cX8_masterIn) (S : SS K n 1 5 (some .int) (Ti n r)) (hn : 113 ≤ n) (h : fM_masterIn a1 M = some r) : AS K n M 0 [some (.ref 85), some (.int a1), none, none, none] [] := by
  refine aw_iconst C (tb_at ok_X8_masterIn 0 rfl) ki_0 ?_
  refine aw_istore_n C [some (.ref 85), some (.int a1), some (.int 0), none, none] (tb_at ok_X8_masterIn 1 rfl) S.2.2.2.1 (by decide) rfl ?_
  refine aw_iconst C (tb_at ok_X8_masterIn 2 rfl) ki_0 ?_
  refine aw_istore_n C [some (.ref 85), some (.int a1), some (.int 0), some (.int 0), none] (tb_at ok_X8_masterIn 3 rfl) S.2.2.2.1 (by decide) rfl ?_
  exact aw_loc [some (.ref 85), some (.int a1), some (.int 0), some (.int 0), none] (sl_k (sl_k (sl_k (sl_k (sl_n sl_0))))) (t_fM_masterIn_b4 C S hn 1000 _ _ _ h)
theorem m_fM_masterIn {l : Launch} {w : Wd} {n : Nat} {a1 : Int32} {M : Mem} {r : Int32 × Mem} (hn : 113 ≤ n) (h : fM_masterIn a1 M = some r) : CM l w yX8_masterIn cX8_masterIn 5 (some .int) 1 0 0 [.ref 85, .int a1] n M (PD M) (Ti n r) := sm_of (loc := [some (.ref 85), some (.int a1), none, none, none]) mf_X8_masterIn (by decide) (Nat.le_of_ble_eq_true rfl) rfl (fun K _ _ C S => t_fM_masterIn C S hn h)
def tb_X8_master : List (Nat × Instr × Nat) := [(0, .iload_n 1, 1), (1, .i2l, 1), (2, .lconst 0, 1), (3, .ldc2_w 142, 3), (6, .invokestatic 114, 3), (9, .ifCond .eq 11, 3), (12, .aload_n 0, 1), (13, .iload_n 1, 1), (14, .invokevirtual 169, 3), (17, .goto 5, 3), (20, .bipush (-2), 2), (22, .ireturn, 1)]
theorem ok_X8_master : TB cX8_master tb_X8_master := (by decide +kernel : tb_X8_master.all (fun q => tbq cX8_master q) = true)
set_option maxHeartbeats 4000000 in
set_option maxRecDepth 20000 in
theorem t_fM_master {K : Cx} {n : Nat} {a1 : Int32} {M : Mem} {r : Int32 × Mem} (C : Ctx K RX8 cX8_master) (S : SS K n 2 2 (some .int) (Ti n r)) (hn : 113 ≤ n) (h : fM_master a1 M = some r) : AS K n M 0 [some (.ref 85), some (.int a1)] [] := by
  refine aw_iload_n C (tb_at ok_X8_master 0 rfl) rfl ?_
  refine aw_i2l C (tb_at ok_X8_master 1 rfl) ?_
  refine aw_lconst C (tb_at ok_X8_master 2 rfl) kl_0 ?_
  refine aw_ldc2 C kc_RX8_142 (tb_at ok_X8_master 3 rfl) ?_
  refine sw_cSi C S [.long (a1.toInt64), .long (0 : Int64), .long (99 : Int64)] [] (tb_at ok_X8_master 4 rfl) h (fun q e => m_fM_in hn e) mf_X8_in cw_RX8_114 rfl (by decide) rfl (Nat.le_of_ble_eq_true rfl) (fun r1 M1 h => ?_)
  refine aw_if_eq C 20 (tb_at ok_X8_master 5 rfl) (by decide) h (fun h => ?_) (fun h => ?_)
  · refine aw_bipush C (tb_at ok_X8_master 10 rfl) kb_m2 ?_
    exact sw_iret C S rfl (tb_at ok_X8_master 11 rfl) h
  · refine aw_aload_n C (tb_at ok_X8_master 6 rfl) rfl ?_
    refine aw_iload_n C (tb_at ok_X8_master 7 rfl) rfl ?_
    refine sw_cVi C S [.int a1] [] (tb_at ok_X8_master 8 rfl) h (fun q e => m_fM_masterIn hn e) mf_X8_masterIn (ob_85 hn) rfl rfl cw_RX8_169 rfl (by decide) rfl (Nat.le_of_ble_eq_true rfl) (fun r2 M2 h => ?_)
    refine aw_goto C 22 (tb_at ok_X8_master 9 rfl) (by decide) ?_
    exact sw_iret C S rfl (tb_at ok_X8_master 11 rfl) h
theorem m_fM_master {l : Launch} {w : Wd} {n : Nat} {a1 : Int32} {M : Mem} {r : Int32 × Mem} (hn : 113 ≤ n) (h : fM_master a1 M = some r) : CM l w yX8_master cX8_master 2 (some .int) 2 0 0 [.ref 85, .int a1] n M (PD M) (Ti n r) := sm_of (loc := [some (.ref 85), some (.int a1)]) mf_X8_master (by decide) (Nat.le_of_ble_eq_true rfl) rfl (fun K _ _ C S => t_fM_master C S hn h)
def tb_X8_free : List (Nat × Instr × Nat) := [(0, .iload_n 1, 1), (1, .invokestatic 124, 3), (4, .ifCond .eq 15, 3), (7, .iload_n 2, 1), (8, .i2l, 1), (9, .lconst 0, 1), (10, .ldc2_w 142, 3), (13, .invokestatic 114, 3), (16, .ifCond .ne 6, 3), (19, .bipush (-2), 2), (21, .ireturn, 1), (22, .iconst 0, 1), (23, .istore_n 3, 1), (24, .iload_n 2, 1), (25, .iload_n 3, 1), (26, .iadd, 1), (27, .bipush 100, 2), (29, .if_icmp .ge 20, 3), (32, .aload_n 0, 1), (33, .iload_n 2, 1), (34, .iload_n 3, 1), (35, .iadd, 1), (36, .invokevirtual 169, 3), (39, .iload_n 1, 1), (40, .if_icmp .eq 9, 3), (43, .iinc 3 1, 3), (46, .goto (-22), 3), (49, .iload_n 3, 1), (50, .ireturn, 1)]
theorem ok_X8_free : TB cX8_free tb_X8_free := (by decide +kernel : tb_X8_free.all (fun q => tbq cX8_free q) = true)
set_option maxHeartbeats 4000000 in
set_option maxRecDepth 20000 in
theorem t_fM_free_b49 {K : Cx} {n : Nat} {a3 : Int32} {M : Mem} {r : Int32 × Mem} (C : Ctx K RX8 cX8_free) (S : SS K n 3 4 (some .int) (Ti n r)) (hn : 113 ≤ n) (h : fM_free_b49 a3 M = some r) : AS K n M 49 [none, none, none, some (.int a3)] [] := by
  refine aw_iload_n C (tb_at ok_X8_free 27 rfl) rfl ?_
  exact sw_iret C S rfl (tb_at ok_X8_free 28 rfl) h
set_option maxHeartbeats 4000000 in
set_option maxRecDepth 20000 in
theorem t_fM_free_b24 {K : Cx} {n : Nat} {a1 : Int32} {a2 : Int32} {r : Int32 × Mem} (C : Ctx K RX8 cX8_free) (S : SS K n 3 4 (some .int) (Ti n r)) (hn : 113 ≤ n) : ∀ (z : Nat) (a3 : Int32) (M : Mem), fM_free_b24 a1 a2 z a3 M = some r → AS K n M 24 [some (.ref 85), some (.int a1), some (.int a2), some (.int a3)] [] := by
  intro z
  induction z with
  | zero => intro a3 M h; cases h
  | succ z ih =>
    intro a3 M h
    refine aw_iload_n C (tb_at ok_X8_free 13 rfl) rfl ?_
    refine aw_iload_n C (tb_at ok_X8_free 14 rfl) rfl ?_
    refine aw_iadd C (tb_at ok_X8_free 15 rfl) ?_
    refine aw_bipush C (tb_at ok_X8_free 16 rfl) kb_100 ?_
    refine aw_icmp_ge C 49 (tb_at ok_X8_free 17 rfl) (by decide) h (fun h => ?_) (fun h => ?_)
    · exact aw_loc [none, none, none, some (.int a3)] (sl_n (sl_n (sl_n (sl_k sl_0)))) (t_fM_free_b49 C S hn h)
    · refine aw_aload_n C (tb_at ok_X8_free 18 rfl) rfl ?_
      refine aw_iload_n C (tb_at ok_X8_free 19 rfl) rfl ?_
      refine aw_iload_n C (tb_at ok_X8_free 20 rfl) rfl ?_
      refine aw_iadd C (tb_at ok_X8_free 21 rfl) ?_
      refine sw_cVi C S [.int (a2 + a3)] [] (tb_at ok_X8_free 22 rfl) h (fun q e => m_fM_masterIn hn e) mf_X8_masterIn (ob_85 hn) rfl rfl cw_RX8_169 rfl (by decide) rfl (Nat.le_of_ble_eq_true rfl) (fun r3 M3 h => ?_)
      refine aw_iload_n C (tb_at ok_X8_free 23 rfl) rfl ?_
      refine aw_icmp_eq C 49 (tb_at ok_X8_free 24 rfl) (by decide) h (fun h => ?_) (fun h => ?_)
      · exact aw_loc [none, none, none, some (.int a3)] (sl_n (sl_n (sl_n (sl_k sl_0)))) (t_fM_free_b49 C S hn h)
      · refine aw_iinc C [some (.ref 85), some (.int a1), some (.int a2), some (.int (a3 + 1))] (tb_at ok_X8_free 25 rfl) rfl S.2.2.2.1 (by decide) ki_1 rfl ?_
        refine aw_goto C 24 (tb_at ok_X8_free 26 rfl) (by decide) ?_
        exact aw_loc [some (.ref 85), some (.int a1), some (.int a2), some (.int (a3 + 1))] (sl_k (sl_k (sl_k (sl_k sl_0)))) (ih _ _ h)
set_option maxHeartbeats 4000000 in
set_option maxRecDepth 20000 in
theorem t_fM_free {K : Cx} {n : Nat} {a1 : Int32} {a2 : Int32} {M : Mem} {r : Int32 × Mem} (C : Ctx K RX8 cX8_free) (S : SS K n 3 4 (some .int) (Ti n r)) (hn : 113 ≤ n) (h : fM_free a1 a2 M = some r) : AS K n M 0 [some (.ref 85), some (.int a1), some (.int a2), none] [] := by
  refine aw_iload_n C (tb_at ok_X8_free 0 rfl) rfl ?_
  refine sw_cSi C S [.int a1] [] (tb_at ok_X8_free 1 rfl) h (fun q e => m_fM_isRoom hn e) mf_X8_isRoom cw_RX8_124 rfl (by decide) rfl (Nat.le_of_ble_eq_true rfl) (fun r1 M1 h => ?_)
  refine aw_if_eq C 19 (tb_at ok_X8_free 2 rfl) (by decide) h (fun h => ?_) (fun h => ?_)
  · refine aw_bipush C (tb_at ok_X8_free 9 rfl) kb_m2 ?_
    exact sw_iret C S rfl (tb_at ok_X8_free 10 rfl) h
  · refine aw_iload_n C (tb_at ok_X8_free 3 rfl) rfl ?_
    refine aw_i2l C (tb_at ok_X8_free 4 rfl) ?_
    refine aw_lconst C (tb_at ok_X8_free 5 rfl) kl_0 ?_
    refine aw_ldc2 C kc_RX8_142 (tb_at ok_X8_free 6 rfl) ?_
    refine sw_cSi C S [.long (a2.toInt64), .long (0 : Int64), .long (99 : Int64)] [] (tb_at ok_X8_free 7 rfl) h (fun q e => m_fM_in hn e) mf_X8_in cw_RX8_114 rfl (by decide) rfl (Nat.le_of_ble_eq_true rfl) (fun r2 M2 h => ?_)
    refine aw_if_ne C 22 (tb_at ok_X8_free 8 rfl) (by decide) h (fun h => ?_) (fun h => ?_)
    · refine aw_bipush C (tb_at ok_X8_free 9 rfl) kb_m2 ?_
      exact sw_iret C S rfl (tb_at ok_X8_free 10 rfl) h
    · refine aw_iconst C (tb_at ok_X8_free 11 rfl) ki_0 ?_
      refine aw_istore_n C [some (.ref 85), some (.int a1), some (.int a2), some (.int 0)] (tb_at ok_X8_free 12 rfl) S.2.2.2.1 (by decide) rfl ?_
      exact aw_loc [some (.ref 85), some (.int a1), some (.int a2), some (.int 0)] (sl_k (sl_k (sl_k (sl_k sl_0)))) (t_fM_free_b24 C S hn 1000 _ _ h)
theorem m_fM_free {l : Launch} {w : Wd} {n : Nat} {a1 : Int32} {a2 : Int32} {M : Mem} {r : Int32 × Mem} (hn : 113 ≤ n) (h : fM_free a1 a2 M = some r) : CM l w yX8_free cX8_free 4 (some .int) 3 0 0 [.ref 85, .int a1, .int a2] n M (PD M) (Ti n r) := sm_of (loc := [some (.ref 85), some (.int a1), some (.int a2), none]) mf_X8_free (by decide) (Nat.le_of_ble_eq_true rfl) rfl (fun K _ _ C S => t_fM_free C S hn h)
def tb_X8_longestOf : List (Nat × Instr × Nat) := [(0, .iconst 0, 1), (1, .istore_n 2, 1), (2, .iconst 0, 1), (3, .istore_n 3, 1), (4, .aload_n 0, 1), (5, .iconst (-1), 1), (6, .putfield 173, 3), (9, .iconst 0, 1), (10, .istore 4, 2), (12, .iload 4, 2), (14, .bipush 100, 2), (16, .if_icmp .ge 44, 3), (19, .aload_n 0, 1), (20, .iload 4, 2), (22, .invokevirtual 169, 3), (25, .iload_n 1, 1), (26, .if_icmp .ne 7, 3), (29, .iconst 0, 1), (30, .goto 6, 3), (33, .iload_n 3, 1), (34, .iconst 1, 1), (35, .iadd, 1), (36, .istore_n 3, 1), (37, .iload_n 3, 1), (38, .iload_n 2, 1), (39, .if_icmp .le 15, 3), (42, .iload_n 3, 1), (43, .istore_n 2, 1), (44, .aload_n 0, 1), (45, .iload 4, 2), (47, .iload_n 3, 1), (48, .isub, 1), (49, .iconst 1, 1), (50, .iadd, 1), (51, .putfield 173, 3), (54, .iinc 4 1, 3), (57, .goto (-45), 3), (60, .iload_n 2, 1), (61, .ireturn, 1)]
theorem ok_X8_longestOf : TB cX8_longestOf tb_X8_longestOf := (by decide +kernel : tb_X8_longestOf.all (fun q => tbq cX8_longestOf q) = true)
set_option maxHeartbeats 4000000 in
set_option maxRecDepth 20000 in
theorem t_fM_longestOf_b54 {K : Cx} {n : Nat} {k12 : Int32 → Int32 → Int32 → Mem → Option (Int32 × Mem)} {a1 : Int32} {a2 : Int32} {a3 : Int32} {a4 : Int32} {M : Mem} {r : Int32 × Mem} (C : Ctx K RX8 cX8_longestOf) (S : SS K n 2 5 (some .int) (Ti n r)) (hn : 113 ≤ n) (hk12 : ∀ (va2 : Int32) (va3 : Int32) (va4 : Int32) (M1 : Mem), k12 va2 va3 va4 M1 = some r → AS K n M1 12 [some (.ref 85), some (.int a1), some (.int va2), some (.int va3), some (.int va4)] []) (h : fM_longestOf_b54 k12 a1 a2 a3 a4 M = some r) : AS K n M 54 [some (.ref 85), some (.int a1), some (.int a2), some (.int a3), some (.int a4)] [] := by
  refine aw_iinc C [some (.ref 85), some (.int a1), some (.int a2), some (.int a3), some (.int (a4 + 1))] (tb_at ok_X8_longestOf 35 rfl) rfl S.2.2.2.1 (by decide) ki_1 rfl ?_
  refine aw_goto C 12 (tb_at ok_X8_longestOf 36 rfl) (by decide) ?_
  exact aw_loc [some (.ref 85), some (.int a1), some (.int a2), some (.int a3), some (.int (a4 + 1))] (sl_k (sl_k (sl_k (sl_k (sl_k sl_0))))) (hk12 _ _ _ _ h)
set_option maxHeartbeats 4000000 in
set_option maxRecDepth 20000 in
theorem t_fM_longestOf_b36 {K : Cx} {n : Nat} {k12 : Int32 → Int32 → Int32 → Mem → Option (Int32 × Mem)} {a1 : Int32} {a2 : Int32} {a4 : Int32} {s0 : Int32} {M : Mem} {r : Int32 × Mem} (C : Ctx K RX8 cX8_longestOf) (S : SS K n 2 5 (some .int) (Ti n r)) (hn : 113 ≤ n) (hk12 : ∀ (va2 : Int32) (va3 : Int32) (va4 : Int32) (M1 : Mem), k12 va2 va3 va4 M1 = some r → AS K n M1 12 [some (.ref 85), some (.int a1), some (.int va2), some (.int va3), some (.int va4)] []) (h : fM_longestOf_b36 k12 a1 a2 a4 s0 M = some r) : AS K n M 36 [some (.ref 85), some (.int a1), some (.int a2), none, some (.int a4)] [.int s0] := by
  refine aw_istore_n C [some (.ref 85), some (.int a1), some (.int a2), some (.int s0), some (.int a4)] (tb_at ok_X8_longestOf 22 rfl) S.2.2.2.1 (by decide) rfl ?_
  refine aw_iload_n C (tb_at ok_X8_longestOf 23 rfl) rfl ?_
  refine aw_iload_n C (tb_at ok_X8_longestOf 24 rfl) rfl ?_
  refine aw_icmp_le C 54 (tb_at ok_X8_longestOf 25 rfl) (by decide) h (fun h => ?_) (fun h => ?_)
  · exact aw_loc [some (.ref 85), some (.int a1), some (.int a2), some (.int s0), some (.int a4)] (sl_k (sl_k (sl_k (sl_k (sl_k sl_0))))) (t_fM_longestOf_b54 C S hn hk12 h)
  · refine aw_iload_n C (tb_at ok_X8_longestOf 26 rfl) rfl ?_
    refine aw_istore_n C [some (.ref 85), some (.int a1), some (.int s0), some (.int s0), some (.int a4)] (tb_at ok_X8_longestOf 27 rfl) S.2.2.2.1 (by decide) rfl ?_
    refine aw_aload_n C (tb_at ok_X8_longestOf 28 rfl) rfl ?_
    refine aw_iload C (tb_at ok_X8_longestOf 29 rfl) rfl ?_
    refine aw_iload_n C (tb_at ok_X8_longestOf 30 rfl) rfl ?_
    refine aw_isub C (tb_at ok_X8_longestOf 31 rfl) ?_
    refine aw_iconst C (tb_at ok_X8_longestOf 32 rfl) ki_1 ?_
    refine aw_iadd C (tb_at ok_X8_longestOf 33 rfl) ?_
    refine sw_put C (ob_85 hn) rfl (by decide) (by decide) (Or.inr (by decide)) rfl rfl rfl rfl fl_RX8_173 (tb_at ok_X8_longestOf 34 rfl) ?_
    exact aw_loc [some (.ref 85), some (.int a1), some (.int s0), some (.int s0), some (.int a4)] (sl_k (sl_k (sl_k (sl_k (sl_k sl_0))))) (t_fM_longestOf_b54 C S hn hk12 h)
set_option maxHeartbeats 4000000 in
set_option maxRecDepth 20000 in
theorem t_fM_longestOf_b12 {K : Cx} {n : Nat} {a1 : Int32} {r : Int32 × Mem} (C : Ctx K RX8 cX8_longestOf) (S : SS K n 2 5 (some .int) (Ti n r)) (hn : 113 ≤ n) : ∀ (z : Nat) (a2 : Int32) (a3 : Int32) (a4 : Int32) (M : Mem), fM_longestOf_b12 a1 z a2 a3 a4 M = some r → AS K n M 12 [some (.ref 85), some (.int a1), some (.int a2), some (.int a3), some (.int a4)] [] := by
  intro z
  induction z with
  | zero => intro a2 a3 a4 M h; cases h
  | succ z ih =>
    intro a2 a3 a4 M h
    refine aw_iload C (tb_at ok_X8_longestOf 9 rfl) rfl ?_
    refine aw_bipush C (tb_at ok_X8_longestOf 10 rfl) kb_100 ?_
    refine aw_icmp_ge C 60 (tb_at ok_X8_longestOf 11 rfl) (by decide) h (fun h => ?_) (fun h => ?_)
    · refine aw_iload_n C (tb_at ok_X8_longestOf 37 rfl) rfl ?_
      exact sw_iret C S rfl (tb_at ok_X8_longestOf 38 rfl) h
    · refine aw_aload_n C (tb_at ok_X8_longestOf 12 rfl) rfl ?_
      refine aw_iload C (tb_at ok_X8_longestOf 13 rfl) rfl ?_
      refine sw_cVi C S [.int a4] [] (tb_at ok_X8_longestOf 14 rfl) h (fun q e => m_fM_masterIn hn e) mf_X8_masterIn (ob_85 hn) rfl rfl cw_RX8_169 rfl (by decide) rfl (Nat.le_of_ble_eq_true rfl) (fun r1 M1 h => ?_)
      refine aw_iload_n C (tb_at ok_X8_longestOf 15 rfl) rfl ?_
      refine aw_icmp_ne C 33 (tb_at ok_X8_longestOf 16 rfl) (by decide) h (fun h => ?_) (fun h => ?_)
      · refine aw_iconst C (tb_at ok_X8_longestOf 17 rfl) ki_0 ?_
        refine aw_goto C 36 (tb_at ok_X8_longestOf 18 rfl) (by decide) ?_
        exact aw_loc [some (.ref 85), some (.int a1), some (.int a2), none, some (.int a4)] (sl_k (sl_k (sl_k (sl_n (sl_k sl_0))))) (t_fM_longestOf_b36 C S hn ih h)
      · refine aw_iload_n C (tb_at ok_X8_longestOf 19 rfl) rfl ?_
        refine aw_iconst C (tb_at ok_X8_longestOf 20 rfl) ki_1 ?_
        refine aw_iadd C (tb_at ok_X8_longestOf 21 rfl) ?_
        exact aw_loc [some (.ref 85), some (.int a1), some (.int a2), none, some (.int a4)] (sl_k (sl_k (sl_k (sl_n (sl_k sl_0))))) (t_fM_longestOf_b36 C S hn ih h)
set_option maxHeartbeats 4000000 in
set_option maxRecDepth 20000 in
theorem t_fM_longestOf {K : Cx} {n : Nat} {a1 : Int32} {M : Mem} {r : Int32 × Mem} (C : Ctx K RX8 cX8_longestOf) (S : SS K n 2 5 (some .int) (Ti n r)) (hn : 113 ≤ n) (h : fM_longestOf a1 M = some r) : AS K n M 0 [some (.ref 85), some (.int a1), none, none, none] [] := by
  refine aw_iconst C (tb_at ok_X8_longestOf 0 rfl) ki_0 ?_
  refine aw_istore_n C [some (.ref 85), some (.int a1), some (.int 0), none, none] (tb_at ok_X8_longestOf 1 rfl) S.2.2.2.1 (by decide) rfl ?_
  refine aw_iconst C (tb_at ok_X8_longestOf 2 rfl) ki_0 ?_
  refine aw_istore_n C [some (.ref 85), some (.int a1), some (.int 0), some (.int 0), none] (tb_at ok_X8_longestOf 3 rfl) S.2.2.2.1 (by decide) rfl ?_
  refine aw_aload_n C (tb_at ok_X8_longestOf 4 rfl) rfl ?_
  refine aw_iconst C (tb_at ok_X8_longestOf 5 rfl) ki_m1 ?_
  refine sw_put C (ob_85 hn) rfl (by decide) (by decide) (Or.inr (by decide)) rfl rfl rfl rfl fl_RX8_173 (tb_at ok_X8_longestOf 6 rfl) ?_
  refine aw_iconst C (tb_at ok_X8_longestOf 7 rfl) ki_0 ?_
  refine aw_istore C [some (.ref 85), some (.int a1), some (.int 0), some (.int 0), some (.int 0)] (tb_at ok_X8_longestOf 8 rfl) S.2.2.2.1 (by decide) rfl ?_
  exact aw_loc [some (.ref 85), some (.int a1), some (.int 0), some (.int 0), some (.int 0)] (sl_k (sl_k (sl_k (sl_k (sl_k sl_0))))) (t_fM_longestOf_b12 C S hn 1000 _ _ _ _ h)
theorem m_fM_longestOf {l : Launch} {w : Wd} {n : Nat} {a1 : Int32} {M : Mem} {r : Int32 × Mem} (hn : 113 ≤ n) (h : fM_longestOf a1 M = some r) : CM l w yX8_longestOf cX8_longestOf 5 (some .int) 2 0 0 [.ref 85, .int a1] n M (PD M) (Ti n r) := sm_of (loc := [some (.ref 85), some (.int a1), none, none, none]) mf_X8_longestOf (by decide) (Nat.le_of_ble_eq_true rfl) rfl (fun K _ _ C S => t_fM_longestOf C S hn h)
