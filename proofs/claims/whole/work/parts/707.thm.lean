/-! theorems 7 -/
def tb_X8_part : List (Nat × Instr × Nat) := [(0, .iload_n 1, 1), (1, .ifCond .ne 7, 3), (4, .aload_n 0, 1), (5, .invokevirtual 229, 3), (8, .aload_n 0, 1), (9, .getfield 216, 3), (12, .ifCond .ne 7, 3), (15, .aload_n 0, 1), (16, .invokevirtual 232, 3), (19, .aload_n 0, 1), (20, .getfield 216, 3), (23, .ifCond .eq 7, 3), (26, .iconst 0, 1), (27, .goto 7, 3), (30, .aload_n 0, 1), (31, .invokevirtual 268, 3), (34, .istore_n 2, 1), (35, .aload_n 0, 1), (36, .bipush 59, 2), (38, .invokevirtual 257, 3), (41, .ifCond .ne 7, 3), (44, .aload_n 0, 1), (45, .invokevirtual 229, 3), (48, .aload_n 0, 1), (49, .getfield 216, 3), (52, .ifCond .ne 7, 3), (55, .aload_n 0, 1), (56, .invokevirtual 232, 3), (59, .iload_n 2, 1), (60, .ireturn, 1)]
theorem ok_X8_part : TB cX8_part tb_X8_part := (by decide +kernel : tb_X8_part.all (fun q => tbq cX8_part q) = true)
set_option maxHeartbeats 4000000 in
set_option maxRecDepth 20000 in
theorem t_fM_part_b59 {K : Cx} {n : Nat} {a2 : Int32} {M : Mem} {r : Int32 × Mem} (C : Ctx K RX8 cX8_part) (S : SS K n 65 3 (some .int) (Ti n r)) (hn : 113 ≤ n) (h : fM_part_b59 a2 M = some r) : AS K n M 59 [none, none, some (.int a2)] [] := by
  refine aw_iload_n C (tb_at ok_X8_part 28 rfl) rfl ?_
  exact sw_iret C S rfl (tb_at ok_X8_part 29 rfl) h
set_option maxHeartbeats 4000000 in
set_option maxRecDepth 20000 in
theorem t_fM_part_b48 {K : Cx} {n : Nat} {a2 : Int32} {M : Mem} {r : Int32 × Mem} (C : Ctx K RX8 cX8_part) (S : SS K n 65 3 (some .int) (Ti n r)) (hn : 113 ≤ n) (h : fM_part_b48 a2 M = some r) : AS K n M 48 [some (.ref 85), none, some (.int a2)] [] := by
  refine aw_aload_n C (tb_at ok_X8_part 23 rfl) rfl ?_
  refine aw_get C (ob_85 hn) rfl (by decide) rfl fl_RX8_216 (tb_at ok_X8_part 24 rfl) ?_
  refine aw_if_ne C 59 (tb_at ok_X8_part 25 rfl) (by decide) h (fun h => ?_) (fun h => ?_)
  · refine aw_aload_n C (tb_at ok_X8_part 26 rfl) rfl ?_
    refine sw_cVv C S [] [] (tb_at ok_X8_part 27 rfl) h (fun q e => m_fM_next hn e) mf_X8_next (ob_85 hn) rfl rfl cw_RX8_232 rfl (by decide) rfl (Nat.le_of_ble_eq_true rfl) (fun M6 h => ?_)
    exact aw_loc [none, none, some (.int a2)] (sl_n (sl_n (sl_k sl_0))) (t_fM_part_b59 C S hn h)
  · exact aw_loc [none, none, some (.int a2)] (sl_n (sl_n (sl_k sl_0))) (t_fM_part_b59 C S hn h)
set_option maxHeartbeats 4000000 in
set_option maxRecDepth 20000 in
theorem t_fM_part_b34 {K : Cx} {n : Nat} {s0 : Int32} {M : Mem} {r : Int32 × Mem} (C : Ctx K RX8 cX8_part) (S : SS K n 65 3 (some .int) (Ti n r)) (hn : 113 ≤ n) (h : fM_part_b34 s0 M = some r) : AS K n M 34 [some (.ref 85), none, none] [.int s0] := by
  refine aw_istore_n C [some (.ref 85), none, some (.int s0)] (tb_at ok_X8_part 16 rfl) S.2.2.2.1 (by decide) rfl ?_
  refine aw_aload_n C (tb_at ok_X8_part 17 rfl) rfl ?_
  refine aw_bipush C (tb_at ok_X8_part 18 rfl) kb_59 ?_
  refine sw_cVi C S [.int 59] [] (tb_at ok_X8_part 19 rfl) h (fun q e => m_fM_isSign hn e) mf_X8_isSign (ob_85 hn) rfl rfl cw_RX8_257 rfl (by decide) rfl (Nat.le_of_ble_eq_true rfl) (fun r4 M4 h => ?_)
  refine aw_if_ne C 48 (tb_at ok_X8_part 20 rfl) (by decide) h (fun h => ?_) (fun h => ?_)
  · refine aw_aload_n C (tb_at ok_X8_part 21 rfl) rfl ?_
    refine sw_cVv C S [] [] (tb_at ok_X8_part 22 rfl) h (fun q e => m_fM_fail hn e) mf_X8_fail (ob_85 hn) rfl rfl cw_RX8_229 rfl (by decide) rfl (Nat.le_of_ble_eq_true rfl) (fun M5 h => ?_)
    exact aw_loc [some (.ref 85), none, some (.int s0)] (sl_k (sl_n (sl_k sl_0))) (t_fM_part_b48 C S hn h)
  · exact aw_loc [some (.ref 85), none, some (.int s0)] (sl_k (sl_n (sl_k sl_0))) (t_fM_part_b48 C S hn h)
set_option maxHeartbeats 4000000 in
set_option maxRecDepth 20000 in
theorem t_fM_part_b19 {K : Cx} {n : Nat} {M : Mem} {r : Int32 × Mem} (C : Ctx K RX8 cX8_part) (S : SS K n 65 3 (some .int) (Ti n r)) (hn : 113 ≤ n) (h : fM_part_b19 M = some r) : AS K n M 19 [some (.ref 85), none, none] [] := by
  refine aw_aload_n C (tb_at ok_X8_part 9 rfl) rfl ?_
  refine aw_get C (ob_85 hn) rfl (by decide) rfl fl_RX8_216 (tb_at ok_X8_part 10 rfl) ?_
  refine aw_if_eq C 30 (tb_at ok_X8_part 11 rfl) (by decide) h (fun h => ?_) (fun h => ?_)
  · refine aw_aload_n C (tb_at ok_X8_part 14 rfl) rfl ?_
    refine sw_cVi C S [] [] (tb_at ok_X8_part 15 rfl) h (fun q e => (m_rM hn 60).1 _  _ e) mf_X8_either (ob_85 hn) rfl rfl cw_RX8_268 rfl (by decide) rfl (Nat.le_of_ble_eq_true rfl) (fun r3 M3 h => ?_)
    exact aw_loc [some (.ref 85), none, none] (sl_k (sl_n (sl_n sl_0))) (t_fM_part_b34 C S hn h)
  · refine aw_iconst C (tb_at ok_X8_part 12 rfl) ki_0 ?_
    refine aw_goto C 34 (tb_at ok_X8_part 13 rfl) (by decide) ?_
    exact aw_loc [some (.ref 85), none, none] (sl_k (sl_n (sl_n sl_0))) (t_fM_part_b34 C S hn h)
set_option maxHeartbeats 4000000 in
set_option maxRecDepth 20000 in
theorem t_fM_part_b8 {K : Cx} {n : Nat} {M : Mem} {r : Int32 × Mem} (C : Ctx K RX8 cX8_part) (S : SS K n 65 3 (some .int) (Ti n r)) (hn : 113 ≤ n) (h : fM_part_b8 M = some r) : AS K n M 8 [some (.ref 85), none, none] [] := by
  refine aw_aload_n C (tb_at ok_X8_part 4 rfl) rfl ?_
  refine aw_get C (ob_85 hn) rfl (by decide) rfl fl_RX8_216 (tb_at ok_X8_part 5 rfl) ?_
  refine aw_if_ne C 19 (tb_at ok_X8_part 6 rfl) (by decide) h (fun h => ?_) (fun h => ?_)
  · refine aw_aload_n C (tb_at ok_X8_part 7 rfl) rfl ?_
    refine sw_cVv C S [] [] (tb_at ok_X8_part 8 rfl) h (fun q e => m_fM_next hn e) mf_X8_next (ob_85 hn) rfl rfl cw_RX8_232 rfl (by decide) rfl (Nat.le_of_ble_eq_true rfl) (fun M2 h => ?_)
    exact aw_loc [some (.ref 85), none, none] (sl_k (sl_n (sl_n sl_0))) (t_fM_part_b19 C S hn h)
  · exact aw_loc [some (.ref 85), none, none] (sl_k (sl_n (sl_n sl_0))) (t_fM_part_b19 C S hn h)
set_option maxHeartbeats 4000000 in
set_option maxRecDepth 20000 in
theorem t_fM_part {K : Cx} {n : Nat} {a1 : Int32} {M : Mem} {r : Int32 × Mem} (C : Ctx K RX8 cX8_part) (S : SS K n 65 3 (some .int) (Ti n r)) (hn : 113 ≤ n) (h : fM_part a1 M = some r) : AS K n M 0 [some (.ref 85), some (.int a1), none] [] := by
  refine aw_iload_n C (tb_at ok_X8_part 0 rfl) rfl ?_
  refine aw_if_ne C 8 (tb_at ok_X8_part 1 rfl) (by decide) h (fun h => ?_) (fun h => ?_)
  · refine aw_aload_n C (tb_at ok_X8_part 2 rfl) rfl ?_
    refine sw_cVv C S [] [] (tb_at ok_X8_part 3 rfl) h (fun q e => m_fM_fail hn e) mf_X8_fail (ob_85 hn) rfl rfl cw_RX8_229 rfl (by decide) rfl (Nat.le_of_ble_eq_true rfl) (fun M1 h => ?_)
    exact aw_loc [some (.ref 85), none, none] (sl_k (sl_n (sl_n sl_0))) (t_fM_part_b8 C S hn h)
  · exact aw_loc [some (.ref 85), none, none] (sl_k (sl_n (sl_n sl_0))) (t_fM_part_b8 C S hn h)
theorem m_fM_part {l : Launch} {w : Wd} {n : Nat} {a1 : Int32} {M : Mem} {r : Int32 × Mem} (hn : 113 ≤ n) (h : fM_part a1 M = some r) : CM l w yX8_part cX8_part 3 (some .int) 65 0 0 [.ref 85, .int a1] n M (PD M) (Ti n r) := sm_of (loc := [some (.ref 85), some (.int a1), none]) mf_X8_part (by decide) (Nat.le_of_ble_eq_true rfl) rfl (fun K _ _ C S => t_fM_part C S hn h)
def tb_X8_read : List (Nat × Instr × Nat) := [(0, .aload_n 0, 1), (1, .sipush 160, 3), (4, .iload_n 1, 1), (5, .imul, 1), (6, .putfield 189, 3), (9, .aload_n 0, 1), (10, .aload_n 0, 1), (11, .getfield 17, 3), (14, .iload_n 1, 1), (15, .iaload, 1), (16, .putfield 186, 3), (19, .aload_n 0, 1), (20, .iconst 0, 1), (21, .putfield 192, 3), (24, .aload_n 0, 1), (25, .iconst 0, 1), (26, .putfield 226, 3), (29, .aload_n 0, 1), (30, .iconst 0, 1), (31, .putfield 216, 3), (34, .aload_n 0, 1), (35, .invokevirtual 232, 3), (38, .aload_n 0, 1), (39, .aload_n 0, 1), (40, .bipush 115, 2), (42, .bipush 116, 2), (44, .bipush 101, 2), (46, .bipush 112, 2), (48, .bipush 115, 2), (50, .iconst 0, 1), (51, .iconst 0, 1), (52, .iconst 0, 1), (53, .invokevirtual 235, 3), (56, .invokevirtual 290, 3), (59, .istore_n 3, 1), (60, .aload_n 0, 1), (61, .getfield 216, 3), (64, .ifCond .eq 7, 3), (67, .iconst 0, 1), (68, .goto 23, 3), (71, .aload_n 0, 1), (72, .aload_n 0, 1), (73, .bipush 100, 2), (75, .bipush 111, 2), (77, .bipush 101, 2), (79, .bipush 115, 2), (81, .iconst 0, 1), (82, .iconst 0, 1), (83, .iconst 0, 1), (84, .iconst 0, 1), (85, .invokevirtual 235, 3), (88, .invokevirtual 290, 3), (91, .istore 4, 2), (93, .aload_n 0, 1), (94, .getfield 216, 3), (97, .ifCond .eq 7, 3), (100, .iconst 0, 1), (101, .goto 24, 3), (104, .aload_n 0, 1), (105, .aload_n 0, 1), (106, .bipush 99, 2), (108, .bipush 111, 2), (110, .bipush 115, 2), (112, .bipush 116, 2), (114, .bipush 115, 2), (116, .iconst 0, 1), (117, .iconst 0, 1), (118, .iconst 0, 1), (119, .invokevirtual 235, 3), (122, .invokevirtual 290, 3), (125, .istore 5, 2), (127, .aload_n 0, 1), (128, .getfield 216, 3), (131, .ifCond .ne 14, 3), (134, .aload_n 0, 1), (135, .getfield 201, 3), (138, .ifCond .eq 7, 3), (141, .aload_n 0, 1), (142, .invokevirtual 229, 3), (145, .iload_n 2, 1), (146, .ifCond .ne 7, 3), (149, .iload_n 3, 1), (150, .goto 15, 3), (153, .iload_n 2, 1), (154, .iconst 1, 1), (155, .if_icmp .ne 8, 3), (158, .iload 4, 2), (160, .goto 5, 3), (163, .iload 5, 2), (165, .ireturn, 1)]
theorem ok_X8_read : TB cX8_read tb_X8_read := (by decide +kernel : tb_X8_read.all (fun q => tbq cX8_read q) = true)
set_option maxHeartbeats 4000000 in
set_option maxRecDepth 20000 in
theorem t_fM_read_b145 {K : Cx} {n : Nat} {a2 : Int32} {a3 : Int32} {a4 : Int32} {a5 : Int32} {M : Mem} {r : Int32 × Mem} (C : Ctx K RX8 cX8_read) (S : SS K n 66 6 (some .int) (Ti n r)) (hn : 113 ≤ n) (h : fM_read_b145 a2 a3 a4 a5 M = some r) : AS K n M 145 [none, none, some (.int a2), some (.int a3), some (.int a4), some (.int a5)] [] := by
  refine aw_iload_n C (tb_at ok_X8_read 79 rfl) rfl ?_
  refine aw_if_ne C 153 (tb_at ok_X8_read 80 rfl) (by decide) h (fun h => ?_) (fun h => ?_)
  · refine aw_iload_n C (tb_at ok_X8_read 81 rfl) rfl ?_
    refine aw_goto C 165 (tb_at ok_X8_read 82 rfl) (by decide) ?_
    exact sw_iret C S rfl (tb_at ok_X8_read 89 rfl) h
  · refine aw_iload_n C (tb_at ok_X8_read 83 rfl) rfl ?_
    refine aw_iconst C (tb_at ok_X8_read 84 rfl) ki_1 ?_
    refine aw_icmp_ne C 163 (tb_at ok_X8_read 85 rfl) (by decide) h (fun h => ?_) (fun h => ?_)
    · refine aw_iload C (tb_at ok_X8_read 86 rfl) rfl ?_
      refine aw_goto C 165 (tb_at ok_X8_read 87 rfl) (by decide) ?_
      exact sw_iret C S rfl (tb_at ok_X8_read 89 rfl) h
    · refine aw_iload C (tb_at ok_X8_read 88 rfl) rfl ?_
      exact sw_iret C S rfl (tb_at ok_X8_read 89 rfl) h
set_option maxHeartbeats 4000000 in
set_option maxRecDepth 20000 in
theorem t_fM_read_b125 {K : Cx} {n : Nat} {a2 : Int32} {a3 : Int32} {a4 : Int32} {s0 : Int32} {M : Mem} {r : Int32 × Mem} (C : Ctx K RX8 cX8_read) (S : SS K n 66 6 (some .int) (Ti n r)) (hn : 113 ≤ n) (h : fM_read_b125 a2 a3 a4 s0 M = some r) : AS K n M 125 [some (.ref 85), none, some (.int a2), some (.int a3), some (.int a4), none] [.int s0] := by
  refine aw_istore C [some (.ref 85), none, some (.int a2), some (.int a3), some (.int a4), some (.int s0)] (tb_at ok_X8_read 70 rfl) S.2.2.2.1 (by decide) rfl ?_
  refine aw_aload_n C (tb_at ok_X8_read 71 rfl) rfl ?_
  refine aw_get C (ob_85 hn) rfl (by decide) rfl fl_RX8_216 (tb_at ok_X8_read 72 rfl) ?_
  refine aw_if_ne C 145 (tb_at ok_X8_read 73 rfl) (by decide) h (fun h => ?_) (fun h => ?_)
  · refine aw_aload_n C (tb_at ok_X8_read 74 rfl) rfl ?_
    refine aw_get C (ob_85 hn) rfl (by decide) rfl fl_RX8_201 (tb_at ok_X8_read 75 rfl) ?_
    refine aw_if_eq C 145 (tb_at ok_X8_read 76 rfl) (by decide) h (fun h => ?_) (fun h => ?_)
    · exact aw_loc [none, none, some (.int a2), some (.int a3), some (.int a4), some (.int s0)] (sl_n (sl_n (sl_k (sl_k (sl_k (sl_k sl_0)))))) (t_fM_read_b145 C S hn h)
    · refine aw_aload_n C (tb_at ok_X8_read 77 rfl) rfl ?_
      refine sw_cVv C S [] [] (tb_at ok_X8_read 78 rfl) h (fun q e => m_fM_fail hn e) mf_X8_fail (ob_85 hn) rfl rfl cw_RX8_229 rfl (by decide) rfl (Nat.le_of_ble_eq_true rfl) (fun M8 h => ?_)
      exact aw_loc [none, none, some (.int a2), some (.int a3), some (.int a4), some (.int s0)] (sl_n (sl_n (sl_k (sl_k (sl_k (sl_k sl_0)))))) (t_fM_read_b145 C S hn h)
  · exact aw_loc [none, none, some (.int a2), some (.int a3), some (.int a4), some (.int s0)] (sl_n (sl_n (sl_k (sl_k (sl_k (sl_k sl_0)))))) (t_fM_read_b145 C S hn h)
set_option maxHeartbeats 4000000 in
set_option maxRecDepth 20000 in
theorem t_fM_read_b91 {K : Cx} {n : Nat} {a2 : Int32} {a3 : Int32} {s0 : Int32} {M : Mem} {r : Int32 × Mem} (C : Ctx K RX8 cX8_read) (S : SS K n 66 6 (some .int) (Ti n r)) (hn : 113 ≤ n) (h : fM_read_b91 a2 a3 s0 M = some r) : AS K n M 91 [some (.ref 85), none, some (.int a2), some (.int a3), none, none] [.int s0] := by
  refine aw_istore C [some (.ref 85), none, some (.int a2), some (.int a3), some (.int s0), none] (tb_at ok_X8_read 52 rfl) S.2.2.2.1 (by decide) rfl ?_
  refine aw_aload_n C (tb_at ok_X8_read 53 rfl) rfl ?_
  refine aw_get C (ob_85 hn) rfl (by decide) rfl fl_RX8_216 (tb_at ok_X8_read 54 rfl) ?_
  refine aw_if_eq C 104 (tb_at ok_X8_read 55 rfl) (by decide) h (fun h => ?_) (fun h => ?_)
  · refine aw_aload_n C (tb_at ok_X8_read 58 rfl) rfl ?_
    refine aw_aload_n C (tb_at ok_X8_read 59 rfl) rfl ?_
    refine aw_bipush C (tb_at ok_X8_read 60 rfl) kb_99 ?_
    refine aw_bipush C (tb_at ok_X8_read 61 rfl) kb_111 ?_
    refine aw_bipush C (tb_at ok_X8_read 62 rfl) kb_115 ?_
    refine aw_bipush C (tb_at ok_X8_read 63 rfl) kb_116 ?_
    refine aw_bipush C (tb_at ok_X8_read 64 rfl) kb_115 ?_
    refine aw_iconst C (tb_at ok_X8_read 65 rfl) ki_0 ?_
    refine aw_iconst C (tb_at ok_X8_read 66 rfl) ki_0 ?_
    refine aw_iconst C (tb_at ok_X8_read 67 rfl) ki_0 ?_
    refine sw_cVi C S [.int 99, .int 111, .int 115, .int 116, .int 115, .int 0, .int 0, .int 0] [.ref 85] (tb_at ok_X8_read 68 rfl) h (fun q e => m_fM_isWord hn e) mf_X8_isWord (ob_85 hn) rfl rfl cw_RX8_235 rfl (by decide) rfl (Nat.le_of_ble_eq_true rfl) (fun r6 M6 h => ?_)
    refine sw_cVi C S [.int r6] [] (tb_at ok_X8_read 69 rfl) h (fun q e => m_fM_part hn e) mf_X8_part (ob_85 hn) rfl rfl cw_RX8_290 rfl (by decide) rfl (Nat.le_of_ble_eq_true rfl) (fun r7 M7 h => ?_)
    exact aw_loc [some (.ref 85), none, some (.int a2), some (.int a3), some (.int s0), none] (sl_k (sl_n (sl_k (sl_k (sl_k (sl_n sl_0)))))) (t_fM_read_b125 C S hn h)
  · refine aw_iconst C (tb_at ok_X8_read 56 rfl) ki_0 ?_
    refine aw_goto C 125 (tb_at ok_X8_read 57 rfl) (by decide) ?_
    exact aw_loc [some (.ref 85), none, some (.int a2), some (.int a3), some (.int s0), none] (sl_k (sl_n (sl_k (sl_k (sl_k (sl_n sl_0)))))) (t_fM_read_b125 C S hn h)
set_option maxHeartbeats 4000000 in
set_option maxRecDepth 20000 in
theorem t_fM_read {K : Cx} {n : Nat} {a1 : Int32} {a2 : Int32} {M : Mem} {r : Int32 × Mem} (C : Ctx K RX8 cX8_read) (S : SS K n 66 6 (some .int) (Ti n r)) (hn : 113 ≤ n) (h : fM_read a1 a2 M = some r) : AS K n M 0 [some (.ref 85), some (.int a1), some (.int a2), none, none, none] [] := by
  refine aw_aload_n C (tb_at ok_X8_read 0 rfl) rfl ?_
  refine aw_sipush C (tb_at ok_X8_read 1 rfl) ks_160 ?_
  refine aw_iload_n C (tb_at ok_X8_read 2 rfl) rfl ?_
  refine aw_imul C (tb_at ok_X8_read 3 rfl) ?_
  refine sw_put C (ob_85 hn) rfl (by decide) (by decide) (Or.inr (by decide)) rfl rfl rfl rfl fl_RX8_189 (tb_at ok_X8_read 4 rfl) ?_
  refine aw_aload_n C (tb_at ok_X8_read 5 rfl) rfl ?_
  refine aw_aload_n C (tb_at ok_X8_read 6 rfl) rfl ?_
  refine aw_getR C (ob_85 hn) rfl (by decide) rfl p_85_2 fl_RX8_17 (tb_at ok_X8_read 7 rfl) ?_
  refine aw_iload_n C (tb_at ok_X8_read 8 rfl) rfl ?_
  refine aw_iald C (ob_87 hn) (tb_at ok_X8_read 9 rfl) h (fun h => ?_)
  refine sw_put C (ob_85 hn) rfl (by decide) (by decide) (Or.inr (by decide)) rfl rfl rfl rfl fl_RX8_186 (tb_at ok_X8_read 10 rfl) ?_
  refine aw_aload_n C (tb_at ok_X8_read 11 rfl) rfl ?_
  refine aw_iconst C (tb_at ok_X8_read 12 rfl) ki_0 ?_
  refine sw_put C (ob_85 hn) rfl (by decide) (by decide) (Or.inr (by decide)) rfl rfl rfl rfl fl_RX8_192 (tb_at ok_X8_read 13 rfl) ?_
  refine aw_aload_n C (tb_at ok_X8_read 14 rfl) rfl ?_
  refine aw_iconst C (tb_at ok_X8_read 15 rfl) ki_0 ?_
  refine sw_put C (ob_85 hn) rfl (by decide) (by decide) (Or.inr (by decide)) rfl rfl rfl rfl fl_RX8_226 (tb_at ok_X8_read 16 rfl) ?_
  refine aw_aload_n C (tb_at ok_X8_read 17 rfl) rfl ?_
  refine aw_iconst C (tb_at ok_X8_read 18 rfl) ki_0 ?_
  refine sw_put C (ob_85 hn) rfl (by decide) (by decide) (Or.inr (by decide)) rfl rfl rfl rfl fl_RX8_216 (tb_at ok_X8_read 19 rfl) ?_
  refine aw_aload_n C (tb_at ok_X8_read 20 rfl) rfl ?_
  refine sw_cVv C S [] [] (tb_at ok_X8_read 21 rfl) h (fun q e => m_fM_next hn e) mf_X8_next (ob_85 hn) rfl rfl cw_RX8_232 rfl (by decide) rfl (Nat.le_of_ble_eq_true rfl) (fun M1 h => ?_)
  refine aw_aload_n C (tb_at ok_X8_read 22 rfl) rfl ?_
  refine aw_aload_n C (tb_at ok_X8_read 23 rfl) rfl ?_
  refine aw_bipush C (tb_at ok_X8_read 24 rfl) kb_115 ?_
  refine aw_bipush C (tb_at ok_X8_read 25 rfl) kb_116 ?_
  refine aw_bipush C (tb_at ok_X8_read 26 rfl) kb_101 ?_
  refine aw_bipush C (tb_at ok_X8_read 27 rfl) kb_112 ?_
  refine aw_bipush C (tb_at ok_X8_read 28 rfl) kb_115 ?_
  refine aw_iconst C (tb_at ok_X8_read 29 rfl) ki_0 ?_
  refine aw_iconst C (tb_at ok_X8_read 30 rfl) ki_0 ?_
  refine aw_iconst C (tb_at ok_X8_read 31 rfl) ki_0 ?_
  refine sw_cVi C S [.int 115, .int 116, .int 101, .int 112, .int 115, .int 0, .int 0, .int 0] [.ref 85] (tb_at ok_X8_read 32 rfl) h (fun q e => m_fM_isWord hn e) mf_X8_isWord (ob_85 hn) rfl rfl cw_RX8_235 rfl (by decide) rfl (Nat.le_of_ble_eq_true rfl) (fun r2 M2 h => ?_)
  refine sw_cVi C S [.int r2] [] (tb_at ok_X8_read 33 rfl) h (fun q e => m_fM_part hn e) mf_X8_part (ob_85 hn) rfl rfl cw_RX8_290 rfl (by decide) rfl (Nat.le_of_ble_eq_true rfl) (fun r3 M3 h => ?_)
  refine aw_istore_n C [some (.ref 85), some (.int a1), some (.int a2), some (.int r3), none, none] (tb_at ok_X8_read 34 rfl) S.2.2.2.1 (by decide) rfl ?_
  refine aw_aload_n C (tb_at ok_X8_read 35 rfl) rfl ?_
  refine aw_get C (ob_85 hn) rfl (by decide) rfl fl_RX8_216 (tb_at ok_X8_read 36 rfl) ?_
  refine aw_if_eq C 71 (tb_at ok_X8_read 37 rfl) (by decide) h (fun h => ?_) (fun h => ?_)
  · refine aw_aload_n C (tb_at ok_X8_read 40 rfl) rfl ?_
    refine aw_aload_n C (tb_at ok_X8_read 41 rfl) rfl ?_
    refine aw_bipush C (tb_at ok_X8_read 42 rfl) kb_100 ?_
    refine aw_bipush C (tb_at ok_X8_read 43 rfl) kb_111 ?_
    refine aw_bipush C (tb_at ok_X8_read 44 rfl) kb_101 ?_
    refine aw_bipush C (tb_at ok_X8_read 45 rfl) kb_115 ?_
    refine aw_iconst C (tb_at ok_X8_read 46 rfl) ki_0 ?_
    refine aw_iconst C (tb_at ok_X8_read 47 rfl) ki_0 ?_
    refine aw_iconst C (tb_at ok_X8_read 48 rfl) ki_0 ?_
    refine aw_iconst C (tb_at ok_X8_read 49 rfl) ki_0 ?_
    refine sw_cVi C S [.int 100, .int 111, .int 101, .int 115, .int 0, .int 0, .int 0, .int 0] [.ref 85] (tb_at ok_X8_read 50 rfl) h (fun q e => m_fM_isWord hn e) mf_X8_isWord (ob_85 hn) rfl rfl cw_RX8_235 rfl (by decide) rfl (Nat.le_of_ble_eq_true rfl) (fun r4 M4 h => ?_)
    refine sw_cVi C S [.int r4] [] (tb_at ok_X8_read 51 rfl) h (fun q e => m_fM_part hn e) mf_X8_part (ob_85 hn) rfl rfl cw_RX8_290 rfl (by decide) rfl (Nat.le_of_ble_eq_true rfl) (fun r5 M5 h => ?_)
    exact aw_loc [some (.ref 85), none, some (.int a2), some (.int r3), none, none] (sl_k (sl_n (sl_k (sl_k (sl_n (sl_n sl_0)))))) (t_fM_read_b91 C S hn h)
  · refine aw_iconst C (tb_at ok_X8_read 38 rfl) ki_0 ?_
    refine aw_goto C 91 (tb_at ok_X8_read 39 rfl) (by decide) ?_
    exact aw_loc [some (.ref 85), none, some (.int a2), some (.int r3), none, none] (sl_k (sl_n (sl_k (sl_k (sl_n (sl_n sl_0)))))) (t_fM_read_b91 C S hn h)
theorem m_fM_read {l : Launch} {w : Wd} {n : Nat} {a1 : Int32} {a2 : Int32} {M : Mem} {r : Int32 × Mem} (hn : 113 ≤ n) (h : fM_read a1 a2 M = some r) : CM l w yX8_read cX8_read 6 (some .int) 66 0 0 [.ref 85, .int a1, .int a2] n M (PD M) (Ti n r) := sm_of (loc := [some (.ref 85), some (.int a1), some (.int a2), none, none, none]) mf_X8_read (by decide) (Nat.le_of_ble_eq_true rfl) rfl (fun K _ _ C S => t_fM_read C S hn h)
def tb_X8_text : List (Nat × Instr × Nat) := [(0, .aload_n 0, 1), (1, .getfield 109, 3), (4, .bipush 6, 2), (6, .if_icmp .ne 6, 3), (9, .bipush (-4), 2), (11, .ireturn, 1), (12, .iconst 0, 1), (13, .istore_n 1, 1), (14, .iload_n 1, 1), (15, .aload_n 0, 1), (16, .getfield 183, 3), (19, .if_icmp .ge 30, 3), (22, .aload_n 0, 1), (23, .getfield 13, 3), (26, .sipush 160, 3), (29, .aload_n 0, 1), (30, .getfield 109, 3), (33, .imul, 1), (34, .iload_n 1, 1), (35, .iadd, 1), (36, .aload_n 0, 1), (37, .getfield 20, 3), (40, .iload_n 1, 1), (41, .iaload, 1), (42, .iastore, 1), (43, .iinc 1 1, 3), (46, .goto (-32), 3), (49, .aload_n 0, 1), (50, .getfield 17, 3), (53, .aload_n 0, 1), (54, .getfield 109, 3), (57, .aload_n 0, 1), (58, .getfield 183, 3), (61, .iastore, 1), (62, .aload_n 0, 1), (63, .iconst 0, 1), (64, .putfield 183, 3), (67, .aload_n 0, 1), (68, .aload_n 0, 1), (69, .getfield 109, 3), (72, .iconst 0, 1), (73, .invokevirtual 294, 3), (76, .istore_n 1, 1), (77, .aload_n 0, 1), (78, .getfield 216, 3), (81, .ifCond .eq 11, 3), (84, .bipush (-100), 2), (86, .aload_n 0, 1), (87, .getfield 220, 3), (90, .isub, 1), (91, .ireturn, 1), (92, .aload_n 0, 1), (93, .dup, 1), (94, .getfield 109, 3), (97, .iconst 1, 1), (98, .iadd, 1), (99, .putfield 109, 3), (102, .aload_n 0, 1), (103, .getfield 109, 3), (106, .iconst 1, 1), (107, .isub, 1), (108, .ireturn, 1)]
theorem ok_X8_text : TB cX8_text tb_X8_text := (by decide +kernel : tb_X8_text.all (fun q => tbq cX8_text q) = true)
set_option maxHeartbeats 4000000 in
set_option maxRecDepth 20000 in
theorem t_fM_text_b14 {K : Cx} {n : Nat} {r : Int32 × Mem} (C : Ctx K RX8 cX8_text) (S : SS K n 67 2 (some .int) (Ti n r)) (hn : 113 ≤ n) : ∀ (z : Nat) (a1 : Int32) (M : Mem), fM_text_b14 z a1 M = some r → AS K n M 14 [some (.ref 85), some (.int a1)] [] := by
  intro z
  induction z with
  | zero => intro a1 M h; cases h
  | succ z ih =>
    intro a1 M h
    refine aw_iload_n C (tb_at ok_X8_text 8 rfl) rfl ?_
    refine aw_aload_n C (tb_at ok_X8_text 9 rfl) rfl ?_
    refine aw_get C (ob_85 hn) rfl (by decide) rfl fl_RX8_183 (tb_at ok_X8_text 10 rfl) ?_
    refine aw_icmp_ge C 49 (tb_at ok_X8_text 11 rfl) (by decide) h (fun h => ?_) (fun h => ?_)
    · refine aw_aload_n C (tb_at ok_X8_text 27 rfl) rfl ?_
      refine aw_getR C (ob_85 hn) rfl (by decide) rfl p_85_2 fl_RX8_17 (tb_at ok_X8_text 28 rfl) ?_
      refine aw_aload_n C (tb_at ok_X8_text 29 rfl) rfl ?_
      refine aw_get C (ob_85 hn) rfl (by decide) rfl fl_RX8_109 (tb_at ok_X8_text 30 rfl) ?_
      refine aw_aload_n C (tb_at ok_X8_text 31 rfl) rfl ?_
      refine aw_get C (ob_85 hn) rfl (by decide) rfl fl_RX8_183 (tb_at ok_X8_text 32 rfl) ?_
      refine sw_iast C (ob_87 hn) (tb_at ok_X8_text 33 rfl) h (fun h => ?_)
      refine aw_aload_n C (tb_at ok_X8_text 34 rfl) rfl ?_
      refine aw_iconst C (tb_at ok_X8_text 35 rfl) ki_0 ?_
      refine sw_put C (ob_85 hn) rfl (by decide) (by decide) (Or.inr (by decide)) rfl rfl rfl rfl fl_RX8_183 (tb_at ok_X8_text 36 rfl) ?_
      refine aw_aload_n C (tb_at ok_X8_text 37 rfl) rfl ?_
      refine aw_aload_n C (tb_at ok_X8_text 38 rfl) rfl ?_
      refine aw_get C (ob_85 hn) rfl (by decide) rfl fl_RX8_109 (tb_at ok_X8_text 39 rfl) ?_
      refine aw_iconst C (tb_at ok_X8_text 40 rfl) ki_0 ?_
      refine sw_cVi C S [.int ((wr (wr M 87 (ix (M 85 3)) (M 85 6)) 85 6 0) 85 3), .int 0] [] (tb_at ok_X8_text 41 rfl) h (fun q e => m_fM_read hn e) mf_X8_read (ob_85 hn) rfl rfl cw_RX8_294 rfl (by decide) rfl (Nat.le_of_ble_eq_true rfl) (fun r1 M1 h => ?_)
      refine aw_istore_n C [some (.ref 85), some (.int r1)] (tb_at ok_X8_text 42 rfl) S.2.2.2.1 (by decide) rfl ?_
      refine aw_aload_n C (tb_at ok_X8_text 43 rfl) rfl ?_
      refine aw_get C (ob_85 hn) rfl (by decide) rfl fl_RX8_216 (tb_at ok_X8_text 44 rfl) ?_
      refine aw_if_eq C 92 (tb_at ok_X8_text 45 rfl) (by decide) h (fun h => ?_) (fun h => ?_)
      · refine aw_aload_n C (tb_at ok_X8_text 51 rfl) rfl ?_
        refine aw_dup C (tb_at ok_X8_text 52 rfl) rfl ?_
        refine aw_get C (ob_85 hn) rfl (by decide) rfl fl_RX8_109 (tb_at ok_X8_text 53 rfl) ?_
        refine aw_iconst C (tb_at ok_X8_text 54 rfl) ki_1 ?_
        refine aw_iadd C (tb_at ok_X8_text 55 rfl) ?_
        refine sw_put C (ob_85 hn) rfl (by decide) (by decide) (Or.inr (by decide)) rfl rfl rfl rfl fl_RX8_109 (tb_at ok_X8_text 56 rfl) ?_
        refine aw_aload_n C (tb_at ok_X8_text 57 rfl) rfl ?_
        refine aw_get C (ob_85 hn) rfl (by decide) rfl fl_RX8_109 (tb_at ok_X8_text 58 rfl) ?_
        refine aw_iconst C (tb_at ok_X8_text 59 rfl) ki_1 ?_
        refine aw_isub C (tb_at ok_X8_text 60 rfl) ?_
        exact sw_iret C S rfl (tb_at ok_X8_text 61 rfl) h
      · refine aw_bipush C (tb_at ok_X8_text 46 rfl) kb_m100 ?_
        refine aw_aload_n C (tb_at ok_X8_text 47 rfl) rfl ?_
        refine aw_get C (ob_85 hn) rfl (by decide) rfl fl_RX8_220 (tb_at ok_X8_text 48 rfl) ?_
        refine aw_isub C (tb_at ok_X8_text 49 rfl) ?_
        exact sw_iret C S rfl (tb_at ok_X8_text 50 rfl) h
    · refine aw_aload_n C (tb_at ok_X8_text 12 rfl) rfl ?_
      refine aw_getR C (ob_85 hn) rfl (by decide) rfl p_85_1 fl_RX8_13 (tb_at ok_X8_text 13 rfl) ?_
      refine aw_sipush C (tb_at ok_X8_text 14 rfl) ks_160 ?_
      refine aw_aload_n C (tb_at ok_X8_text 15 rfl) rfl ?_
      refine aw_get C (ob_85 hn) rfl (by decide) rfl fl_RX8_109 (tb_at ok_X8_text 16 rfl) ?_
      refine aw_imul C (tb_at ok_X8_text 17 rfl) ?_
      refine aw_iload_n C (tb_at ok_X8_text 18 rfl) rfl ?_
      refine aw_iadd C (tb_at ok_X8_text 19 rfl) ?_
      refine aw_aload_n C (tb_at ok_X8_text 20 rfl) rfl ?_
      refine aw_getR C (ob_85 hn) rfl (by decide) rfl p_85_5 fl_RX8_20 (tb_at ok_X8_text 21 rfl) ?_
      refine aw_iload_n C (tb_at ok_X8_text 22 rfl) rfl ?_
      refine aw_iald C (ob_88 hn) (tb_at ok_X8_text 23 rfl) h (fun h => ?_)
      refine sw_iast C (ob_86 hn) (tb_at ok_X8_text 24 rfl) h (fun h => ?_)
      refine aw_iinc C [some (.ref 85), some (.int (a1 + 1))] (tb_at ok_X8_text 25 rfl) rfl S.2.2.2.1 (by decide) ki_1 rfl ?_
      refine aw_goto C 14 (tb_at ok_X8_text 26 rfl) (by decide) ?_
      exact aw_loc [some (.ref 85), some (.int (a1 + 1))] (sl_k (sl_k sl_0)) (ih _ _ h)
set_option maxHeartbeats 4000000 in
set_option maxRecDepth 20000 in
theorem t_fM_text {K : Cx} {n : Nat} {M : Mem} {r : Int32 × Mem} (C : Ctx K RX8 cX8_text) (S : SS K n 67 2 (some .int) (Ti n r)) (hn : 113 ≤ n) (h : fM_text M = some r) : AS K n M 0 [some (.ref 85), none] [] := by
  refine aw_aload_n C (tb_at ok_X8_text 0 rfl) rfl ?_
  refine aw_get C (ob_85 hn) rfl (by decide) rfl fl_RX8_109 (tb_at ok_X8_text 1 rfl) ?_
  refine aw_bipush C (tb_at ok_X8_text 2 rfl) kb_6 ?_
  refine aw_icmp_ne C 12 (tb_at ok_X8_text 3 rfl) (by decide) h (fun h => ?_) (fun h => ?_)
  · refine aw_bipush C (tb_at ok_X8_text 4 rfl) kb_m4 ?_
    exact sw_iret C S rfl (tb_at ok_X8_text 5 rfl) h
  · refine aw_iconst C (tb_at ok_X8_text 6 rfl) ki_0 ?_
    refine aw_istore_n C [some (.ref 85), some (.int 0)] (tb_at ok_X8_text 7 rfl) S.2.2.2.1 (by decide) rfl ?_
    exact aw_loc [some (.ref 85), some (.int 0)] (sl_k (sl_k sl_0)) (t_fM_text_b14 C S hn 1000 _ _ h)
theorem m_fM_text {l : Launch} {w : Wd} {n : Nat} {M : Mem} {r : Int32 × Mem} (hn : 113 ≤ n) (h : fM_text M = some r) : CM l w yX8_text cX8_text 2 (some .int) 67 0 0 [.ref 85] n M (PD M) (Ti n r) := sm_of (loc := [some (.ref 85), none]) mf_X8_text (by decide) (Nat.le_of_ble_eq_true rfl) rfl (fun K _ _ C S => t_fM_text C S hn h)
def tb_X8_force : List (Nat × Instr × Nat) := [(0, .iload_n 1, 1), (1, .i2l, 1), (2, .lconst 0, 1), (3, .aload_n 0, 1), (4, .getfield 109, 3), (7, .iconst 1, 1), (8, .isub, 1), (9, .i2l, 1), (10, .invokestatic 114, 3), (13, .ifCond .ne 6, 3), (16, .bipush (-2), 2), (18, .ireturn, 1), (19, .aload_n 0, 1), (20, .getfield 297, 3), (23, .istore_n 2, 1), (24, .aload_n 0, 1), (25, .iload_n 1, 1), (26, .putfield 297, 3), (29, .iload_n 2, 1), (30, .ireturn, 1)]
theorem ok_X8_force : TB cX8_force tb_X8_force := (by decide +kernel : tb_X8_force.all (fun q => tbq cX8_force q) = true)
set_option maxHeartbeats 4000000 in
set_option maxRecDepth 20000 in
theorem t_fM_force {K : Cx} {n : Nat} {a1 : Int32} {M : Mem} {r : Int32 × Mem} (C : Ctx K RX8 cX8_force) (S : SS K n 2 3 (some .int) (Ti n r)) (hn : 113 ≤ n) (h : fM_force a1 M = some r) : AS K n M 0 [some (.ref 85), some (.int a1), none] [] := by
  refine aw_iload_n C (tb_at ok_X8_force 0 rfl) rfl ?_
  refine aw_i2l C (tb_at ok_X8_force 1 rfl) ?_
  refine aw_lconst C (tb_at ok_X8_force 2 rfl) kl_0 ?_
  refine aw_aload_n C (tb_at ok_X8_force 3 rfl) rfl ?_
  refine aw_get C (ob_85 hn) rfl (by decide) rfl fl_RX8_109 (tb_at ok_X8_force 4 rfl) ?_
  refine aw_iconst C (tb_at ok_X8_force 5 rfl) ki_1 ?_
  refine aw_isub C (tb_at ok_X8_force 6 rfl) ?_
  refine aw_i2l C (tb_at ok_X8_force 7 rfl) ?_
  refine sw_cSi C S [.long (a1.toInt64), .long (0 : Int64), .long (((M 85 3) - 1).toInt64)] [] (tb_at ok_X8_force 8 rfl) h (fun q e => m_fM_in hn e) mf_X8_in cw_RX8_114 rfl (by decide) rfl (Nat.le_of_ble_eq_true rfl) (fun r1 M1 h => ?_)
  refine aw_if_ne C 19 (tb_at ok_X8_force 9 rfl) (by decide) h (fun h => ?_) (fun h => ?_)
  · refine aw_bipush C (tb_at ok_X8_force 10 rfl) kb_m2 ?_
    exact sw_iret C S rfl (tb_at ok_X8_force 11 rfl) h
  · refine aw_aload_n C (tb_at ok_X8_force 12 rfl) rfl ?_
    refine aw_get C (ob_85 hn) rfl (by decide) rfl fl_RX8_297 (tb_at ok_X8_force 13 rfl) ?_
    refine aw_istore_n C [some (.ref 85), some (.int a1), some (.int (M1 85 4))] (tb_at ok_X8_force 14 rfl) S.2.2.2.1 (by decide) rfl ?_
    refine aw_aload_n C (tb_at ok_X8_force 15 rfl) rfl ?_
    refine aw_iload_n C (tb_at ok_X8_force 16 rfl) rfl ?_
    refine sw_put C (ob_85 hn) rfl (by decide) (by decide) (Or.inr (by decide)) rfl rfl rfl rfl fl_RX8_297 (tb_at ok_X8_force 17 rfl) ?_
    refine aw_iload_n C (tb_at ok_X8_force 18 rfl) rfl ?_
    exact sw_iret C S rfl (tb_at ok_X8_force 19 rfl) h
theorem m_fM_force {l : Launch} {w : Wd} {n : Nat} {a1 : Int32} {M : Mem} {r : Int32 × Mem} (hn : 113 ≤ n) (h : fM_force a1 M = some r) : CM l w yX8_force cX8_force 3 (some .int) 2 0 0 [.ref 85, .int a1] n M (PD M) (Ti n r) := sm_of (loc := [some (.ref 85), some (.int a1), none]) mf_X8_force (by decide) (Nat.le_of_ble_eq_true rfl) rfl (fun K _ _ C S => t_fM_force C S hn h)
def tb_X8_says : List (Nat × Instr × Nat) := [(0, .iconst 0, 1), (1, .istore 5, 2), (3, .iconst 0, 1), (4, .istore 6, 2), (6, .iload 6, 2), (8, .aload_n 0, 1), (9, .getfield 118, 3), (12, .if_icmp .ge 60, 3), (15, .iload 5, 2), (17, .iload 6, 2), (19, .iload_n 2, 1), (20, .if_icmp .eq 42, 3), (23, .iload 6, 2), (25, .aload_n 0, 1), (26, .getfield 50, 3), (29, .if_icmp .eq 33, 3), (32, .aload_n 0, 1), (33, .getfield 59, 3), (36, .iload 6, 2), (38, .iaload, 1), (39, .ifCond .ne 23, 3), (42, .aload_n 0, 1), (43, .getfield 56, 3), (46, .iload 6, 2), (48, .iaload, 1), (49, .aload_n 0, 1), (50, .getfield 56, 3), (53, .iload_n 2, 1), (54, .iaload, 1), (55, .if_icmp .ne 7, 3), (58, .iconst 1, 1), (59, .goto 4, 3), (62, .iconst 0, 1), (63, .iadd, 1), (64, .istore 5, 2), (66, .iinc 6 1, 3), (69, .goto (-63), 3), (72, .aload_n 0, 1), (73, .iload_n 3, 1), (74, .putfield 239, 3), (77, .aload_n 0, 1), (78, .aload_n 0, 1), (79, .getfield 56, 3), (82, .iload_n 2, 1), (83, .iaload, 1), (84, .putfield 242, 3), (87, .aload_n 0, 1), (88, .aload_n 0, 1), (89, .getfield 74, 3), (92, .aload_n 0, 1), (93, .getfield 56, 3), (96, .iload_n 2, 1), (97, .iaload, 1), (98, .iaload, 1), (99, .putfield 245, 3), (102, .aload_n 0, 1), (103, .aload_n 0, 1), (104, .getfield 38, 3), (107, .iload_n 2, 1), (108, .iaload, 1), (109, .putfield 248, 3), (112, .aload_n 0, 1), (113, .iload 4, 2), (115, .putfield 251, 3), (118, .aload_n 0, 1), (119, .iload 5, 2), (121, .putfield 254, 3), (124, .aload_n 0, 1), (125, .aload_n 0, 1), (126, .getfield 297, 3), (129, .iload_n 1, 1), (130, .invokevirtual 294, 3), (133, .iload_n 1, 1), (134, .iconst 2, 1), (135, .if_icmp .ne 7, 3), (138, .iconst 0, 1), (139, .goto 4, 3), (142, .iconst 1, 1), (143, .iload_n 1, 1), (144, .iconst 2, 1), (145, .if_icmp .ne 8, 3), (148, .bipush 99, 2), (150, .goto 5, 3), (153, .bipush 9, 2), (155, .invokestatic 300, 3), (158, .ireturn, 1)]
theorem ok_X8_says : TB cX8_says tb_X8_says := (by decide +kernel : tb_X8_says.all (fun q => tbq cX8_says q) = true)
set_option maxHeartbeats 4000000 in
set_option maxRecDepth 20000 in
theorem t_fM_says_b155 {K : Cx} {n : Nat} {s0 : Int32} {s1 : Int32} {s2 : Int32} {M : Mem} {r : Int32 × Mem} (C : Ctx K RX8 cX8_says) (S : SS K n 67 7 (some .int) (Ti n r)) (hn : 113 ≤ n) (h : fM_says_b155 s0 s1 s2 M = some r) : AS K n M 155 [none, none, none, none, none, none, none] [.int s0, .int s1, .int s2] := by
  refine sw_cSi C S [.int s2, .int s1, .int s0] [] (tb_at ok_X8_says 84 rfl) h (fun q e => m_fM_within hn e) mf_X8_within cw_RX8_300 rfl (by decide) rfl (Nat.le_of_ble_eq_true rfl) (fun r2 M2 h => ?_)
  exact sw_iret C S rfl (tb_at ok_X8_says 85 rfl) h
set_option maxHeartbeats 4000000 in
set_option maxRecDepth 20000 in
theorem t_fM_says_b143 {K : Cx} {n : Nat} {a1 : Int32} {s0 : Int32} {s1 : Int32} {M : Mem} {r : Int32 × Mem} (C : Ctx K RX8 cX8_says) (S : SS K n 67 7 (some .int) (Ti n r)) (hn : 113 ≤ n) (h : fM_says_b143 a1 s0 s1 M = some r) : AS K n M 143 [none, some (.int a1), none, none, none, none, none] [.int s0, .int s1] := by
  refine aw_iload_n C (tb_at ok_X8_says 78 rfl) rfl ?_
  refine aw_iconst C (tb_at ok_X8_says 79 rfl) ki_2 ?_
  refine aw_icmp_ne C 153 (tb_at ok_X8_says 80 rfl) (by decide) h (fun h => ?_) (fun h => ?_)
  · refine aw_bipush C (tb_at ok_X8_says 81 rfl) kb_99 ?_
    refine aw_goto C 155 (tb_at ok_X8_says 82 rfl) (by decide) ?_
    exact aw_loc [none, none, none, none, none, none, none] (sl_n (sl_n (sl_n (sl_n (sl_n (sl_n (sl_n sl_0))))))) (t_fM_says_b155 C S hn h)
  · refine aw_bipush C (tb_at ok_X8_says 83 rfl) kb_9 ?_
    exact aw_loc [none, none, none, none, none, none, none] (sl_n (sl_n (sl_n (sl_n (sl_n (sl_n (sl_n sl_0))))))) (t_fM_says_b155 C S hn h)
set_option maxHeartbeats 4000000 in
set_option maxRecDepth 20000 in
theorem t_fM_says_b63 {K : Cx} {n : Nat} {k6 : Int32 → Int32 → Mem → Option (Int32 × Mem)} {a1 : Int32} {a2 : Int32} {a3 : Int32} {a4 : Int32} {a6 : Int32} {s0 : Int32} {s1 : Int32} {M : Mem} {r : Int32 × Mem} (C : Ctx K RX8 cX8_says) (S : SS K n 67 7 (some .int) (Ti n r)) (hn : 113 ≤ n) (hk6 : ∀ (va5 : Int32) (va6 : Int32) (M1 : Mem), k6 va5 va6 M1 = some r → AS K n M1 6 [some (.ref 85), some (.int a1), some (.int a2), some (.int a3), some (.int a4), some (.int va5), some (.int va6)] []) (h : fM_says_b63 k6 a1 a2 a3 a4 a6 s0 s1 M = some r) : AS K n M 63 [some (.ref 85), some (.int a1), some (.int a2), some (.int a3), some (.int a4), none, some (.int a6)] [.int s0, .int s1] := by
  refine aw_iadd C (tb_at ok_X8_says 33 rfl) ?_
  refine aw_istore C [some (.ref 85), some (.int a1), some (.int a2), some (.int a3), some (.int a4), some (.int (s1 + s0)), some (.int a6)] (tb_at ok_X8_says 34 rfl) S.2.2.2.1 (by decide) rfl ?_
  refine aw_iinc C [some (.ref 85), some (.int a1), some (.int a2), some (.int a3), some (.int a4), some (.int (s1 + s0)), some (.int (a6 + 1))] (tb_at ok_X8_says 35 rfl) rfl S.2.2.2.1 (by decide) ki_1 rfl ?_
  refine aw_goto C 6 (tb_at ok_X8_says 36 rfl) (by decide) ?_
  exact aw_loc [some (.ref 85), some (.int a1), some (.int a2), some (.int a3), some (.int a4), some (.int (s1 + s0)), some (.int (a6 + 1))] (sl_k (sl_k (sl_k (sl_k (sl_k (sl_k (sl_k sl_0))))))) (hk6 _ _ _ h)
set_option maxHeartbeats 4000000 in
set_option maxRecDepth 20000 in
theorem t_fM_says_b62 {K : Cx} {n : Nat} {k6 : Int32 → Int32 → Mem → Option (Int32 × Mem)} {a1 : Int32} {a2 : Int32} {a3 : Int32} {a4 : Int32} {a6 : Int32} {s0 : Int32} {M : Mem} {r : Int32 × Mem} (C : Ctx K RX8 cX8_says) (S : SS K n 67 7 (some .int) (Ti n r)) (hn : 113 ≤ n) (hk6 : ∀ (va5 : Int32) (va6 : Int32) (M1 : Mem), k6 va5 va6 M1 = some r → AS K n M1 6 [some (.ref 85), some (.int a1), some (.int a2), some (.int a3), some (.int a4), some (.int va5), some (.int va6)] []) (h : fM_says_b62 k6 a1 a2 a3 a4 a6 s0 M = some r) : AS K n M 62 [some (.ref 85), some (.int a1), some (.int a2), some (.int a3), some (.int a4), none, some (.int a6)] [.int s0] := by
  refine aw_iconst C (tb_at ok_X8_says 32 rfl) ki_0 ?_
  exact aw_loc [some (.ref 85), some (.int a1), some (.int a2), some (.int a3), some (.int a4), none, some (.int a6)] (sl_k (sl_k (sl_k (sl_k (sl_k (sl_n (sl_k sl_0))))))) (t_fM_says_b63 C S hn hk6 h)
set_option maxHeartbeats 4000000 in
set_option maxRecDepth 20000 in
theorem t_fM_says_b6 {K : Cx} {n : Nat} {a1 : Int32} {a2 : Int32} {a3 : Int32} {a4 : Int32} {r : Int32 × Mem} (C : Ctx K RX8 cX8_says) (S : SS K n 67 7 (some .int) (Ti n r)) (hn : 113 ≤ n) : ∀ (z : Nat) (a5 : Int32) (a6 : Int32) (M : Mem), fM_says_b6 a1 a2 a3 a4 z a5 a6 M = some r → AS K n M 6 [some (.ref 85), some (.int a1), some (.int a2), some (.int a3), some (.int a4), some (.int a5), some (.int a6)] [] := by
  intro z
  induction z with
  | zero => intro a5 a6 M h; cases h
  | succ z ih =>
    intro a5 a6 M h
    refine aw_iload C (tb_at ok_X8_says 4 rfl) rfl ?_
    refine aw_aload_n C (tb_at ok_X8_says 5 rfl) rfl ?_
    refine aw_get C (ob_85 hn) rfl (by decide) rfl fl_RX8_118 (tb_at ok_X8_says 6 rfl) ?_
    refine aw_icmp_ge C 72 (tb_at ok_X8_says 7 rfl) (by decide) h (fun h => ?_) (fun h => ?_)
    · refine aw_aload_n C (tb_at ok_X8_says 37 rfl) rfl ?_
      refine aw_iload_n C (tb_at ok_X8_says 38 rfl) rfl ?_
      refine sw_put C (ob_85 hn) rfl (by decide) (by decide) (Or.inr (by decide)) rfl rfl rfl rfl fl_RX8_239 (tb_at ok_X8_says 39 rfl) ?_
      refine aw_aload_n C (tb_at ok_X8_says 40 rfl) rfl ?_
      refine aw_aload_n C (tb_at ok_X8_says 41 rfl) rfl ?_
      refine aw_getR C (ob_85 hn) rfl (by decide) rfl p_85_36 fl_RX8_56 (tb_at ok_X8_says 42 rfl) ?_
      refine aw_iload_n C (tb_at ok_X8_says 43 rfl) rfl ?_
      refine aw_iald C (ob_98 hn) (tb_at ok_X8_says 44 rfl) h (fun h => ?_)
      refine sw_put C (ob_85 hn) rfl (by decide) (by decide) (Or.inr (by decide)) rfl rfl rfl rfl fl_RX8_242 (tb_at ok_X8_says 45 rfl) ?_
      refine aw_aload_n C (tb_at ok_X8_says 46 rfl) rfl ?_
      refine aw_aload_n C (tb_at ok_X8_says 47 rfl) rfl ?_
      refine aw_getR C (ob_85 hn) rfl (by decide) rfl p_85_42 fl_RX8_74 (tb_at ok_X8_says 48 rfl) ?_
      refine aw_aload_n C (tb_at ok_X8_says 49 rfl) rfl ?_
      refine aw_getR C (ob_85 hn) rfl (by decide) rfl p_85_36 fl_RX8_56 (tb_at ok_X8_says 50 rfl) ?_
      refine aw_iload_n C (tb_at ok_X8_says 51 rfl) rfl ?_
      refine aw_iald C (ob_98 hn) (tb_at ok_X8_says 52 rfl) h (fun h => ?_)
      refine aw_iald C (ob_104 hn) (tb_at ok_X8_says 53 rfl) h (fun h => ?_)
      refine sw_put C (ob_85 hn) rfl (by decide) (by decide) (Or.inr (by decide)) rfl rfl rfl rfl fl_RX8_245 (tb_at ok_X8_says 54 rfl) ?_
      refine aw_aload_n C (tb_at ok_X8_says 55 rfl) rfl ?_
      refine aw_aload_n C (tb_at ok_X8_says 56 rfl) rfl ?_
      refine aw_getR C (ob_85 hn) rfl (by decide) rfl p_85_13 fl_RX8_38 (tb_at ok_X8_says 57 rfl) ?_
      refine aw_iload_n C (tb_at ok_X8_says 58 rfl) rfl ?_
      refine aw_iald C (ob_93 hn) (tb_at ok_X8_says 59 rfl) h (fun h => ?_)
      refine sw_put C (ob_85 hn) rfl (by decide) (by decide) (Or.inr (by decide)) rfl rfl rfl rfl fl_RX8_248 (tb_at ok_X8_says 60 rfl) ?_
      refine aw_aload_n C (tb_at ok_X8_says 61 rfl) rfl ?_
      refine aw_iload C (tb_at ok_X8_says 62 rfl) rfl ?_
      refine sw_put C (ob_85 hn) rfl (by decide) (by decide) (Or.inr (by decide)) rfl rfl rfl rfl fl_RX8_251 (tb_at ok_X8_says 63 rfl) ?_
      refine aw_aload_n C (tb_at ok_X8_says 64 rfl) rfl ?_
      refine aw_iload C (tb_at ok_X8_says 65 rfl) rfl ?_
      refine sw_put C (ob_85 hn) rfl (by decide) (by decide) (Or.inr (by decide)) rfl rfl rfl rfl fl_RX8_254 (tb_at ok_X8_says 66 rfl) ?_
      refine aw_aload_n C (tb_at ok_X8_says 67 rfl) rfl ?_
      refine aw_aload_n C (tb_at ok_X8_says 68 rfl) rfl ?_
      refine aw_get C (ob_85 hn) rfl (by decide) rfl fl_RX8_297 (tb_at ok_X8_says 69 rfl) ?_
      refine aw_iload_n C (tb_at ok_X8_says 70 rfl) rfl ?_
      refine sw_cVi C S [.int ((wr (wr (wr (wr (wr (wr M 85 21 a3) 85 22 ((wr M 85 21 a3) 98 (ix a2))) 85 23 ((wr (wr M 85 21 a3) 85 22 ((wr M 85 21 a3) 98 (ix a2))) 104 (ix ((wr (wr M 85 21 a3) 85 22 ((wr M 85 21 a3) 98 (ix a2))) 98 (ix a2))))) 85 24 ((wr (wr (wr M 85 21 a3) 85 22 ((wr M 85 21 a3) 98 (ix a2))) 85 23 ((wr (wr M 85 21 a3) 85 22 ((wr M 85 21 a3) 98 (ix a2))) 104 (ix ((wr (wr M 85 21 a3) 85 22 ((wr M 85 21 a3) 98 (ix a2))) 98 (ix a2))))) 93 (ix a2))) 85 25 a4) 85 26 a5) 85 4), .int a1] [] (tb_at ok_X8_says 71 rfl) h (fun q e => m_fM_read hn e) mf_X8_read (ob_85 hn) rfl rfl cw_RX8_294 rfl (by decide) rfl (Nat.le_of_ble_eq_true rfl) (fun r1 M1 h => ?_)
      refine aw_iload_n C (tb_at ok_X8_says 72 rfl) rfl ?_
      refine aw_iconst C (tb_at ok_X8_says 73 rfl) ki_2 ?_
      refine aw_icmp_ne C 142 (tb_at ok_X8_says 74 rfl) (by decide) h (fun h => ?_) (fun h => ?_)
      · refine aw_iconst C (tb_at ok_X8_says 75 rfl) ki_0 ?_
        refine aw_goto C 143 (tb_at ok_X8_says 76 rfl) (by decide) ?_
        exact aw_loc [none, some (.int a1), none, none, none, none, none] (sl_n (sl_k (sl_n (sl_n (sl_n (sl_n (sl_n sl_0))))))) (t_fM_says_b143 C S hn h)
      · refine aw_iconst C (tb_at ok_X8_says 77 rfl) ki_1 ?_
        exact aw_loc [none, some (.int a1), none, none, none, none, none] (sl_n (sl_k (sl_n (sl_n (sl_n (sl_n (sl_n sl_0))))))) (t_fM_says_b143 C S hn h)
    · refine aw_iload C (tb_at ok_X8_says 8 rfl) rfl ?_
      refine aw_iload C (tb_at ok_X8_says 9 rfl) rfl ?_
      refine aw_iload_n C (tb_at ok_X8_says 10 rfl) rfl ?_
      refine aw_icmp_eq C 62 (tb_at ok_X8_says 11 rfl) (by decide) h (fun h => ?_) (fun h => ?_)
      · exact aw_loc [some (.ref 85), some (.int a1), some (.int a2), some (.int a3), some (.int a4), none, some (.int a6)] (sl_k (sl_k (sl_k (sl_k (sl_k (sl_n (sl_k sl_0))))))) (t_fM_says_b62 C S hn ih h)
      · refine aw_iload C (tb_at ok_X8_says 12 rfl) rfl ?_
        refine aw_aload_n C (tb_at ok_X8_says 13 rfl) rfl ?_
        refine aw_get C (ob_85 hn) rfl (by decide) rfl fl_RX8_50 (tb_at ok_X8_says 14 rfl) ?_
        refine aw_icmp_eq C 62 (tb_at ok_X8_says 15 rfl) (by decide) h (fun h => ?_) (fun h => ?_)
        · exact aw_loc [some (.ref 85), some (.int a1), some (.int a2), some (.int a3), some (.int a4), none, some (.int a6)] (sl_k (sl_k (sl_k (sl_k (sl_k (sl_n (sl_k sl_0))))))) (t_fM_says_b62 C S hn ih h)
        · refine aw_aload_n C (tb_at ok_X8_says 16 rfl) rfl ?_
          refine aw_getR C (ob_85 hn) rfl (by decide) rfl p_85_37 fl_RX8_59 (tb_at ok_X8_says 17 rfl) ?_
          refine aw_iload C (tb_at ok_X8_says 18 rfl) rfl ?_
          refine aw_iald C (ob_99 hn) (tb_at ok_X8_says 19 rfl) h (fun h => ?_)
          refine aw_if_ne C 62 (tb_at ok_X8_says 20 rfl) (by decide) h (fun h => ?_) (fun h => ?_)
          · refine aw_aload_n C (tb_at ok_X8_says 21 rfl) rfl ?_
            refine aw_getR C (ob_85 hn) rfl (by decide) rfl p_85_36 fl_RX8_56 (tb_at ok_X8_says 22 rfl) ?_
            refine aw_iload C (tb_at ok_X8_says 23 rfl) rfl ?_
            refine aw_iald C (ob_98 hn) (tb_at ok_X8_says 24 rfl) h (fun h => ?_)
            refine aw_aload_n C (tb_at ok_X8_says 25 rfl) rfl ?_
            refine aw_getR C (ob_85 hn) rfl (by decide) rfl p_85_36 fl_RX8_56 (tb_at ok_X8_says 26 rfl) ?_
            refine aw_iload_n C (tb_at ok_X8_says 27 rfl) rfl ?_
            refine aw_iald C (ob_98 hn) (tb_at ok_X8_says 28 rfl) h (fun h => ?_)
            refine aw_icmp_ne C 62 (tb_at ok_X8_says 29 rfl) (by decide) h (fun h => ?_) (fun h => ?_)
            · refine aw_iconst C (tb_at ok_X8_says 30 rfl) ki_1 ?_
              refine aw_goto C 63 (tb_at ok_X8_says 31 rfl) (by decide) ?_
              exact aw_loc [some (.ref 85), some (.int a1), some (.int a2), some (.int a3), some (.int a4), none, some (.int a6)] (sl_k (sl_k (sl_k (sl_k (sl_k (sl_n (sl_k sl_0))))))) (t_fM_says_b63 C S hn ih h)
            · exact aw_loc [some (.ref 85), some (.int a1), some (.int a2), some (.int a3), some (.int a4), none, some (.int a6)] (sl_k (sl_k (sl_k (sl_k (sl_k (sl_n (sl_k sl_0))))))) (t_fM_says_b62 C S hn ih h)
          · exact aw_loc [some (.ref 85), some (.int a1), some (.int a2), some (.int a3), some (.int a4), none, some (.int a6)] (sl_k (sl_k (sl_k (sl_k (sl_k (sl_n (sl_k sl_0))))))) (t_fM_says_b62 C S hn ih h)
set_option maxHeartbeats 4000000 in
set_option maxRecDepth 20000 in
theorem t_fM_says {K : Cx} {n : Nat} {a1 : Int32} {a2 : Int32} {a3 : Int32} {a4 : Int32} {M : Mem} {r : Int32 × Mem} (C : Ctx K RX8 cX8_says) (S : SS K n 67 7 (some .int) (Ti n r)) (hn : 113 ≤ n) (h : fM_says a1 a2 a3 a4 M = some r) : AS K n M 0 [some (.ref 85), some (.int a1), some (.int a2), some (.int a3), some (.int a4), none, none] [] := by
  refine aw_iconst C (tb_at ok_X8_says 0 rfl) ki_0 ?_
  refine aw_istore C [some (.ref 85), some (.int a1), some (.int a2), some (.int a3), some (.int a4), some (.int 0), none] (tb_at ok_X8_says 1 rfl) S.2.2.2.1 (by decide) rfl ?_
  refine aw_iconst C (tb_at ok_X8_says 2 rfl) ki_0 ?_
  refine aw_istore C [some (.ref 85), some (.int a1), some (.int a2), some (.int a3), some (.int a4), some (.int 0), some (.int 0)] (tb_at ok_X8_says 3 rfl) S.2.2.2.1 (by decide) rfl ?_
  exact aw_loc [some (.ref 85), some (.int a1), some (.int a2), some (.int a3), some (.int a4), some (.int 0), some (.int 0)] (sl_k (sl_k (sl_k (sl_k (sl_k (sl_k (sl_k sl_0))))))) (t_fM_says_b6 C S hn 1000 _ _ _ h)
theorem m_fM_says {l : Launch} {w : Wd} {n : Nat} {a1 : Int32} {a2 : Int32} {a3 : Int32} {a4 : Int32} {M : Mem} {r : Int32 × Mem} (hn : 113 ≤ n) (h : fM_says a1 a2 a3 a4 M = some r) : CM l w yX8_says cX8_says 7 (some .int) 67 0 0 [.ref 85, .int a1, .int a2, .int a3, .int a4] n M (PD M) (Ti n r) := sm_of (loc := [some (.ref 85), some (.int a1), some (.int a2), some (.int a3), some (.int a4), none, none]) mf_X8_says (by decide) (Nat.le_of_ble_eq_true rfl) rfl (fun K _ _ C S => t_fM_says C S hn h)
def tb_X8_takesOf : List (Nat × Instr × Nat) := [(0, .aload_n 0, 1), (1, .getfield 35, 3), (4, .iload_n 1, 1), (5, .iaload, 1), (6, .istore_n 3, 1), (7, .iload_n 3, 1), (8, .iconst 1, 1), (9, .if_icmp .eq 8, 3), (12, .iload_n 3, 1), (13, .iconst 3, 1), (14, .if_icmp .ne 16, 3), (17, .iload_n 2, 1), (18, .aload_n 0, 1), (19, .getfield 38, 3), (22, .iload_n 1, 1), (23, .iaload, 1), (24, .iconst 3, 1), (25, .idiv, 1), (26, .isub, 1), (27, .goto 39, 3), (30, .iload_n 3, 1), (31, .iconst 2, 1), (32, .if_icmp .ne 9, 3), (35, .iload_n 2, 1), (36, .iconst 1, 1), (37, .iadd, 1), (38, .goto 28, 3), (41, .iload_n 3, 1), (42, .iconst 4, 1), (43, .if_icmp .ne 11, 3), (46, .iconst 2, 1), (47, .iload_n 2, 1), (48, .iconst 1, 1), (49, .iadd, 1), (50, .imul, 1), (51, .goto 15, 3), (54, .iload_n 3, 1), (55, .iconst 5, 1), (56, .if_icmp .ne 9, 3), (59, .iconst 2, 1), (60, .iload_n 2, 1), (61, .imul, 1), (62, .goto 4, 3), (65, .iload_n 2, 1), (66, .istore 4, 2), (68, .iload 4, 2), (70, .iconst 1, 1), (71, .if_icmp .ge 7, 3), (74, .iconst 1, 1), (75, .goto 5, 3), (78, .iload 4, 2), (80, .ireturn, 1)]
theorem ok_X8_takesOf : TB cX8_takesOf tb_X8_takesOf := (by decide +kernel : tb_X8_takesOf.all (fun q => tbq cX8_takesOf q) = true)
set_option maxHeartbeats 4000000 in
set_option maxRecDepth 20000 in
theorem t_fM_takesOf_b66 {K : Cx} {n : Nat} {s0 : Int32} {M : Mem} {r : Int32 × Mem} (C : Ctx K RX8 cX8_takesOf) (S : SS K n 1 5 (some .int) (Ti n r)) (hn : 113 ≤ n) (h : fM_takesOf_b66 s0 M = some r) : AS K n M 66 [none, none, none, none, none] [.int s0] := by
  refine aw_istore C [none, none, none, none, some (.int s0)] (tb_at ok_X8_takesOf 44 rfl) S.2.2.2.1 (by decide) rfl ?_
  refine aw_iload C (tb_at ok_X8_takesOf 45 rfl) rfl ?_
  refine aw_iconst C (tb_at ok_X8_takesOf 46 rfl) ki_1 ?_
  refine aw_icmp_ge C 78 (tb_at ok_X8_takesOf 47 rfl) (by decide) h (fun h => ?_) (fun h => ?_)
  · refine aw_iload C (tb_at ok_X8_takesOf 50 rfl) rfl ?_
    exact sw_iret C S rfl (tb_at ok_X8_takesOf 51 rfl) h
  · refine aw_iconst C (tb_at ok_X8_takesOf 48 rfl) ki_1 ?_
    refine aw_goto C 80 (tb_at ok_X8_takesOf 49 rfl) (by decide) ?_
    exact sw_iret C S rfl (tb_at ok_X8_takesOf 51 rfl) h
set_option maxHeartbeats 4000000 in
set_option maxRecDepth 20000 in
theorem t_fM_takesOf_b17 {K : Cx} {n : Nat} {a1 : Int32} {a2 : Int32} {M : Mem} {r : Int32 × Mem} (C : Ctx K RX8 cX8_takesOf) (S : SS K n 1 5 (some .int) (Ti n r)) (hn : 113 ≤ n) (h : fM_takesOf_b17 a1 a2 M = some r) : AS K n M 17 [some (.ref 85), some (.int a1), some (.int a2), none, none] [] := by
  refine aw_iload_n C (tb_at ok_X8_takesOf 11 rfl) rfl ?_
  refine aw_aload_n C (tb_at ok_X8_takesOf 12 rfl) rfl ?_
  refine aw_getR C (ob_85 hn) rfl (by decide) rfl p_85_13 fl_RX8_38 (tb_at ok_X8_takesOf 13 rfl) ?_
  refine aw_iload_n C (tb_at ok_X8_takesOf 14 rfl) rfl ?_
  refine aw_iald C (ob_93 hn) (tb_at ok_X8_takesOf 15 rfl) h (fun h => ?_)
  refine aw_iconst C (tb_at ok_X8_takesOf 16 rfl) ki_3 ?_
  refine aw_idiv C (by decide) (tb_at ok_X8_takesOf 17 rfl) ?_
  refine aw_isub C (tb_at ok_X8_takesOf 18 rfl) ?_
  refine aw_goto C 66 (tb_at ok_X8_takesOf 19 rfl) (by decide) ?_
  exact aw_loc [none, none, none, none, none] (sl_n (sl_n (sl_n (sl_n (sl_n sl_0))))) (t_fM_takesOf_b66 C S hn h)
set_option maxHeartbeats 4000000 in
set_option maxRecDepth 20000 in
theorem t_fM_takesOf {K : Cx} {n : Nat} {a1 : Int32} {a2 : Int32} {M : Mem} {r : Int32 × Mem} (C : Ctx K RX8 cX8_takesOf) (S : SS K n 1 5 (some .int) (Ti n r)) (hn : 113 ≤ n) (h : fM_takesOf a1 a2 M = some r) : AS K n M 0 [some (.ref 85), some (.int a1), some (.int a2), none, none] [] := by
  refine aw_aload_n C (tb_at ok_X8_takesOf 0 rfl) rfl ?_
  refine aw_getR C (ob_85 hn) rfl (by decide) rfl p_85_12 fl_RX8_35 (tb_at ok_X8_takesOf 1 rfl) ?_
  refine aw_iload_n C (tb_at ok_X8_takesOf 2 rfl) rfl ?_
  refine aw_iald C (ob_92 hn) (tb_at ok_X8_takesOf 3 rfl) h (fun h => ?_)
  refine aw_istore_n C [some (.ref 85), some (.int a1), some (.int a2), some (.int (M 92 (ix a1))), none] (tb_at ok_X8_takesOf 4 rfl) S.2.2.2.1 (by decide) rfl ?_
  refine aw_iload_n C (tb_at ok_X8_takesOf 5 rfl) rfl ?_
  refine aw_iconst C (tb_at ok_X8_takesOf 6 rfl) ki_1 ?_
  refine aw_icmp_eq C 17 (tb_at ok_X8_takesOf 7 rfl) (by decide) h (fun h => ?_) (fun h => ?_)
  · exact aw_loc [some (.ref 85), some (.int a1), some (.int a2), none, none] (sl_k (sl_k (sl_k (sl_n (sl_n sl_0))))) (t_fM_takesOf_b17 C S hn h)
  · refine aw_iload_n C (tb_at ok_X8_takesOf 8 rfl) rfl ?_
    refine aw_iconst C (tb_at ok_X8_takesOf 9 rfl) ki_3 ?_
    refine aw_icmp_ne C 30 (tb_at ok_X8_takesOf 10 rfl) (by decide) h (fun h => ?_) (fun h => ?_)
    · exact aw_loc [some (.ref 85), some (.int a1), some (.int a2), none, none] (sl_k (sl_k (sl_k (sl_n (sl_n sl_0))))) (t_fM_takesOf_b17 C S hn h)
    · refine aw_iload_n C (tb_at ok_X8_takesOf 20 rfl) rfl ?_
      refine aw_iconst C (tb_at ok_X8_takesOf 21 rfl) ki_2 ?_
      refine aw_icmp_ne C 41 (tb_at ok_X8_takesOf 22 rfl) (by decide) h (fun h => ?_) (fun h => ?_)
      · refine aw_iload_n C (tb_at ok_X8_takesOf 23 rfl) rfl ?_
        refine aw_iconst C (tb_at ok_X8_takesOf 24 rfl) ki_1 ?_
        refine aw_iadd C (tb_at ok_X8_takesOf 25 rfl) ?_
        refine aw_goto C 66 (tb_at ok_X8_takesOf 26 rfl) (by decide) ?_
        exact aw_loc [none, none, none, none, none] (sl_n (sl_n (sl_n (sl_n (sl_n sl_0))))) (t_fM_takesOf_b66 C S hn h)
      · refine aw_iload_n C (tb_at ok_X8_takesOf 27 rfl) rfl ?_
        refine aw_iconst C (tb_at ok_X8_takesOf 28 rfl) ki_4 ?_
        refine aw_icmp_ne C 54 (tb_at ok_X8_takesOf 29 rfl) (by decide) h (fun h => ?_) (fun h => ?_)
        · refine aw_iconst C (tb_at ok_X8_takesOf 30 rfl) ki_2 ?_
          refine aw_iload_n C (tb_at ok_X8_takesOf 31 rfl) rfl ?_
          refine aw_iconst C (tb_at ok_X8_takesOf 32 rfl) ki_1 ?_
          refine aw_iadd C (tb_at ok_X8_takesOf 33 rfl) ?_
          refine aw_imul C (tb_at ok_X8_takesOf 34 rfl) ?_
          refine aw_goto C 66 (tb_at ok_X8_takesOf 35 rfl) (by decide) ?_
          exact aw_loc [none, none, none, none, none] (sl_n (sl_n (sl_n (sl_n (sl_n sl_0))))) (t_fM_takesOf_b66 C S hn h)
        · refine aw_iload_n C (tb_at ok_X8_takesOf 36 rfl) rfl ?_
          refine aw_iconst C (tb_at ok_X8_takesOf 37 rfl) ki_5 ?_
          refine aw_icmp_ne C 65 (tb_at ok_X8_takesOf 38 rfl) (by decide) h (fun h => ?_) (fun h => ?_)
          · refine aw_iconst C (tb_at ok_X8_takesOf 39 rfl) ki_2 ?_
            refine aw_iload_n C (tb_at ok_X8_takesOf 40 rfl) rfl ?_
            refine aw_imul C (tb_at ok_X8_takesOf 41 rfl) ?_
            refine aw_goto C 66 (tb_at ok_X8_takesOf 42 rfl) (by decide) ?_
            exact aw_loc [none, none, none, none, none] (sl_n (sl_n (sl_n (sl_n (sl_n sl_0))))) (t_fM_takesOf_b66 C S hn h)
          · refine aw_iload_n C (tb_at ok_X8_takesOf 43 rfl) rfl ?_
            exact aw_loc [none, none, none, none, none] (sl_n (sl_n (sl_n (sl_n (sl_n sl_0))))) (t_fM_takesOf_b66 C S hn h)
theorem m_fM_takesOf {l : Launch} {w : Wd} {n : Nat} {a1 : Int32} {a2 : Int32} {M : Mem} {r : Int32 × Mem} (hn : 113 ≤ n) (h : fM_takesOf a1 a2 M = some r) : CM l w yX8_takesOf cX8_takesOf 5 (some .int) 1 0 0 [.ref 85, .int a1, .int a2] n M (PD M) (Ti n r) := sm_of (loc := [some (.ref 85), some (.int a1), some (.int a2), none, none]) mf_X8_takesOf (by decide) (Nat.le_of_ble_eq_true rfl) rfl (fun K _ _ C S => t_fM_takesOf C S hn h)
def tb_X8_worksOf : List (Nat × Instr × Nat) := [(0, .aload_n 0, 1), (1, .getfield 35, 3), (4, .iload_n 1, 1), (5, .iaload, 1), (6, .istore_n 3, 1), (7, .iload_n 3, 1), (8, .iconst 1, 1), (9, .if_icmp .eq 8, 3), (12, .iload_n 3, 1), (13, .iconst 3, 1), (14, .if_icmp .ne 9, 3), (17, .iload_n 2, 1), (18, .iconst 1, 1), (19, .iadd, 1), (20, .goto 31, 3), (23, .iload_n 3, 1), (24, .iconst 4, 1), (25, .if_icmp .ne 14, 3), (28, .iload_n 2, 1), (29, .aload_n 0, 1), (30, .getfield 38, 3), (33, .iload_n 1, 1), (34, .iaload, 1), (35, .iadd, 1), (36, .goto 15, 3), (39, .iload_n 3, 1), (40, .iconst 5, 1), (41, .if_icmp .ne 9, 3), (44, .iload_n 2, 1), (45, .iconst 2, 1), (46, .idiv, 1), (47, .goto 4, 3), (50, .iload_n 2, 1), (51, .istore 4, 2), (53, .iload 4, 2), (55, .iconst 1, 1), (56, .if_icmp .ge 7, 3), (59, .iconst 1, 1), (60, .goto 5, 3), (63, .iload 4, 2), (65, .ireturn, 1)]
theorem ok_X8_worksOf : TB cX8_worksOf tb_X8_worksOf := (by decide +kernel : tb_X8_worksOf.all (fun q => tbq cX8_worksOf q) = true)
set_option maxHeartbeats 4000000 in
set_option maxRecDepth 20000 in
theorem t_fM_worksOf_b51 {K : Cx} {n : Nat} {s0 : Int32} {M : Mem} {r : Int32 × Mem} (C : Ctx K RX8 cX8_worksOf) (S : SS K n 1 5 (some .int) (Ti n r)) (hn : 113 ≤ n) (h : fM_worksOf_b51 s0 M = some r) : AS K n M 51 [none, none, none, none, none] [.int s0] := by
  refine aw_istore C [none, none, none, none, some (.int s0)] (tb_at ok_X8_worksOf 33 rfl) S.2.2.2.1 (by decide) rfl ?_
  refine aw_iload C (tb_at ok_X8_worksOf 34 rfl) rfl ?_
  refine aw_iconst C (tb_at ok_X8_worksOf 35 rfl) ki_1 ?_
  refine aw_icmp_ge C 63 (tb_at ok_X8_worksOf 36 rfl) (by decide) h (fun h => ?_) (fun h => ?_)
  · refine aw_iload C (tb_at ok_X8_worksOf 39 rfl) rfl ?_
    exact sw_iret C S rfl (tb_at ok_X8_worksOf 40 rfl) h
  · refine aw_iconst C (tb_at ok_X8_worksOf 37 rfl) ki_1 ?_
    refine aw_goto C 65 (tb_at ok_X8_worksOf 38 rfl) (by decide) ?_
    exact sw_iret C S rfl (tb_at ok_X8_worksOf 40 rfl) h
set_option maxHeartbeats 4000000 in
set_option maxRecDepth 20000 in
theorem t_fM_worksOf_b17 {K : Cx} {n : Nat} {a2 : Int32} {M : Mem} {r : Int32 × Mem} (C : Ctx K RX8 cX8_worksOf) (S : SS K n 1 5 (some .int) (Ti n r)) (hn : 113 ≤ n) (h : fM_worksOf_b17 a2 M = some r) : AS K n M 17 [none, none, some (.int a2), none, none] [] := by
  refine aw_iload_n C (tb_at ok_X8_worksOf 11 rfl) rfl ?_
  refine aw_iconst C (tb_at ok_X8_worksOf 12 rfl) ki_1 ?_
  refine aw_iadd C (tb_at ok_X8_worksOf 13 rfl) ?_
  refine aw_goto C 51 (tb_at ok_X8_worksOf 14 rfl) (by decide) ?_
  exact aw_loc [none, none, none, none, none] (sl_n (sl_n (sl_n (sl_n (sl_n sl_0))))) (t_fM_worksOf_b51 C S hn h)
set_option maxHeartbeats 4000000 in
set_option maxRecDepth 20000 in
theorem t_fM_worksOf {K : Cx} {n : Nat} {a1 : Int32} {a2 : Int32} {M : Mem} {r : Int32 × Mem} (C : Ctx K RX8 cX8_worksOf) (S : SS K n 1 5 (some .int) (Ti n r)) (hn : 113 ≤ n) (h : fM_worksOf a1 a2 M = some r) : AS K n M 0 [some (.ref 85), some (.int a1), some (.int a2), none, none] [] := by
  refine aw_aload_n C (tb_at ok_X8_worksOf 0 rfl) rfl ?_
  refine aw_getR C (ob_85 hn) rfl (by decide) rfl p_85_12 fl_RX8_35 (tb_at ok_X8_worksOf 1 rfl) ?_
  refine aw_iload_n C (tb_at ok_X8_worksOf 2 rfl) rfl ?_
  refine aw_iald C (ob_92 hn) (tb_at ok_X8_worksOf 3 rfl) h (fun h => ?_)
  refine aw_istore_n C [some (.ref 85), some (.int a1), some (.int a2), some (.int (M 92 (ix a1))), none] (tb_at ok_X8_worksOf 4 rfl) S.2.2.2.1 (by decide) rfl ?_
  refine aw_iload_n C (tb_at ok_X8_worksOf 5 rfl) rfl ?_
  refine aw_iconst C (tb_at ok_X8_worksOf 6 rfl) ki_1 ?_
  refine aw_icmp_eq C 17 (tb_at ok_X8_worksOf 7 rfl) (by decide) h (fun h => ?_) (fun h => ?_)
  · exact aw_loc [none, none, some (.int a2), none, none] (sl_n (sl_n (sl_k (sl_n (sl_n sl_0))))) (t_fM_worksOf_b17 C S hn h)
  · refine aw_iload_n C (tb_at ok_X8_worksOf 8 rfl) rfl ?_
    refine aw_iconst C (tb_at ok_X8_worksOf 9 rfl) ki_3 ?_
    refine aw_icmp_ne C 23 (tb_at ok_X8_worksOf 10 rfl) (by decide) h (fun h => ?_) (fun h => ?_)
    · exact aw_loc [none, none, some (.int a2), none, none] (sl_n (sl_n (sl_k (sl_n (sl_n sl_0))))) (t_fM_worksOf_b17 C S hn h)
    · refine aw_iload_n C (tb_at ok_X8_worksOf 15 rfl) rfl ?_
      refine aw_iconst C (tb_at ok_X8_worksOf 16 rfl) ki_4 ?_
      refine aw_icmp_ne C 39 (tb_at ok_X8_worksOf 17 rfl) (by decide) h (fun h => ?_) (fun h => ?_)
      · refine aw_iload_n C (tb_at ok_X8_worksOf 18 rfl) rfl ?_
        refine aw_aload_n C (tb_at ok_X8_worksOf 19 rfl) rfl ?_
        refine aw_getR C (ob_85 hn) rfl (by decide) rfl p_85_13 fl_RX8_38 (tb_at ok_X8_worksOf 20 rfl) ?_
        refine aw_iload_n C (tb_at ok_X8_worksOf 21 rfl) rfl ?_
        refine aw_iald C (ob_93 hn) (tb_at ok_X8_worksOf 22 rfl) h (fun h => ?_)
        refine aw_iadd C (tb_at ok_X8_worksOf 23 rfl) ?_
        refine aw_goto C 51 (tb_at ok_X8_worksOf 24 rfl) (by decide) ?_
        exact aw_loc [none, none, none, none, none] (sl_n (sl_n (sl_n (sl_n (sl_n sl_0))))) (t_fM_worksOf_b51 C S hn h)
      · refine aw_iload_n C (tb_at ok_X8_worksOf 25 rfl) rfl ?_
        refine aw_iconst C (tb_at ok_X8_worksOf 26 rfl) ki_5 ?_
        refine aw_icmp_ne C 50 (tb_at ok_X8_worksOf 27 rfl) (by decide) h (fun h => ?_) (fun h => ?_)
        · refine aw_iload_n C (tb_at ok_X8_worksOf 28 rfl) rfl ?_
          refine aw_iconst C (tb_at ok_X8_worksOf 29 rfl) ki_2 ?_
          refine aw_idiv C (by decide) (tb_at ok_X8_worksOf 30 rfl) ?_
          refine aw_goto C 51 (tb_at ok_X8_worksOf 31 rfl) (by decide) ?_
          exact aw_loc [none, none, none, none, none] (sl_n (sl_n (sl_n (sl_n (sl_n sl_0))))) (t_fM_worksOf_b51 C S hn h)
        · refine aw_iload_n C (tb_at ok_X8_worksOf 32 rfl) rfl ?_
          exact aw_loc [none, none, none, none, none] (sl_n (sl_n (sl_n (sl_n (sl_n sl_0))))) (t_fM_worksOf_b51 C S hn h)
theorem m_fM_worksOf {l : Launch} {w : Wd} {n : Nat} {a1 : Int32} {a2 : Int32} {M : Mem} {r : Int32 × Mem} (hn : 113 ≤ n) (h : fM_worksOf a1 a2 M = some r) : CM l w yX8_worksOf cX8_worksOf 5 (some .int) 1 0 0 [.ref 85, .int a1, .int a2] n M (PD M) (Ti n r) := sm_of (loc := [some (.ref 85), some (.int a1), some (.int a2), none, none]) mf_X8_worksOf (by decide) (Nat.le_of_ble_eq_true rfl) rfl (fun K _ _ C S => t_fM_worksOf C S hn h)
def tb_X8_aimOf : List (Nat × Instr × Nat) := [(0, .aload_n 0, 1), (1, .getfield 65, 3), (4, .iload_n 1, 1), (5, .iaload, 1), (6, .aload_n 0, 1), (7, .getfield 47, 3), (10, .iload_n 1, 1), (11, .iaload, 1), (12, .if_icmp .ge 21, 3), (15, .aload_n 0, 1), (16, .getfield 44, 3), (19, .iconst 5, 1), (20, .iload_n 1, 1), (21, .imul, 1), (22, .aload_n 0, 1), (23, .getfield 65, 3), (26, .iload_n 1, 1), (27, .iaload, 1), (28, .iadd, 1), (29, .iaload, 1), (30, .goto 4, 3), (33, .iconst (-1), 1), (34, .ireturn, 1)]
theorem ok_X8_aimOf : TB cX8_aimOf tb_X8_aimOf := (by decide +kernel : tb_X8_aimOf.all (fun q => tbq cX8_aimOf q) = true)
set_option maxHeartbeats 4000000 in
set_option maxRecDepth 20000 in
theorem t_fM_aimOf {K : Cx} {n : Nat} {a1 : Int32} {M : Mem} {r : Int32 × Mem} (C : Ctx K RX8 cX8_aimOf) (S : SS K n 1 2 (some .int) (Ti n r)) (hn : 113 ≤ n) (h : fM_aimOf a1 M = some r) : AS K n M 0 [some (.ref 85), some (.int a1)] [] := by
  refine aw_aload_n C (tb_at ok_X8_aimOf 0 rfl) rfl ?_
  refine aw_getR C (ob_85 hn) rfl (by decide) rfl p_85_39 fl_RX8_65 (tb_at ok_X8_aimOf 1 rfl) ?_
  refine aw_iload_n C (tb_at ok_X8_aimOf 2 rfl) rfl ?_
  refine aw_iald C (ob_101 hn) (tb_at ok_X8_aimOf 3 rfl) h (fun h => ?_)
  refine aw_aload_n C (tb_at ok_X8_aimOf 4 rfl) rfl ?_
  refine aw_getR C (ob_85 hn) rfl (by decide) rfl p_85_16 fl_RX8_47 (tb_at ok_X8_aimOf 5 rfl) ?_
  refine aw_iload_n C (tb_at ok_X8_aimOf 6 rfl) rfl ?_
  refine aw_iald C (ob_96 hn) (tb_at ok_X8_aimOf 7 rfl) h (fun h => ?_)
  refine aw_icmp_ge C 33 (tb_at ok_X8_aimOf 8 rfl) (by decide) h (fun h => ?_) (fun h => ?_)
  · refine aw_iconst C (tb_at ok_X8_aimOf 21 rfl) ki_m1 ?_
    exact sw_iret C S rfl (tb_at ok_X8_aimOf 22 rfl) h
  · refine aw_aload_n C (tb_at ok_X8_aimOf 9 rfl) rfl ?_
    refine aw_getR C (ob_85 hn) rfl (by decide) rfl p_85_15 fl_RX8_44 (tb_at ok_X8_aimOf 10 rfl) ?_
    refine aw_iconst C (tb_at ok_X8_aimOf 11 rfl) ki_5 ?_
    refine aw_iload_n C (tb_at ok_X8_aimOf 12 rfl) rfl ?_
    refine aw_imul C (tb_at ok_X8_aimOf 13 rfl) ?_
    refine aw_aload_n C (tb_at ok_X8_aimOf 14 rfl) rfl ?_
    refine aw_getR C (ob_85 hn) rfl (by decide) rfl p_85_39 fl_RX8_65 (tb_at ok_X8_aimOf 15 rfl) ?_
    refine aw_iload_n C (tb_at ok_X8_aimOf 16 rfl) rfl ?_
    refine aw_iald C (ob_101 hn) (tb_at ok_X8_aimOf 17 rfl) h (fun h => ?_)
    refine aw_iadd C (tb_at ok_X8_aimOf 18 rfl) ?_
    refine aw_iald C (ob_95 hn) (tb_at ok_X8_aimOf 19 rfl) h (fun h => ?_)
    refine aw_goto C 34 (tb_at ok_X8_aimOf 20 rfl) (by decide) ?_
    exact sw_iret C S rfl (tb_at ok_X8_aimOf 22 rfl) h
theorem m_fM_aimOf {l : Launch} {w : Wd} {n : Nat} {a1 : Int32} {M : Mem} {r : Int32 × Mem} (hn : 113 ≤ n) (h : fM_aimOf a1 M = some r) : CM l w yX8_aimOf cX8_aimOf 2 (some .int) 1 0 0 [.ref 85, .int a1] n M (PD M) (Ti n r) := sm_of (loc := [some (.ref 85), some (.int a1)]) mf_X8_aimOf (by decide) (Nat.le_of_ble_eq_true rfl) rfl (fun K _ _ C S => t_fM_aimOf C S hn h)
def tb_X8_startsOff : List (Nat × Instr × Nat) := [(0, .aload_n 0, 1), (1, .invokevirtual 163, 3), (4, .iconst 0, 1), (5, .istore_n 1, 1), (6, .iload_n 1, 1), (7, .bipush 8, 2), (9, .if_icmp .ge 21, 3), (12, .aload_n 0, 1), (13, .getfield 74, 3), (16, .iload_n 1, 1), (17, .aload_n 0, 1), (18, .getfield 26, 3), (21, .iload_n 1, 1), (22, .iaload, 1), (23, .iastore, 1), (24, .iinc 1 1, 3), (27, .goto (-21), 3), (30, .iconst 0, 1), (31, .istore_n 1, 1), (32, .iload_n 1, 1), (33, .iconst 4, 1), (34, .if_icmp .ge 49, 3), (37, .aload_n 0, 1), (38, .getfield 56, 3), (41, .iload_n 1, 1), (42, .aload_n 0, 1), (43, .getfield 41, 3), (46, .iload_n 1, 1), (47, .iaload, 1), (48, .iastore, 1), (49, .aload_n 0, 1), (50, .getfield 59, 3), (53, .iload_n 1, 1), (54, .iconst 0, 1), (55, .iastore, 1), (56, .aload_n 0, 1), (57, .getfield 65, 3), (60, .iload_n 1, 1), (61, .iconst 0, 1), (62, .iastore, 1), (63, .aload_n 0, 1), (64, .getfield 68, 3), (67, .iload_n 1, 1), (68, .iconst 0, 1), (69, .iastore, 1), (70, .aload_n 0, 1), (71, .getfield 71, 3), (74, .iload_n 1, 1), (75, .iconst 0, 1), (76, .iastore, 1), (77, .iinc 1 1, 3), (80, .goto (-48), 3), (83, .aload_n 0, 1), (84, .iconst 0, 1), (85, .putfield 304, 3), (88, .aload_n 0, 1), (89, .iconst (-1), 1), (90, .putfield 307, 3), (93, .return_, 1)]
theorem ok_X8_startsOff : TB cX8_startsOff tb_X8_startsOff := (by decide +kernel : tb_X8_startsOff.all (fun q => tbq cX8_startsOff q) = true)
set_option maxHeartbeats 4000000 in
set_option maxRecDepth 20000 in
theorem t_fM_startsOff_b32 {K : Cx} {n : Nat} {r : Mem} (C : Ctx K RX8 cX8_startsOff) (S : SS K n 3 2 none (Tv n r)) (hn : 113 ≤ n) : ∀ (z : Nat) (a1 : Int32) (M : Mem), fM_startsOff_b32 z a1 M = some r → AS K n M 32 [some (.ref 85), some (.int a1)] [] := by
  intro z
  induction z with
  | zero => intro a1 M h; cases h
  | succ z ih =>
    intro a1 M h
    refine aw_iload_n C (tb_at ok_X8_startsOff 19 rfl) rfl ?_
    refine aw_iconst C (tb_at ok_X8_startsOff 20 rfl) ki_4 ?_
    refine aw_icmp_ge C 83 (tb_at ok_X8_startsOff 21 rfl) (by decide) h (fun h => ?_) (fun h => ?_)
    · refine aw_aload_n C (tb_at ok_X8_startsOff 52 rfl) rfl ?_
      refine aw_iconst C (tb_at ok_X8_startsOff 53 rfl) ki_0 ?_
      refine sw_put C (ob_85 hn) rfl (by decide) (by decide) (Or.inr (by decide)) rfl rfl rfl rfl fl_RX8_304 (tb_at ok_X8_startsOff 54 rfl) ?_
      refine aw_aload_n C (tb_at ok_X8_startsOff 55 rfl) rfl ?_
      refine aw_iconst C (tb_at ok_X8_startsOff 56 rfl) ki_m1 ?_
      refine sw_put C (ob_85 hn) rfl (by decide) (by decide) (Or.inr (by decide)) rfl rfl rfl rfl fl_RX8_307 (tb_at ok_X8_startsOff 57 rfl) ?_
      exact sw_vret C S (tb_at ok_X8_startsOff 58 rfl) h
    · refine aw_aload_n C (tb_at ok_X8_startsOff 22 rfl) rfl ?_
      refine aw_getR C (ob_85 hn) rfl (by decide) rfl p_85_36 fl_RX8_56 (tb_at ok_X8_startsOff 23 rfl) ?_
      refine aw_iload_n C (tb_at ok_X8_startsOff 24 rfl) rfl ?_
      refine aw_aload_n C (tb_at ok_X8_startsOff 25 rfl) rfl ?_
      refine aw_getR C (ob_85 hn) rfl (by decide) rfl p_85_14 fl_RX8_41 (tb_at ok_X8_startsOff 26 rfl) ?_
      refine aw_iload_n C (tb_at ok_X8_startsOff 27 rfl) rfl ?_
      refine aw_iald C (ob_94 hn) (tb_at ok_X8_startsOff 28 rfl) h (fun h => ?_)
      refine sw_iast C (ob_98 hn) (tb_at ok_X8_startsOff 29 rfl) h (fun h => ?_)
      refine aw_aload_n C (tb_at ok_X8_startsOff 30 rfl) rfl ?_
      refine aw_getR C (ob_85 hn) rfl (by decide) rfl p_85_37 fl_RX8_59 (tb_at ok_X8_startsOff 31 rfl) ?_
      refine aw_iload_n C (tb_at ok_X8_startsOff 32 rfl) rfl ?_
      refine aw_iconst C (tb_at ok_X8_startsOff 33 rfl) ki_0 ?_
      refine sw_iast C (ob_99 hn) (tb_at ok_X8_startsOff 34 rfl) h (fun h => ?_)
      refine aw_aload_n C (tb_at ok_X8_startsOff 35 rfl) rfl ?_
      refine aw_getR C (ob_85 hn) rfl (by decide) rfl p_85_39 fl_RX8_65 (tb_at ok_X8_startsOff 36 rfl) ?_
      refine aw_iload_n C (tb_at ok_X8_startsOff 37 rfl) rfl ?_
      refine aw_iconst C (tb_at ok_X8_startsOff 38 rfl) ki_0 ?_
      refine sw_iast C (ob_101 hn) (tb_at ok_X8_startsOff 39 rfl) h (fun h => ?_)
      refine aw_aload_n C (tb_at ok_X8_startsOff 40 rfl) rfl ?_
      refine aw_getR C (ob_85 hn) rfl (by decide) rfl p_85_40 fl_RX8_68 (tb_at ok_X8_startsOff 41 rfl) ?_
      refine aw_iload_n C (tb_at ok_X8_startsOff 42 rfl) rfl ?_
      refine aw_iconst C (tb_at ok_X8_startsOff 43 rfl) ki_0 ?_
      refine sw_iast C (ob_102 hn) (tb_at ok_X8_startsOff 44 rfl) h (fun h => ?_)
      refine aw_aload_n C (tb_at ok_X8_startsOff 45 rfl) rfl ?_
      refine aw_getR C (ob_85 hn) rfl (by decide) rfl p_85_41 fl_RX8_71 (tb_at ok_X8_startsOff 46 rfl) ?_
      refine aw_iload_n C (tb_at ok_X8_startsOff 47 rfl) rfl ?_
      refine aw_iconst C (tb_at ok_X8_startsOff 48 rfl) ki_0 ?_
      refine sw_iast C (ob_103 hn) (tb_at ok_X8_startsOff 49 rfl) h (fun h => ?_)
      refine aw_iinc C [some (.ref 85), some (.int (a1 + 1))] (tb_at ok_X8_startsOff 50 rfl) rfl S.2.2.2.1 (by decide) ki_1 rfl ?_
      refine aw_goto C 32 (tb_at ok_X8_startsOff 51 rfl) (by decide) ?_
      exact aw_loc [some (.ref 85), some (.int (a1 + 1))] (sl_k (sl_k sl_0)) (ih _ _ h)
set_option maxHeartbeats 4000000 in
set_option maxRecDepth 20000 in
theorem t_fM_startsOff_b6 {K : Cx} {n : Nat} {r : Mem} (C : Ctx K RX8 cX8_startsOff) (S : SS K n 3 2 none (Tv n r)) (hn : 113 ≤ n) : ∀ (z : Nat) (a1 : Int32) (M : Mem), fM_startsOff_b6 z a1 M = some r → AS K n M 6 [some (.ref 85), some (.int a1)] [] := by
  intro z
  induction z with
  | zero => intro a1 M h; cases h
  | succ z ih =>
    intro a1 M h
    refine aw_iload_n C (tb_at ok_X8_startsOff 4 rfl) rfl ?_
    refine aw_bipush C (tb_at ok_X8_startsOff 5 rfl) kb_8 ?_
    refine aw_icmp_ge C 30 (tb_at ok_X8_startsOff 6 rfl) (by decide) h (fun h => ?_) (fun h => ?_)
    · refine aw_iconst C (tb_at ok_X8_startsOff 17 rfl) ki_0 ?_
      refine aw_istore_n C [some (.ref 85), some (.int 0)] (tb_at ok_X8_startsOff 18 rfl) S.2.2.2.1 (by decide) rfl ?_
      exact aw_loc [some (.ref 85), some (.int 0)] (sl_k (sl_k sl_0)) (t_fM_startsOff_b32 C S hn 1000 _ _ h)
    · refine aw_aload_n C (tb_at ok_X8_startsOff 7 rfl) rfl ?_
      refine aw_getR C (ob_85 hn) rfl (by decide) rfl p_85_42 fl_RX8_74 (tb_at ok_X8_startsOff 8 rfl) ?_
      refine aw_iload_n C (tb_at ok_X8_startsOff 9 rfl) rfl ?_
      refine aw_aload_n C (tb_at ok_X8_startsOff 10 rfl) rfl ?_
      refine aw_getR C (ob_85 hn) rfl (by decide) rfl p_85_8 fl_RX8_26 (tb_at ok_X8_startsOff 11 rfl) ?_
      refine aw_iload_n C (tb_at ok_X8_startsOff 12 rfl) rfl ?_
      refine aw_iald C (ob_89 hn) (tb_at ok_X8_startsOff 13 rfl) h (fun h => ?_)
      refine sw_iast C (ob_104 hn) (tb_at ok_X8_startsOff 14 rfl) h (fun h => ?_)
      refine aw_iinc C [some (.ref 85), some (.int (a1 + 1))] (tb_at ok_X8_startsOff 15 rfl) rfl S.2.2.2.1 (by decide) ki_1 rfl ?_
      refine aw_goto C 6 (tb_at ok_X8_startsOff 16 rfl) (by decide) ?_
      exact aw_loc [some (.ref 85), some (.int (a1 + 1))] (sl_k (sl_k sl_0)) (ih _ _ h)
set_option maxHeartbeats 4000000 in
set_option maxRecDepth 20000 in
theorem t_fM_startsOff {K : Cx} {n : Nat} {M : Mem} {r : Mem} (C : Ctx K RX8 cX8_startsOff) (S : SS K n 3 2 none (Tv n r)) (hn : 113 ≤ n) (h : fM_startsOff M = some r) : AS K n M 0 [some (.ref 85), none] [] := by
  refine aw_aload_n C (tb_at ok_X8_startsOff 0 rfl) rfl ?_
  refine sw_cVv C S [] [] (tb_at ok_X8_startsOff 1 rfl) h (fun q e => m_fM_gathers hn e) mf_X8_gathers (ob_85 hn) rfl rfl cw_RX8_163 rfl (by decide) rfl (Nat.le_of_ble_eq_true rfl) (fun M1 h => ?_)
  refine aw_iconst C (tb_at ok_X8_startsOff 2 rfl) ki_0 ?_
  refine aw_istore_n C [some (.ref 85), some (.int 0)] (tb_at ok_X8_startsOff 3 rfl) S.2.2.2.1 (by decide) rfl ?_
  exact aw_loc [some (.ref 85), some (.int 0)] (sl_k (sl_k sl_0)) (t_fM_startsOff_b6 C S hn 1000 _ _ h)
theorem m_fM_startsOff {l : Launch} {w : Wd} {n : Nat} {M : Mem} {r : Mem} (hn : 113 ≤ n) (h : fM_startsOff M = some r) : CM l w yX8_startsOff cX8_startsOff 2 none 3 0 0 [.ref 85] n M (PD M) (Tv n r) := sm_of (loc := [some (.ref 85), none]) mf_X8_startsOff (by decide) (Nat.le_of_ble_eq_true rfl) rfl (fun K _ _ C S => t_fM_startsOff C S hn h)
def tb_X8_acts : List (Nat × Instr × Nat) := [(0, .aload_n 0, 1), (1, .iload_n 2, 1), (2, .invokevirtual 169, 3), (5, .istore_n 3, 1), (6, .aload_n 0, 1), (7, .iload_n 1, 1), (8, .invokevirtual 310, 3), (11, .istore 4, 2), (13, .iload 4, 2), (15, .iconst (-1), 1), (16, .if_icmp .ne 7, 3), (19, .iconst (-1), 1), (20, .goto 15, 3), (23, .aload_n 0, 1), (24, .aload_n 0, 1), (25, .getfield 56, 3), (28, .iload_n 1, 1), (29, .iaload, 1), (30, .iload 4, 2), (32, .invokevirtual 166, 3), (35, .istore 5, 2), (37, .aload_n 0, 1), (38, .getfield 59, 3), (41, .iload_n 1, 1), (42, .iaload, 1), (43, .ifCond .le 46, 3), (46, .aload_n 0, 1), (47, .getfield 59, 3), (50, .iload_n 1, 1), (51, .dup2, 1), (52, .iaload, 1), (53, .iconst 1, 1), (54, .isub, 1), (55, .iastore, 1), (56, .aload_n 0, 1), (57, .getfield 56, 3), (60, .iload_n 1, 1), (61, .aload_n 0, 1), (62, .getfield 59, 3), (65, .iload_n 1, 1), (66, .iaload, 1), (67, .ifCond .ne 12, 3), (70, .aload_n 0, 1), (71, .getfield 62, 3), (74, .iload_n 1, 1), (75, .iaload, 1), (76, .goto 9, 3), (79, .aload_n 0, 1), (80, .getfield 56, 3), (83, .iload_n 1, 1), (84, .iaload, 1), (85, .iastore, 1), (86, .goto 193, 3), (89, .iload_n 3, 1), (90, .aload_n 0, 1), (91, .getfield 56, 3), (94, .iload_n 1, 1), (95, .iaload, 1), (96, .if_icmp .ne 33, 3), (99, .aload_n 0, 1), (100, .getfield 68, 3), (103, .iload_n 1, 1), (104, .dup2, 1), (105, .iaload, 1), (106, .iconst 1, 1), (107, .iadd, 1), (108, .iastore, 1), (109, .aload_n 0, 1), (110, .dup, 1), (111, .getfield 304, 3), (114, .aload_n 0, 1), (115, .iconst 2, 1), (116, .iload_n 1, 1), (117, .iload_n 2, 1), (118, .iconst 0, 1), (119, .invokevirtual 313, 3), (122, .iadd, 1), (123, .putfield 304, 3), (126, .goto 153, 3), (129, .iload 4, 2), (131, .aload_n 0, 1), (132, .getfield 56, 3), (135, .iload_n 1, 1), (136, .iaload, 1), (137, .if_icmp .ne 66, 3), (140, .aload_n 0, 1), (141, .getfield 74, 3), (144, .iload 4, 2), (146, .iaload, 1), (147, .aload_n 0, 1), (148, .iload_n 1, 1), (149, .aload_n 0, 1), (150, .iconst 1, 1), (151, .iload_n 1, 1), (152, .iload_n 2, 1), (153, .iconst 0, 1), (154, .invokevirtual 313, 3), (157, .invokevirtual 317, 3), (160, .isub, 1), (161, .istore 6, 2), (163, .aload_n 0, 1), (164, .getfield 74, 3), (167, .iload 4, 2), (169, .iload 6, 2), (171, .ifCond .ge 7, 3), (174, .iconst 0, 1), (175, .goto 5, 3), (178, .iload 6, 2), (180, .iastore, 1), (181, .aload_n 0, 1), (182, .getfield 65, 3), (185, .iload_n 1, 1), (186, .dup2, 1), (187, .iaload, 1), (188, .iload 6, 2), (190, .ifCond .gt 7, 3), (193, .iconst 1, 1), (194, .goto 4, 3), (197, .iconst 0, 1), (198, .iadd, 1), (199, .iastore, 1), (200, .goto 79, 3), (203, .iload 5, 2), (205, .iconst (-1), 1), (206, .if_icmp .eq 63, 3), (209, .iload_n 3, 1), (210, .iload 5, 2), (212, .if_icmp .ne 26, 3), (215, .aload_n 0, 1), (216, .getfield 35, 3), (219, .iload_n 1, 1), (220, .iaload, 1), (221, .iconst 3, 1), (222, .if_icmp .ne 47, 3), (225, .iload_n 2, 1), (226, .aload_n 0, 1), (227, .getfield 38, 3), (230, .iload_n 1, 1), (231, .iaload, 1), (232, .iconst 2, 1), (233, .iadd, 1), (234, .irem, 1), (235, .ifCond .ne 34, 3), (238, .aload_n 0, 1), (239, .getfield 62, 3), (242, .iload_n 1, 1), (243, .iload 5, 2), (245, .iastore, 1), (246, .aload_n 0, 1), (247, .getfield 59, 3), (250, .iload_n 1, 1), (251, .aload_n 0, 1), (252, .iload_n 1, 1), (253, .aload_n 0, 1), (254, .iconst 0, 1), (255, .iload_n 1, 1), (256, .iload_n 2, 1), (257, .iload 5, 2), (259, .invokevirtual 313, 3), (262, .invokevirtual 320, 3), (265, .iastore, 1), (266, .goto 13, 3), (269, .aload_n 0, 1), (270, .getfield 71, 3), (273, .iload_n 1, 1), (274, .dup2, 1), (275, .iaload, 1), (276, .iconst 1, 1), (277, .iadd, 1), (278, .iastore, 1), (279, .return_, 1)]
theorem ok_X8_acts : TB cX8_acts tb_X8_acts := (by decide +kernel : tb_X8_acts.all (fun q => tbq cX8_acts q) = true)
set_option maxHeartbeats 4000000 in
set_option maxRecDepth 20000 in
theorem t_fM_acts_b198 {K : Cx} {n : Nat} {s0 : Int32} {s1 : Int32} {s2 : Int32} {M : Mem} {r : Mem} (C : Ctx K RX8 cX8_acts) (S : SS K n 68 7 none (Tv n r)) (hn : 113 ≤ n) (h : fM_acts_b198 s0 s1 s2 M = some r) : AS K n M 198 [none, none, none, none, none, none, none] [.int s0, .int s1, .int s2, .ref 101] := by
  refine aw_iadd C (tb_at ok_X8_acts 119 rfl) ?_
  refine sw_iast C (ob_101 hn) (tb_at ok_X8_acts 120 rfl) h (fun h => ?_)
  refine aw_goto C 279 (tb_at ok_X8_acts 121 rfl) (by decide) ?_
  exact sw_vret C S (tb_at ok_X8_acts 170 rfl) h
set_option maxHeartbeats 4000000 in
set_option maxRecDepth 20000 in
theorem t_fM_acts_b180 {K : Cx} {n : Nat} {a1 : Int32} {a6 : Int32} {s0 : Int32} {s1 : Int32} {M : Mem} {r : Mem} (C : Ctx K RX8 cX8_acts) (S : SS K n 68 7 none (Tv n r)) (hn : 113 ≤ n) (h : fM_acts_b180 a1 a6 s0 s1 M = some r) : AS K n M 180 [some (.ref 85), some (.int a1), none, none, none, none, some (.int a6)] [.int s0, .int s1, .ref 104] := by
  refine sw_iast C (ob_104 hn) (tb_at ok_X8_acts 108 rfl) h (fun h => ?_)
  refine aw_aload_n C (tb_at ok_X8_acts 109 rfl) rfl ?_
  refine aw_getR C (ob_85 hn) rfl (by decide) rfl p_85_39 fl_RX8_65 (tb_at ok_X8_acts 110 rfl) ?_
  refine aw_iload_n C (tb_at ok_X8_acts 111 rfl) rfl ?_
  refine aw_dup2 C (tb_at ok_X8_acts 112 rfl) rfl rfl ?_
  refine aw_iald C (ob_101 hn) (tb_at ok_X8_acts 113 rfl) h (fun h => ?_)
  refine aw_iload C (tb_at ok_X8_acts 114 rfl) rfl ?_
  refine aw_if_gt C 197 (tb_at ok_X8_acts 115 rfl) (by decide) h (fun h => ?_) (fun h => ?_)
  · refine aw_iconst C (tb_at ok_X8_acts 118 rfl) ki_0 ?_
    exact aw_loc [none, none, none, none, none, none, none] (sl_n (sl_n (sl_n (sl_n (sl_n (sl_n (sl_n sl_0))))))) (t_fM_acts_b198 C S hn h)
  · refine aw_iconst C (tb_at ok_X8_acts 116 rfl) ki_1 ?_
    refine aw_goto C 198 (tb_at ok_X8_acts 117 rfl) (by decide) ?_
    exact aw_loc [none, none, none, none, none, none, none] (sl_n (sl_n (sl_n (sl_n (sl_n (sl_n (sl_n sl_0))))))) (t_fM_acts_b198 C S hn h)
set_option maxHeartbeats 4000000 in
set_option maxRecDepth 20000 in
theorem t_fM_acts_b269 {K : Cx} {n : Nat} {a1 : Int32} {M : Mem} {r : Mem} (C : Ctx K RX8 cX8_acts) (S : SS K n 68 7 none (Tv n r)) (hn : 113 ≤ n) (h : fM_acts_b269 a1 M = some r) : AS K n M 269 [some (.ref 85), some (.int a1), none, none, none, none, none] [] := by
  refine aw_aload_n C (tb_at ok_X8_acts 162 rfl) rfl ?_
  refine aw_getR C (ob_85 hn) rfl (by decide) rfl p_85_41 fl_RX8_71 (tb_at ok_X8_acts 163 rfl) ?_
  refine aw_iload_n C (tb_at ok_X8_acts 164 rfl) rfl ?_
  refine aw_dup2 C (tb_at ok_X8_acts 165 rfl) rfl rfl ?_
  refine aw_iald C (ob_103 hn) (tb_at ok_X8_acts 166 rfl) h (fun h => ?_)
  refine aw_iconst C (tb_at ok_X8_acts 167 rfl) ki_1 ?_
  refine aw_iadd C (tb_at ok_X8_acts 168 rfl) ?_
  refine sw_iast C (ob_103 hn) (tb_at ok_X8_acts 169 rfl) h (fun h => ?_)
  exact sw_vret C S (tb_at ok_X8_acts 170 rfl) h
set_option maxHeartbeats 4000000 in
set_option maxRecDepth 20000 in
theorem t_fM_acts_b238 {K : Cx} {n : Nat} {a1 : Int32} {a2 : Int32} {a5 : Int32} {M : Mem} {r : Mem} (C : Ctx K RX8 cX8_acts) (S : SS K n 68 7 none (Tv n r)) (hn : 113 ≤ n) (h : fM_acts_b238 a1 a2 a5 M = some r) : AS K n M 238 [some (.ref 85), some (.int a1), some (.int a2), none, none, some (.int a5), none] [] := by
  refine aw_aload_n C (tb_at ok_X8_acts 143 rfl) rfl ?_
  refine aw_getR C (ob_85 hn) rfl (by decide) rfl p_85_38 fl_RX8_62 (tb_at ok_X8_acts 144 rfl) ?_
  refine aw_iload_n C (tb_at ok_X8_acts 145 rfl) rfl ?_
  refine aw_iload C (tb_at ok_X8_acts 146 rfl) rfl ?_
  refine sw_iast C (ob_100 hn) (tb_at ok_X8_acts 147 rfl) h (fun h => ?_)
  refine aw_aload_n C (tb_at ok_X8_acts 148 rfl) rfl ?_
  refine aw_getR C (ob_85 hn) rfl (by decide) rfl p_85_37 fl_RX8_59 (tb_at ok_X8_acts 149 rfl) ?_
  refine aw_iload_n C (tb_at ok_X8_acts 150 rfl) rfl ?_
  refine aw_aload_n C (tb_at ok_X8_acts 151 rfl) rfl ?_
  refine aw_iload_n C (tb_at ok_X8_acts 152 rfl) rfl ?_
  refine aw_aload_n C (tb_at ok_X8_acts 153 rfl) rfl ?_
  refine aw_iconst C (tb_at ok_X8_acts 154 rfl) ki_0 ?_
  refine aw_iload_n C (tb_at ok_X8_acts 155 rfl) rfl ?_
  refine aw_iload_n C (tb_at ok_X8_acts 156 rfl) rfl ?_
  refine aw_iload C (tb_at ok_X8_acts 157 rfl) rfl ?_
  refine sw_cVi C S [.int 0, .int a1, .int a2, .int a5] [.int a1, .ref 85, .int a1, .ref 99] (tb_at ok_X8_acts 158 rfl) h (fun q e => m_fM_says hn e) mf_X8_says (ob_85 hn) rfl rfl cw_RX8_313 rfl (by decide) rfl (Nat.le_of_ble_eq_true rfl) (fun r6 M6 h => ?_)
  refine sw_cVi C S [.int a1, .int r6] [.int a1, .ref 99] (tb_at ok_X8_acts 159 rfl) h (fun q e => m_fM_takesOf hn e) mf_X8_takesOf (ob_85 hn) rfl rfl cw_RX8_320 rfl (by decide) rfl (Nat.le_of_ble_eq_true rfl) (fun r7 M7 h => ?_)
  refine sw_iast C (ob_99 hn) (tb_at ok_X8_acts 160 rfl) h (fun h => ?_)
  refine aw_goto C 279 (tb_at ok_X8_acts 161 rfl) (by decide) ?_
  exact sw_vret C S (tb_at ok_X8_acts 170 rfl) h
set_option maxHeartbeats 4000000 in
set_option maxRecDepth 20000 in
theorem t_fM_acts_b85 {K : Cx} {n : Nat} {s0 : Int32} {s1 : Int32} {M : Mem} {r : Mem} (C : Ctx K RX8 cX8_acts) (S : SS K n 68 7 none (Tv n r)) (hn : 113 ≤ n) (h : fM_acts_b85 s0 s1 M = some r) : AS K n M 85 [none, none, none, none, none, none, none] [.int s0, .int s1, .ref 98] := by
  refine sw_iast C (ob_98 hn) (tb_at ok_X8_acts 51 rfl) h (fun h => ?_)
  refine aw_goto C 279 (tb_at ok_X8_acts 52 rfl) (by decide) ?_
  exact sw_vret C S (tb_at ok_X8_acts 170 rfl) h
set_option maxHeartbeats 4000000 in
set_option maxRecDepth 20000 in
theorem t_fM_acts_b35 {K : Cx} {n : Nat} {a1 : Int32} {a2 : Int32} {a3 : Int32} {a4 : Int32} {s0 : Int32} {M : Mem} {r : Mem} (C : Ctx K RX8 cX8_acts) (S : SS K n 68 7 none (Tv n r)) (hn : 113 ≤ n) (h : fM_acts_b35 a1 a2 a3 a4 s0 M = some r) : AS K n M 35 [some (.ref 85), some (.int a1), some (.int a2), some (.int a3), some (.int a4), none, none] [.int s0] := by
  refine aw_istore C [some (.ref 85), some (.int a1), some (.int a2), some (.int a3), some (.int a4), some (.int s0), none] (tb_at ok_X8_acts 20 rfl) S.2.2.2.1 (by decide) rfl ?_
  refine aw_aload_n C (tb_at ok_X8_acts 21 rfl) rfl ?_
  refine aw_getR C (ob_85 hn) rfl (by decide) rfl p_85_37 fl_RX8_59 (tb_at ok_X8_acts 22 rfl) ?_
  refine aw_iload_n C (tb_at ok_X8_acts 23 rfl) rfl ?_
  refine aw_iald C (ob_99 hn) (tb_at ok_X8_acts 24 rfl) h (fun h => ?_)
  refine aw_if_le C 89 (tb_at ok_X8_acts 25 rfl) (by decide) h (fun h => ?_) (fun h => ?_)
  · refine aw_iload_n C (tb_at ok_X8_acts 53 rfl) rfl ?_
    refine aw_aload_n C (tb_at ok_X8_acts 54 rfl) rfl ?_
    refine aw_getR C (ob_85 hn) rfl (by decide) rfl p_85_36 fl_RX8_56 (tb_at ok_X8_acts 55 rfl) ?_
    refine aw_iload_n C (tb_at ok_X8_acts 56 rfl) rfl ?_
    refine aw_iald C (ob_98 hn) (tb_at ok_X8_acts 57 rfl) h (fun h => ?_)
    refine aw_icmp_ne C 129 (tb_at ok_X8_acts 58 rfl) (by decide) h (fun h => ?_) (fun h => ?_)
    · refine aw_aload_n C (tb_at ok_X8_acts 59 rfl) rfl ?_
      refine aw_getR C (ob_85 hn) rfl (by decide) rfl p_85_40 fl_RX8_68 (tb_at ok_X8_acts 60 rfl) ?_
      refine aw_iload_n C (tb_at ok_X8_acts 61 rfl) rfl ?_
      refine aw_dup2 C (tb_at ok_X8_acts 62 rfl) rfl rfl ?_
      refine aw_iald C (ob_102 hn) (tb_at ok_X8_acts 63 rfl) h (fun h => ?_)
      refine aw_iconst C (tb_at ok_X8_acts 64 rfl) ki_1 ?_
      refine aw_iadd C (tb_at ok_X8_acts 65 rfl) ?_
      refine sw_iast C (ob_102 hn) (tb_at ok_X8_acts 66 rfl) h (fun h => ?_)
      refine aw_aload_n C (tb_at ok_X8_acts 67 rfl) rfl ?_
      refine aw_dup C (tb_at ok_X8_acts 68 rfl) rfl ?_
      refine aw_get C (ob_85 hn) rfl (by decide) rfl fl_RX8_304 (tb_at ok_X8_acts 69 rfl) ?_
      refine aw_aload_n C (tb_at ok_X8_acts 70 rfl) rfl ?_
      refine aw_iconst C (tb_at ok_X8_acts 71 rfl) ki_2 ?_
      refine aw_iload_n C (tb_at ok_X8_acts 72 rfl) rfl ?_
      refine aw_iload_n C (tb_at ok_X8_acts 73 rfl) rfl ?_
      refine aw_iconst C (tb_at ok_X8_acts 74 rfl) ki_0 ?_
      refine sw_cVi C S [.int 2, .int a1, .int a2, .int 0] [.int ((wr M 102 (ix a1) ((M 102 (ix a1)) + 1)) 85 43), .ref 85] (tb_at ok_X8_acts 75 rfl) h (fun q e => m_fM_says hn e) mf_X8_says (ob_85 hn) rfl rfl cw_RX8_313 rfl (by decide) rfl (Nat.le_of_ble_eq_true rfl) (fun r3 M3 h => ?_)
      refine aw_iadd C (tb_at ok_X8_acts 76 rfl) ?_
      refine sw_put C (ob_85 hn) rfl (by decide) (by decide) (Or.inr (by decide)) rfl rfl rfl rfl fl_RX8_304 (tb_at ok_X8_acts 77 rfl) ?_
      refine aw_goto C 279 (tb_at ok_X8_acts 78 rfl) (by decide) ?_
      exact sw_vret C S (tb_at ok_X8_acts 170 rfl) h
    · refine aw_iload C (tb_at ok_X8_acts 79 rfl) rfl ?_
      refine aw_aload_n C (tb_at ok_X8_acts 80 rfl) rfl ?_
      refine aw_getR C (ob_85 hn) rfl (by decide) rfl p_85_36 fl_RX8_56 (tb_at ok_X8_acts 81 rfl) ?_
      refine aw_iload_n C (tb_at ok_X8_acts 82 rfl) rfl ?_
      refine aw_iald C (ob_98 hn) (tb_at ok_X8_acts 83 rfl) h (fun h => ?_)
      refine aw_icmp_ne C 203 (tb_at ok_X8_acts 84 rfl) (by decide) h (fun h => ?_) (fun h => ?_)
      · refine aw_aload_n C (tb_at ok_X8_acts 85 rfl) rfl ?_
        refine aw_getR C (ob_85 hn) rfl (by decide) rfl p_85_42 fl_RX8_74 (tb_at ok_X8_acts 86 rfl) ?_
        refine aw_iload C (tb_at ok_X8_acts 87 rfl) rfl ?_
        refine aw_iald C (ob_104 hn) (tb_at ok_X8_acts 88 rfl) h (fun h => ?_)
        refine aw_aload_n C (tb_at ok_X8_acts 89 rfl) rfl ?_
        refine aw_iload_n C (tb_at ok_X8_acts 90 rfl) rfl ?_
        refine aw_aload_n C (tb_at ok_X8_acts 91 rfl) rfl ?_
        refine aw_iconst C (tb_at ok_X8_acts 92 rfl) ki_1 ?_
        refine aw_iload_n C (tb_at ok_X8_acts 93 rfl) rfl ?_
        refine aw_iload_n C (tb_at ok_X8_acts 94 rfl) rfl ?_
        refine aw_iconst C (tb_at ok_X8_acts 95 rfl) ki_0 ?_
        refine sw_cVi C S [.int 1, .int a1, .int a2, .int 0] [.int a1, .ref 85, .int (M 104 (ix a4))] (tb_at ok_X8_acts 96 rfl) h (fun q e => m_fM_says hn e) mf_X8_says (ob_85 hn) rfl rfl cw_RX8_313 rfl (by decide) rfl (Nat.le_of_ble_eq_true rfl) (fun r4 M4 h => ?_)
        refine sw_cVi C S [.int a1, .int r4] [.int (M 104 (ix a4))] (tb_at ok_X8_acts 97 rfl) h (fun q e => m_fM_worksOf hn e) mf_X8_worksOf (ob_85 hn) rfl rfl cw_RX8_317 rfl (by decide) rfl (Nat.le_of_ble_eq_true rfl) (fun r5 M5 h => ?_)
        refine aw_isub C (tb_at ok_X8_acts 98 rfl) ?_
        refine aw_istore C [some (.ref 85), some (.int a1), some (.int a2), some (.int a3), some (.int a4), some (.int s0), some (.int ((M 104 (ix a4)) - r5))] (tb_at ok_X8_acts 99 rfl) S.2.2.2.1 (by decide) rfl ?_
        refine aw_aload_n C (tb_at ok_X8_acts 100 rfl) rfl ?_
        refine aw_getR C (ob_85 hn) rfl (by decide) rfl p_85_42 fl_RX8_74 (tb_at ok_X8_acts 101 rfl) ?_
        refine aw_iload C (tb_at ok_X8_acts 102 rfl) rfl ?_
        refine aw_iload C (tb_at ok_X8_acts 103 rfl) rfl ?_
        refine aw_if_ge C 178 (tb_at ok_X8_acts 104 rfl) (by decide) h (fun h => ?_) (fun h => ?_)
        · refine aw_iload C (tb_at ok_X8_acts 107 rfl) rfl ?_
          exact aw_loc [some (.ref 85), some (.int a1), none, none, none, none, some (.int ((M 104 (ix a4)) - r5))] (sl_k (sl_k (sl_n (sl_n (sl_n (sl_n (sl_k sl_0))))))) (t_fM_acts_b180 C S hn h)
        · refine aw_iconst C (tb_at ok_X8_acts 105 rfl) ki_0 ?_
          refine aw_goto C 180 (tb_at ok_X8_acts 106 rfl) (by decide) ?_
          exact aw_loc [some (.ref 85), some (.int a1), none, none, none, none, some (.int ((M 104 (ix a4)) - r5))] (sl_k (sl_k (sl_n (sl_n (sl_n (sl_n (sl_k sl_0))))))) (t_fM_acts_b180 C S hn h)
      · refine aw_iload C (tb_at ok_X8_acts 122 rfl) rfl ?_
        refine aw_iconst C (tb_at ok_X8_acts 123 rfl) ki_m1 ?_
        refine aw_icmp_eq C 269 (tb_at ok_X8_acts 124 rfl) (by decide) h (fun h => ?_) (fun h => ?_)
        · exact aw_loc [some (.ref 85), some (.int a1), none, none, none, none, none] (sl_k (sl_k (sl_n (sl_n (sl_n (sl_n (sl_n sl_0))))))) (t_fM_acts_b269 C S hn h)
        · refine aw_iload_n C (tb_at ok_X8_acts 125 rfl) rfl ?_
          refine aw_iload C (tb_at ok_X8_acts 126 rfl) rfl ?_
          refine aw_icmp_ne C 238 (tb_at ok_X8_acts 127 rfl) (by decide) h (fun h => ?_) (fun h => ?_)
          · refine aw_aload_n C (tb_at ok_X8_acts 128 rfl) rfl ?_
            refine aw_getR C (ob_85 hn) rfl (by decide) rfl p_85_12 fl_RX8_35 (tb_at ok_X8_acts 129 rfl) ?_
            refine aw_iload_n C (tb_at ok_X8_acts 130 rfl) rfl ?_
            refine aw_iald C (ob_92 hn) (tb_at ok_X8_acts 131 rfl) h (fun h => ?_)
            refine aw_iconst C (tb_at ok_X8_acts 132 rfl) ki_3 ?_
            refine aw_icmp_ne C 269 (tb_at ok_X8_acts 133 rfl) (by decide) h (fun h => ?_) (fun h => ?_)
            · refine aw_iload_n C (tb_at ok_X8_acts 134 rfl) rfl ?_
              refine aw_aload_n C (tb_at ok_X8_acts 135 rfl) rfl ?_
              refine aw_getR C (ob_85 hn) rfl (by decide) rfl p_85_13 fl_RX8_38 (tb_at ok_X8_acts 136 rfl) ?_
              refine aw_iload_n C (tb_at ok_X8_acts 137 rfl) rfl ?_
              refine aw_iald C (ob_93 hn) (tb_at ok_X8_acts 138 rfl) h (fun h => ?_)
              refine aw_iconst C (tb_at ok_X8_acts 139 rfl) ki_2 ?_
              refine aw_iadd C (tb_at ok_X8_acts 140 rfl) ?_
              refine sw_irem C (tb_at ok_X8_acts 141 rfl) h (fun h => ?_)
              refine aw_if_ne C 269 (tb_at ok_X8_acts 142 rfl) (by decide) h (fun h => ?_) (fun h => ?_)
              · exact aw_loc [some (.ref 85), some (.int a1), some (.int a2), none, none, some (.int s0), none] (sl_k (sl_k (sl_k (sl_n (sl_n (sl_k (sl_n sl_0))))))) (t_fM_acts_b238 C S hn h)
              · exact aw_loc [some (.ref 85), some (.int a1), none, none, none, none, none] (sl_k (sl_k (sl_n (sl_n (sl_n (sl_n (sl_n sl_0))))))) (t_fM_acts_b269 C S hn h)
            · exact aw_loc [some (.ref 85), some (.int a1), none, none, none, none, none] (sl_k (sl_k (sl_n (sl_n (sl_n (sl_n (sl_n sl_0))))))) (t_fM_acts_b269 C S hn h)
          · exact aw_loc [some (.ref 85), some (.int a1), some (.int a2), none, none, some (.int s0), none] (sl_k (sl_k (sl_k (sl_n (sl_n (sl_k (sl_n sl_0))))))) (t_fM_acts_b238 C S hn h)
  · refine aw_aload_n C (tb_at ok_X8_acts 26 rfl) rfl ?_
    refine aw_getR C (ob_85 hn) rfl (by decide) rfl p_85_37 fl_RX8_59 (tb_at ok_X8_acts 27 rfl) ?_
    refine aw_iload_n C (tb_at ok_X8_acts 28 rfl) rfl ?_
    refine aw_dup2 C (tb_at ok_X8_acts 29 rfl) rfl rfl ?_
    refine aw_iald C (ob_99 hn) (tb_at ok_X8_acts 30 rfl) h (fun h => ?_)
    refine aw_iconst C (tb_at ok_X8_acts 31 rfl) ki_1 ?_
    refine aw_isub C (tb_at ok_X8_acts 32 rfl) ?_
    refine sw_iast C (ob_99 hn) (tb_at ok_X8_acts 33 rfl) h (fun h => ?_)
    refine aw_aload_n C (tb_at ok_X8_acts 34 rfl) rfl ?_
    refine aw_getR C (ob_85 hn) rfl (by decide) rfl p_85_36 fl_RX8_56 (tb_at ok_X8_acts 35 rfl) ?_
    refine aw_iload_n C (tb_at ok_X8_acts 36 rfl) rfl ?_
    refine aw_aload_n C (tb_at ok_X8_acts 37 rfl) rfl ?_
    refine aw_getR C (ob_85 hn) rfl (by decide) rfl p_85_37 fl_RX8_59 (tb_at ok_X8_acts 38 rfl) ?_
    refine aw_iload_n C (tb_at ok_X8_acts 39 rfl) rfl ?_
    refine aw_iald C (ob_99 hn) (tb_at ok_X8_acts 40 rfl) h (fun h => ?_)
    refine aw_if_ne C 79 (tb_at ok_X8_acts 41 rfl) (by decide) h (fun h => ?_) (fun h => ?_)
    · refine aw_aload_n C (tb_at ok_X8_acts 42 rfl) rfl ?_
      refine aw_getR C (ob_85 hn) rfl (by decide) rfl p_85_38 fl_RX8_62 (tb_at ok_X8_acts 43 rfl) ?_
      refine aw_iload_n C (tb_at ok_X8_acts 44 rfl) rfl ?_
      refine aw_iald C (ob_100 hn) (tb_at ok_X8_acts 45 rfl) h (fun h => ?_)
      refine aw_goto C 85 (tb_at ok_X8_acts 46 rfl) (by decide) ?_
      exact aw_loc [none, none, none, none, none, none, none] (sl_n (sl_n (sl_n (sl_n (sl_n (sl_n (sl_n sl_0))))))) (t_fM_acts_b85 C S hn h)
    · refine aw_aload_n C (tb_at ok_X8_acts 47 rfl) rfl ?_
      refine aw_getR C (ob_85 hn) rfl (by decide) rfl p_85_36 fl_RX8_56 (tb_at ok_X8_acts 48 rfl) ?_
      refine aw_iload_n C (tb_at ok_X8_acts 49 rfl) rfl ?_
      refine aw_iald C (ob_98 hn) (tb_at ok_X8_acts 50 rfl) h (fun h => ?_)
      exact aw_loc [none, none, none, none, none, none, none] (sl_n (sl_n (sl_n (sl_n (sl_n (sl_n (sl_n sl_0))))))) (t_fM_acts_b85 C S hn h)
set_option maxHeartbeats 4000000 in
set_option maxRecDepth 20000 in
theorem t_fM_acts {K : Cx} {n : Nat} {a1 : Int32} {a2 : Int32} {M : Mem} {r : Mem} (C : Ctx K RX8 cX8_acts) (S : SS K n 68 7 none (Tv n r)) (hn : 113 ≤ n) (h : fM_acts a1 a2 M = some r) : AS K n M 0 [some (.ref 85), some (.int a1), some (.int a2), none, none, none, none] [] := by
  refine aw_aload_n C (tb_at ok_X8_acts 0 rfl) rfl ?_
  refine aw_iload_n C (tb_at ok_X8_acts 1 rfl) rfl ?_
  refine sw_cVi C S [.int a2] [] (tb_at ok_X8_acts 2 rfl) h (fun q e => m_fM_masterIn hn e) mf_X8_masterIn (ob_85 hn) rfl rfl cw_RX8_169 rfl (by decide) rfl (Nat.le_of_ble_eq_true rfl) (fun r1 M1 h => ?_)
  refine aw_istore_n C [some (.ref 85), some (.int a1), some (.int a2), some (.int r1), none, none, none] (tb_at ok_X8_acts 3 rfl) S.2.2.2.1 (by decide) rfl ?_
  refine aw_aload_n C (tb_at ok_X8_acts 4 rfl) rfl ?_
  refine aw_iload_n C (tb_at ok_X8_acts 5 rfl) rfl ?_
  refine sw_cVi C S [.int a1] [] (tb_at ok_X8_acts 6 rfl) h (fun q e => m_fM_aimOf hn e) mf_X8_aimOf (ob_85 hn) rfl rfl cw_RX8_310 rfl (by decide) rfl (Nat.le_of_ble_eq_true rfl) (fun r2 M2 h => ?_)
  refine aw_istore C [some (.ref 85), some (.int a1), some (.int a2), some (.int r1), some (.int r2), none, none] (tb_at ok_X8_acts 7 rfl) S.2.2.2.1 (by decide) rfl ?_
  refine aw_iload C (tb_at ok_X8_acts 8 rfl) rfl ?_
  refine aw_iconst C (tb_at ok_X8_acts 9 rfl) ki_m1 ?_
  refine aw_icmp_ne C 23 (tb_at ok_X8_acts 10 rfl) (by decide) h (fun h => ?_) (fun h => ?_)
  · refine aw_iconst C (tb_at ok_X8_acts 11 rfl) ki_m1 ?_
    refine aw_goto C 35 (tb_at ok_X8_acts 12 rfl) (by decide) ?_
    exact aw_loc [some (.ref 85), some (.int a1), some (.int a2), some (.int r1), some (.int r2), none, none] (sl_k (sl_k (sl_k (sl_k (sl_k (sl_n (sl_n sl_0))))))) (t_fM_acts_b35 C S hn h)
  · refine aw_aload_n C (tb_at ok_X8_acts 13 rfl) rfl ?_
    refine aw_aload_n C (tb_at ok_X8_acts 14 rfl) rfl ?_
    refine aw_getR C (ob_85 hn) rfl (by decide) rfl p_85_36 fl_RX8_56 (tb_at ok_X8_acts 15 rfl) ?_
    refine aw_iload_n C (tb_at ok_X8_acts 16 rfl) rfl ?_
    refine aw_iald C (ob_98 hn) (tb_at ok_X8_acts 17 rfl) h (fun h => ?_)
    refine aw_iload C (tb_at ok_X8_acts 18 rfl) rfl ?_
    refine sw_cVi C S [.int (M2 98 (ix a1)), .int r2] [] (tb_at ok_X8_acts 19 rfl) h (fun q e => m_fM_nextTo hn e) mf_X8_nextTo (ob_85 hn) rfl rfl cw_RX8_166 rfl (by decide) rfl (Nat.le_of_ble_eq_true rfl) (fun r8 M8 h => ?_)
    exact aw_loc [some (.ref 85), some (.int a1), some (.int a2), some (.int r1), some (.int r2), none, none] (sl_k (sl_k (sl_k (sl_k (sl_k (sl_n (sl_n sl_0))))))) (t_fM_acts_b35 C S hn h)
theorem m_fM_acts {l : Launch} {w : Wd} {n : Nat} {a1 : Int32} {a2 : Int32} {M : Mem} {r : Mem} (hn : 113 ≤ n) (h : fM_acts a1 a2 M = some r) : CM l w yX8_acts cX8_acts 7 none 68 0 0 [.ref 85, .int a1, .int a2] n M (PD M) (Tv n r) := sm_of (loc := [some (.ref 85), some (.int a1), some (.int a2), none, none, none, none]) mf_X8_acts (by decide) (Nat.le_of_ble_eq_true rfl) rfl (fun K _ _ C S => t_fM_acts C S hn h)
def tb_X8_isReady : List (Nat × Instr × Nat) := [(0, .iconst 0, 1), (1, .istore_n 1, 1), (2, .iload_n 1, 1), (3, .aload_n 0, 1), (4, .getfield 118, 3), (7, .if_icmp .ge 55, 3), (10, .iconst 0, 1), (11, .istore_n 2, 1), (12, .iload_n 2, 1), (13, .aload_n 0, 1), (14, .getfield 47, 3), (17, .iload_n 1, 1), (18, .iaload, 1), (19, .if_icmp .ge 37, 3), (22, .iload_n 1, 1), (23, .aload_n 0, 1), (24, .getfield 50, 3), (27, .if_icmp .eq 29, 3), (30, .aload_n 0, 1), (31, .getfield 74, 3), (34, .aload_n 0, 1), (35, .getfield 44, 3), (38, .iconst 5, 1), (39, .iload_n 1, 1), (40, .imul, 1), (41, .iload_n 2, 1), (42, .iadd, 1), (43, .iaload, 1), (44, .iaload, 1), (45, .ifCond .le 5, 3), (48, .iconst 0, 1), (49, .ireturn, 1), (50, .iinc 2 1, 3), (53, .goto (-41), 3), (56, .iinc 1 1, 3), (59, .goto (-57), 3), (62, .iconst 1, 1), (63, .ireturn, 1)]
theorem ok_X8_isReady : TB cX8_isReady tb_X8_isReady := (by decide +kernel : tb_X8_isReady.all (fun q => tbq cX8_isReady q) = true)
set_option maxHeartbeats 4000000 in
set_option maxRecDepth 20000 in
theorem t_fM_isReady_b56 {K : Cx} {n : Nat} {k2 : Int32 → Mem → Option (Int32 × Mem)} {a1 : Int32} {M : Mem} {r : Int32 × Mem} (C : Ctx K RX8 cX8_isReady) (S : SS K n 1 3 (some .boolean) (Ti n r)) (hn : 113 ≤ n) (hk2 : ∀ (va1 : Int32) (M1 : Mem), k2 va1 M1 = some r → AS K n M1 2 [some (.ref 85), some (.int va1), none] []) (h : fM_isReady_b56 k2 a1 M = some r) : AS K n M 56 [some (.ref 85), some (.int a1), none] [] := by
  refine aw_iinc C [some (.ref 85), some (.int (a1 + 1)), none] (tb_at ok_X8_isReady 34 rfl) rfl S.2.2.2.1 (by decide) ki_1 rfl ?_
  refine aw_goto C 2 (tb_at ok_X8_isReady 35 rfl) (by decide) ?_
  exact aw_loc [some (.ref 85), some (.int (a1 + 1)), none] (sl_k (sl_k (sl_n sl_0))) (hk2 _ _ h)
set_option maxHeartbeats 4000000 in
set_option maxRecDepth 20000 in
theorem t_fM_isReady_b12 {K : Cx} {n : Nat} {k2 : Int32 → Mem → Option (Int32 × Mem)} {a1 : Int32} {r : Int32 × Mem} (C : Ctx K RX8 cX8_isReady) (S : SS K n 1 3 (some .boolean) (Ti n r)) (hn : 113 ≤ n) (hk2 : ∀ (va1 : Int32) (M1 : Mem), k2 va1 M1 = some r → AS K n M1 2 [some (.ref 85), some (.int va1), none] []) : ∀ (z : Nat) (a2 : Int32) (M : Mem), fM_isReady_b12 k2 a1 z a2 M = some r → AS K n M 12 [some (.ref 85), some (.int a1), some (.int a2)] [] := by
  intro z
  induction z with
  | zero => intro a2 M h; cases h
  | succ z ih =>
    intro a2 M h
    refine aw_iload_n C (tb_at ok_X8_isReady 8 rfl) rfl ?_
    refine aw_aload_n C (tb_at ok_X8_isReady 9 rfl) rfl ?_
    refine aw_getR C (ob_85 hn) rfl (by decide) rfl p_85_16 fl_RX8_47 (tb_at ok_X8_isReady 10 rfl) ?_
    refine aw_iload_n C (tb_at ok_X8_isReady 11 rfl) rfl ?_
    refine aw_iald C (ob_96 hn) (tb_at ok_X8_isReady 12 rfl) h (fun h => ?_)
    refine aw_icmp_ge C 56 (tb_at ok_X8_isReady 13 rfl) (by decide) h (fun h => ?_) (fun h => ?_)
    · exact aw_loc [some (.ref 85), some (.int a1), none] (sl_k (sl_k (sl_n sl_0))) (t_fM_isReady_b56 C S hn hk2 h)
    · refine aw_iload_n C (tb_at ok_X8_isReady 14 rfl) rfl ?_
      refine aw_aload_n C (tb_at ok_X8_isReady 15 rfl) rfl ?_
      refine aw_get C (ob_85 hn) rfl (by decide) rfl fl_RX8_50 (tb_at ok_X8_isReady 16 rfl) ?_
      refine aw_icmp_eq C 56 (tb_at ok_X8_isReady 17 rfl) (by decide) h (fun h => ?_) (fun h => ?_)
      · exact aw_loc [some (.ref 85), some (.int a1), none] (sl_k (sl_k (sl_n sl_0))) (t_fM_isReady_b56 C S hn hk2 h)
      · refine aw_aload_n C (tb_at ok_X8_isReady 18 rfl) rfl ?_
        refine aw_getR C (ob_85 hn) rfl (by decide) rfl p_85_42 fl_RX8_74 (tb_at ok_X8_isReady 19 rfl) ?_
        refine aw_aload_n C (tb_at ok_X8_isReady 20 rfl) rfl ?_
        refine aw_getR C (ob_85 hn) rfl (by decide) rfl p_85_15 fl_RX8_44 (tb_at ok_X8_isReady 21 rfl) ?_
        refine aw_iconst C (tb_at ok_X8_isReady 22 rfl) ki_5 ?_
        refine aw_iload_n C (tb_at ok_X8_isReady 23 rfl) rfl ?_
        refine aw_imul C (tb_at ok_X8_isReady 24 rfl) ?_
        refine aw_iload_n C (tb_at ok_X8_isReady 25 rfl) rfl ?_
        refine aw_iadd C (tb_at ok_X8_isReady 26 rfl) ?_
        refine aw_iald C (ob_95 hn) (tb_at ok_X8_isReady 27 rfl) h (fun h => ?_)
        refine aw_iald C (ob_104 hn) (tb_at ok_X8_isReady 28 rfl) h (fun h => ?_)
        refine aw_if_le C 50 (tb_at ok_X8_isReady 29 rfl) (by decide) h (fun h => ?_) (fun h => ?_)
        · refine aw_iinc C [some (.ref 85), some (.int a1), some (.int (a2 + 1))] (tb_at ok_X8_isReady 32 rfl) rfl S.2.2.2.1 (by decide) ki_1 rfl ?_
          refine aw_goto C 12 (tb_at ok_X8_isReady 33 rfl) (by decide) ?_
          exact aw_loc [some (.ref 85), some (.int a1), some (.int (a2 + 1))] (sl_k (sl_k (sl_k sl_0))) (ih _ _ h)
        · refine aw_iconst C (tb_at ok_X8_isReady 30 rfl) ki_0 ?_
          exact sw_iret C S rfl (tb_at ok_X8_isReady 31 rfl) h
set_option maxHeartbeats 4000000 in
set_option maxRecDepth 20000 in
theorem t_fM_isReady_b2 {K : Cx} {n : Nat} {r : Int32 × Mem} (C : Ctx K RX8 cX8_isReady) (S : SS K n 1 3 (some .boolean) (Ti n r)) (hn : 113 ≤ n) : ∀ (z : Nat) (a1 : Int32) (M : Mem), fM_isReady_b2 z a1 M = some r → AS K n M 2 [some (.ref 85), some (.int a1), none] [] := by
  intro z
  induction z with
  | zero => intro a1 M h; cases h
  | succ z ih =>
    intro a1 M h
    refine aw_iload_n C (tb_at ok_X8_isReady 2 rfl) rfl ?_
    refine aw_aload_n C (tb_at ok_X8_isReady 3 rfl) rfl ?_
    refine aw_get C (ob_85 hn) rfl (by decide) rfl fl_RX8_118 (tb_at ok_X8_isReady 4 rfl) ?_
    refine aw_icmp_ge C 62 (tb_at ok_X8_isReady 5 rfl) (by decide) h (fun h => ?_) (fun h => ?_)
    · refine aw_iconst C (tb_at ok_X8_isReady 36 rfl) ki_1 ?_
      exact sw_iret C S rfl (tb_at ok_X8_isReady 37 rfl) h
    · refine aw_iconst C (tb_at ok_X8_isReady 6 rfl) ki_0 ?_
      refine aw_istore_n C [some (.ref 85), some (.int a1), some (.int 0)] (tb_at ok_X8_isReady 7 rfl) S.2.2.2.1 (by decide) rfl ?_
      exact aw_loc [some (.ref 85), some (.int a1), some (.int 0)] (sl_k (sl_k (sl_k sl_0))) (t_fM_isReady_b12 C S hn ih 1000 _ _ h)
set_option maxHeartbeats 4000000 in
set_option maxRecDepth 20000 in
theorem t_fM_isReady {K : Cx} {n : Nat} {M : Mem} {r : Int32 × Mem} (C : Ctx K RX8 cX8_isReady) (S : SS K n 1 3 (some .boolean) (Ti n r)) (hn : 113 ≤ n) (h : fM_isReady M = some r) : AS K n M 0 [some (.ref 85), none, none] [] := by
  refine aw_iconst C (tb_at ok_X8_isReady 0 rfl) ki_0 ?_
  refine aw_istore_n C [some (.ref 85), some (.int 0), none] (tb_at ok_X8_isReady 1 rfl) S.2.2.2.1 (by decide) rfl ?_
  exact aw_loc [some (.ref 85), some (.int 0), none] (sl_k (sl_k (sl_n sl_0))) (t_fM_isReady_b2 C S hn 1000 _ _ h)
theorem m_fM_isReady {l : Launch} {w : Wd} {n : Nat} {M : Mem} {r : Int32 × Mem} (hn : 113 ≤ n) (h : fM_isReady M = some r) : CM l w yX8_isReady cX8_isReady 3 (some .boolean) 1 0 0 [.ref 85] n M (PD M) (Ti n r) := sm_of (loc := [some (.ref 85), none, none]) mf_X8_isReady (by decide) (Nat.le_of_ble_eq_true rfl) rfl (fun K _ _ C S => t_fM_isReady C S hn h)
def tb_X8_lives : List (Nat × Instr × Nat) := [(0, .iconst 0, 1), (1, .istore_n 2, 1), (2, .iload_n 2, 1), (3, .aload_n 0, 1), (4, .getfield 118, 3), (7, .if_icmp .ge 23, 3), (10, .iload_n 2, 1), (11, .aload_n 0, 1), (12, .getfield 50, 3), (15, .if_icmp .eq 9, 3), (18, .aload_n 0, 1), (19, .iload_n 2, 1), (20, .iload_n 1, 1), (21, .invokevirtual 323, 3), (24, .iinc 2 1, 3), (27, .goto (-25), 3), (30, .aload_n 0, 1), (31, .aload_n 0, 1), (32, .getfield 307, 3), (35, .iconst (-1), 1), (36, .if_icmp .ne 14, 3), (39, .aload_n 0, 1), (40, .invokevirtual 327, 3), (43, .ifCond .eq 7, 3), (46, .iload_n 1, 1), (47, .goto 7, 3), (50, .aload_n 0, 1), (51, .getfield 307, 3), (54, .putfield 307, 3), (57, .return_, 1)]
theorem ok_X8_lives : TB cX8_lives tb_X8_lives := (by decide +kernel : tb_X8_lives.all (fun q => tbq cX8_lives q) = true)
set_option maxHeartbeats 4000000 in
set_option maxRecDepth 20000 in
theorem t_fM_lives_b54 {K : Cx} {n : Nat} {s0 : Int32} {M : Mem} {r : Mem} (C : Ctx K RX8 cX8_lives) (S : SS K n 69 3 none (Tv n r)) (hn : 113 ≤ n) (h : fM_lives_b54 s0 M = some r) : AS K n M 54 [none, none, none] [.int s0, .ref 85] := by
  refine sw_put C (ob_85 hn) rfl (by decide) (by decide) (Or.inr (by decide)) rfl rfl rfl rfl fl_RX8_307 (tb_at ok_X8_lives 28 rfl) ?_
  exact sw_vret C S (tb_at ok_X8_lives 29 rfl) h
set_option maxHeartbeats 4000000 in
set_option maxRecDepth 20000 in
theorem t_fM_lives_b50 {K : Cx} {n : Nat} {M : Mem} {r : Mem} (C : Ctx K RX8 cX8_lives) (S : SS K n 69 3 none (Tv n r)) (hn : 113 ≤ n) (h : fM_lives_b50 M = some r) : AS K n M 50 [some (.ref 85), none, none] [.ref 85] := by
  refine aw_aload_n C (tb_at ok_X8_lives 26 rfl) rfl ?_
  refine aw_get C (ob_85 hn) rfl (by decide) rfl fl_RX8_307 (tb_at ok_X8_lives 27 rfl) ?_
  exact aw_loc [none, none, none] (sl_n (sl_n (sl_n sl_0))) (t_fM_lives_b54 C S hn h)
set_option maxHeartbeats 4000000 in
set_option maxRecDepth 20000 in
theorem t_fM_lives_b24 {K : Cx} {n : Nat} {k2 : Int32 → Mem → Option (Mem)} {a1 : Int32} {a2 : Int32} {M : Mem} {r : Mem} (C : Ctx K RX8 cX8_lives) (S : SS K n 69 3 none (Tv n r)) (hn : 113 ≤ n) (hk2 : ∀ (va2 : Int32) (M1 : Mem), k2 va2 M1 = some r → AS K n M1 2 [some (.ref 85), some (.int a1), some (.int va2)] []) (h : fM_lives_b24 k2 a1 a2 M = some r) : AS K n M 24 [some (.ref 85), some (.int a1), some (.int a2)] [] := by
  refine aw_iinc C [some (.ref 85), some (.int a1), some (.int (a2 + 1))] (tb_at ok_X8_lives 14 rfl) rfl S.2.2.2.1 (by decide) ki_1 rfl ?_
  refine aw_goto C 2 (tb_at ok_X8_lives 15 rfl) (by decide) ?_
  exact aw_loc [some (.ref 85), some (.int a1), some (.int (a2 + 1))] (sl_k (sl_k (sl_k sl_0))) (hk2 _ _ h)
set_option maxHeartbeats 4000000 in
set_option maxRecDepth 20000 in
theorem t_fM_lives_b2 {K : Cx} {n : Nat} {a1 : Int32} {r : Mem} (C : Ctx K RX8 cX8_lives) (S : SS K n 69 3 none (Tv n r)) (hn : 113 ≤ n) : ∀ (z : Nat) (a2 : Int32) (M : Mem), fM_lives_b2 a1 z a2 M = some r → AS K n M 2 [some (.ref 85), some (.int a1), some (.int a2)] [] := by
  intro z
  induction z with
  | zero => intro a2 M h; cases h
  | succ z ih =>
    intro a2 M h
    refine aw_iload_n C (tb_at ok_X8_lives 2 rfl) rfl ?_
    refine aw_aload_n C (tb_at ok_X8_lives 3 rfl) rfl ?_
    refine aw_get C (ob_85 hn) rfl (by decide) rfl fl_RX8_118 (tb_at ok_X8_lives 4 rfl) ?_
    refine aw_icmp_ge C 30 (tb_at ok_X8_lives 5 rfl) (by decide) h (fun h => ?_) (fun h => ?_)
    · refine aw_aload_n C (tb_at ok_X8_lives 16 rfl) rfl ?_
      refine aw_aload_n C (tb_at ok_X8_lives 17 rfl) rfl ?_
      refine aw_get C (ob_85 hn) rfl (by decide) rfl fl_RX8_307 (tb_at ok_X8_lives 18 rfl) ?_
      refine aw_iconst C (tb_at ok_X8_lives 19 rfl) ki_m1 ?_
      refine aw_icmp_ne C 50 (tb_at ok_X8_lives 20 rfl) (by decide) h (fun h => ?_) (fun h => ?_)
      · refine aw_aload_n C (tb_at ok_X8_lives 21 rfl) rfl ?_
        refine sw_cVi C S [] [.ref 85] (tb_at ok_X8_lives 22 rfl) h (fun q e => m_fM_isReady hn e) mf_X8_isReady (ob_85 hn) rfl rfl cw_RX8_327 rfl (by decide) rfl (Nat.le_of_ble_eq_true rfl) (fun r1 M1 h => ?_)
        refine aw_if_eq C 50 (tb_at ok_X8_lives 23 rfl) (by decide) h (fun h => ?_) (fun h => ?_)
        · exact aw_loc [some (.ref 85), none, none] (sl_k (sl_n (sl_n sl_0))) (t_fM_lives_b50 C S hn h)
        · refine aw_iload_n C (tb_at ok_X8_lives 24 rfl) rfl ?_
          refine aw_goto C 54 (tb_at ok_X8_lives 25 rfl) (by decide) ?_
          exact aw_loc [none, none, none] (sl_n (sl_n (sl_n sl_0))) (t_fM_lives_b54 C S hn h)
      · exact aw_loc [some (.ref 85), none, none] (sl_k (sl_n (sl_n sl_0))) (t_fM_lives_b50 C S hn h)
    · refine aw_iload_n C (tb_at ok_X8_lives 6 rfl) rfl ?_
      refine aw_aload_n C (tb_at ok_X8_lives 7 rfl) rfl ?_
      refine aw_get C (ob_85 hn) rfl (by decide) rfl fl_RX8_50 (tb_at ok_X8_lives 8 rfl) ?_
      refine aw_icmp_eq C 24 (tb_at ok_X8_lives 9 rfl) (by decide) h (fun h => ?_) (fun h => ?_)
      · exact aw_loc [some (.ref 85), some (.int a1), some (.int a2)] (sl_k (sl_k (sl_k sl_0))) (t_fM_lives_b24 C S hn ih h)
      · refine aw_aload_n C (tb_at ok_X8_lives 10 rfl) rfl ?_
        refine aw_iload_n C (tb_at ok_X8_lives 11 rfl) rfl ?_
        refine aw_iload_n C (tb_at ok_X8_lives 12 rfl) rfl ?_
        refine sw_cVv C S [.int a2, .int a1] [] (tb_at ok_X8_lives 13 rfl) h (fun q e => m_fM_acts hn e) mf_X8_acts (ob_85 hn) rfl rfl cw_RX8_323 rfl (by decide) rfl (Nat.le_of_ble_eq_true rfl) (fun M2 h => ?_)
        exact aw_loc [some (.ref 85), some (.int a1), some (.int a2)] (sl_k (sl_k (sl_k sl_0))) (t_fM_lives_b24 C S hn ih h)
set_option maxHeartbeats 4000000 in
set_option maxRecDepth 20000 in
theorem t_fM_lives {K : Cx} {n : Nat} {a1 : Int32} {M : Mem} {r : Mem} (C : Ctx K RX8 cX8_lives) (S : SS K n 69 3 none (Tv n r)) (hn : 113 ≤ n) (h : fM_lives a1 M = some r) : AS K n M 0 [some (.ref 85), some (.int a1), none] [] := by
  refine aw_iconst C (tb_at ok_X8_lives 0 rfl) ki_0 ?_
  refine aw_istore_n C [some (.ref 85), some (.int a1), some (.int 0)] (tb_at ok_X8_lives 1 rfl) S.2.2.2.1 (by decide) rfl ?_
  exact aw_loc [some (.ref 85), some (.int a1), some (.int 0)] (sl_k (sl_k (sl_k sl_0))) (t_fM_lives_b2 C S hn 1000 _ _ h)
theorem m_fM_lives {l : Launch} {w : Wd} {n : Nat} {a1 : Int32} {M : Mem} {r : Mem} (hn : 113 ≤ n) (h : fM_lives a1 M = some r) : CM l w yX8_lives cX8_lives 3 none 69 0 0 [.ref 85, .int a1] n M (PD M) (Tv n r) := sm_of (loc := [some (.ref 85), some (.int a1), none]) mf_X8_lives (by decide) (Nat.le_of_ble_eq_true rfl) rfl (fun K _ _ C S => t_fM_lives C S hn h)
