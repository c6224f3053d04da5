/-! theorems 10 -/
def tb_X8_over : List (Nat × Instr × Nat) := [(0, .iload_n 0, 1), (1, .ifCond .ne 7, 3), (4, .iconst (-1), 1), (5, .goto 22, 3), (8, .iload_n 0, 1), (9, .iconst 3, 1), (10, .if_icmp .ne 7, 3), (13, .iconst 1, 1), (14, .goto 13, 3), (17, .iload_n 0, 1), (18, .iconst 4, 1), (19, .if_icmp .ne 7, 3), (22, .iconst 2, 1), (23, .goto 4, 3), (26, .iconst 0, 1), (27, .ireturn, 1)]
theorem ok_X8_over : TB cX8_over tb_X8_over := (by decide +kernel : tb_X8_over.all (fun q => tbq cX8_over q) = true)
set_option maxHeartbeats 4000000 in
set_option maxRecDepth 20000 in
theorem t_fM_over {K : Cx} {n : Nat} {a0 : Int32} {M : Mem} {r : Int32 × Mem} (C : Ctx K RX8 cX8_over) (S : SS K n 1 1 (some .int) (Ti n r)) (hn : 113 ≤ n) (h : fM_over a0 M = some r) : AS K n M 0 [some (.int a0)] [] := by
  refine aw_iload_n C (tb_at ok_X8_over 0 rfl) rfl ?_
  refine aw_if_ne C 8 (tb_at ok_X8_over 1 rfl) (by decide) h (fun h => ?_) (fun h => ?_)
  · refine aw_iconst C (tb_at ok_X8_over 2 rfl) ki_m1 ?_
    refine aw_goto C 27 (tb_at ok_X8_over 3 rfl) (by decide) ?_
    exact sw_iret C S rfl (tb_at ok_X8_over 15 rfl) h
  · refine aw_iload_n C (tb_at ok_X8_over 4 rfl) rfl ?_
    refine aw_iconst C (tb_at ok_X8_over 5 rfl) ki_3 ?_
    refine aw_icmp_ne C 17 (tb_at ok_X8_over 6 rfl) (by decide) h (fun h => ?_) (fun h => ?_)
    · refine aw_iconst C (tb_at ok_X8_over 7 rfl) ki_1 ?_
      refine aw_goto C 27 (tb_at ok_X8_over 8 rfl) (by decide) ?_
      exact sw_iret C S rfl (tb_at ok_X8_over 15 rfl) h
    · refine aw_iload_n C (tb_at ok_X8_over 9 rfl) rfl ?_
      refine aw_iconst C (tb_at ok_X8_over 10 rfl) ki_4 ?_
      refine aw_icmp_ne C 26 (tb_at ok_X8_over 11 rfl) (by decide) h (fun h => ?_) (fun h => ?_)
      · refine aw_iconst C (tb_at ok_X8_over 12 rfl) ki_2 ?_
        refine aw_goto C 27 (tb_at ok_X8_over 13 rfl) (by decide) ?_
        exact sw_iret C S rfl (tb_at ok_X8_over 15 rfl) h
      · refine aw_iconst C (tb_at ok_X8_over 14 rfl) ki_0 ?_
        exact sw_iret C S rfl (tb_at ok_X8_over 15 rfl) h
theorem m_fM_over {l : Launch} {w : Wd} {n : Nat} {a0 : Int32} {M : Mem} {r : Int32 × Mem} (hn : 113 ≤ n) (h : fM_over a0 M = some r) : CM l w yX8_over cX8_over 1 (some .int) 1 0 0 [.int a0] n M (PD M) (Ti n r) := sm_of (loc := [some (.int a0)]) mf_X8_over (by decide) (Nat.le_of_ble_eq_true rfl) rfl (fun K _ _ C S => t_fM_over C S hn h)
def tb_X8_taken : List (Nat × Instr × Nat) := [(0, .iload_n 2, 1), (1, .i2l, 1), (2, .lconst 0, 1), (3, .ldc2_w 134, 3), (6, .invokestatic 114, 3), (9, .ifCond .ne 6, 3), (12, .bipush (-2), 2), (14, .ireturn, 1), (15, .aload_n 0, 1), (16, .iload_n 1, 1), (17, .invokevirtual 131, 3), (20, .ifCond .ne 6, 3), (23, .bipush (-11), 2), (25, .ireturn, 1), (26, .aload_n 0, 1), (27, .getfield 35, 3), (30, .iload_n 1, 1), (31, .iaload, 1), (32, .istore_n 3, 1), (33, .iload_n 3, 1), (34, .iconst (-1), 1), (35, .if_icmp .eq 16, 3), (38, .iload_n 3, 1), (39, .iload_n 2, 1), (40, .if_icmp .eq 11, 3), (43, .iload_n 3, 1), (44, .invokestatic 399, 3), (47, .istore_n 3, 1), (48, .goto (-15), 3), (51, .iload_n 3, 1), (52, .iload_n 2, 1), (53, .if_icmp .ne 12, 3), (56, .aload_n 0, 1), (57, .getfield 38, 3), (60, .iload_n 1, 1), (61, .iaload, 1), (62, .goto 5, 3), (65, .bipush (-13), 2), (67, .ireturn, 1)]
theorem ok_X8_taken : TB cX8_taken tb_X8_taken := (by decide +kernel : tb_X8_taken.all (fun q => tbq cX8_taken q) = true)
set_option maxHeartbeats 4000000 in
set_option maxRecDepth 20000 in
theorem t_fM_taken_b51 {K : Cx} {n : Nat} {a1 : Int32} {a2 : Int32} {a3 : Int32} {M : Mem} {r : Int32 × Mem} (C : Ctx K RX8 cX8_taken) (S : SS K n 3 4 (some .int) (Ti n r)) (hn : 113 ≤ n) (h : fM_taken_b51 a1 a2 a3 M = some r) : AS K n M 51 [some (.ref 85), some (.int a1), some (.int a2), some (.int a3)] [] := by
  refine aw_iload_n C (tb_at ok_X8_taken 29 rfl) rfl ?_
  refine aw_iload_n C (tb_at ok_X8_taken 30 rfl) rfl ?_
  refine aw_icmp_ne C 65 (tb_at ok_X8_taken 31 rfl) (by decide) h (fun h => ?_) (fun h => ?_)
  · refine aw_aload_n C (tb_at ok_X8_taken 32 rfl) rfl ?_
    refine aw_getR C (ob_85 hn) rfl (by decide) rfl p_85_13 fl_RX8_38 (tb_at ok_X8_taken 33 rfl) ?_
    refine aw_iload_n C (tb_at ok_X8_taken 34 rfl) rfl ?_
    refine aw_iald C (ob_93 hn) (tb_at ok_X8_taken 35 rfl) h (fun h => ?_)
    refine aw_goto C 67 (tb_at ok_X8_taken 36 rfl) (by decide) ?_
    exact sw_iret C S rfl (tb_at ok_X8_taken 38 rfl) h
  · refine aw_bipush C (tb_at ok_X8_taken 37 rfl) kb_m13 ?_
    exact sw_iret C S rfl (tb_at ok_X8_taken 38 rfl) h
set_option maxHeartbeats 4000000 in
set_option maxRecDepth 20000 in
theorem t_fM_taken_b33 {K : Cx} {n : Nat} {a1 : Int32} {a2 : Int32} {r : Int32 × Mem} (C : Ctx K RX8 cX8_taken) (S : SS K n 3 4 (some .int) (Ti n r)) (hn : 113 ≤ n) : ∀ (z : Nat) (a3 : Int32) (M : Mem), fM_taken_b33 a1 a2 z a3 M = some r → AS K n M 33 [some (.ref 85), some (.int a1), some (.int a2), some (.int a3)] [] := by
  intro z
  induction z with
  | zero => intro a3 M h; cases h
  | succ z ih =>
    intro a3 M h
    refine aw_iload_n C (tb_at ok_X8_taken 19 rfl) rfl ?_
    refine aw_iconst C (tb_at ok_X8_taken 20 rfl) ki_m1 ?_
    refine aw_icmp_eq C 51 (tb_at ok_X8_taken 21 rfl) (by decide) h (fun h => ?_) (fun h => ?_)
    · exact aw_loc [some (.ref 85), some (.int a1), some (.int a2), some (.int a3)] (sl_k (sl_k (sl_k (sl_k sl_0)))) (t_fM_taken_b51 C S hn h)
    · refine aw_iload_n C (tb_at ok_X8_taken 22 rfl) rfl ?_
      refine aw_iload_n C (tb_at ok_X8_taken 23 rfl) rfl ?_
      refine aw_icmp_eq C 51 (tb_at ok_X8_taken 24 rfl) (by decide) h (fun h => ?_) (fun h => ?_)
      · exact aw_loc [some (.ref 85), some (.int a1), some (.int a2), some (.int a3)] (sl_k (sl_k (sl_k (sl_k sl_0)))) (t_fM_taken_b51 C S hn h)
      · refine aw_iload_n C (tb_at ok_X8_taken 25 rfl) rfl ?_
        refine sw_cSi C S [.int a3] [] (tb_at ok_X8_taken 26 rfl) h (fun q e => m_fM_over hn e) mf_X8_over cw_RX8_399 rfl (by decide) rfl (Nat.le_of_ble_eq_true rfl) (fun r3 M3 h => ?_)
        refine aw_istore_n C [some (.ref 85), some (.int a1), some (.int a2), some (.int r3)] (tb_at ok_X8_taken 27 rfl) S.2.2.2.1 (by decide) rfl ?_
        refine aw_goto C 33 (tb_at ok_X8_taken 28 rfl) (by decide) ?_
        exact aw_loc [some (.ref 85), some (.int a1), some (.int a2), some (.int r3)] (sl_k (sl_k (sl_k (sl_k sl_0)))) (ih _ _ h)
set_option maxHeartbeats 4000000 in
set_option maxRecDepth 20000 in
theorem t_fM_taken {K : Cx} {n : Nat} {a1 : Int32} {a2 : Int32} {M : Mem} {r : Int32 × Mem} (C : Ctx K RX8 cX8_taken) (S : SS K n 3 4 (some .int) (Ti n r)) (hn : 113 ≤ n) (h : fM_taken a1 a2 M = some r) : AS K n M 0 [some (.ref 85), some (.int a1), some (.int a2), none] [] := by
  refine aw_iload_n C (tb_at ok_X8_taken 0 rfl) rfl ?_
  refine aw_i2l C (tb_at ok_X8_taken 1 rfl) ?_
  refine aw_lconst C (tb_at ok_X8_taken 2 rfl) kl_0 ?_
  refine aw_ldc2 C kc_RX8_134 (tb_at ok_X8_taken 3 rfl) ?_
  refine sw_cSi C S [.long (a2.toInt64), .long (0 : Int64), .long (5 : Int64)] [] (tb_at ok_X8_taken 4 rfl) h (fun q e => m_fM_in hn e) mf_X8_in cw_RX8_114 rfl (by decide) rfl (Nat.le_of_ble_eq_true rfl) (fun r1 M1 h => ?_)
  refine aw_if_ne C 15 (tb_at ok_X8_taken 5 rfl) (by decide) h (fun h => ?_) (fun h => ?_)
  · refine aw_bipush C (tb_at ok_X8_taken 6 rfl) kb_m2 ?_
    exact sw_iret C S rfl (tb_at ok_X8_taken 7 rfl) h
  · refine aw_aload_n C (tb_at ok_X8_taken 8 rfl) rfl ?_
    refine aw_iload_n C (tb_at ok_X8_taken 9 rfl) rfl ?_
    refine sw_cVi C S [.int a1] [] (tb_at ok_X8_taken 10 rfl) h (fun q e => m_fM_isMaid hn e) mf_X8_isMaid (ob_85 hn) rfl rfl cw_RX8_131 rfl (by decide) rfl (Nat.le_of_ble_eq_true rfl) (fun r2 M2 h => ?_)
    refine aw_if_ne C 26 (tb_at ok_X8_taken 11 rfl) (by decide) h (fun h => ?_) (fun h => ?_)
    · refine aw_bipush C (tb_at ok_X8_taken 12 rfl) kb_m11 ?_
      exact sw_iret C S rfl (tb_at ok_X8_taken 13 rfl) h
    · refine aw_aload_n C (tb_at ok_X8_taken 14 rfl) rfl ?_
      refine aw_getR C (ob_85 hn) rfl (by decide) rfl p_85_12 fl_RX8_35 (tb_at ok_X8_taken 15 rfl) ?_
      refine aw_iload_n C (tb_at ok_X8_taken 16 rfl) rfl ?_
      refine aw_iald C (ob_92 hn) (tb_at ok_X8_taken 17 rfl) h (fun h => ?_)
      refine aw_istore_n C [some (.ref 85), some (.int a1), some (.int a2), some (.int (M2 92 (ix a1)))] (tb_at ok_X8_taken 18 rfl) S.2.2.2.1 (by decide) rfl ?_
      exact aw_loc [some (.ref 85), some (.int a1), some (.int a2), some (.int (M2 92 (ix a1)))] (sl_k (sl_k (sl_k (sl_k sl_0)))) (t_fM_taken_b33 C S hn 1000 _ _ h)
theorem m_fM_taken {l : Launch} {w : Wd} {n : Nat} {a1 : Int32} {a2 : Int32} {M : Mem} {r : Int32 × Mem} (hn : 113 ≤ n) (h : fM_taken a1 a2 M = some r) : CM l w yX8_taken cX8_taken 4 (some .int) 3 0 0 [.ref 85, .int a1, .int a2] n M (PD M) (Ti n r) := sm_of (loc := [some (.ref 85), some (.int a1), some (.int a2), none]) mf_X8_taken (by decide) (Nat.le_of_ble_eq_true rfl) rfl (fun K _ _ C S => t_fM_taken C S hn h)
