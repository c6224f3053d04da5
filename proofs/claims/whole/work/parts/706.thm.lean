/-! theorems 6 -/
def tb_X8_longest : List (Nat × Instr × Nat) := [(0, .iload_n 1, 1), (1, .invokestatic 124, 3), (4, .ifCond .eq 13, 3), (7, .iload_n 2, 1), (8, .i2l, 1), (9, .lconst 0, 1), (10, .lconst 1, 1), (11, .invokestatic 114, 3), (14, .ifCond .ne 6, 3), (17, .bipush (-2), 2), (19, .ireturn, 1), (20, .aload_n 0, 1), (21, .iload_n 1, 1), (22, .invokevirtual 176, 3), (25, .istore_n 3, 1), (26, .iload_n 2, 1), (27, .ifCond .ne 7, 3), (30, .iload_n 3, 1), (31, .goto 7, 3), (34, .aload_n 0, 1), (35, .getfield 173, 3), (38, .ireturn, 1)]
theorem ok_X8_longest : TB cX8_longest tb_X8_longest := (by decide +kernel : tb_X8_longest.all (fun q => tbq cX8_longest q) = true)
set_option maxHeartbeats 4000000 in
set_option maxRecDepth 20000 in
theorem t_fM_longest {K : Cx} {n : Nat} {a1 : Int32} {a2 : Int32} {M : Mem} {r : Int32 × Mem} (C : Ctx K RX8 cX8_longest) (S : SS K n 3 4 (some .int) (Ti n r)) (hn : 113 ≤ n) (h : fM_longest a1 a2 M = some r) : AS K n M 0 [some (.ref 85), some (.int a1), some (.int a2), none] [] := by
  refine aw_iload_n C (tb_at ok_X8_longest 0 rfl) rfl ?_
  refine sw_cSi C S [.int a1] [] (tb_at ok_X8_longest 1 rfl) h (fun q e => m_fM_isRoom hn e) mf_X8_isRoom cw_RX8_124 rfl (by decide) rfl (Nat.le_of_ble_eq_true rfl) (fun r1 M1 h => ?_)
  refine aw_if_eq C 17 (tb_at ok_X8_longest 2 rfl) (by decide) h (fun h => ?_) (fun h => ?_)
  · refine aw_bipush C (tb_at ok_X8_longest 9 rfl) kb_m2 ?_
    exact sw_iret C S rfl (tb_at ok_X8_longest 10 rfl) h
  · refine aw_iload_n C (tb_at ok_X8_longest 3 rfl) rfl ?_
    refine aw_i2l C (tb_at ok_X8_longest 4 rfl) ?_
    refine aw_lconst C (tb_at ok_X8_longest 5 rfl) kl_0 ?_
    refine aw_lconst C (tb_at ok_X8_longest 6 rfl) kl_1 ?_
    refine sw_cSi C S [.long (a2.toInt64), .long (0 : Int64), .long (1 : Int64)] [] (tb_at ok_X8_longest 7 rfl) h (fun q e => m_fM_in hn e) mf_X8_in cw_RX8_114 rfl (by decide) rfl (Nat.le_of_ble_eq_true rfl) (fun r2 M2 h => ?_)
    refine aw_if_ne C 20 (tb_at ok_X8_longest 8 rfl) (by decide) h (fun h => ?_) (fun h => ?_)
    · refine aw_bipush C (tb_at ok_X8_longest 9 rfl) kb_m2 ?_
      exact sw_iret C S rfl (tb_at ok_X8_longest 10 rfl) h
    · refine aw_aload_n C (tb_at ok_X8_longest 11 rfl) rfl ?_
      refine aw_iload_n C (tb_at ok_X8_longest 12 rfl) rfl ?_
      refine sw_cVi C S [.int a1] [] (tb_at ok_X8_longest 13 rfl) h (fun q e => m_fM_longestOf hn e) mf_X8_longestOf (ob_85 hn) rfl rfl cw_RX8_176 rfl (by decide) rfl (Nat.le_of_ble_eq_true rfl) (fun r3 M3 h => ?_)
      refine aw_istore_n C [some (.ref 85), some (.int a1), some (.int a2), some (.int r3)] (tb_at ok_X8_longest 14 rfl) S.2.2.2.1 (by decide) rfl ?_
      refine aw_iload_n C (tb_at ok_X8_longest 15 rfl) rfl ?_
      refine aw_if_ne C 34 (tb_at ok_X8_longest 16 rfl) (by decide) h (fun h => ?_) (fun h => ?_)
      · refine aw_iload_n C (tb_at ok_X8_longest 17 rfl) rfl ?_
        refine aw_goto C 38 (tb_at ok_X8_longest 18 rfl) (by decide) ?_
        exact sw_iret C S rfl (tb_at ok_X8_longest 21 rfl) h
      · refine aw_aload_n C (tb_at ok_X8_longest 19 rfl) rfl ?_
        refine aw_get C (ob_85 hn) rfl (by decide) rfl fl_RX8_173 (tb_at ok_X8_longest 20 rfl) ?_
        exact sw_iret C S rfl (tb_at ok_X8_longest 21 rfl) h
theorem m_fM_longest {l : Launch} {w : Wd} {n : Nat} {a1 : Int32} {a2 : Int32} {M : Mem} {r : Int32 × Mem} (hn : 113 ≤ n) (h : fM_longest a1 a2 M = some r) : CM l w yX8_longest cX8_longest 4 (some .int) 3 0 0 [.ref 85, .int a1, .int a2] n M (PD M) (Ti n r) := sm_of (loc := [some (.ref 85), some (.int a1), some (.int a2), none]) mf_X8_longest (by decide) (Nat.le_of_ble_eq_true rfl) rfl (fun K _ _ C S => t_fM_longest C S hn h)
def tb_X8_never : List (Nat × Instr × Nat) := [(0, .iload_n 1, 1), (1, .i2l, 1), (2, .lconst 0, 1), (3, .ldc2_w 179, 3), (6, .invokestatic 114, 3), (9, .ifCond .ne 6, 3), (12, .bipush (-2), 2), (14, .ireturn, 1), (15, .iconst 0, 1), (16, .istore_n 2, 1), (17, .iconst 0, 1), (18, .istore_n 3, 1), (19, .iload_n 3, 1), (20, .bipush 8, 2), (22, .if_icmp .ge 28, 3), (25, .iload_n 2, 1), (26, .aload_n 0, 1), (27, .iload_n 3, 1), (28, .invokevirtual 176, 3), (31, .iload_n 1, 1), (32, .if_icmp .ge 7, 3), (35, .iconst 1, 1), (36, .goto 4, 3), (39, .iconst 0, 1), (40, .iload_n 3, 1), (41, .ishl, 1), (42, .ior, 1), (43, .istore_n 2, 1), (44, .iinc 3 1, 3), (47, .goto (-28), 3), (50, .iload_n 2, 1), (51, .ireturn, 1)]
theorem ok_X8_never : TB cX8_never tb_X8_never := (by decide +kernel : tb_X8_never.all (fun q => tbq cX8_never q) = true)
set_option maxHeartbeats 4000000 in
set_option maxRecDepth 20000 in
theorem t_fM_never_b40 {K : Cx} {n : Nat} {k19 : Int32 → Int32 → Mem → Option (Int32 × Mem)} {a1 : Int32} {a3 : Int32} {s0 : Int32} {s1 : Int32} {M : Mem} {r : Int32 × Mem} (C : Ctx K RX8 cX8_never) (S : SS K n 3 4 (some .int) (Ti n r)) (hn : 113 ≤ n) (hk19 : ∀ (va2 : Int32) (va3 : Int32) (M1 : Mem), k19 va2 va3 M1 = some r → AS K n M1 19 [some (.ref 85), some (.int a1), some (.int va2), some (.int va3)] []) (h : fM_never_b40 k19 a1 a3 s0 s1 M = some r) : AS K n M 40 [some (.ref 85), some (.int a1), none, some (.int a3)] [.int s0, .int s1] := by
  refine aw_iload_n C (tb_at ok_X8_never 24 rfl) rfl ?_
  refine aw_ishl C (tb_at ok_X8_never 25 rfl) ?_
  refine aw_ior C (tb_at ok_X8_never 26 rfl) ?_
  refine aw_istore_n C [some (.ref 85), some (.int a1), some (.int (s1 ||| (s0 <<< (a3 &&& 31)))), some (.int a3)] (tb_at ok_X8_never 27 rfl) S.2.2.2.1 (by decide) rfl ?_
  refine aw_iinc C [some (.ref 85), some (.int a1), some (.int (s1 ||| (s0 <<< (a3 &&& 31)))), some (.int (a3 + 1))] (tb_at ok_X8_never 28 rfl) rfl S.2.2.2.1 (by decide) ki_1 rfl ?_
  refine aw_goto C 19 (tb_at ok_X8_never 29 rfl) (by decide) ?_
  exact aw_loc [some (.ref 85), some (.int a1), some (.int (s1 ||| (s0 <<< (a3 &&& 31)))), some (.int (a3 + 1))] (sl_k (sl_k (sl_k (sl_k sl_0)))) (hk19 _ _ _ h)
set_option maxHeartbeats 4000000 in
set_option maxRecDepth 20000 in
theorem t_fM_never_b19 {K : Cx} {n : Nat} {a1 : Int32} {r : Int32 × Mem} (C : Ctx K RX8 cX8_never) (S : SS K n 3 4 (some .int) (Ti n r)) (hn : 113 ≤ n) : ∀ (z : Nat) (a2 : Int32) (a3 : Int32) (M : Mem), fM_never_b19 a1 z a2 a3 M = some r → AS K n M 19 [some (.ref 85), some (.int a1), some (.int a2), some (.int a3)] [] := by
  intro z
  induction z with
  | zero => intro a2 a3 M h; cases h
  | succ z ih =>
    intro a2 a3 M h
    refine aw_iload_n C (tb_at ok_X8_never 12 rfl) rfl ?_
    refine aw_bipush C (tb_at ok_X8_never 13 rfl) kb_8 ?_
    refine aw_icmp_ge C 50 (tb_at ok_X8_never 14 rfl) (by decide) h (fun h => ?_) (fun h => ?_)
    · refine aw_iload_n C (tb_at ok_X8_never 30 rfl) rfl ?_
      exact sw_iret C S rfl (tb_at ok_X8_never 31 rfl) h
    · refine aw_iload_n C (tb_at ok_X8_never 15 rfl) rfl ?_
      refine aw_aload_n C (tb_at ok_X8_never 16 rfl) rfl ?_
      refine aw_iload_n C (tb_at ok_X8_never 17 rfl) rfl ?_
      refine sw_cVi C S [.int a3] [.int a2] (tb_at ok_X8_never 18 rfl) h (fun q e => m_fM_longestOf hn e) mf_X8_longestOf (ob_85 hn) rfl rfl cw_RX8_176 rfl (by decide) rfl (Nat.le_of_ble_eq_true rfl) (fun r2 M2 h => ?_)
      refine aw_iload_n C (tb_at ok_X8_never 19 rfl) rfl ?_
      refine aw_icmp_ge C 39 (tb_at ok_X8_never 20 rfl) (by decide) h (fun h => ?_) (fun h => ?_)
      · refine aw_iconst C (tb_at ok_X8_never 23 rfl) ki_0 ?_
        exact aw_loc [some (.ref 85), some (.int a1), none, some (.int a3)] (sl_k (sl_k (sl_n (sl_k sl_0)))) (t_fM_never_b40 C S hn ih h)
      · refine aw_iconst C (tb_at ok_X8_never 21 rfl) ki_1 ?_
        refine aw_goto C 40 (tb_at ok_X8_never 22 rfl) (by decide) ?_
        exact aw_loc [some (.ref 85), some (.int a1), none, some (.int a3)] (sl_k (sl_k (sl_n (sl_k sl_0)))) (t_fM_never_b40 C S hn ih h)
set_option maxHeartbeats 4000000 in
set_option maxRecDepth 20000 in
theorem t_fM_never {K : Cx} {n : Nat} {a1 : Int32} {M : Mem} {r : Int32 × Mem} (C : Ctx K RX8 cX8_never) (S : SS K n 3 4 (some .int) (Ti n r)) (hn : 113 ≤ n) (h : fM_never a1 M = some r) : AS K n M 0 [some (.ref 85), some (.int a1), none, none] [] := by
  refine aw_iload_n C (tb_at ok_X8_never 0 rfl) rfl ?_
  refine aw_i2l C (tb_at ok_X8_never 1 rfl) ?_
  refine aw_lconst C (tb_at ok_X8_never 2 rfl) kl_0 ?_
  refine aw_ldc2 C kc_RX8_179 (tb_at ok_X8_never 3 rfl) ?_
  refine sw_cSi C S [.long (a1.toInt64), .long (0 : Int64), .long (100 : Int64)] [] (tb_at ok_X8_never 4 rfl) h (fun q e => m_fM_in hn e) mf_X8_in cw_RX8_114 rfl (by decide) rfl (Nat.le_of_ble_eq_true rfl) (fun r1 M1 h => ?_)
  refine aw_if_ne C 15 (tb_at ok_X8_never 5 rfl) (by decide) h (fun h => ?_) (fun h => ?_)
  · refine aw_bipush C (tb_at ok_X8_never 6 rfl) kb_m2 ?_
    exact sw_iret C S rfl (tb_at ok_X8_never 7 rfl) h
  · refine aw_iconst C (tb_at ok_X8_never 8 rfl) ki_0 ?_
    refine aw_istore_n C [some (.ref 85), some (.int a1), some (.int 0), none] (tb_at ok_X8_never 9 rfl) S.2.2.2.1 (by decide) rfl ?_
    refine aw_iconst C (tb_at ok_X8_never 10 rfl) ki_0 ?_
    refine aw_istore_n C [some (.ref 85), some (.int a1), some (.int 0), some (.int 0)] (tb_at ok_X8_never 11 rfl) S.2.2.2.1 (by decide) rfl ?_
    exact aw_loc [some (.ref 85), some (.int a1), some (.int 0), some (.int 0)] (sl_k (sl_k (sl_k (sl_k sl_0)))) (t_fM_never_b19 C S hn 1000 _ _ _ h)
theorem m_fM_never {l : Launch} {w : Wd} {n : Nat} {a1 : Int32} {M : Mem} {r : Int32 × Mem} (hn : 113 ≤ n) (h : fM_never a1 M = some r) : CM l w yX8_never cX8_never 4 (some .int) 3 0 0 [.ref 85, .int a1] n M (PD M) (Ti n r) := sm_of (loc := [some (.ref 85), some (.int a1), none, none]) mf_X8_never (by decide) (Nat.le_of_ble_eq_true rfl) rfl (fun K _ _ C S => t_fM_never C S hn h)
def tb_X8_feed : List (Nat × Instr × Nat) := [(0, .iload_n 1, 1), (1, .i2l, 1), (2, .lconst 0, 1), (3, .ldc2_w 181, 3), (6, .invokestatic 114, 3), (9, .ifCond .ne 6, 3), (12, .bipush (-2), 2), (14, .ireturn, 1), (15, .aload_n 0, 1), (16, .getfield 183, 3), (19, .sipush 160, 3), (22, .if_icmp .ne 6, 3), (25, .bipush (-4), 2), (27, .ireturn, 1), (28, .aload_n 0, 1), (29, .getfield 20, 3), (32, .aload_n 0, 1), (33, .getfield 183, 3), (36, .iload_n 1, 1), (37, .iastore, 1), (38, .aload_n 0, 1), (39, .dup, 1), (40, .getfield 183, 3), (43, .iconst 1, 1), (44, .iadd, 1), (45, .putfield 183, 3), (48, .aload_n 0, 1), (49, .getfield 183, 3), (52, .ireturn, 1)]
theorem ok_X8_feed : TB cX8_feed tb_X8_feed := (by decide +kernel : tb_X8_feed.all (fun q => tbq cX8_feed q) = true)
set_option maxHeartbeats 4000000 in
set_option maxRecDepth 20000 in
theorem t_fM_feed {K : Cx} {n : Nat} {a1 : Int32} {M : Mem} {r : Int32 × Mem} (C : Ctx K RX8 cX8_feed) (S : SS K n 2 2 (some .int) (Ti n r)) (hn : 113 ≤ n) (h : fM_feed a1 M = some r) : AS K n M 0 [some (.ref 85), some (.int a1)] [] := by
  refine aw_iload_n C (tb_at ok_X8_feed 0 rfl) rfl ?_
  refine aw_i2l C (tb_at ok_X8_feed 1 rfl) ?_
  refine aw_lconst C (tb_at ok_X8_feed 2 rfl) kl_0 ?_
  refine aw_ldc2 C kc_RX8_181 (tb_at ok_X8_feed 3 rfl) ?_
  refine sw_cSi C S [.long (a1.toInt64), .long (0 : Int64), .long (255 : Int64)] [] (tb_at ok_X8_feed 4 rfl) h (fun q e => m_fM_in hn e) mf_X8_in cw_RX8_114 rfl (by decide) rfl (Nat.le_of_ble_eq_true rfl) (fun r1 M1 h => ?_)
  refine aw_if_ne C 15 (tb_at ok_X8_feed 5 rfl) (by decide) h (fun h => ?_) (fun h => ?_)
  · refine aw_bipush C (tb_at ok_X8_feed 6 rfl) kb_m2 ?_
    exact sw_iret C S rfl (tb_at ok_X8_feed 7 rfl) h
  · refine aw_aload_n C (tb_at ok_X8_feed 8 rfl) rfl ?_
    refine aw_get C (ob_85 hn) rfl (by decide) rfl fl_RX8_183 (tb_at ok_X8_feed 9 rfl) ?_
    refine aw_sipush C (tb_at ok_X8_feed 10 rfl) ks_160 ?_
    refine aw_icmp_ne C 28 (tb_at ok_X8_feed 11 rfl) (by decide) h (fun h => ?_) (fun h => ?_)
    · refine aw_bipush C (tb_at ok_X8_feed 12 rfl) kb_m4 ?_
      exact sw_iret C S rfl (tb_at ok_X8_feed 13 rfl) h
    · refine aw_aload_n C (tb_at ok_X8_feed 14 rfl) rfl ?_
      refine aw_getR C (ob_85 hn) rfl (by decide) rfl p_85_5 fl_RX8_20 (tb_at ok_X8_feed 15 rfl) ?_
      refine aw_aload_n C (tb_at ok_X8_feed 16 rfl) rfl ?_
      refine aw_get C (ob_85 hn) rfl (by decide) rfl fl_RX8_183 (tb_at ok_X8_feed 17 rfl) ?_
      refine aw_iload_n C (tb_at ok_X8_feed 18 rfl) rfl ?_
      refine sw_iast C (ob_88 hn) (tb_at ok_X8_feed 19 rfl) h (fun h => ?_)
      refine aw_aload_n C (tb_at ok_X8_feed 20 rfl) rfl ?_
      refine aw_dup C (tb_at ok_X8_feed 21 rfl) rfl ?_
      refine aw_get C (ob_85 hn) rfl (by decide) rfl fl_RX8_183 (tb_at ok_X8_feed 22 rfl) ?_
      refine aw_iconst C (tb_at ok_X8_feed 23 rfl) ki_1 ?_
      refine aw_iadd C (tb_at ok_X8_feed 24 rfl) ?_
      refine sw_put C (ob_85 hn) rfl (by decide) (by decide) (Or.inr (by decide)) rfl rfl rfl rfl fl_RX8_183 (tb_at ok_X8_feed 25 rfl) ?_
      refine aw_aload_n C (tb_at ok_X8_feed 26 rfl) rfl ?_
      refine aw_get C (ob_85 hn) rfl (by decide) rfl fl_RX8_183 (tb_at ok_X8_feed 27 rfl) ?_
      exact sw_iret C S rfl (tb_at ok_X8_feed 28 rfl) h
theorem m_fM_feed {l : Launch} {w : Wd} {n : Nat} {a1 : Int32} {M : Mem} {r : Int32 × Mem} (hn : 113 ≤ n) (h : fM_feed a1 M = some r) : CM l w yX8_feed cX8_feed 2 (some .int) 2 0 0 [.ref 85, .int a1] n M (PD M) (Ti n r) := sm_of (loc := [some (.ref 85), some (.int a1)]) mf_X8_feed (by decide) (Nat.le_of_ble_eq_true rfl) rfl (fun K _ _ C S => t_fM_feed C S hn h)
def tb_X8_byteAt : List (Nat × Instr × Nat) := [(0, .iload_n 1, 1), (1, .aload_n 0, 1), (2, .getfield 186, 3), (5, .if_icmp .ge 17, 3), (8, .aload_n 0, 1), (9, .getfield 13, 3), (12, .aload_n 0, 1), (13, .getfield 189, 3), (16, .iload_n 1, 1), (17, .iadd, 1), (18, .iaload, 1), (19, .goto 4, 3), (22, .iconst (-1), 1), (23, .ireturn, 1)]
theorem ok_X8_byteAt : TB cX8_byteAt tb_X8_byteAt := (by decide +kernel : tb_X8_byteAt.all (fun q => tbq cX8_byteAt q) = true)
set_option maxHeartbeats 4000000 in
set_option maxRecDepth 20000 in
theorem t_fM_byteAt {K : Cx} {n : Nat} {a1 : Int32} {M : Mem} {r : Int32 × Mem} (C : Ctx K RX8 cX8_byteAt) (S : SS K n 1 2 (some .int) (Ti n r)) (hn : 113 ≤ n) (h : fM_byteAt a1 M = some r) : AS K n M 0 [some (.ref 85), some (.int a1)] [] := by
  refine aw_iload_n C (tb_at ok_X8_byteAt 0 rfl) rfl ?_
  refine aw_aload_n C (tb_at ok_X8_byteAt 1 rfl) rfl ?_
  refine aw_get C (ob_85 hn) rfl (by decide) rfl fl_RX8_186 (tb_at ok_X8_byteAt 2 rfl) ?_
  refine aw_icmp_ge C 22 (tb_at ok_X8_byteAt 3 rfl) (by decide) h (fun h => ?_) (fun h => ?_)
  · refine aw_iconst C (tb_at ok_X8_byteAt 12 rfl) ki_m1 ?_
    exact sw_iret C S rfl (tb_at ok_X8_byteAt 13 rfl) h
  · refine aw_aload_n C (tb_at ok_X8_byteAt 4 rfl) rfl ?_
    refine aw_getR C (ob_85 hn) rfl (by decide) rfl p_85_1 fl_RX8_13 (tb_at ok_X8_byteAt 5 rfl) ?_
    refine aw_aload_n C (tb_at ok_X8_byteAt 6 rfl) rfl ?_
    refine aw_get C (ob_85 hn) rfl (by decide) rfl fl_RX8_189 (tb_at ok_X8_byteAt 7 rfl) ?_
    refine aw_iload_n C (tb_at ok_X8_byteAt 8 rfl) rfl ?_
    refine aw_iadd C (tb_at ok_X8_byteAt 9 rfl) ?_
    refine aw_iald C (ob_86 hn) (tb_at ok_X8_byteAt 10 rfl) h (fun h => ?_)
    refine aw_goto C 23 (tb_at ok_X8_byteAt 11 rfl) (by decide) ?_
    exact sw_iret C S rfl (tb_at ok_X8_byteAt 13 rfl) h
theorem m_fM_byteAt {l : Launch} {w : Wd} {n : Nat} {a1 : Int32} {M : Mem} {r : Int32 × Mem} (hn : 113 ≤ n) (h : fM_byteAt a1 M = some r) : CM l w yX8_byteAt cX8_byteAt 2 (some .int) 1 0 0 [.ref 85, .int a1] n M (PD M) (Ti n r) := sm_of (loc := [some (.ref 85), some (.int a1)]) mf_X8_byteAt (by decide) (Nat.le_of_ble_eq_true rfl) rfl (fun K _ _ C S => t_fM_byteAt C S hn h)
def tb_X8_next : List (Nat × Instr × Nat) := [(0, .aload_n 0, 1), (1, .aload_n 0, 1), (2, .getfield 192, 3), (5, .invokevirtual 195, 3), (8, .bipush 32, 2), (10, .if_icmp .eq 16, 3), (13, .aload_n 0, 1), (14, .aload_n 0, 1), (15, .getfield 192, 3), (18, .invokevirtual 195, 3), (21, .bipush 10, 2), (23, .if_icmp .ne 16, 3), (26, .aload_n 0, 1), (27, .dup, 1), (28, .getfield 192, 3), (31, .iconst 1, 1), (32, .iadd, 1), (33, .putfield 192, 3), (36, .goto (-36), 3), (39, .aload_n 0, 1), (40, .aload_n 0, 1), (41, .getfield 192, 3), (44, .putfield 198, 3), (47, .aload_n 0, 1), (48, .aload_n 0, 1), (49, .getfield 192, 3), (52, .invokevirtual 195, 3), (55, .istore_n 1, 1), (56, .aload_n 0, 1), (57, .iconst 4, 1), (58, .putfield 201, 3), (61, .iload_n 1, 1), (62, .ifCond .ge 19, 3), (65, .aload_n 0, 1), (66, .iconst 0, 1), (67, .putfield 201, 3), (70, .aload_n 0, 1), (71, .aload_n 0, 1), (72, .getfield 186, 3), (75, .putfield 198, 3), (78, .goto 243, 3), (81, .iload_n 1, 1), (82, .i2l, 1), (83, .ldc2_w 204, 3), (86, .ldc2_w 206, 3), (89, .invokestatic 114, 3), (92, .ifCond .eq 42, 3), (95, .aload_n 0, 1), (96, .iconst 1, 1), (97, .putfield 201, 3), (100, .aload_n 0, 1), (101, .aload_n 0, 1), (102, .getfield 192, 3), (105, .invokevirtual 195, 3), (108, .i2l, 1), (109, .ldc2_w 204, 3), (112, .ldc2_w 206, 3), (115, .invokestatic 114, 3), (118, .ifCond .eq 203, 3), (121, .aload_n 0, 1), (122, .dup, 1), (123, .getfield 192, 3), (126, .iconst 1, 1), (127, .iadd, 1), (128, .putfield 192, 3), (131, .goto (-31), 3), (134, .iload_n 1, 1), (135, .i2l, 1), (136, .ldc2_w 208, 3), (139, .ldc2_w 210, 3), (142, .invokestatic 114, 3), (145, .ifCond .eq 107, 3), (148, .aload_n 0, 1), (149, .iconst 2, 1), (150, .putfield 201, 3), (153, .aload_n 0, 1), (154, .lconst 0, 1), (155, .putfield 212, 3), (158, .iconst 0, 1), (159, .istore_n 2, 1), (160, .aload_n 0, 1), (161, .aload_n 0, 1), (162, .getfield 192, 3), (165, .invokevirtual 195, 3), (168, .i2l, 1), (169, .ldc2_w 208, 3), (172, .ldc2_w 210, 3), (175, .invokestatic 114, 3), (178, .ifCond .eq 57, 3), (181, .aload_n 0, 1), (182, .iload_n 2, 1), (183, .iconst 4, 1), (184, .if_icmp .ge 28, 3), (187, .ldc2_w 156, 3), (190, .aload_n 0, 1), (191, .getfield 212, 3), (194, .lmul, 1), (195, .aload_n 0, 1), (196, .aload_n 0, 1), (197, .getfield 192, 3), (200, .invokevirtual 195, 3), (203, .i2l, 1), (204, .ladd, 1), (205, .ldc2_w 208, 3), (208, .lsub, 1), (209, .goto 7, 3), (212, .aload_n 0, 1), (213, .getfield 212, 3), (216, .putfield 212, 3), (219, .iinc 2 1, 3), (222, .aload_n 0, 1), (223, .dup, 1), (224, .getfield 192, 3), (227, .iconst 1, 1), (228, .iadd, 1), (229, .putfield 192, 3), (232, .goto (-72), 3), (235, .aload_n 0, 1), (236, .iload_n 2, 1), (237, .iconst 4, 1), (238, .if_icmp .le 7, 3), (241, .iconst 4, 1), (242, .goto 4, 3), (245, .iconst 2, 1), (246, .putfield 201, 3), (249, .goto 72, 3), (252, .iload_n 1, 1), (253, .bipush 40, 2), (255, .if_icmp .eq 45, 3), (258, .iload_n 1, 1), (259, .bipush 41, 2), (261, .if_icmp .eq 39, 3), (264, .iload_n 1, 1), (265, .bipush 59, 2), (267, .if_icmp .eq 33, 3), (270, .iload_n 1, 1), (271, .bipush 43, 2), (273, .if_icmp .eq 27, 3), (276, .iload_n 1, 1), (277, .bipush 45, 2), (279, .if_icmp .eq 21, 3), (282, .iload_n 1, 1), (283, .bipush 42, 2), (285, .if_icmp .eq 15, 3), (288, .iload_n 1, 1), (289, .bipush 60, 2), (291, .if_icmp .eq 9, 3), (294, .iload_n 1, 1), (295, .bipush 61, 2), (297, .if_icmp .ne 24, 3), (300, .aload_n 0, 1), (301, .iconst 3, 1), (302, .putfield 201, 3), (305, .aload_n 0, 1), (306, .iload_n 1, 1), (307, .i2l, 1), (308, .putfield 212, 3), (311, .aload_n 0, 1), (312, .dup, 1), (313, .getfield 192, 3), (316, .iconst 1, 1), (317, .iadd, 1), (318, .putfield 192, 3), (321, .return_, 1)]
theorem ok_X8_next : TB cX8_next tb_X8_next := (by decide +kernel : tb_X8_next.all (fun q => tbq cX8_next q) = true)
set_option maxHeartbeats 4000000 in
set_option maxRecDepth 20000 in
theorem t_fM_next_b26 {K : Cx} {n : Nat} {k0 : Mem → Option (Mem)} {M : Mem} {r : Mem} (C : Ctx K RX8 cX8_next) (S : SS K n 2 3 none (Tv n r)) (hn : 113 ≤ n) (hk0 : ∀  (M1 : Mem), k0  M1 = some r → AS K n M1 0 [some (.ref 85), none, none] []) (h : fM_next_b26 k0 M = some r) : AS K n M 26 [some (.ref 85), none, none] [] := by
  refine aw_aload_n C (tb_at ok_X8_next 12 rfl) rfl ?_
  refine aw_dup C (tb_at ok_X8_next 13 rfl) rfl ?_
  refine aw_get C (ob_85 hn) rfl (by decide) rfl fl_RX8_192 (tb_at ok_X8_next 14 rfl) ?_
  refine aw_iconst C (tb_at ok_X8_next 15 rfl) ki_1 ?_
  refine aw_iadd C (tb_at ok_X8_next 16 rfl) ?_
  refine sw_put C (ob_85 hn) rfl (by decide) (by decide) (Or.inr (by decide)) rfl rfl rfl rfl fl_RX8_192 (tb_at ok_X8_next 17 rfl) ?_
  refine aw_goto C 0 (tb_at ok_X8_next 18 rfl) (by decide) ?_
  exact aw_loc [some (.ref 85), none, none] (sl_k (sl_n (sl_n sl_0))) (hk0 _ h)
set_option maxHeartbeats 4000000 in
set_option maxRecDepth 20000 in
theorem t_fM_next_b300 {K : Cx} {n : Nat} {a1 : Int32} {M : Mem} {r : Mem} (C : Ctx K RX8 cX8_next) (S : SS K n 2 3 none (Tv n r)) (hn : 113 ≤ n) (h : fM_next_b300 a1 M = some r) : AS K n M 300 [some (.ref 85), some (.int a1), none] [] := by
  refine aw_aload_n C (tb_at ok_X8_next 150 rfl) rfl ?_
  refine aw_iconst C (tb_at ok_X8_next 151 rfl) ki_3 ?_
  refine sw_put C (ob_85 hn) rfl (by decide) (by decide) (Or.inr (by decide)) rfl rfl rfl rfl fl_RX8_201 (tb_at ok_X8_next 152 rfl) ?_
  refine aw_aload_n C (tb_at ok_X8_next 153 rfl) rfl ?_
  refine aw_iload_n C (tb_at ok_X8_next 154 rfl) rfl ?_
  refine aw_i2l C (tb_at ok_X8_next 155 rfl) ?_
  refine sw_putL C (ob_85 hn) rfl (by decide) (by decide) (by decide) rfl rfl fl_RX8_212 (tb_at ok_X8_next 156 rfl) ?_
  refine aw_aload_n C (tb_at ok_X8_next 157 rfl) rfl ?_
  refine aw_dup C (tb_at ok_X8_next 158 rfl) rfl ?_
  refine aw_get C (ob_85 hn) rfl (by decide) rfl fl_RX8_192 (tb_at ok_X8_next 159 rfl) ?_
  refine aw_iconst C (tb_at ok_X8_next 160 rfl) ki_1 ?_
  refine aw_iadd C (tb_at ok_X8_next 161 rfl) ?_
  refine sw_put C (ob_85 hn) rfl (by decide) (by decide) (Or.inr (by decide)) rfl rfl rfl rfl fl_RX8_192 (tb_at ok_X8_next 162 rfl) ?_
  exact sw_vret C S (tb_at ok_X8_next 163 rfl) h
set_option maxHeartbeats 4000000 in
set_option maxRecDepth 20000 in
theorem t_fM_next_b246 {K : Cx} {n : Nat} {s0 : Int32} {M : Mem} {r : Mem} (C : Ctx K RX8 cX8_next) (S : SS K n 2 3 none (Tv n r)) (hn : 113 ≤ n) (h : fM_next_b246 s0 M = some r) : AS K n M 246 [none, none, none] [.int s0, .ref 85] := by
  refine sw_put C (ob_85 hn) rfl (by decide) (by decide) (Or.inr (by decide)) rfl rfl rfl rfl fl_RX8_201 (tb_at ok_X8_next 124 rfl) ?_
  refine aw_goto C 321 (tb_at ok_X8_next 125 rfl) (by decide) ?_
  exact sw_vret C S (tb_at ok_X8_next 163 rfl) h
set_option maxHeartbeats 4000000 in
set_option maxRecDepth 20000 in
theorem t_fM_next_b216 {K : Cx} {n : Nat} {k160 : Int32 → Mem → Option (Mem)} {a2 : Int32} {s0 : Int64} {M : Mem} {r : Mem} (C : Ctx K RX8 cX8_next) (S : SS K n 2 3 none (Tv n r)) (hn : 113 ≤ n) (hk160 : ∀ (va2 : Int32) (M1 : Mem), k160 va2 M1 = some r → AS K n M1 160 [some (.ref 85), none, some (.int va2)] []) (h : fM_next_b216 k160 a2 s0 M = some r) : AS K n M 216 [some (.ref 85), none, some (.int a2)] [.long s0, .ref 85] := by
  refine sw_putL C (ob_85 hn) rfl (by decide) (by decide) (by decide) rfl rfl fl_RX8_212 (tb_at ok_X8_next 108 rfl) ?_
  refine aw_iinc C [some (.ref 85), none, some (.int (a2 + 1))] (tb_at ok_X8_next 109 rfl) rfl S.2.2.2.1 (by decide) ki_1 rfl ?_
  refine aw_aload_n C (tb_at ok_X8_next 110 rfl) rfl ?_
  refine aw_dup C (tb_at ok_X8_next 111 rfl) rfl ?_
  refine aw_get C (ob_85 hn) rfl (by decide) rfl fl_RX8_192 (tb_at ok_X8_next 112 rfl) ?_
  refine aw_iconst C (tb_at ok_X8_next 113 rfl) ki_1 ?_
  refine aw_iadd C (tb_at ok_X8_next 114 rfl) ?_
  refine sw_put C (ob_85 hn) rfl (by decide) (by decide) (Or.inr (by decide)) rfl rfl rfl rfl fl_RX8_192 (tb_at ok_X8_next 115 rfl) ?_
  refine aw_goto C 160 (tb_at ok_X8_next 116 rfl) (by decide) ?_
  exact aw_loc [some (.ref 85), none, some (.int (a2 + 1))] (sl_k (sl_n (sl_k sl_0))) (hk160 _ _ h)
set_option maxHeartbeats 4000000 in
set_option maxRecDepth 20000 in
theorem t_fM_next_b160 {K : Cx} {n : Nat} {r : Mem} (C : Ctx K RX8 cX8_next) (S : SS K n 2 3 none (Tv n r)) (hn : 113 ≤ n) : ∀ (z : Nat) (a2 : Int32) (M : Mem), fM_next_b160 z a2 M = some r → AS K n M 160 [some (.ref 85), none, some (.int a2)] [] := by
  intro z
  induction z with
  | zero => intro a2 M h; cases h
  | succ z ih =>
    intro a2 M h
    refine aw_aload_n C (tb_at ok_X8_next 80 rfl) rfl ?_
    refine aw_aload_n C (tb_at ok_X8_next 81 rfl) rfl ?_
    refine aw_get C (ob_85 hn) rfl (by decide) rfl fl_RX8_192 (tb_at ok_X8_next 82 rfl) ?_
    refine sw_cVi C S [.int (M 85 29)] [] (tb_at ok_X8_next 83 rfl) h (fun q e => m_fM_byteAt hn e) mf_X8_byteAt (ob_85 hn) rfl rfl cw_RX8_195 rfl (by decide) rfl (Nat.le_of_ble_eq_true rfl) (fun r6 M6 h => ?_)
    refine aw_i2l C (tb_at ok_X8_next 84 rfl) ?_
    refine aw_ldc2 C kc_RX8_208 (tb_at ok_X8_next 85 rfl) ?_
    refine aw_ldc2 C kc_RX8_210 (tb_at ok_X8_next 86 rfl) ?_
    refine sw_cSi C S [.long (r6.toInt64), .long (48 : Int64), .long (57 : Int64)] [] (tb_at ok_X8_next 87 rfl) h (fun q e => m_fM_in hn e) mf_X8_in cw_RX8_114 rfl (by decide) rfl (Nat.le_of_ble_eq_true rfl) (fun r7 M7 h => ?_)
    refine aw_if_eq C 235 (tb_at ok_X8_next 88 rfl) (by decide) h (fun h => ?_) (fun h => ?_)
    · refine aw_aload_n C (tb_at ok_X8_next 117 rfl) rfl ?_
      refine aw_iload_n C (tb_at ok_X8_next 118 rfl) rfl ?_
      refine aw_iconst C (tb_at ok_X8_next 119 rfl) ki_4 ?_
      refine aw_icmp_le C 245 (tb_at ok_X8_next 120 rfl) (by decide) h (fun h => ?_) (fun h => ?_)
      · refine aw_iconst C (tb_at ok_X8_next 123 rfl) ki_2 ?_
        exact aw_loc [none, none, none] (sl_n (sl_n (sl_n sl_0))) (t_fM_next_b246 C S hn h)
      · refine aw_iconst C (tb_at ok_X8_next 121 rfl) ki_4 ?_
        refine aw_goto C 246 (tb_at ok_X8_next 122 rfl) (by decide) ?_
        exact aw_loc [none, none, none] (sl_n (sl_n (sl_n sl_0))) (t_fM_next_b246 C S hn h)
    · refine aw_aload_n C (tb_at ok_X8_next 89 rfl) rfl ?_
      refine aw_iload_n C (tb_at ok_X8_next 90 rfl) rfl ?_
      refine aw_iconst C (tb_at ok_X8_next 91 rfl) ki_4 ?_
      refine aw_icmp_ge C 212 (tb_at ok_X8_next 92 rfl) (by decide) h (fun h => ?_) (fun h => ?_)
      · refine aw_aload_n C (tb_at ok_X8_next 106 rfl) rfl ?_
        refine aw_getL C (ob_85 hn) rfl (by decide) rfl fl_RX8_212 (tb_at ok_X8_next 107 rfl) ?_
        exact aw_loc [some (.ref 85), none, some (.int a2)] (sl_k (sl_n (sl_k sl_0))) (t_fM_next_b216 C S hn ih h)
      · refine aw_ldc2 C kc_RX8_156 (tb_at ok_X8_next 93 rfl) ?_
        refine aw_aload_n C (tb_at ok_X8_next 94 rfl) rfl ?_
        refine aw_getL C (ob_85 hn) rfl (by decide) rfl fl_RX8_212 (tb_at ok_X8_next 95 rfl) ?_
        refine aw_lmul C (tb_at ok_X8_next 96 rfl) ?_
        refine aw_aload_n C (tb_at ok_X8_next 97 rfl) rfl ?_
        refine aw_aload_n C (tb_at ok_X8_next 98 rfl) rfl ?_
        refine aw_get C (ob_85 hn) rfl (by decide) rfl fl_RX8_192 (tb_at ok_X8_next 99 rfl) ?_
        refine sw_cVi C S [.int (M7 85 29)] [.long ((10 : Int64) * (lgc (M7 85 132) (M7 85 32))), .ref 85] (tb_at ok_X8_next 100 rfl) h (fun q e => m_fM_byteAt hn e) mf_X8_byteAt (ob_85 hn) rfl rfl cw_RX8_195 rfl (by decide) rfl (Nat.le_of_ble_eq_true rfl) (fun r8 M8 h => ?_)
        refine aw_i2l C (tb_at ok_X8_next 101 rfl) ?_
        refine aw_ladd C (tb_at ok_X8_next 102 rfl) ?_
        refine aw_ldc2 C kc_RX8_208 (tb_at ok_X8_next 103 rfl) ?_
        refine aw_lsub C (tb_at ok_X8_next 104 rfl) ?_
        refine aw_goto C 216 (tb_at ok_X8_next 105 rfl) (by decide) ?_
        exact aw_loc [some (.ref 85), none, some (.int a2)] (sl_k (sl_n (sl_k sl_0))) (t_fM_next_b216 C S hn ih h)
set_option maxHeartbeats 4000000 in
set_option maxRecDepth 20000 in
theorem t_fM_next_b100 {K : Cx} {n : Nat} {r : Mem} (C : Ctx K RX8 cX8_next) (S : SS K n 2 3 none (Tv n r)) (hn : 113 ≤ n) : ∀ (z : Nat) (M : Mem), fM_next_b100 z M = some r → AS K n M 100 [some (.ref 85), none, none] [] := by
  intro z
  induction z with
  | zero => intro M h; cases h
  | succ z ih =>
    intro M h
    refine aw_aload_n C (tb_at ok_X8_next 50 rfl) rfl ?_
    refine aw_aload_n C (tb_at ok_X8_next 51 rfl) rfl ?_
    refine aw_get C (ob_85 hn) rfl (by decide) rfl fl_RX8_192 (tb_at ok_X8_next 52 rfl) ?_
    refine sw_cVi C S [.int (M 85 29)] [] (tb_at ok_X8_next 53 rfl) h (fun q e => m_fM_byteAt hn e) mf_X8_byteAt (ob_85 hn) rfl rfl cw_RX8_195 rfl (by decide) rfl (Nat.le_of_ble_eq_true rfl) (fun r9 M9 h => ?_)
    refine aw_i2l C (tb_at ok_X8_next 54 rfl) ?_
    refine aw_ldc2 C kc_RX8_204 (tb_at ok_X8_next 55 rfl) ?_
    refine aw_ldc2 C kc_RX8_206 (tb_at ok_X8_next 56 rfl) ?_
    refine sw_cSi C S [.long (r9.toInt64), .long (97 : Int64), .long (122 : Int64)] [] (tb_at ok_X8_next 57 rfl) h (fun q e => m_fM_in hn e) mf_X8_in cw_RX8_114 rfl (by decide) rfl (Nat.le_of_ble_eq_true rfl) (fun r10 M10 h => ?_)
    refine aw_if_eq C 321 (tb_at ok_X8_next 58 rfl) (by decide) h (fun h => ?_) (fun h => ?_)
    · exact sw_vret C S (tb_at ok_X8_next 163 rfl) h
    · refine aw_aload_n C (tb_at ok_X8_next 59 rfl) rfl ?_
      refine aw_dup C (tb_at ok_X8_next 60 rfl) rfl ?_
      refine aw_get C (ob_85 hn) rfl (by decide) rfl fl_RX8_192 (tb_at ok_X8_next 61 rfl) ?_
      refine aw_iconst C (tb_at ok_X8_next 62 rfl) ki_1 ?_
      refine aw_iadd C (tb_at ok_X8_next 63 rfl) ?_
      refine sw_put C (ob_85 hn) rfl (by decide) (by decide) (Or.inr (by decide)) rfl rfl rfl rfl fl_RX8_192 (tb_at ok_X8_next 64 rfl) ?_
      refine aw_goto C 100 (tb_at ok_X8_next 65 rfl) (by decide) ?_
      exact aw_loc [some (.ref 85), none, none] (sl_k (sl_n (sl_n sl_0))) (ih _ h)
set_option maxHeartbeats 4000000 in
set_option maxRecDepth 20000 in
theorem t_fM_next_b0 {K : Cx} {n : Nat} {r : Mem} (C : Ctx K RX8 cX8_next) (S : SS K n 2 3 none (Tv n r)) (hn : 113 ≤ n) : ∀ (z : Nat) (M : Mem), fM_next_b0 z M = some r → AS K n M 0 [some (.ref 85), none, none] [] := by
  intro z
  induction z with
  | zero => intro M h; cases h
  | succ z ih =>
    intro M h
    refine aw_aload_n C (tb_at ok_X8_next 0 rfl) rfl ?_
    refine aw_aload_n C (tb_at ok_X8_next 1 rfl) rfl ?_
    refine aw_get C (ob_85 hn) rfl (by decide) rfl fl_RX8_192 (tb_at ok_X8_next 2 rfl) ?_
    refine sw_cVi C S [.int (M 85 29)] [] (tb_at ok_X8_next 3 rfl) h (fun q e => m_fM_byteAt hn e) mf_X8_byteAt (ob_85 hn) rfl rfl cw_RX8_195 rfl (by decide) rfl (Nat.le_of_ble_eq_true rfl) (fun r1 M1 h => ?_)
    refine aw_bipush C (tb_at ok_X8_next 4 rfl) kb_32 ?_
    refine aw_icmp_eq C 26 (tb_at ok_X8_next 5 rfl) (by decide) h (fun h => ?_) (fun h => ?_)
    · exact aw_loc [some (.ref 85), none, none] (sl_k (sl_n (sl_n sl_0))) (t_fM_next_b26 C S hn ih h)
    · refine aw_aload_n C (tb_at ok_X8_next 6 rfl) rfl ?_
      refine aw_aload_n C (tb_at ok_X8_next 7 rfl) rfl ?_
      refine aw_get C (ob_85 hn) rfl (by decide) rfl fl_RX8_192 (tb_at ok_X8_next 8 rfl) ?_
      refine sw_cVi C S [.int (M1 85 29)] [] (tb_at ok_X8_next 9 rfl) h (fun q e => m_fM_byteAt hn e) mf_X8_byteAt (ob_85 hn) rfl rfl cw_RX8_195 rfl (by decide) rfl (Nat.le_of_ble_eq_true rfl) (fun r2 M2 h => ?_)
      refine aw_bipush C (tb_at ok_X8_next 10 rfl) kb_10 ?_
      refine aw_icmp_ne C 39 (tb_at ok_X8_next 11 rfl) (by decide) h (fun h => ?_) (fun h => ?_)
      · exact aw_loc [some (.ref 85), none, none] (sl_k (sl_n (sl_n sl_0))) (t_fM_next_b26 C S hn ih h)
      · refine aw_aload_n C (tb_at ok_X8_next 19 rfl) rfl ?_
        refine aw_aload_n C (tb_at ok_X8_next 20 rfl) rfl ?_
        refine aw_get C (ob_85 hn) rfl (by decide) rfl fl_RX8_192 (tb_at ok_X8_next 21 rfl) ?_
        refine sw_put C (ob_85 hn) rfl (by decide) (by decide) (Or.inr (by decide)) rfl rfl rfl rfl fl_RX8_198 (tb_at ok_X8_next 22 rfl) ?_
        refine aw_aload_n C (tb_at ok_X8_next 23 rfl) rfl ?_
        refine aw_aload_n C (tb_at ok_X8_next 24 rfl) rfl ?_
        refine aw_get C (ob_85 hn) rfl (by decide) rfl fl_RX8_192 (tb_at ok_X8_next 25 rfl) ?_
        refine sw_cVi C S [.int ((wr M2 85 31 (M2 85 29)) 85 29)] [] (tb_at ok_X8_next 26 rfl) h (fun q e => m_fM_byteAt hn e) mf_X8_byteAt (ob_85 hn) rfl rfl cw_RX8_195 rfl (by decide) rfl (Nat.le_of_ble_eq_true rfl) (fun r3 M3 h => ?_)
        refine aw_istore_n C [some (.ref 85), some (.int r3), none] (tb_at ok_X8_next 27 rfl) S.2.2.2.1 (by decide) rfl ?_
        refine aw_aload_n C (tb_at ok_X8_next 28 rfl) rfl ?_
        refine aw_iconst C (tb_at ok_X8_next 29 rfl) ki_4 ?_
        refine sw_put C (ob_85 hn) rfl (by decide) (by decide) (Or.inr (by decide)) rfl rfl rfl rfl fl_RX8_201 (tb_at ok_X8_next 30 rfl) ?_
        refine aw_iload_n C (tb_at ok_X8_next 31 rfl) rfl ?_
        refine aw_if_ge C 81 (tb_at ok_X8_next 32 rfl) (by decide) h (fun h => ?_) (fun h => ?_)
        · refine aw_iload_n C (tb_at ok_X8_next 41 rfl) rfl ?_
          refine aw_i2l C (tb_at ok_X8_next 42 rfl) ?_
          refine aw_ldc2 C kc_RX8_204 (tb_at ok_X8_next 43 rfl) ?_
          refine aw_ldc2 C kc_RX8_206 (tb_at ok_X8_next 44 rfl) ?_
          refine sw_cSi C S [.long (r3.toInt64), .long (97 : Int64), .long (122 : Int64)] [] (tb_at ok_X8_next 45 rfl) h (fun q e => m_fM_in hn e) mf_X8_in cw_RX8_114 rfl (by decide) rfl (Nat.le_of_ble_eq_true rfl) (fun r4 M4 h => ?_)
          refine aw_if_eq C 134 (tb_at ok_X8_next 46 rfl) (by decide) h (fun h => ?_) (fun h => ?_)
          · refine aw_iload_n C (tb_at ok_X8_next 66 rfl) rfl ?_
            refine aw_i2l C (tb_at ok_X8_next 67 rfl) ?_
            refine aw_ldc2 C kc_RX8_208 (tb_at ok_X8_next 68 rfl) ?_
            refine aw_ldc2 C kc_RX8_210 (tb_at ok_X8_next 69 rfl) ?_
            refine sw_cSi C S [.long (r3.toInt64), .long (48 : Int64), .long (57 : Int64)] [] (tb_at ok_X8_next 70 rfl) h (fun q e => m_fM_in hn e) mf_X8_in cw_RX8_114 rfl (by decide) rfl (Nat.le_of_ble_eq_true rfl) (fun r5 M5 h => ?_)
            refine aw_if_eq C 252 (tb_at ok_X8_next 71 rfl) (by decide) h (fun h => ?_) (fun h => ?_)
            · refine aw_iload_n C (tb_at ok_X8_next 126 rfl) rfl ?_
              refine aw_bipush C (tb_at ok_X8_next 127 rfl) kb_40 ?_
              refine aw_icmp_eq C 300 (tb_at ok_X8_next 128 rfl) (by decide) h (fun h => ?_) (fun h => ?_)
              · exact aw_loc [some (.ref 85), some (.int r3), none] (sl_k (sl_k (sl_n sl_0))) (t_fM_next_b300 C S hn h)
              · refine aw_iload_n C (tb_at ok_X8_next 129 rfl) rfl ?_
                refine aw_bipush C (tb_at ok_X8_next 130 rfl) kb_41 ?_
                refine aw_icmp_eq C 300 (tb_at ok_X8_next 131 rfl) (by decide) h (fun h => ?_) (fun h => ?_)
                · exact aw_loc [some (.ref 85), some (.int r3), none] (sl_k (sl_k (sl_n sl_0))) (t_fM_next_b300 C S hn h)
                · refine aw_iload_n C (tb_at ok_X8_next 132 rfl) rfl ?_
                  refine aw_bipush C (tb_at ok_X8_next 133 rfl) kb_59 ?_
                  refine aw_icmp_eq C 300 (tb_at ok_X8_next 134 rfl) (by decide) h (fun h => ?_) (fun h => ?_)
                  · exact aw_loc [some (.ref 85), some (.int r3), none] (sl_k (sl_k (sl_n sl_0))) (t_fM_next_b300 C S hn h)
                  · refine aw_iload_n C (tb_at ok_X8_next 135 rfl) rfl ?_
                    refine aw_bipush C (tb_at ok_X8_next 136 rfl) kb_43 ?_
                    refine aw_icmp_eq C 300 (tb_at ok_X8_next 137 rfl) (by decide) h (fun h => ?_) (fun h => ?_)
                    · exact aw_loc [some (.ref 85), some (.int r3), none] (sl_k (sl_k (sl_n sl_0))) (t_fM_next_b300 C S hn h)
                    · refine aw_iload_n C (tb_at ok_X8_next 138 rfl) rfl ?_
                      refine aw_bipush C (tb_at ok_X8_next 139 rfl) kb_45 ?_
                      refine aw_icmp_eq C 300 (tb_at ok_X8_next 140 rfl) (by decide) h (fun h => ?_) (fun h => ?_)
                      · exact aw_loc [some (.ref 85), some (.int r3), none] (sl_k (sl_k (sl_n sl_0))) (t_fM_next_b300 C S hn h)
                      · refine aw_iload_n C (tb_at ok_X8_next 141 rfl) rfl ?_
                        refine aw_bipush C (tb_at ok_X8_next 142 rfl) kb_42 ?_
                        refine aw_icmp_eq C 300 (tb_at ok_X8_next 143 rfl) (by decide) h (fun h => ?_) (fun h => ?_)
                        · exact aw_loc [some (.ref 85), some (.int r3), none] (sl_k (sl_k (sl_n sl_0))) (t_fM_next_b300 C S hn h)
                        · refine aw_iload_n C (tb_at ok_X8_next 144 rfl) rfl ?_
                          refine aw_bipush C (tb_at ok_X8_next 145 rfl) kb_60 ?_
                          refine aw_icmp_eq C 300 (tb_at ok_X8_next 146 rfl) (by decide) h (fun h => ?_) (fun h => ?_)
                          · exact aw_loc [some (.ref 85), some (.int r3), none] (sl_k (sl_k (sl_n sl_0))) (t_fM_next_b300 C S hn h)
                          · refine aw_iload_n C (tb_at ok_X8_next 147 rfl) rfl ?_
                            refine aw_bipush C (tb_at ok_X8_next 148 rfl) kb_61 ?_
                            refine aw_icmp_ne C 321 (tb_at ok_X8_next 149 rfl) (by decide) h (fun h => ?_) (fun h => ?_)
                            · exact aw_loc [some (.ref 85), some (.int r3), none] (sl_k (sl_k (sl_n sl_0))) (t_fM_next_b300 C S hn h)
                            · exact sw_vret C S (tb_at ok_X8_next 163 rfl) h
            · refine aw_aload_n C (tb_at ok_X8_next 72 rfl) rfl ?_
              refine aw_iconst C (tb_at ok_X8_next 73 rfl) ki_2 ?_
              refine sw_put C (ob_85 hn) rfl (by decide) (by decide) (Or.inr (by decide)) rfl rfl rfl rfl fl_RX8_201 (tb_at ok_X8_next 74 rfl) ?_
              refine aw_aload_n C (tb_at ok_X8_next 75 rfl) rfl ?_
              refine aw_lconst C (tb_at ok_X8_next 76 rfl) kl_0 ?_
              refine sw_putL C (ob_85 hn) rfl (by decide) (by decide) (by decide) rfl rfl fl_RX8_212 (tb_at ok_X8_next 77 rfl) ?_
              refine aw_iconst C (tb_at ok_X8_next 78 rfl) ki_0 ?_
              refine aw_istore_n C [some (.ref 85), some (.int r3), some (.int 0)] (tb_at ok_X8_next 79 rfl) S.2.2.2.1 (by decide) rfl ?_
              exact aw_loc [some (.ref 85), none, some (.int 0)] (sl_k (sl_n (sl_k sl_0))) (t_fM_next_b160 C S hn 1000 _ _ h)
          · refine aw_aload_n C (tb_at ok_X8_next 47 rfl) rfl ?_
            refine aw_iconst C (tb_at ok_X8_next 48 rfl) ki_1 ?_
            refine sw_put C (ob_85 hn) rfl (by decide) (by decide) (Or.inr (by decide)) rfl rfl rfl rfl fl_RX8_201 (tb_at ok_X8_next 49 rfl) ?_
            exact aw_loc [some (.ref 85), none, none] (sl_k (sl_n (sl_n sl_0))) (t_fM_next_b100 C S hn 1000 _ h)
        · refine aw_aload_n C (tb_at ok_X8_next 33 rfl) rfl ?_
          refine aw_iconst C (tb_at ok_X8_next 34 rfl) ki_0 ?_
          refine sw_put C (ob_85 hn) rfl (by decide) (by decide) (Or.inr (by decide)) rfl rfl rfl rfl fl_RX8_201 (tb_at ok_X8_next 35 rfl) ?_
          refine aw_aload_n C (tb_at ok_X8_next 36 rfl) rfl ?_
          refine aw_aload_n C (tb_at ok_X8_next 37 rfl) rfl ?_
          refine aw_get C (ob_85 hn) rfl (by decide) rfl fl_RX8_186 (tb_at ok_X8_next 38 rfl) ?_
          refine sw_put C (ob_85 hn) rfl (by decide) (by decide) (Or.inr (by decide)) rfl rfl rfl rfl fl_RX8_198 (tb_at ok_X8_next 39 rfl) ?_
          refine aw_goto C 321 (tb_at ok_X8_next 40 rfl) (by decide) ?_
          exact sw_vret C S (tb_at ok_X8_next 163 rfl) h
set_option maxHeartbeats 4000000 in
set_option maxRecDepth 20000 in
theorem t_fM_next {K : Cx} {n : Nat} {M : Mem} {r : Mem} (C : Ctx K RX8 cX8_next) (S : SS K n 2 3 none (Tv n r)) (hn : 113 ≤ n) (h : fM_next M = some r) : AS K n M 0 [some (.ref 85), none, none] [] := by
  exact aw_loc [some (.ref 85), none, none] (sl_k (sl_n (sl_n sl_0))) (t_fM_next_b0 C S hn 1000 _ h)
theorem m_fM_next {l : Launch} {w : Wd} {n : Nat} {M : Mem} {r : Mem} (hn : 113 ≤ n) (h : fM_next M = some r) : CM l w yX8_next cX8_next 3 none 2 0 0 [.ref 85] n M (PD M) (Tv n r) := sm_of (loc := [some (.ref 85), none, none]) mf_X8_next (by decide) (Nat.le_of_ble_eq_true rfl) rfl (fun K _ _ C S => t_fM_next C S hn h)
def tb_X8_fail : List (Nat × Instr × Nat) := [(0, .aload_n 0, 1), (1, .getfield 216, 3), (4, .ifCond .ne 16, 3), (7, .aload_n 0, 1), (8, .iconst 1, 1), (9, .putfield 216, 3), (12, .aload_n 0, 1), (13, .aload_n 0, 1), (14, .getfield 198, 3), (17, .putfield 220, 3), (20, .return_, 1)]
theorem ok_X8_fail : TB cX8_fail tb_X8_fail := (by decide +kernel : tb_X8_fail.all (fun q => tbq cX8_fail q) = true)
set_option maxHeartbeats 4000000 in
set_option maxRecDepth 20000 in
theorem t_fM_fail {K : Cx} {n : Nat} {M : Mem} {r : Mem} (C : Ctx K RX8 cX8_fail) (S : SS K n 1 1 none (Tv n r)) (hn : 113 ≤ n) (h : fM_fail M = some r) : AS K n M 0 [some (.ref 85)] [] := by
  refine aw_aload_n C (tb_at ok_X8_fail 0 rfl) rfl ?_
  refine aw_get C (ob_85 hn) rfl (by decide) rfl fl_RX8_216 (tb_at ok_X8_fail 1 rfl) ?_
  refine aw_if_ne C 20 (tb_at ok_X8_fail 2 rfl) (by decide) h (fun h => ?_) (fun h => ?_)
  · refine aw_aload_n C (tb_at ok_X8_fail 3 rfl) rfl ?_
    refine aw_iconst C (tb_at ok_X8_fail 4 rfl) ki_1 ?_
    refine sw_put C (ob_85 hn) rfl (by decide) (by decide) (Or.inr (by decide)) rfl rfl rfl rfl fl_RX8_216 (tb_at ok_X8_fail 5 rfl) ?_
    refine aw_aload_n C (tb_at ok_X8_fail 6 rfl) rfl ?_
    refine aw_aload_n C (tb_at ok_X8_fail 7 rfl) rfl ?_
    refine aw_get C (ob_85 hn) rfl (by decide) rfl fl_RX8_198 (tb_at ok_X8_fail 8 rfl) ?_
    refine sw_put C (ob_85 hn) rfl (by decide) (by decide) (Or.inr (by decide)) rfl rfl rfl rfl fl_RX8_220 (tb_at ok_X8_fail 9 rfl) ?_
    exact sw_vret C S (tb_at ok_X8_fail 10 rfl) h
  · exact sw_vret C S (tb_at ok_X8_fail 10 rfl) h
theorem m_fM_fail {l : Launch} {w : Wd} {n : Nat} {M : Mem} {r : Mem} (hn : 113 ≤ n) (h : fM_fail M = some r) : CM l w yX8_fail cX8_fail 1 none 1 0 0 [.ref 85] n M (PD M) (Tv n r) := sm_of (loc := [some (.ref 85)]) mf_X8_fail (by decide) (Nat.le_of_ble_eq_true rfl) rfl (fun K _ _ C S => t_fM_fail C S hn h)
def tb_X8_isLetter : List (Nat × Instr × Nat) := [(0, .aload_n 0, 1), (1, .getfield 198, 3), (4, .iload_n 1, 1), (5, .iadd, 1), (6, .aload_n 0, 1), (7, .getfield 192, 3), (10, .if_icmp .ge 25, 3), (13, .aload_n 0, 1), (14, .aload_n 0, 1), (15, .getfield 198, 3), (18, .iload_n 1, 1), (19, .iadd, 1), (20, .invokevirtual 195, 3), (23, .iload_n 2, 1), (24, .if_icmp .ne 7, 3), (27, .iconst 1, 1), (28, .goto 16, 3), (31, .iconst 0, 1), (32, .goto 12, 3), (35, .iload_n 2, 1), (36, .ifCond .ne 7, 3), (39, .iconst 1, 1), (40, .goto 4, 3), (43, .iconst 0, 1), (44, .ireturn, 1)]
theorem ok_X8_isLetter : TB cX8_isLetter tb_X8_isLetter := (by decide +kernel : tb_X8_isLetter.all (fun q => tbq cX8_isLetter q) = true)
set_option maxHeartbeats 4000000 in
set_option maxRecDepth 20000 in
theorem t_fM_isLetter {K : Cx} {n : Nat} {a1 : Int32} {a2 : Int32} {M : Mem} {r : Int32 × Mem} (C : Ctx K RX8 cX8_isLetter) (S : SS K n 2 3 (some .boolean) (Ti n r)) (hn : 113 ≤ n) (h : fM_isLetter a1 a2 M = some r) : AS K n M 0 [some (.ref 85), some (.int a1), some (.int a2)] [] := by
  refine aw_aload_n C (tb_at ok_X8_isLetter 0 rfl) rfl ?_
  refine aw_get C (ob_85 hn) rfl (by decide) rfl fl_RX8_198 (tb_at ok_X8_isLetter 1 rfl) ?_
  refine aw_iload_n C (tb_at ok_X8_isLetter 2 rfl) rfl ?_
  refine aw_iadd C (tb_at ok_X8_isLetter 3 rfl) ?_
  refine aw_aload_n C (tb_at ok_X8_isLetter 4 rfl) rfl ?_
  refine aw_get C (ob_85 hn) rfl (by decide) rfl fl_RX8_192 (tb_at ok_X8_isLetter 5 rfl) ?_
  refine aw_icmp_ge C 35 (tb_at ok_X8_isLetter 6 rfl) (by decide) h (fun h => ?_) (fun h => ?_)
  · refine aw_iload_n C (tb_at ok_X8_isLetter 19 rfl) rfl ?_
    refine aw_if_ne C 43 (tb_at ok_X8_isLetter 20 rfl) (by decide) h (fun h => ?_) (fun h => ?_)
    · refine aw_iconst C (tb_at ok_X8_isLetter 21 rfl) ki_1 ?_
      refine aw_goto C 44 (tb_at ok_X8_isLetter 22 rfl) (by decide) ?_
      exact sw_iret C S rfl (tb_at ok_X8_isLetter 24 rfl) h
    · refine aw_iconst C (tb_at ok_X8_isLetter 23 rfl) ki_0 ?_
      exact sw_iret C S rfl (tb_at ok_X8_isLetter 24 rfl) h
  · refine aw_aload_n C (tb_at ok_X8_isLetter 7 rfl) rfl ?_
    refine aw_aload_n C (tb_at ok_X8_isLetter 8 rfl) rfl ?_
    refine aw_get C (ob_85 hn) rfl (by decide) rfl fl_RX8_198 (tb_at ok_X8_isLetter 9 rfl) ?_
    refine aw_iload_n C (tb_at ok_X8_isLetter 10 rfl) rfl ?_
    refine aw_iadd C (tb_at ok_X8_isLetter 11 rfl) ?_
    refine sw_cVi C S [.int ((M 85 31) + a1)] [] (tb_at ok_X8_isLetter 12 rfl) h (fun q e => m_fM_byteAt hn e) mf_X8_byteAt (ob_85 hn) rfl rfl cw_RX8_195 rfl (by decide) rfl (Nat.le_of_ble_eq_true rfl) (fun r1 M1 h => ?_)
    refine aw_iload_n C (tb_at ok_X8_isLetter 13 rfl) rfl ?_
    refine aw_icmp_ne C 31 (tb_at ok_X8_isLetter 14 rfl) (by decide) h (fun h => ?_) (fun h => ?_)
    · refine aw_iconst C (tb_at ok_X8_isLetter 15 rfl) ki_1 ?_
      refine aw_goto C 44 (tb_at ok_X8_isLetter 16 rfl) (by decide) ?_
      exact sw_iret C S rfl (tb_at ok_X8_isLetter 24 rfl) h
    · refine aw_iconst C (tb_at ok_X8_isLetter 17 rfl) ki_0 ?_
      refine aw_goto C 44 (tb_at ok_X8_isLetter 18 rfl) (by decide) ?_
      exact sw_iret C S rfl (tb_at ok_X8_isLetter 24 rfl) h
theorem m_fM_isLetter {l : Launch} {w : Wd} {n : Nat} {a1 : Int32} {a2 : Int32} {M : Mem} {r : Int32 × Mem} (hn : 113 ≤ n) (h : fM_isLetter a1 a2 M = some r) : CM l w yX8_isLetter cX8_isLetter 3 (some .boolean) 2 0 0 [.ref 85, .int a1, .int a2] n M (PD M) (Ti n r) := sm_of (loc := [some (.ref 85), some (.int a1), some (.int a2)]) mf_X8_isLetter (by decide) (Nat.le_of_ble_eq_true rfl) rfl (fun K _ _ C S => t_fM_isLetter C S hn h)
def tb_X8_isWord : List (Nat × Instr × Nat) := [(0, .aload_n 0, 1), (1, .getfield 216, 3), (4, .ifCond .ne 108, 3), (7, .aload_n 0, 1), (8, .getfield 201, 3), (11, .iconst 1, 1), (12, .if_icmp .ne 100, 3), (15, .aload_n 0, 1), (16, .getfield 192, 3), (19, .aload_n 0, 1), (20, .getfield 198, 3), (23, .bipush 8, 2), (25, .iadd, 1), (26, .if_icmp .gt 86, 3), (29, .aload_n 0, 1), (30, .iconst 0, 1), (31, .iload_n 1, 1), (32, .invokevirtual 223, 3), (35, .ifCond .eq 77, 3), (38, .aload_n 0, 1), (39, .iconst 1, 1), (40, .iload_n 2, 1), (41, .invokevirtual 223, 3), (44, .ifCond .eq 68, 3), (47, .aload_n 0, 1), (48, .iconst 2, 1), (49, .iload_n 3, 1), (50, .invokevirtual 223, 3), (53, .ifCond .eq 59, 3), (56, .aload_n 0, 1), (57, .iconst 3, 1), (58, .iload 4, 2), (60, .invokevirtual 223, 3), (63, .ifCond .eq 49, 3), (66, .aload_n 0, 1), (67, .iconst 4, 1), (68, .iload 5, 2), (70, .invokevirtual 223, 3), (73, .ifCond .eq 39, 3), (76, .aload_n 0, 1), (77, .iconst 5, 1), (78, .iload 6, 2), (80, .invokevirtual 223, 3), (83, .ifCond .eq 29, 3), (86, .aload_n 0, 1), (87, .bipush 6, 2), (89, .iload 7, 2), (91, .invokevirtual 223, 3), (94, .ifCond .eq 18, 3), (97, .aload_n 0, 1), (98, .bipush 7, 2), (100, .iload 8, 2), (102, .invokevirtual 223, 3), (105, .ifCond .eq 7, 3), (108, .iconst 1, 1), (109, .goto 4, 3), (112, .iconst 0, 1), (113, .ireturn, 1)]
theorem ok_X8_isWord : TB cX8_isWord tb_X8_isWord := (by decide +kernel : tb_X8_isWord.all (fun q => tbq cX8_isWord q) = true)
set_option maxHeartbeats 4000000 in
set_option maxRecDepth 20000 in
theorem t_fM_isWord {K : Cx} {n : Nat} {a1 : Int32} {a2 : Int32} {a3 : Int32} {a4 : Int32} {a5 : Int32} {a6 : Int32} {a7 : Int32} {a8 : Int32} {M : Mem} {r : Int32 × Mem} (C : Ctx K RX8 cX8_isWord) (S : SS K n 3 9 (some .boolean) (Ti n r)) (hn : 113 ≤ n) (h : fM_isWord a1 a2 a3 a4 a5 a6 a7 a8 M = some r) : AS K n M 0 [some (.ref 85), some (.int a1), some (.int a2), some (.int a3), some (.int a4), some (.int a5), some (.int a6), some (.int a7), some (.int a8)] [] := by
  refine aw_aload_n C (tb_at ok_X8_isWord 0 rfl) rfl ?_
  refine aw_get C (ob_85 hn) rfl (by decide) rfl fl_RX8_216 (tb_at ok_X8_isWord 1 rfl) ?_
  refine aw_if_ne C 112 (tb_at ok_X8_isWord 2 rfl) (by decide) h (fun h => ?_) (fun h => ?_)
  · refine aw_aload_n C (tb_at ok_X8_isWord 3 rfl) rfl ?_
    refine aw_get C (ob_85 hn) rfl (by decide) rfl fl_RX8_201 (tb_at ok_X8_isWord 4 rfl) ?_
    refine aw_iconst C (tb_at ok_X8_isWord 5 rfl) ki_1 ?_
    refine aw_icmp_ne C 112 (tb_at ok_X8_isWord 6 rfl) (by decide) h (fun h => ?_) (fun h => ?_)
    · refine aw_aload_n C (tb_at ok_X8_isWord 7 rfl) rfl ?_
      refine aw_get C (ob_85 hn) rfl (by decide) rfl fl_RX8_192 (tb_at ok_X8_isWord 8 rfl) ?_
      refine aw_aload_n C (tb_at ok_X8_isWord 9 rfl) rfl ?_
      refine aw_get C (ob_85 hn) rfl (by decide) rfl fl_RX8_198 (tb_at ok_X8_isWord 10 rfl) ?_
      refine aw_bipush C (tb_at ok_X8_isWord 11 rfl) kb_8 ?_
      refine aw_iadd C (tb_at ok_X8_isWord 12 rfl) ?_
      refine aw_icmp_gt C 112 (tb_at ok_X8_isWord 13 rfl) (by decide) h (fun h => ?_) (fun h => ?_)
      · refine aw_iconst C (tb_at ok_X8_isWord 56 rfl) ki_0 ?_
        exact sw_iret C S rfl (tb_at ok_X8_isWord 57 rfl) h
      · refine aw_aload_n C (tb_at ok_X8_isWord 14 rfl) rfl ?_
        refine aw_iconst C (tb_at ok_X8_isWord 15 rfl) ki_0 ?_
        refine aw_iload_n C (tb_at ok_X8_isWord 16 rfl) rfl ?_
        refine sw_cVi C S [.int 0, .int a1] [] (tb_at ok_X8_isWord 17 rfl) h (fun q e => m_fM_isLetter hn e) mf_X8_isLetter (ob_85 hn) rfl rfl cw_RX8_223 rfl (by decide) rfl (Nat.le_of_ble_eq_true rfl) (fun r1 M1 h => ?_)
        refine aw_if_eq C 112 (tb_at ok_X8_isWord 18 rfl) (by decide) h (fun h => ?_) (fun h => ?_)
        · refine aw_iconst C (tb_at ok_X8_isWord 56 rfl) ki_0 ?_
          exact sw_iret C S rfl (tb_at ok_X8_isWord 57 rfl) h
        · refine aw_aload_n C (tb_at ok_X8_isWord 19 rfl) rfl ?_
          refine aw_iconst C (tb_at ok_X8_isWord 20 rfl) ki_1 ?_
          refine aw_iload_n C (tb_at ok_X8_isWord 21 rfl) rfl ?_
          refine sw_cVi C S [.int 1, .int a2] [] (tb_at ok_X8_isWord 22 rfl) h (fun q e => m_fM_isLetter hn e) mf_X8_isLetter (ob_85 hn) rfl rfl cw_RX8_223 rfl (by decide) rfl (Nat.le_of_ble_eq_true rfl) (fun r2 M2 h => ?_)
          refine aw_if_eq C 112 (tb_at ok_X8_isWord 23 rfl) (by decide) h (fun h => ?_) (fun h => ?_)
          · refine aw_iconst C (tb_at ok_X8_isWord 56 rfl) ki_0 ?_
            exact sw_iret C S rfl (tb_at ok_X8_isWord 57 rfl) h
          · refine aw_aload_n C (tb_at ok_X8_isWord 24 rfl) rfl ?_
            refine aw_iconst C (tb_at ok_X8_isWord 25 rfl) ki_2 ?_
            refine aw_iload_n C (tb_at ok_X8_isWord 26 rfl) rfl ?_
            refine sw_cVi C S [.int 2, .int a3] [] (tb_at ok_X8_isWord 27 rfl) h (fun q e => m_fM_isLetter hn e) mf_X8_isLetter (ob_85 hn) rfl rfl cw_RX8_223 rfl (by decide) rfl (Nat.le_of_ble_eq_true rfl) (fun r3 M3 h => ?_)
            refine aw_if_eq C 112 (tb_at ok_X8_isWord 28 rfl) (by decide) h (fun h => ?_) (fun h => ?_)
            · refine aw_iconst C (tb_at ok_X8_isWord 56 rfl) ki_0 ?_
              exact sw_iret C S rfl (tb_at ok_X8_isWord 57 rfl) h
            · refine aw_aload_n C (tb_at ok_X8_isWord 29 rfl) rfl ?_
              refine aw_iconst C (tb_at ok_X8_isWord 30 rfl) ki_3 ?_
              refine aw_iload C (tb_at ok_X8_isWord 31 rfl) rfl ?_
              refine sw_cVi C S [.int 3, .int a4] [] (tb_at ok_X8_isWord 32 rfl) h (fun q e => m_fM_isLetter hn e) mf_X8_isLetter (ob_85 hn) rfl rfl cw_RX8_223 rfl (by decide) rfl (Nat.le_of_ble_eq_true rfl) (fun r4 M4 h => ?_)
              refine aw_if_eq C 112 (tb_at ok_X8_isWord 33 rfl) (by decide) h (fun h => ?_) (fun h => ?_)
              · refine aw_iconst C (tb_at ok_X8_isWord 56 rfl) ki_0 ?_
                exact sw_iret C S rfl (tb_at ok_X8_isWord 57 rfl) h
              · refine aw_aload_n C (tb_at ok_X8_isWord 34 rfl) rfl ?_
                refine aw_iconst C (tb_at ok_X8_isWord 35 rfl) ki_4 ?_
                refine aw_iload C (tb_at ok_X8_isWord 36 rfl) rfl ?_
                refine sw_cVi C S [.int 4, .int a5] [] (tb_at ok_X8_isWord 37 rfl) h (fun q e => m_fM_isLetter hn e) mf_X8_isLetter (ob_85 hn) rfl rfl cw_RX8_223 rfl (by decide) rfl (Nat.le_of_ble_eq_true rfl) (fun r5 M5 h => ?_)
                refine aw_if_eq C 112 (tb_at ok_X8_isWord 38 rfl) (by decide) h (fun h => ?_) (fun h => ?_)
                · refine aw_iconst C (tb_at ok_X8_isWord 56 rfl) ki_0 ?_
                  exact sw_iret C S rfl (tb_at ok_X8_isWord 57 rfl) h
                · refine aw_aload_n C (tb_at ok_X8_isWord 39 rfl) rfl ?_
                  refine aw_iconst C (tb_at ok_X8_isWord 40 rfl) ki_5 ?_
                  refine aw_iload C (tb_at ok_X8_isWord 41 rfl) rfl ?_
                  refine sw_cVi C S [.int 5, .int a6] [] (tb_at ok_X8_isWord 42 rfl) h (fun q e => m_fM_isLetter hn e) mf_X8_isLetter (ob_85 hn) rfl rfl cw_RX8_223 rfl (by decide) rfl (Nat.le_of_ble_eq_true rfl) (fun r6 M6 h => ?_)
                  refine aw_if_eq C 112 (tb_at ok_X8_isWord 43 rfl) (by decide) h (fun h => ?_) (fun h => ?_)
                  · refine aw_iconst C (tb_at ok_X8_isWord 56 rfl) ki_0 ?_
                    exact sw_iret C S rfl (tb_at ok_X8_isWord 57 rfl) h
                  · refine aw_aload_n C (tb_at ok_X8_isWord 44 rfl) rfl ?_
                    refine aw_bipush C (tb_at ok_X8_isWord 45 rfl) kb_6 ?_
                    refine aw_iload C (tb_at ok_X8_isWord 46 rfl) rfl ?_
                    refine sw_cVi C S [.int 6, .int a7] [] (tb_at ok_X8_isWord 47 rfl) h (fun q e => m_fM_isLetter hn e) mf_X8_isLetter (ob_85 hn) rfl rfl cw_RX8_223 rfl (by decide) rfl (Nat.le_of_ble_eq_true rfl) (fun r7 M7 h => ?_)
                    refine aw_if_eq C 112 (tb_at ok_X8_isWord 48 rfl) (by decide) h (fun h => ?_) (fun h => ?_)
                    · refine aw_iconst C (tb_at ok_X8_isWord 56 rfl) ki_0 ?_
                      exact sw_iret C S rfl (tb_at ok_X8_isWord 57 rfl) h
                    · refine aw_aload_n C (tb_at ok_X8_isWord 49 rfl) rfl ?_
                      refine aw_bipush C (tb_at ok_X8_isWord 50 rfl) kb_7 ?_
                      refine aw_iload C (tb_at ok_X8_isWord 51 rfl) rfl ?_
                      refine sw_cVi C S [.int 7, .int a8] [] (tb_at ok_X8_isWord 52 rfl) h (fun q e => m_fM_isLetter hn e) mf_X8_isLetter (ob_85 hn) rfl rfl cw_RX8_223 rfl (by decide) rfl (Nat.le_of_ble_eq_true rfl) (fun r8 M8 h => ?_)
                      refine aw_if_eq C 112 (tb_at ok_X8_isWord 53 rfl) (by decide) h (fun h => ?_) (fun h => ?_)
                      · refine aw_iconst C (tb_at ok_X8_isWord 56 rfl) ki_0 ?_
                        exact sw_iret C S rfl (tb_at ok_X8_isWord 57 rfl) h
                      · refine aw_iconst C (tb_at ok_X8_isWord 54 rfl) ki_1 ?_
                        refine aw_goto C 113 (tb_at ok_X8_isWord 55 rfl) (by decide) ?_
                        exact sw_iret C S rfl (tb_at ok_X8_isWord 57 rfl) h
    · refine aw_iconst C (tb_at ok_X8_isWord 56 rfl) ki_0 ?_
      exact sw_iret C S rfl (tb_at ok_X8_isWord 57 rfl) h
  · refine aw_iconst C (tb_at ok_X8_isWord 56 rfl) ki_0 ?_
    exact sw_iret C S rfl (tb_at ok_X8_isWord 57 rfl) h
theorem m_fM_isWord {l : Launch} {w : Wd} {n : Nat} {a1 : Int32} {a2 : Int32} {a3 : Int32} {a4 : Int32} {a5 : Int32} {a6 : Int32} {a7 : Int32} {a8 : Int32} {M : Mem} {r : Int32 × Mem} (hn : 113 ≤ n) (h : fM_isWord a1 a2 a3 a4 a5 a6 a7 a8 M = some r) : CM l w yX8_isWord cX8_isWord 9 (some .boolean) 3 0 0 [.ref 85, .int a1, .int a2, .int a3, .int a4, .int a5, .int a6, .int a7, .int a8] n M (PD M) (Ti n r) := sm_of (loc := [some (.ref 85), some (.int a1), some (.int a2), some (.int a3), some (.int a4), some (.int a5), some (.int a6), some (.int a7), some (.int a8)]) mf_X8_isWord (by decide) (Nat.le_of_ble_eq_true rfl) rfl (fun K _ _ C S => t_fM_isWord C S hn h)
def tb_X8_isSign : List (Nat × Instr × Nat) := [(0, .aload_n 0, 1), (1, .getfield 216, 3), (4, .ifCond .ne 25, 3), (7, .aload_n 0, 1), (8, .getfield 201, 3), (11, .iconst 3, 1), (12, .if_icmp .ne 17, 3), (15, .aload_n 0, 1), (16, .getfield 212, 3), (19, .iload_n 1, 1), (20, .i2l, 1), (21, .lcmp, 1), (22, .ifCond .ne 7, 3), (25, .iconst 1, 1), (26, .goto 4, 3), (29, .iconst 0, 1), (30, .ireturn, 1)]
theorem ok_X8_isSign : TB cX8_isSign tb_X8_isSign := (by decide +kernel : tb_X8_isSign.all (fun q => tbq cX8_isSign q) = true)
set_option maxHeartbeats 4000000 in
set_option maxRecDepth 20000 in
theorem t_fM_isSign {K : Cx} {n : Nat} {a1 : Int32} {M : Mem} {r : Int32 × Mem} (C : Ctx K RX8 cX8_isSign) (S : SS K n 1 2 (some .boolean) (Ti n r)) (hn : 113 ≤ n) (h : fM_isSign a1 M = some r) : AS K n M 0 [some (.ref 85), some (.int a1)] [] := by
  refine aw_aload_n C (tb_at ok_X8_isSign 0 rfl) rfl ?_
  refine aw_get C (ob_85 hn) rfl (by decide) rfl fl_RX8_216 (tb_at ok_X8_isSign 1 rfl) ?_
  refine aw_if_ne C 29 (tb_at ok_X8_isSign 2 rfl) (by decide) h (fun h => ?_) (fun h => ?_)
  · refine aw_aload_n C (tb_at ok_X8_isSign 3 rfl) rfl ?_
    refine aw_get C (ob_85 hn) rfl (by decide) rfl fl_RX8_201 (tb_at ok_X8_isSign 4 rfl) ?_
    refine aw_iconst C (tb_at ok_X8_isSign 5 rfl) ki_3 ?_
    refine aw_icmp_ne C 29 (tb_at ok_X8_isSign 6 rfl) (by decide) h (fun h => ?_) (fun h => ?_)
    · refine aw_aload_n C (tb_at ok_X8_isSign 7 rfl) rfl ?_
      refine aw_getL C (ob_85 hn) rfl (by decide) rfl fl_RX8_212 (tb_at ok_X8_isSign 8 rfl) ?_
      refine aw_iload_n C (tb_at ok_X8_isSign 9 rfl) rfl ?_
      refine aw_i2l C (tb_at ok_X8_isSign 10 rfl) ?_
      refine aw_lcmp C (tb_at ok_X8_isSign 11 rfl) ?_
      refine aw_if_ne C 29 (tb_at ok_X8_isSign 12 rfl) (by decide) h (fun h => ?_) (fun h => ?_)
      · refine aw_iconst C (tb_at ok_X8_isSign 13 rfl) ki_1 ?_
        refine aw_goto C 30 (tb_at ok_X8_isSign 14 rfl) (by decide) ?_
        exact sw_iret C S rfl (tb_at ok_X8_isSign 16 rfl) h
      · refine aw_iconst C (tb_at ok_X8_isSign 15 rfl) ki_0 ?_
        exact sw_iret C S rfl (tb_at ok_X8_isSign 16 rfl) h
    · refine aw_iconst C (tb_at ok_X8_isSign 15 rfl) ki_0 ?_
      exact sw_iret C S rfl (tb_at ok_X8_isSign 16 rfl) h
  · refine aw_iconst C (tb_at ok_X8_isSign 15 rfl) ki_0 ?_
    exact sw_iret C S rfl (tb_at ok_X8_isSign 16 rfl) h
theorem m_fM_isSign {l : Launch} {w : Wd} {n : Nat} {a1 : Int32} {M : Mem} {r : Int32 × Mem} (hn : 113 ≤ n) (h : fM_isSign a1 M = some r) : CM l w yX8_isSign cX8_isSign 2 (some .boolean) 1 0 0 [.ref 85, .int a1] n M (PD M) (Ti n r) := sm_of (loc := [some (.ref 85), some (.int a1)]) mf_X8_isSign (by decide) (Nat.le_of_ble_eq_true rfl) rfl (fun K _ _ C S => t_fM_isSign C S hn h)
def tb_X8_opens : List (Nat × Instr × Nat) := [(0, .aload_n 0, 1), (1, .getfield 226, 3), (4, .iconst 5, 1), (5, .if_icmp .ne 9, 3), (8, .aload_n 0, 1), (9, .invokevirtual 229, 3), (12, .iconst 0, 1), (13, .ireturn, 1), (14, .aload_n 0, 1), (15, .dup, 1), (16, .getfield 226, 3), (19, .iconst 1, 1), (20, .iadd, 1), (21, .putfield 226, 3), (24, .aload_n 0, 1), (25, .invokevirtual 232, 3), (28, .iconst 1, 1), (29, .ireturn, 1)]
theorem ok_X8_opens : TB cX8_opens tb_X8_opens := (by decide +kernel : tb_X8_opens.all (fun q => tbq cX8_opens q) = true)
set_option maxHeartbeats 4000000 in
set_option maxRecDepth 20000 in
theorem t_fM_opens {K : Cx} {n : Nat} {M : Mem} {r : Int32 × Mem} (C : Ctx K RX8 cX8_opens) (S : SS K n 3 1 (some .boolean) (Ti n r)) (hn : 113 ≤ n) (h : fM_opens M = some r) : AS K n M 0 [some (.ref 85)] [] := by
  refine aw_aload_n C (tb_at ok_X8_opens 0 rfl) rfl ?_
  refine aw_get C (ob_85 hn) rfl (by decide) rfl fl_RX8_226 (tb_at ok_X8_opens 1 rfl) ?_
  refine aw_iconst C (tb_at ok_X8_opens 2 rfl) ki_5 ?_
  refine aw_icmp_ne C 14 (tb_at ok_X8_opens 3 rfl) (by decide) h (fun h => ?_) (fun h => ?_)
  · refine aw_aload_n C (tb_at ok_X8_opens 4 rfl) rfl ?_
    refine sw_cVv C S [] [] (tb_at ok_X8_opens 5 rfl) h (fun q e => m_fM_fail hn e) mf_X8_fail (ob_85 hn) rfl rfl cw_RX8_229 rfl (by decide) rfl (Nat.le_of_ble_eq_true rfl) (fun M1 h => ?_)
    refine aw_iconst C (tb_at ok_X8_opens 6 rfl) ki_0 ?_
    exact sw_iret C S rfl (tb_at ok_X8_opens 7 rfl) h
  · refine aw_aload_n C (tb_at ok_X8_opens 8 rfl) rfl ?_
    refine aw_dup C (tb_at ok_X8_opens 9 rfl) rfl ?_
    refine aw_get C (ob_85 hn) rfl (by decide) rfl fl_RX8_226 (tb_at ok_X8_opens 10 rfl) ?_
    refine aw_iconst C (tb_at ok_X8_opens 11 rfl) ki_1 ?_
    refine aw_iadd C (tb_at ok_X8_opens 12 rfl) ?_
    refine sw_put C (ob_85 hn) rfl (by decide) (by decide) (Or.inr (by decide)) rfl rfl rfl rfl fl_RX8_226 (tb_at ok_X8_opens 13 rfl) ?_
    refine aw_aload_n C (tb_at ok_X8_opens 14 rfl) rfl ?_
    refine sw_cVv C S [] [] (tb_at ok_X8_opens 15 rfl) h (fun q e => m_fM_next hn e) mf_X8_next (ob_85 hn) rfl rfl cw_RX8_232 rfl (by decide) rfl (Nat.le_of_ble_eq_true rfl) (fun M2 h => ?_)
    refine aw_iconst C (tb_at ok_X8_opens 16 rfl) ki_1 ?_
    exact sw_iret C S rfl (tb_at ok_X8_opens 17 rfl) h
theorem m_fM_opens {l : Launch} {w : Wd} {n : Nat} {M : Mem} {r : Int32 × Mem} (hn : 113 ≤ n) (h : fM_opens M = some r) : CM l w yX8_opens cX8_opens 1 (some .boolean) 3 0 0 [.ref 85] n M (PD M) (Ti n r) := sm_of (loc := [some (.ref 85)]) mf_X8_opens (by decide) (Nat.le_of_ble_eq_true rfl) rfl (fun K _ _ C S => t_fM_opens C S hn h)
def tb_X8_name : List (Nat × Instr × Nat) := [(0, .aload_n 0, 1), (1, .bipush 109, 2), (3, .bipush 105, 2), (5, .bipush 110, 2), (7, .bipush 117, 2), (9, .bipush 116, 2), (11, .bipush 101, 2), (13, .iconst 0, 1), (14, .iconst 0, 1), (15, .invokevirtual 235, 3), (18, .ifCond .eq 8, 3), (21, .aload_n 0, 1), (22, .getfield 239, 3), (25, .ireturn, 1), (26, .aload_n 0, 1), (27, .bipush 114, 2), (29, .bipush 111, 2), (31, .bipush 111, 2), (33, .bipush 109, 2), (35, .iconst 0, 1), (36, .iconst 0, 1), (37, .iconst 0, 1), (38, .iconst 0, 1), (39, .invokevirtual 235, 3), (42, .ifCond .eq 8, 3), (45, .aload_n 0, 1), (46, .getfield 242, 3), (49, .ireturn, 1), (50, .aload_n 0, 1), (51, .bipush 108, 2), (53, .bipush 101, 2), (55, .bipush 102, 2), (57, .bipush 116, 2), (59, .iconst 0, 1), (60, .iconst 0, 1), (61, .iconst 0, 1), (62, .iconst 0, 1), (63, .invokevirtual 235, 3), (66, .ifCond .eq 8, 3), (69, .aload_n 0, 1), (70, .getfield 245, 3), (73, .ireturn, 1), (74, .aload_n 0, 1), (75, .bipush 110, 2), (77, .bipush 117, 2), (79, .bipush 109, 2), (81, .bipush 98, 2), (83, .bipush 101, 2), (85, .bipush 114, 2), (87, .iconst 0, 1), (88, .iconst 0, 1), (89, .invokevirtual 235, 3), (92, .ifCond .eq 8, 3), (95, .aload_n 0, 1), (96, .getfield 248, 3), (99, .ireturn, 1), (100, .aload_n 0, 1), (101, .bipush 98, 2), (103, .bipush 101, 2), (105, .bipush 115, 2), (107, .bipush 105, 2), (109, .bipush 100, 2), (111, .bipush 101, 2), (113, .iconst 0, 1), (114, .iconst 0, 1), (115, .invokevirtual 235, 3), (118, .ifCond .eq 8, 3), (121, .aload_n 0, 1), (122, .getfield 251, 3), (125, .ireturn, 1), (126, .aload_n 0, 1), (127, .bipush 109, 2), (129, .bipush 97, 2), (131, .bipush 105, 2), (133, .bipush 100, 2), (135, .bipush 115, 2), (137, .iconst 0, 1), (138, .iconst 0, 1), (139, .iconst 0, 1), (140, .invokevirtual 235, 3), (143, .ifCond .eq 8, 3), (146, .aload_n 0, 1), (147, .getfield 254, 3), (150, .ireturn, 1), (151, .aload_n 0, 1), (152, .invokevirtual 229, 3), (155, .iconst 0, 1), (156, .ireturn, 1)]
theorem ok_X8_name : TB cX8_name tb_X8_name := (by decide +kernel : tb_X8_name.all (fun q => tbq cX8_name q) = true)
set_option maxHeartbeats 4000000 in
set_option maxRecDepth 20000 in
theorem t_fM_name {K : Cx} {n : Nat} {M : Mem} {r : Int32 × Mem} (C : Ctx K RX8 cX8_name) (S : SS K n 4 1 (some .int) (Ti n r)) (hn : 113 ≤ n) (h : fM_name M = some r) : AS K n M 0 [some (.ref 85)] [] := by
  refine aw_aload_n C (tb_at ok_X8_name 0 rfl) rfl ?_
  refine aw_bipush C (tb_at ok_X8_name 1 rfl) kb_109 ?_
  refine aw_bipush C (tb_at ok_X8_name 2 rfl) kb_105 ?_
  refine aw_bipush C (tb_at ok_X8_name 3 rfl) kb_110 ?_
  refine aw_bipush C (tb_at ok_X8_name 4 rfl) kb_117 ?_
  refine aw_bipush C (tb_at ok_X8_name 5 rfl) kb_116 ?_
  refine aw_bipush C (tb_at ok_X8_name 6 rfl) kb_101 ?_
  refine aw_iconst C (tb_at ok_X8_name 7 rfl) ki_0 ?_
  refine aw_iconst C (tb_at ok_X8_name 8 rfl) ki_0 ?_
  refine sw_cVi C S [.int 109, .int 105, .int 110, .int 117, .int 116, .int 101, .int 0, .int 0] [] (tb_at ok_X8_name 9 rfl) h (fun q e => m_fM_isWord hn e) mf_X8_isWord (ob_85 hn) rfl rfl cw_RX8_235 rfl (by decide) rfl (Nat.le_of_ble_eq_true rfl) (fun r1 M1 h => ?_)
  refine aw_if_eq C 26 (tb_at ok_X8_name 10 rfl) (by decide) h (fun h => ?_) (fun h => ?_)
  · refine aw_aload_n C (tb_at ok_X8_name 14 rfl) rfl ?_
    refine aw_bipush C (tb_at ok_X8_name 15 rfl) kb_114 ?_
    refine aw_bipush C (tb_at ok_X8_name 16 rfl) kb_111 ?_
    refine aw_bipush C (tb_at ok_X8_name 17 rfl) kb_111 ?_
    refine aw_bipush C (tb_at ok_X8_name 18 rfl) kb_109 ?_
    refine aw_iconst C (tb_at ok_X8_name 19 rfl) ki_0 ?_
    refine aw_iconst C (tb_at ok_X8_name 20 rfl) ki_0 ?_
    refine aw_iconst C (tb_at ok_X8_name 21 rfl) ki_0 ?_
    refine aw_iconst C (tb_at ok_X8_name 22 rfl) ki_0 ?_
    refine sw_cVi C S [.int 114, .int 111, .int 111, .int 109, .int 0, .int 0, .int 0, .int 0] [] (tb_at ok_X8_name 23 rfl) h (fun q e => m_fM_isWord hn e) mf_X8_isWord (ob_85 hn) rfl rfl cw_RX8_235 rfl (by decide) rfl (Nat.le_of_ble_eq_true rfl) (fun r2 M2 h => ?_)
    refine aw_if_eq C 50 (tb_at ok_X8_name 24 rfl) (by decide) h (fun h => ?_) (fun h => ?_)
    · refine aw_aload_n C (tb_at ok_X8_name 28 rfl) rfl ?_
      refine aw_bipush C (tb_at ok_X8_name 29 rfl) kb_108 ?_
      refine aw_bipush C (tb_at ok_X8_name 30 rfl) kb_101 ?_
      refine aw_bipush C (tb_at ok_X8_name 31 rfl) kb_102 ?_
      refine aw_bipush C (tb_at ok_X8_name 32 rfl) kb_116 ?_
      refine aw_iconst C (tb_at ok_X8_name 33 rfl) ki_0 ?_
      refine aw_iconst C (tb_at ok_X8_name 34 rfl) ki_0 ?_
      refine aw_iconst C (tb_at ok_X8_name 35 rfl) ki_0 ?_
      refine aw_iconst C (tb_at ok_X8_name 36 rfl) ki_0 ?_
      refine sw_cVi C S [.int 108, .int 101, .int 102, .int 116, .int 0, .int 0, .int 0, .int 0] [] (tb_at ok_X8_name 37 rfl) h (fun q e => m_fM_isWord hn e) mf_X8_isWord (ob_85 hn) rfl rfl cw_RX8_235 rfl (by decide) rfl (Nat.le_of_ble_eq_true rfl) (fun r3 M3 h => ?_)
      refine aw_if_eq C 74 (tb_at ok_X8_name 38 rfl) (by decide) h (fun h => ?_) (fun h => ?_)
      · refine aw_aload_n C (tb_at ok_X8_name 42 rfl) rfl ?_
        refine aw_bipush C (tb_at ok_X8_name 43 rfl) kb_110 ?_
        refine aw_bipush C (tb_at ok_X8_name 44 rfl) kb_117 ?_
        refine aw_bipush C (tb_at ok_X8_name 45 rfl) kb_109 ?_
        refine aw_bipush C (tb_at ok_X8_name 46 rfl) kb_98 ?_
        refine aw_bipush C (tb_at ok_X8_name 47 rfl) kb_101 ?_
        refine aw_bipush C (tb_at ok_X8_name 48 rfl) kb_114 ?_
        refine aw_iconst C (tb_at ok_X8_name 49 rfl) ki_0 ?_
        refine aw_iconst C (tb_at ok_X8_name 50 rfl) ki_0 ?_
        refine sw_cVi C S [.int 110, .int 117, .int 109, .int 98, .int 101, .int 114, .int 0, .int 0] [] (tb_at ok_X8_name 51 rfl) h (fun q e => m_fM_isWord hn e) mf_X8_isWord (ob_85 hn) rfl rfl cw_RX8_235 rfl (by decide) rfl (Nat.le_of_ble_eq_true rfl) (fun r4 M4 h => ?_)
        refine aw_if_eq C 100 (tb_at ok_X8_name 52 rfl) (by decide) h (fun h => ?_) (fun h => ?_)
        · refine aw_aload_n C (tb_at ok_X8_name 56 rfl) rfl ?_
          refine aw_bipush C (tb_at ok_X8_name 57 rfl) kb_98 ?_
          refine aw_bipush C (tb_at ok_X8_name 58 rfl) kb_101 ?_
          refine aw_bipush C (tb_at ok_X8_name 59 rfl) kb_115 ?_
          refine aw_bipush C (tb_at ok_X8_name 60 rfl) kb_105 ?_
          refine aw_bipush C (tb_at ok_X8_name 61 rfl) kb_100 ?_
          refine aw_bipush C (tb_at ok_X8_name 62 rfl) kb_101 ?_
          refine aw_iconst C (tb_at ok_X8_name 63 rfl) ki_0 ?_
          refine aw_iconst C (tb_at ok_X8_name 64 rfl) ki_0 ?_
          refine sw_cVi C S [.int 98, .int 101, .int 115, .int 105, .int 100, .int 101, .int 0, .int 0] [] (tb_at ok_X8_name 65 rfl) h (fun q e => m_fM_isWord hn e) mf_X8_isWord (ob_85 hn) rfl rfl cw_RX8_235 rfl (by decide) rfl (Nat.le_of_ble_eq_true rfl) (fun r5 M5 h => ?_)
          refine aw_if_eq C 126 (tb_at ok_X8_name 66 rfl) (by decide) h (fun h => ?_) (fun h => ?_)
          · refine aw_aload_n C (tb_at ok_X8_name 70 rfl) rfl ?_
            refine aw_bipush C (tb_at ok_X8_name 71 rfl) kb_109 ?_
            refine aw_bipush C (tb_at ok_X8_name 72 rfl) kb_97 ?_
            refine aw_bipush C (tb_at ok_X8_name 73 rfl) kb_105 ?_
            refine aw_bipush C (tb_at ok_X8_name 74 rfl) kb_100 ?_
            refine aw_bipush C (tb_at ok_X8_name 75 rfl) kb_115 ?_
            refine aw_iconst C (tb_at ok_X8_name 76 rfl) ki_0 ?_
            refine aw_iconst C (tb_at ok_X8_name 77 rfl) ki_0 ?_
            refine aw_iconst C (tb_at ok_X8_name 78 rfl) ki_0 ?_
            refine sw_cVi C S [.int 109, .int 97, .int 105, .int 100, .int 115, .int 0, .int 0, .int 0] [] (tb_at ok_X8_name 79 rfl) h (fun q e => m_fM_isWord hn e) mf_X8_isWord (ob_85 hn) rfl rfl cw_RX8_235 rfl (by decide) rfl (Nat.le_of_ble_eq_true rfl) (fun r6 M6 h => ?_)
            refine aw_if_eq C 151 (tb_at ok_X8_name 80 rfl) (by decide) h (fun h => ?_) (fun h => ?_)
            · refine aw_aload_n C (tb_at ok_X8_name 84 rfl) rfl ?_
              refine sw_cVv C S [] [] (tb_at ok_X8_name 85 rfl) h (fun q e => m_fM_fail hn e) mf_X8_fail (ob_85 hn) rfl rfl cw_RX8_229 rfl (by decide) rfl (Nat.le_of_ble_eq_true rfl) (fun M7 h => ?_)
              refine aw_iconst C (tb_at ok_X8_name 86 rfl) ki_0 ?_
              exact sw_iret C S rfl (tb_at ok_X8_name 87 rfl) h
            · refine aw_aload_n C (tb_at ok_X8_name 81 rfl) rfl ?_
              refine aw_get C (ob_85 hn) rfl (by decide) rfl fl_RX8_254 (tb_at ok_X8_name 82 rfl) ?_
              exact sw_iret C S rfl (tb_at ok_X8_name 83 rfl) h
          · refine aw_aload_n C (tb_at ok_X8_name 67 rfl) rfl ?_
            refine aw_get C (ob_85 hn) rfl (by decide) rfl fl_RX8_251 (tb_at ok_X8_name 68 rfl) ?_
            exact sw_iret C S rfl (tb_at ok_X8_name 69 rfl) h
        · refine aw_aload_n C (tb_at ok_X8_name 53 rfl) rfl ?_
          refine aw_get C (ob_85 hn) rfl (by decide) rfl fl_RX8_248 (tb_at ok_X8_name 54 rfl) ?_
          exact sw_iret C S rfl (tb_at ok_X8_name 55 rfl) h
      · refine aw_aload_n C (tb_at ok_X8_name 39 rfl) rfl ?_
        refine aw_get C (ob_85 hn) rfl (by decide) rfl fl_RX8_245 (tb_at ok_X8_name 40 rfl) ?_
        exact sw_iret C S rfl (tb_at ok_X8_name 41 rfl) h
    · refine aw_aload_n C (tb_at ok_X8_name 25 rfl) rfl ?_
      refine aw_get C (ob_85 hn) rfl (by decide) rfl fl_RX8_242 (tb_at ok_X8_name 26 rfl) ?_
      exact sw_iret C S rfl (tb_at ok_X8_name 27 rfl) h
  · refine aw_aload_n C (tb_at ok_X8_name 11 rfl) rfl ?_
    refine aw_get C (ob_85 hn) rfl (by decide) rfl fl_RX8_239 (tb_at ok_X8_name 12 rfl) ?_
    exact sw_iret C S rfl (tb_at ok_X8_name 13 rfl) h
theorem m_fM_name {l : Launch} {w : Wd} {n : Nat} {M : Mem} {r : Int32 × Mem} (hn : 113 ≤ n) (h : fM_name M = some r) : CM l w yX8_name cX8_name 1 (some .int) 4 0 0 [.ref 85] n M (PD M) (Ti n r) := sm_of (loc := [some (.ref 85)]) mf_X8_name (by decide) (Nat.le_of_ble_eq_true rfl) rfl (fun K _ _ C S => t_fM_name C S hn h)
def HR1 (l : Launch) (w : Wd) (n lv : Nat) (rc : Nat → Mem → Option (Int32 × Mem)) : Prop :=
  (∀ (M : Mem) q, rc 0 M = some q → CM l w yX8_either cX8_either 3 (some .int) lv 0 0 [.ref 85] n M (PD M) (Ti n q)) ∧
  (∀ (M : Mem) q, rc 1 M = some q → CM l w yX8_both cX8_both 3 (some .int) lv 0 0 [.ref 85] n M (PD M) (Ti n q)) ∧
  (∀ (M : Mem) q, rc 2 M = some q → CM l w yX8_not cX8_not 4 (some .int) lv 0 0 [.ref 85] n M (PD M) (Ti n q)) ∧
  (∀ (M : Mem) q, rc 3 M = some q → CM l w yX8_added cX8_added 4 (some .int) lv 0 0 [.ref 85] n M (PD M) (Ti n q)) ∧
  (∀ (M : Mem) q, rc 4 M = some q → CM l w yX8_term cX8_term 2 (some .int) lv 0 0 [.ref 85] n M (PD M) (Ti n q)) ∧
  (∀ (M : Mem) q, rc 5 M = some q → CM l w yX8_atom cX8_atom 2 (some .int) lv 0 0 [.ref 85] n M (PD M) (Ti n q))
def tb_X8_term : List (Nat × Instr × Nat) := [(0, .aload_n 0, 1), (1, .invokevirtual 264, 3), (4, .istore_n 1, 1), (5, .aload_n 0, 1), (6, .bipush 42, 2), (8, .invokevirtual 257, 3), (11, .ifCond .eq 17, 3), (14, .aload_n 0, 1), (15, .invokevirtual 232, 3), (18, .iload_n 1, 1), (19, .aload_n 0, 1), (20, .invokevirtual 264, 3), (23, .imul, 1), (24, .istore_n 1, 1), (25, .goto (-20), 3), (28, .iload_n 1, 1), (29, .ireturn, 1)]
theorem ok_X8_term : TB cX8_term tb_X8_term := (by decide +kernel : tb_X8_term.all (fun q => tbq cX8_term q) = true)
set_option maxHeartbeats 4000000 in
set_option maxRecDepth 20000 in
theorem t_fM_term_b5 {K : Cx} {n : Nat} {r : Int32 × Mem} {lvd : Nat} {rc : Nat → Mem → Option (Int32 × Mem)} (C : Ctx K RX8 cX8_term) (S : SS K n (lvd + 1) 2 (some .int) (Ti n r)) (hB : 4 ≤ lvd) (hn : 113 ≤ n) (hrc : HR1 (kl K) (kw K) n lvd rc) : ∀ (z : Nat) (a1 : Int32) (M : Mem), fM_term_b5 rc z a1 M = some r → AS K n M 5 [some (.ref 85), some (.int a1)] [] := by
  intro z
  induction z with
  | zero => intro a1 M h; cases h
  | succ z ih =>
    intro a1 M h
    refine aw_aload_n C (tb_at ok_X8_term 3 rfl) rfl ?_
    refine aw_bipush C (tb_at ok_X8_term 4 rfl) kb_42 ?_
    refine sw_cVi C S [.int 42] [] (tb_at ok_X8_term 5 rfl) h (fun q e => m_fM_isSign hn e) mf_X8_isSign (ob_85 hn) rfl rfl cw_RX8_257 rfl (Nat.succ_le_succ (Nat.le_trans (by decide) hB)) rfl (Nat.le_of_ble_eq_true rfl) (fun r2 M2 h => ?_)
    refine aw_if_eq C 28 (tb_at ok_X8_term 6 rfl) (by decide) h (fun h => ?_) (fun h => ?_)
    · refine aw_iload_n C (tb_at ok_X8_term 15 rfl) rfl ?_
      exact sw_iret C S rfl (tb_at ok_X8_term 16 rfl) h
    · refine aw_aload_n C (tb_at ok_X8_term 7 rfl) rfl ?_
      refine sw_cVv C S [] [] (tb_at ok_X8_term 8 rfl) h (fun q e => m_fM_next hn e) mf_X8_next (ob_85 hn) rfl rfl cw_RX8_232 rfl (Nat.succ_le_succ (Nat.le_trans (by decide) hB)) rfl (Nat.le_of_ble_eq_true rfl) (fun M3 h => ?_)
      refine aw_iload_n C (tb_at ok_X8_term 9 rfl) rfl ?_
      refine aw_aload_n C (tb_at ok_X8_term 10 rfl) rfl ?_
      refine sw_cVi C S [] [.int a1] (tb_at ok_X8_term 11 rfl) h (fun q e => hrc.2.2.2.2.2 _  _ e) mf_X8_atom (ob_85 hn) rfl rfl cw_RX8_264 rfl (Nat.le_refl _) rfl (Nat.le_of_ble_eq_true rfl) (fun r4 M4 h => ?_)
      refine aw_imul C (tb_at ok_X8_term 12 rfl) ?_
      refine aw_istore_n C [some (.ref 85), some (.int (a1 * r4))] (tb_at ok_X8_term 13 rfl) S.2.2.2.1 (by decide) rfl ?_
      refine aw_goto C 5 (tb_at ok_X8_term 14 rfl) (by decide) ?_
      exact aw_loc [some (.ref 85), some (.int (a1 * r4))] (sl_k (sl_k sl_0)) (ih _ _ h)
set_option maxHeartbeats 4000000 in
set_option maxRecDepth 20000 in
theorem t_fM_term {K : Cx} {n : Nat} {M : Mem} {r : Int32 × Mem} {lvd : Nat} {rc : Nat → Mem → Option (Int32 × Mem)} (C : Ctx K RX8 cX8_term) (S : SS K n (lvd + 1) 2 (some .int) (Ti n r)) (hB : 4 ≤ lvd) (hn : 113 ≤ n) (hrc : HR1 (kl K) (kw K) n lvd rc) (h : fM_term rc M = some r) : AS K n M 0 [some (.ref 85), none] [] := by
  refine aw_aload_n C (tb_at ok_X8_term 0 rfl) rfl ?_
  refine sw_cVi C S [] [] (tb_at ok_X8_term 1 rfl) h (fun q e => hrc.2.2.2.2.2 _  _ e) mf_X8_atom (ob_85 hn) rfl rfl cw_RX8_264 rfl (Nat.le_refl _) rfl (Nat.le_of_ble_eq_true rfl) (fun r1 M1 h => ?_)
  refine aw_istore_n C [some (.ref 85), some (.int r1)] (tb_at ok_X8_term 2 rfl) S.2.2.2.1 (by decide) rfl ?_
  exact aw_loc [some (.ref 85), some (.int r1)] (sl_k (sl_k sl_0)) (t_fM_term_b5 C S hB hn hrc 1000 _ _ h)
def tb_X8_added : List (Nat × Instr × Nat) := [(0, .aload_n 0, 1), (1, .invokevirtual 274, 3), (4, .istore_n 1, 1), (5, .aload_n 0, 1), (6, .bipush 43, 2), (8, .invokevirtual 257, 3), (11, .ifCond .ne 12, 3), (14, .aload_n 0, 1), (15, .bipush 45, 2), (17, .invokevirtual 257, 3), (20, .ifCond .eq 46, 3), (23, .aload_n 0, 1), (24, .getfield 212, 3), (27, .ldc2_w 277, 3), (30, .lcmp, 1), (31, .ifCond .ne 7, 3), (34, .iconst 1, 1), (35, .goto 4, 3), (38, .iconst 0, 1), (39, .istore_n 2, 1), (40, .aload_n 0, 1), (41, .invokevirtual 232, 3), (44, .aload_n 0, 1), (45, .invokevirtual 274, 3), (48, .istore_n 3, 1), (49, .iload_n 2, 1), (50, .ifCond .eq 9, 3), (53, .iload_n 1, 1), (54, .iload_n 3, 1), (55, .iadd, 1), (56, .goto 6, 3), (59, .iload_n 1, 1), (60, .iload_n 3, 1), (61, .isub, 1), (62, .istore_n 1, 1), (63, .goto (-58), 3), (66, .iload_n 1, 1), (67, .ireturn, 1)]
theorem ok_X8_added : TB cX8_added tb_X8_added := (by decide +kernel : tb_X8_added.all (fun q => tbq cX8_added q) = true)
set_option maxHeartbeats 4000000 in
set_option maxRecDepth 20000 in
theorem t_fM_added_b62 {K : Cx} {n : Nat} {k5 : Int32 → Mem → Option (Int32 × Mem)} {s0 : Int32} {M : Mem} {r : Int32 × Mem} {lvd : Nat} {rc : Nat → Mem → Option (Int32 × Mem)} (C : Ctx K RX8 cX8_added) (S : SS K n (lvd + 1) 4 (some .int) (Ti n r)) (hB : 4 ≤ lvd) (hn : 113 ≤ n) (hrc : HR1 (kl K) (kw K) n lvd rc) (hk5 : ∀ (va1 : Int32) (M1 : Mem), k5 va1 M1 = some r → AS K n M1 5 [some (.ref 85), some (.int va1), none, none] []) (h : fM_added_b62 rc k5 s0 M = some r) : AS K n M 62 [some (.ref 85), none, none, none] [.int s0] := by
  refine aw_istore_n C [some (.ref 85), some (.int s0), none, none] (tb_at ok_X8_added 34 rfl) S.2.2.2.1 (by decide) rfl ?_
  refine aw_goto C 5 (tb_at ok_X8_added 35 rfl) (by decide) ?_
  exact aw_loc [some (.ref 85), some (.int s0), none, none] (sl_k (sl_k (sl_n (sl_n sl_0)))) (hk5 _ _ h)
set_option maxHeartbeats 4000000 in
set_option maxRecDepth 20000 in
theorem t_fM_added_b39 {K : Cx} {n : Nat} {k5 : Int32 → Mem → Option (Int32 × Mem)} {a1 : Int32} {s0 : Int32} {M : Mem} {r : Int32 × Mem} {lvd : Nat} {rc : Nat → Mem → Option (Int32 × Mem)} (C : Ctx K RX8 cX8_added) (S : SS K n (lvd + 1) 4 (some .int) (Ti n r)) (hB : 4 ≤ lvd) (hn : 113 ≤ n) (hrc : HR1 (kl K) (kw K) n lvd rc) (hk5 : ∀ (va1 : Int32) (M1 : Mem), k5 va1 M1 = some r → AS K n M1 5 [some (.ref 85), some (.int va1), none, none] []) (h : fM_added_b39 rc k5 a1 s0 M = some r) : AS K n M 39 [some (.ref 85), some (.int a1), none, none] [.int s0] := by
  refine aw_istore_n C [some (.ref 85), some (.int a1), some (.int s0), none] (tb_at ok_X8_added 19 rfl) S.2.2.2.1 (by decide) rfl ?_
  refine aw_aload_n C (tb_at ok_X8_added 20 rfl) rfl ?_
  refine sw_cVv C S [] [] (tb_at ok_X8_added 21 rfl) h (fun q e => m_fM_next hn e) mf_X8_next (ob_85 hn) rfl rfl cw_RX8_232 rfl (Nat.succ_le_succ (Nat.le_trans (by decide) hB)) rfl (Nat.le_of_ble_eq_true rfl) (fun M4 h => ?_)
  refine aw_aload_n C (tb_at ok_X8_added 22 rfl) rfl ?_
  refine sw_cVi C S [] [] (tb_at ok_X8_added 23 rfl) h (fun q e => hrc.2.2.2.2.1 _  _ e) mf_X8_term (ob_85 hn) rfl rfl cw_RX8_274 rfl (Nat.le_refl _) rfl (Nat.le_of_ble_eq_true rfl) (fun r5 M5 h => ?_)
  refine aw_istore_n C [some (.ref 85), some (.int a1), some (.int s0), some (.int r5)] (tb_at ok_X8_added 24 rfl) S.2.2.2.1 (by decide) rfl ?_
  refine aw_iload_n C (tb_at ok_X8_added 25 rfl) rfl ?_
  refine aw_if_eq C 59 (tb_at ok_X8_added 26 rfl) (by decide) h (fun h => ?_) (fun h => ?_)
  · refine aw_iload_n C (tb_at ok_X8_added 31 rfl) rfl ?_
    refine aw_iload_n C (tb_at ok_X8_added 32 rfl) rfl ?_
    refine aw_isub C (tb_at ok_X8_added 33 rfl) ?_
    exact aw_loc [some (.ref 85), none, none, none] (sl_k (sl_n (sl_n (sl_n sl_0)))) (t_fM_added_b62 C S hB hn hrc hk5 h)
  · refine aw_iload_n C (tb_at ok_X8_added 27 rfl) rfl ?_
    refine aw_iload_n C (tb_at ok_X8_added 28 rfl) rfl ?_
    refine aw_iadd C (tb_at ok_X8_added 29 rfl) ?_
    refine aw_goto C 62 (tb_at ok_X8_added 30 rfl) (by decide) ?_
    exact aw_loc [some (.ref 85), none, none, none] (sl_k (sl_n (sl_n (sl_n sl_0)))) (t_fM_added_b62 C S hB hn hrc hk5 h)
set_option maxHeartbeats 4000000 in
set_option maxRecDepth 20000 in
theorem t_fM_added_b23 {K : Cx} {n : Nat} {k5 : Int32 → Mem → Option (Int32 × Mem)} {a1 : Int32} {M : Mem} {r : Int32 × Mem} {lvd : Nat} {rc : Nat → Mem → Option (Int32 × Mem)} (C : Ctx K RX8 cX8_added) (S : SS K n (lvd + 1) 4 (some .int) (Ti n r)) (hB : 4 ≤ lvd) (hn : 113 ≤ n) (hrc : HR1 (kl K) (kw K) n lvd rc) (hk5 : ∀ (va1 : Int32) (M1 : Mem), k5 va1 M1 = some r → AS K n M1 5 [some (.ref 85), some (.int va1), none, none] []) (h : fM_added_b23 rc k5 a1 M = some r) : AS K n M 23 [some (.ref 85), some (.int a1), none, none] [] := by
  refine aw_aload_n C (tb_at ok_X8_added 11 rfl) rfl ?_
  refine aw_getL C (ob_85 hn) rfl (by decide) rfl fl_RX8_212 (tb_at ok_X8_added 12 rfl) ?_
  refine aw_ldc2 C kc_RX8_277 (tb_at ok_X8_added 13 rfl) ?_
  refine aw_lcmp C (tb_at ok_X8_added 14 rfl) ?_
  refine aw_if_ne C 38 (tb_at ok_X8_added 15 rfl) (by decide) h (fun h => ?_) (fun h => ?_)
  · refine aw_iconst C (tb_at ok_X8_added 16 rfl) ki_1 ?_
    refine aw_goto C 39 (tb_at ok_X8_added 17 rfl) (by decide) ?_
    exact aw_loc [some (.ref 85), some (.int a1), none, none] (sl_k (sl_k (sl_n (sl_n sl_0)))) (t_fM_added_b39 C S hB hn hrc hk5 h)
  · refine aw_iconst C (tb_at ok_X8_added 18 rfl) ki_0 ?_
    exact aw_loc [some (.ref 85), some (.int a1), none, none] (sl_k (sl_k (sl_n (sl_n sl_0)))) (t_fM_added_b39 C S hB hn hrc hk5 h)
set_option maxHeartbeats 4000000 in
set_option maxRecDepth 20000 in
theorem t_fM_added_b5 {K : Cx} {n : Nat} {r : Int32 × Mem} {lvd : Nat} {rc : Nat → Mem → Option (Int32 × Mem)} (C : Ctx K RX8 cX8_added) (S : SS K n (lvd + 1) 4 (some .int) (Ti n r)) (hB : 4 ≤ lvd) (hn : 113 ≤ n) (hrc : HR1 (kl K) (kw K) n lvd rc) : ∀ (z : Nat) (a1 : Int32) (M : Mem), fM_added_b5 rc z a1 M = some r → AS K n M 5 [some (.ref 85), some (.int a1), none, none] [] := by
  intro z
  induction z with
  | zero => intro a1 M h; cases h
  | succ z ih =>
    intro a1 M h
    refine aw_aload_n C (tb_at ok_X8_added 3 rfl) rfl ?_
    refine aw_bipush C (tb_at ok_X8_added 4 rfl) kb_43 ?_
    refine sw_cVi C S [.int 43] [] (tb_at ok_X8_added 5 rfl) h (fun q e => m_fM_isSign hn e) mf_X8_isSign (ob_85 hn) rfl rfl cw_RX8_257 rfl (Nat.succ_le_succ (Nat.le_trans (by decide) hB)) rfl (Nat.le_of_ble_eq_true rfl) (fun r2 M2 h => ?_)
    refine aw_if_ne C 23 (tb_at ok_X8_added 6 rfl) (by decide) h (fun h => ?_) (fun h => ?_)
    · refine aw_aload_n C (tb_at ok_X8_added 7 rfl) rfl ?_
      refine aw_bipush C (tb_at ok_X8_added 8 rfl) kb_45 ?_
      refine sw_cVi C S [.int 45] [] (tb_at ok_X8_added 9 rfl) h (fun q e => m_fM_isSign hn e) mf_X8_isSign (ob_85 hn) rfl rfl cw_RX8_257 rfl (Nat.succ_le_succ (Nat.le_trans (by decide) hB)) rfl (Nat.le_of_ble_eq_true rfl) (fun r3 M3 h => ?_)
      refine aw_if_eq C 66 (tb_at ok_X8_added 10 rfl) (by decide) h (fun h => ?_) (fun h => ?_)
      · refine aw_iload_n C (tb_at ok_X8_added 36 rfl) rfl ?_
        exact sw_iret C S rfl (tb_at ok_X8_added 37 rfl) h
      · exact aw_loc [some (.ref 85), some (.int a1), none, none] (sl_k (sl_k (sl_n (sl_n sl_0)))) (t_fM_added_b23 C S hB hn hrc ih h)
    · exact aw_loc [some (.ref 85), some (.int a1), none, none] (sl_k (sl_k (sl_n (sl_n sl_0)))) (t_fM_added_b23 C S hB hn hrc ih h)
set_option maxHeartbeats 4000000 in
set_option maxRecDepth 20000 in
theorem t_fM_added {K : Cx} {n : Nat} {M : Mem} {r : Int32 × Mem} {lvd : Nat} {rc : Nat → Mem → Option (Int32 × Mem)} (C : Ctx K RX8 cX8_added) (S : SS K n (lvd + 1) 4 (some .int) (Ti n r)) (hB : 4 ≤ lvd) (hn : 113 ≤ n) (hrc : HR1 (kl K) (kw K) n lvd rc) (h : fM_added rc M = some r) : AS K n M 0 [some (.ref 85), none, none, none] [] := by
  refine aw_aload_n C (tb_at ok_X8_added 0 rfl) rfl ?_
  refine sw_cVi C S [] [] (tb_at ok_X8_added 1 rfl) h (fun q e => hrc.2.2.2.2.1 _  _ e) mf_X8_term (ob_85 hn) rfl rfl cw_RX8_274 rfl (Nat.le_refl _) rfl (Nat.le_of_ble_eq_true rfl) (fun r1 M1 h => ?_)
  refine aw_istore_n C [some (.ref 85), some (.int r1), none, none] (tb_at ok_X8_added 2 rfl) S.2.2.2.1 (by decide) rfl ?_
  exact aw_loc [some (.ref 85), some (.int r1), none, none] (sl_k (sl_k (sl_n (sl_n sl_0)))) (t_fM_added_b5 C S hB hn hrc 1000 _ _ h)
def tb_X8_not : List (Nat × Instr × Nat) := [(0, .aload_n 0, 1), (1, .bipush 110, 2), (3, .bipush 111, 2), (5, .bipush 116, 2), (7, .iconst 0, 1), (8, .iconst 0, 1), (9, .iconst 0, 1), (10, .iconst 0, 1), (11, .iconst 0, 1), (12, .invokevirtual 235, 3), (15, .ifCond .eq 37, 3), (18, .aload_n 0, 1), (19, .invokevirtual 260, 3), (22, .ifCond .ne 5, 3), (25, .iconst 0, 1), (26, .ireturn, 1), (27, .aload_n 0, 1), (28, .invokevirtual 279, 3), (31, .istore_n 1, 1), (32, .aload_n 0, 1), (33, .dup, 1), (34, .getfield 226, 3), (37, .iconst 1, 1), (38, .isub, 1), (39, .putfield 226, 3), (42, .iload_n 1, 1), (43, .ifCond .ne 7, 3), (46, .iconst 1, 1), (47, .goto 4, 3), (50, .iconst 0, 1), (51, .ireturn, 1), (52, .aload_n 0, 1), (53, .invokevirtual 282, 3), (56, .istore_n 1, 1), (57, .aload_n 0, 1), (58, .bipush 60, 2), (60, .invokevirtual 257, 3), (63, .ifCond .ne 14, 3), (66, .aload_n 0, 1), (67, .bipush 61, 2), (69, .invokevirtual 257, 3), (72, .ifCond .ne 5, 3), (75, .iload_n 1, 1), (76, .ireturn, 1), (77, .aload_n 0, 1), (78, .getfield 212, 3), (81, .ldc2_w 285, 3), (84, .lcmp, 1), (85, .ifCond .ne 7, 3), (88, .iconst 1, 1), (89, .goto 4, 3), (92, .iconst 0, 1), (93, .istore_n 2, 1), (94, .aload_n 0, 1), (95, .invokevirtual 232, 3), (98, .aload_n 0, 1), (99, .invokevirtual 282, 3), (102, .istore_n 3, 1), (103, .iload_n 2, 1), (104, .ifCond .eq 11, 3), (107, .iload_n 1, 1), (108, .iload_n 3, 1), (109, .if_icmp .ge 15, 3), (112, .goto 8, 3), (115, .iload_n 1, 1), (116, .iload_n 3, 1), (117, .if_icmp .ne 7, 3), (120, .iconst 1, 1), (121, .goto 4, 3), (124, .iconst 0, 1), (125, .ireturn, 1)]
theorem ok_X8_not : TB cX8_not tb_X8_not := (by decide +kernel : tb_X8_not.all (fun q => tbq cX8_not q) = true)
set_option maxHeartbeats 4000000 in
set_option maxRecDepth 20000 in
theorem t_fM_not_b120 {K : Cx} {n : Nat} {M : Mem} {r : Int32 × Mem} {lvd : Nat} {rc : Nat → Mem → Option (Int32 × Mem)} (C : Ctx K RX8 cX8_not) (S : SS K n (lvd + 1) 4 (some .int) (Ti n r)) (hB : 4 ≤ lvd) (hn : 113 ≤ n) (hrc : HR1 (kl K) (kw K) n lvd rc) (h : fM_not_b120 rc M = some r) : AS K n M 120 [none, none, none, none] [] := by
  refine aw_iconst C (tb_at ok_X8_not 67 rfl) ki_1 ?_
  refine aw_goto C 125 (tb_at ok_X8_not 68 rfl) (by decide) ?_
  exact sw_iret C S rfl (tb_at ok_X8_not 70 rfl) h
set_option maxHeartbeats 4000000 in
set_option maxRecDepth 20000 in
theorem t_fM_not_b93 {K : Cx} {n : Nat} {a1 : Int32} {s0 : Int32} {M : Mem} {r : Int32 × Mem} {lvd : Nat} {rc : Nat → Mem → Option (Int32 × Mem)} (C : Ctx K RX8 cX8_not) (S : SS K n (lvd + 1) 4 (some .int) (Ti n r)) (hB : 4 ≤ lvd) (hn : 113 ≤ n) (hrc : HR1 (kl K) (kw K) n lvd rc) (h : fM_not_b93 rc a1 s0 M = some r) : AS K n M 93 [some (.ref 85), some (.int a1), none, none] [.int s0] := by
  refine aw_istore_n C [some (.ref 85), some (.int a1), some (.int s0), none] (tb_at ok_X8_not 52 rfl) S.2.2.2.1 (by decide) rfl ?_
  refine aw_aload_n C (tb_at ok_X8_not 53 rfl) rfl ?_
  refine sw_cVv C S [] [] (tb_at ok_X8_not 54 rfl) h (fun q e => m_fM_next hn e) mf_X8_next (ob_85 hn) rfl rfl cw_RX8_232 rfl (Nat.succ_le_succ (Nat.le_trans (by decide) hB)) rfl (Nat.le_of_ble_eq_true rfl) (fun M5 h => ?_)
  refine aw_aload_n C (tb_at ok_X8_not 55 rfl) rfl ?_
  refine sw_cVi C S [] [] (tb_at ok_X8_not 56 rfl) h (fun q e => hrc.2.2.2.1 _  _ e) mf_X8_added (ob_85 hn) rfl rfl cw_RX8_282 rfl (Nat.le_refl _) rfl (Nat.le_of_ble_eq_true rfl) (fun r6 M6 h => ?_)
  refine aw_istore_n C [some (.ref 85), some (.int a1), some (.int s0), some (.int r6)] (tb_at ok_X8_not 57 rfl) S.2.2.2.1 (by decide) rfl ?_
  refine aw_iload_n C (tb_at ok_X8_not 58 rfl) rfl ?_
  refine aw_if_eq C 115 (tb_at ok_X8_not 59 rfl) (by decide) h (fun h => ?_) (fun h => ?_)
  · refine aw_iload_n C (tb_at ok_X8_not 64 rfl) rfl ?_
    refine aw_iload_n C (tb_at ok_X8_not 65 rfl) rfl ?_
    refine aw_icmp_ne C 124 (tb_at ok_X8_not 66 rfl) (by decide) h (fun h => ?_) (fun h => ?_)
    · exact aw_loc [none, none, none, none] (sl_n (sl_n (sl_n (sl_n sl_0)))) (t_fM_not_b120 C S hB hn hrc h)
    · refine aw_iconst C (tb_at ok_X8_not 69 rfl) ki_0 ?_
      exact sw_iret C S rfl (tb_at ok_X8_not 70 rfl) h
  · refine aw_iload_n C (tb_at ok_X8_not 60 rfl) rfl ?_
    refine aw_iload_n C (tb_at ok_X8_not 61 rfl) rfl ?_
    refine aw_icmp_ge C 124 (tb_at ok_X8_not 62 rfl) (by decide) h (fun h => ?_) (fun h => ?_)
    · refine aw_iconst C (tb_at ok_X8_not 69 rfl) ki_0 ?_
      exact sw_iret C S rfl (tb_at ok_X8_not 70 rfl) h
    · refine aw_goto C 120 (tb_at ok_X8_not 63 rfl) (by decide) ?_
      exact aw_loc [none, none, none, none] (sl_n (sl_n (sl_n (sl_n sl_0)))) (t_fM_not_b120 C S hB hn hrc h)
set_option maxHeartbeats 4000000 in
set_option maxRecDepth 20000 in
theorem t_fM_not_b77 {K : Cx} {n : Nat} {a1 : Int32} {M : Mem} {r : Int32 × Mem} {lvd : Nat} {rc : Nat → Mem → Option (Int32 × Mem)} (C : Ctx K RX8 cX8_not) (S : SS K n (lvd + 1) 4 (some .int) (Ti n r)) (hB : 4 ≤ lvd) (hn : 113 ≤ n) (hrc : HR1 (kl K) (kw K) n lvd rc) (h : fM_not_b77 rc a1 M = some r) : AS K n M 77 [some (.ref 85), some (.int a1), none, none] [] := by
  refine aw_aload_n C (tb_at ok_X8_not 44 rfl) rfl ?_
  refine aw_getL C (ob_85 hn) rfl (by decide) rfl fl_RX8_212 (tb_at ok_X8_not 45 rfl) ?_
  refine aw_ldc2 C kc_RX8_285 (tb_at ok_X8_not 46 rfl) ?_
  refine aw_lcmp C (tb_at ok_X8_not 47 rfl) ?_
  refine aw_if_ne C 92 (tb_at ok_X8_not 48 rfl) (by decide) h (fun h => ?_) (fun h => ?_)
  · refine aw_iconst C (tb_at ok_X8_not 49 rfl) ki_1 ?_
    refine aw_goto C 93 (tb_at ok_X8_not 50 rfl) (by decide) ?_
    exact aw_loc [some (.ref 85), some (.int a1), none, none] (sl_k (sl_k (sl_n (sl_n sl_0)))) (t_fM_not_b93 C S hB hn hrc h)
  · refine aw_iconst C (tb_at ok_X8_not 51 rfl) ki_0 ?_
    exact aw_loc [some (.ref 85), some (.int a1), none, none] (sl_k (sl_k (sl_n (sl_n sl_0)))) (t_fM_not_b93 C S hB hn hrc h)
set_option maxHeartbeats 4000000 in
set_option maxRecDepth 20000 in
theorem t_fM_not {K : Cx} {n : Nat} {M : Mem} {r : Int32 × Mem} {lvd : Nat} {rc : Nat → Mem → Option (Int32 × Mem)} (C : Ctx K RX8 cX8_not) (S : SS K n (lvd + 1) 4 (some .int) (Ti n r)) (hB : 4 ≤ lvd) (hn : 113 ≤ n) (hrc : HR1 (kl K) (kw K) n lvd rc) (h : fM_not rc M = some r) : AS K n M 0 [some (.ref 85), none, none, none] [] := by
  refine aw_aload_n C (tb_at ok_X8_not 0 rfl) rfl ?_
  refine aw_bipush C (tb_at ok_X8_not 1 rfl) kb_110 ?_
  refine aw_bipush C (tb_at ok_X8_not 2 rfl) kb_111 ?_
  refine aw_bipush C (tb_at ok_X8_not 3 rfl) kb_116 ?_
  refine aw_iconst C (tb_at ok_X8_not 4 rfl) ki_0 ?_
  refine aw_iconst C (tb_at ok_X8_not 5 rfl) ki_0 ?_
  refine aw_iconst C (tb_at ok_X8_not 6 rfl) ki_0 ?_
  refine aw_iconst C (tb_at ok_X8_not 7 rfl) ki_0 ?_
  refine aw_iconst C (tb_at ok_X8_not 8 rfl) ki_0 ?_
  refine sw_cVi C S [.int 110, .int 111, .int 116, .int 0, .int 0, .int 0, .int 0, .int 0] [] (tb_at ok_X8_not 9 rfl) h (fun q e => m_fM_isWord hn e) mf_X8_isWord (ob_85 hn) rfl rfl cw_RX8_235 rfl (Nat.succ_le_succ (Nat.le_trans (by decide) hB)) rfl (Nat.le_of_ble_eq_true rfl) (fun r1 M1 h => ?_)
  refine aw_if_eq C 52 (tb_at ok_X8_not 10 rfl) (by decide) h (fun h => ?_) (fun h => ?_)
  · refine aw_aload_n C (tb_at ok_X8_not 31 rfl) rfl ?_
    refine sw_cVi C S [] [] (tb_at ok_X8_not 32 rfl) h (fun q e => hrc.2.2.2.1 _  _ e) mf_X8_added (ob_85 hn) rfl rfl cw_RX8_282 rfl (Nat.le_refl _) rfl (Nat.le_of_ble_eq_true rfl) (fun r2 M2 h => ?_)
    refine aw_istore_n C [some (.ref 85), some (.int r2), none, none] (tb_at ok_X8_not 33 rfl) S.2.2.2.1 (by decide) rfl ?_
    refine aw_aload_n C (tb_at ok_X8_not 34 rfl) rfl ?_
    refine aw_bipush C (tb_at ok_X8_not 35 rfl) kb_60 ?_
    refine sw_cVi C S [.int 60] [] (tb_at ok_X8_not 36 rfl) h (fun q e => m_fM_isSign hn e) mf_X8_isSign (ob_85 hn) rfl rfl cw_RX8_257 rfl (Nat.succ_le_succ (Nat.le_trans (by decide) hB)) rfl (Nat.le_of_ble_eq_true rfl) (fun r3 M3 h => ?_)
    refine aw_if_ne C 77 (tb_at ok_X8_not 37 rfl) (by decide) h (fun h => ?_) (fun h => ?_)
    · refine aw_aload_n C (tb_at ok_X8_not 38 rfl) rfl ?_
      refine aw_bipush C (tb_at ok_X8_not 39 rfl) kb_61 ?_
      refine sw_cVi C S [.int 61] [] (tb_at ok_X8_not 40 rfl) h (fun q e => m_fM_isSign hn e) mf_X8_isSign (ob_85 hn) rfl rfl cw_RX8_257 rfl (Nat.succ_le_succ (Nat.le_trans (by decide) hB)) rfl (Nat.le_of_ble_eq_true rfl) (fun r4 M4 h => ?_)
      refine aw_if_ne C 77 (tb_at ok_X8_not 41 rfl) (by decide) h (fun h => ?_) (fun h => ?_)
      · refine aw_iload_n C (tb_at ok_X8_not 42 rfl) rfl ?_
        exact sw_iret C S rfl (tb_at ok_X8_not 43 rfl) h
      · exact aw_loc [some (.ref 85), some (.int r2), none, none] (sl_k (sl_k (sl_n (sl_n sl_0)))) (t_fM_not_b77 C S hB hn hrc h)
    · exact aw_loc [some (.ref 85), some (.int r2), none, none] (sl_k (sl_k (sl_n (sl_n sl_0)))) (t_fM_not_b77 C S hB hn hrc h)
  · refine aw_aload_n C (tb_at ok_X8_not 11 rfl) rfl ?_
    refine sw_cVi C S [] [] (tb_at ok_X8_not 12 rfl) h (fun q e => m_fM_opens hn e) mf_X8_opens (ob_85 hn) rfl rfl cw_RX8_260 rfl (Nat.succ_le_succ (Nat.le_trans (by decide) hB)) rfl (Nat.le_of_ble_eq_true rfl) (fun r7 M7 h => ?_)
    refine aw_if_ne C 27 (tb_at ok_X8_not 13 rfl) (by decide) h (fun h => ?_) (fun h => ?_)
    · refine aw_iconst C (tb_at ok_X8_not 14 rfl) ki_0 ?_
      exact sw_iret C S rfl (tb_at ok_X8_not 15 rfl) h
    · refine aw_aload_n C (tb_at ok_X8_not 16 rfl) rfl ?_
      refine sw_cVi C S [] [] (tb_at ok_X8_not 17 rfl) h (fun q e => hrc.2.2.1 _  _ e) mf_X8_not (ob_85 hn) rfl rfl cw_RX8_279 rfl (Nat.le_refl _) rfl (Nat.le_of_ble_eq_true rfl) (fun r8 M8 h => ?_)
      refine aw_istore_n C [some (.ref 85), some (.int r8), none, none] (tb_at ok_X8_not 18 rfl) S.2.2.2.1 (by decide) rfl ?_
      refine aw_aload_n C (tb_at ok_X8_not 19 rfl) rfl ?_
      refine aw_dup C (tb_at ok_X8_not 20 rfl) rfl ?_
      refine aw_get C (ob_85 hn) rfl (by decide) rfl fl_RX8_226 (tb_at ok_X8_not 21 rfl) ?_
      refine aw_iconst C (tb_at ok_X8_not 22 rfl) ki_1 ?_
      refine aw_isub C (tb_at ok_X8_not 23 rfl) ?_
      refine sw_put C (ob_85 hn) rfl (by decide) (by decide) (Or.inr (by decide)) rfl rfl rfl rfl fl_RX8_226 (tb_at ok_X8_not 24 rfl) ?_
      refine aw_iload_n C (tb_at ok_X8_not 25 rfl) rfl ?_
      refine aw_if_ne C 50 (tb_at ok_X8_not 26 rfl) (by decide) h (fun h => ?_) (fun h => ?_)
      · refine aw_iconst C (tb_at ok_X8_not 27 rfl) ki_1 ?_
        refine aw_goto C 51 (tb_at ok_X8_not 28 rfl) (by decide) ?_
        exact sw_iret C S rfl (tb_at ok_X8_not 30 rfl) h
      · refine aw_iconst C (tb_at ok_X8_not 29 rfl) ki_0 ?_
        exact sw_iret C S rfl (tb_at ok_X8_not 30 rfl) h
def tb_X8_both : List (Nat × Instr × Nat) := [(0, .aload_n 0, 1), (1, .invokevirtual 279, 3), (4, .istore_n 1, 1), (5, .aload_n 0, 1), (6, .bipush 97, 2), (8, .bipush 110, 2), (10, .bipush 100, 2), (12, .iconst 0, 1), (13, .iconst 0, 1), (14, .iconst 0, 1), (15, .iconst 0, 1), (16, .iconst 0, 1), (17, .invokevirtual 235, 3), (20, .ifCond .eq 29, 3), (23, .aload_n 0, 1), (24, .invokevirtual 232, 3), (27, .aload_n 0, 1), (28, .invokevirtual 279, 3), (31, .istore_n 2, 1), (32, .iload_n 1, 1), (33, .ifCond .eq 11, 3), (36, .iload_n 2, 1), (37, .ifCond .eq 7, 3), (40, .iconst 1, 1), (41, .goto 4, 3), (44, .iconst 0, 1), (45, .istore_n 1, 1), (46, .goto (-41), 3), (49, .iload_n 1, 1), (50, .ireturn, 1)]
theorem ok_X8_both : TB cX8_both tb_X8_both := (by decide +kernel : tb_X8_both.all (fun q => tbq cX8_both q) = true)
set_option maxHeartbeats 4000000 in
set_option maxRecDepth 20000 in
theorem t_fM_both_b45 {K : Cx} {n : Nat} {k5 : Int32 → Mem → Option (Int32 × Mem)} {s0 : Int32} {M : Mem} {r : Int32 × Mem} {lvd : Nat} {rc : Nat → Mem → Option (Int32 × Mem)} (C : Ctx K RX8 cX8_both) (S : SS K n (lvd + 1) 3 (some .int) (Ti n r)) (hB : 4 ≤ lvd) (hn : 113 ≤ n) (hrc : HR1 (kl K) (kw K) n lvd rc) (hk5 : ∀ (va1 : Int32) (M1 : Mem), k5 va1 M1 = some r → AS K n M1 5 [some (.ref 85), some (.int va1), none] []) (h : fM_both_b45 rc k5 s0 M = some r) : AS K n M 45 [some (.ref 85), none, none] [.int s0] := by
  refine aw_istore_n C [some (.ref 85), some (.int s0), none] (tb_at ok_X8_both 26 rfl) S.2.2.2.1 (by decide) rfl ?_
  refine aw_goto C 5 (tb_at ok_X8_both 27 rfl) (by decide) ?_
  exact aw_loc [some (.ref 85), some (.int s0), none] (sl_k (sl_k (sl_n sl_0))) (hk5 _ _ h)
set_option maxHeartbeats 4000000 in
set_option maxRecDepth 20000 in
theorem t_fM_both_b44 {K : Cx} {n : Nat} {k5 : Int32 → Mem → Option (Int32 × Mem)} {M : Mem} {r : Int32 × Mem} {lvd : Nat} {rc : Nat → Mem → Option (Int32 × Mem)} (C : Ctx K RX8 cX8_both) (S : SS K n (lvd + 1) 3 (some .int) (Ti n r)) (hB : 4 ≤ lvd) (hn : 113 ≤ n) (hrc : HR1 (kl K) (kw K) n lvd rc) (hk5 : ∀ (va1 : Int32) (M1 : Mem), k5 va1 M1 = some r → AS K n M1 5 [some (.ref 85), some (.int va1), none] []) (h : fM_both_b44 rc k5 M = some r) : AS K n M 44 [some (.ref 85), none, none] [] := by
  refine aw_iconst C (tb_at ok_X8_both 25 rfl) ki_0 ?_
  exact aw_loc [some (.ref 85), none, none] (sl_k (sl_n (sl_n sl_0))) (t_fM_both_b45 C S hB hn hrc hk5 h)
set_option maxHeartbeats 4000000 in
set_option maxRecDepth 20000 in
theorem t_fM_both_b5 {K : Cx} {n : Nat} {r : Int32 × Mem} {lvd : Nat} {rc : Nat → Mem → Option (Int32 × Mem)} (C : Ctx K RX8 cX8_both) (S : SS K n (lvd + 1) 3 (some .int) (Ti n r)) (hB : 4 ≤ lvd) (hn : 113 ≤ n) (hrc : HR1 (kl K) (kw K) n lvd rc) : ∀ (z : Nat) (a1 : Int32) (M : Mem), fM_both_b5 rc z a1 M = some r → AS K n M 5 [some (.ref 85), some (.int a1), none] [] := by
  intro z
  induction z with
  | zero => intro a1 M h; cases h
  | succ z ih =>
    intro a1 M h
    refine aw_aload_n C (tb_at ok_X8_both 3 rfl) rfl ?_
    refine aw_bipush C (tb_at ok_X8_both 4 rfl) kb_97 ?_
    refine aw_bipush C (tb_at ok_X8_both 5 rfl) kb_110 ?_
    refine aw_bipush C (tb_at ok_X8_both 6 rfl) kb_100 ?_
    refine aw_iconst C (tb_at ok_X8_both 7 rfl) ki_0 ?_
    refine aw_iconst C (tb_at ok_X8_both 8 rfl) ki_0 ?_
    refine aw_iconst C (tb_at ok_X8_both 9 rfl) ki_0 ?_
    refine aw_iconst C (tb_at ok_X8_both 10 rfl) ki_0 ?_
    refine aw_iconst C (tb_at ok_X8_both 11 rfl) ki_0 ?_
    refine sw_cVi C S [.int 97, .int 110, .int 100, .int 0, .int 0, .int 0, .int 0, .int 0] [] (tb_at ok_X8_both 12 rfl) h (fun q e => m_fM_isWord hn e) mf_X8_isWord (ob_85 hn) rfl rfl cw_RX8_235 rfl (Nat.succ_le_succ (Nat.le_trans (by decide) hB)) rfl (Nat.le_of_ble_eq_true rfl) (fun r2 M2 h => ?_)
    refine aw_if_eq C 49 (tb_at ok_X8_both 13 rfl) (by decide) h (fun h => ?_) (fun h => ?_)
    · refine aw_iload_n C (tb_at ok_X8_both 28 rfl) rfl ?_
      exact sw_iret C S rfl (tb_at ok_X8_both 29 rfl) h
    · refine aw_aload_n C (tb_at ok_X8_both 14 rfl) rfl ?_
      refine sw_cVv C S [] [] (tb_at ok_X8_both 15 rfl) h (fun q e => m_fM_next hn e) mf_X8_next (ob_85 hn) rfl rfl cw_RX8_232 rfl (Nat.succ_le_succ (Nat.le_trans (by decide) hB)) rfl (Nat.le_of_ble_eq_true rfl) (fun M3 h => ?_)
      refine aw_aload_n C (tb_at ok_X8_both 16 rfl) rfl ?_
      refine sw_cVi C S [] [] (tb_at ok_X8_both 17 rfl) h (fun q e => hrc.2.2.1 _  _ e) mf_X8_not (ob_85 hn) rfl rfl cw_RX8_279 rfl (Nat.le_refl _) rfl (Nat.le_of_ble_eq_true rfl) (fun r4 M4 h => ?_)
      refine aw_istore_n C [some (.ref 85), some (.int a1), some (.int r4)] (tb_at ok_X8_both 18 rfl) S.2.2.2.1 (by decide) rfl ?_
      refine aw_iload_n C (tb_at ok_X8_both 19 rfl) rfl ?_
      refine aw_if_eq C 44 (tb_at ok_X8_both 20 rfl) (by decide) h (fun h => ?_) (fun h => ?_)
      · exact aw_loc [some (.ref 85), none, none] (sl_k (sl_n (sl_n sl_0))) (t_fM_both_b44 C S hB hn hrc ih h)
      · refine aw_iload_n C (tb_at ok_X8_both 21 rfl) rfl ?_
        refine aw_if_eq C 44 (tb_at ok_X8_both 22 rfl) (by decide) h (fun h => ?_) (fun h => ?_)
        · exact aw_loc [some (.ref 85), none, none] (sl_k (sl_n (sl_n sl_0))) (t_fM_both_b44 C S hB hn hrc ih h)
        · refine aw_iconst C (tb_at ok_X8_both 23 rfl) ki_1 ?_
          refine aw_goto C 45 (tb_at ok_X8_both 24 rfl) (by decide) ?_
          exact aw_loc [some (.ref 85), none, none] (sl_k (sl_n (sl_n sl_0))) (t_fM_both_b45 C S hB hn hrc ih h)
set_option maxHeartbeats 4000000 in
set_option maxRecDepth 20000 in
theorem t_fM_both {K : Cx} {n : Nat} {M : Mem} {r : Int32 × Mem} {lvd : Nat} {rc : Nat → Mem → Option (Int32 × Mem)} (C : Ctx K RX8 cX8_both) (S : SS K n (lvd + 1) 3 (some .int) (Ti n r)) (hB : 4 ≤ lvd) (hn : 113 ≤ n) (hrc : HR1 (kl K) (kw K) n lvd rc) (h : fM_both rc M = some r) : AS K n M 0 [some (.ref 85), none, none] [] := by
  refine aw_aload_n C (tb_at ok_X8_both 0 rfl) rfl ?_
  refine sw_cVi C S [] [] (tb_at ok_X8_both 1 rfl) h (fun q e => hrc.2.2.1 _  _ e) mf_X8_not (ob_85 hn) rfl rfl cw_RX8_279 rfl (Nat.le_refl _) rfl (Nat.le_of_ble_eq_true rfl) (fun r1 M1 h => ?_)
  refine aw_istore_n C [some (.ref 85), some (.int r1), none] (tb_at ok_X8_both 2 rfl) S.2.2.2.1 (by decide) rfl ?_
  exact aw_loc [some (.ref 85), some (.int r1), none] (sl_k (sl_k (sl_n sl_0))) (t_fM_both_b5 C S hB hn hrc 1000 _ _ h)
def tb_X8_either : List (Nat × Instr × Nat) := [(0, .aload_n 0, 1), (1, .invokevirtual 287, 3), (4, .istore_n 1, 1), (5, .aload_n 0, 1), (6, .bipush 111, 2), (8, .bipush 114, 2), (10, .iconst 0, 1), (11, .iconst 0, 1), (12, .iconst 0, 1), (13, .iconst 0, 1), (14, .iconst 0, 1), (15, .iconst 0, 1), (16, .invokevirtual 235, 3), (19, .ifCond .eq 29, 3), (22, .aload_n 0, 1), (23, .invokevirtual 232, 3), (26, .aload_n 0, 1), (27, .invokevirtual 287, 3), (30, .istore_n 2, 1), (31, .iload_n 1, 1), (32, .ifCond .ne 7, 3), (35, .iload_n 2, 1), (36, .ifCond .eq 7, 3), (39, .iconst 1, 1), (40, .goto 4, 3), (43, .iconst 0, 1), (44, .istore_n 1, 1), (45, .goto (-40), 3), (48, .iload_n 1, 1), (49, .ireturn, 1)]
theorem ok_X8_either : TB cX8_either tb_X8_either := (by decide +kernel : tb_X8_either.all (fun q => tbq cX8_either q) = true)
set_option maxHeartbeats 4000000 in
set_option maxRecDepth 20000 in
theorem t_fM_either_b44 {K : Cx} {n : Nat} {k5 : Int32 → Mem → Option (Int32 × Mem)} {s0 : Int32} {M : Mem} {r : Int32 × Mem} {lvd : Nat} {rc : Nat → Mem → Option (Int32 × Mem)} (C : Ctx K RX8 cX8_either) (S : SS K n (lvd + 1) 3 (some .int) (Ti n r)) (hB : 4 ≤ lvd) (hn : 113 ≤ n) (hrc : HR1 (kl K) (kw K) n lvd rc) (hk5 : ∀ (va1 : Int32) (M1 : Mem), k5 va1 M1 = some r → AS K n M1 5 [some (.ref 85), some (.int va1), none] []) (h : fM_either_b44 rc k5 s0 M = some r) : AS K n M 44 [some (.ref 85), none, none] [.int s0] := by
  refine aw_istore_n C [some (.ref 85), some (.int s0), none] (tb_at ok_X8_either 26 rfl) S.2.2.2.1 (by decide) rfl ?_
  refine aw_goto C 5 (tb_at ok_X8_either 27 rfl) (by decide) ?_
  exact aw_loc [some (.ref 85), some (.int s0), none] (sl_k (sl_k (sl_n sl_0))) (hk5 _ _ h)
set_option maxHeartbeats 4000000 in
set_option maxRecDepth 20000 in
theorem t_fM_either_b39 {K : Cx} {n : Nat} {k5 : Int32 → Mem → Option (Int32 × Mem)} {M : Mem} {r : Int32 × Mem} {lvd : Nat} {rc : Nat → Mem → Option (Int32 × Mem)} (C : Ctx K RX8 cX8_either) (S : SS K n (lvd + 1) 3 (some .int) (Ti n r)) (hB : 4 ≤ lvd) (hn : 113 ≤ n) (hrc : HR1 (kl K) (kw K) n lvd rc) (hk5 : ∀ (va1 : Int32) (M1 : Mem), k5 va1 M1 = some r → AS K n M1 5 [some (.ref 85), some (.int va1), none] []) (h : fM_either_b39 rc k5 M = some r) : AS K n M 39 [some (.ref 85), none, none] [] := by
  refine aw_iconst C (tb_at ok_X8_either 23 rfl) ki_1 ?_
  refine aw_goto C 44 (tb_at ok_X8_either 24 rfl) (by decide) ?_
  exact aw_loc [some (.ref 85), none, none] (sl_k (sl_n (sl_n sl_0))) (t_fM_either_b44 C S hB hn hrc hk5 h)
set_option maxHeartbeats 4000000 in
set_option maxRecDepth 20000 in
theorem t_fM_either_b5 {K : Cx} {n : Nat} {r : Int32 × Mem} {lvd : Nat} {rc : Nat → Mem → Option (Int32 × Mem)} (C : Ctx K RX8 cX8_either) (S : SS K n (lvd + 1) 3 (some .int) (Ti n r)) (hB : 4 ≤ lvd) (hn : 113 ≤ n) (hrc : HR1 (kl K) (kw K) n lvd rc) : ∀ (z : Nat) (a1 : Int32) (M : Mem), fM_either_b5 rc z a1 M = some r → AS K n M 5 [some (.ref 85), some (.int a1), none] [] := by
  intro z
  induction z with
  | zero => intro a1 M h; cases h
  | succ z ih =>
    intro a1 M h
    refine aw_aload_n C (tb_at ok_X8_either 3 rfl) rfl ?_
    refine aw_bipush C (tb_at ok_X8_either 4 rfl) kb_111 ?_
    refine aw_bipush C (tb_at ok_X8_either 5 rfl) kb_114 ?_
    refine aw_iconst C (tb_at ok_X8_either 6 rfl) ki_0 ?_
    refine aw_iconst C (tb_at ok_X8_either 7 rfl) ki_0 ?_
    refine aw_iconst C (tb_at ok_X8_either 8 rfl) ki_0 ?_
    refine aw_iconst C (tb_at ok_X8_either 9 rfl) ki_0 ?_
    refine aw_iconst C (tb_at ok_X8_either 10 rfl) ki_0 ?_
    refine aw_iconst C (tb_at ok_X8_either 11 rfl) ki_0 ?_
    refine sw_cVi C S [.int 111, .int 114, .int 0, .int 0, .int 0, .int 0, .int 0, .int 0] [] (tb_at ok_X8_either 12 rfl) h (fun q e => m_fM_isWord hn e) mf_X8_isWord (ob_85 hn) rfl rfl cw_RX8_235 rfl (Nat.succ_le_succ (Nat.le_trans (by decide) hB)) rfl (Nat.le_of_ble_eq_true rfl) (fun r2 M2 h => ?_)
    refine aw_if_eq C 48 (tb_at ok_X8_either 13 rfl) (by decide) h (fun h => ?_) (fun h => ?_)
    · refine aw_iload_n C (tb_at ok_X8_either 28 rfl) rfl ?_
      exact sw_iret C S rfl (tb_at ok_X8_either 29 rfl) h
    · refine aw_aload_n C (tb_at ok_X8_either 14 rfl) rfl ?_
      refine sw_cVv C S [] [] (tb_at ok_X8_either 15 rfl) h (fun q e => m_fM_next hn e) mf_X8_next (ob_85 hn) rfl rfl cw_RX8_232 rfl (Nat.succ_le_succ (Nat.le_trans (by decide) hB)) rfl (Nat.le_of_ble_eq_true rfl) (fun M3 h => ?_)
      refine aw_aload_n C (tb_at ok_X8_either 16 rfl) rfl ?_
      refine sw_cVi C S [] [] (tb_at ok_X8_either 17 rfl) h (fun q e => hrc.2.1 _  _ e) mf_X8_both (ob_85 hn) rfl rfl cw_RX8_287 rfl (Nat.le_refl _) rfl (Nat.le_of_ble_eq_true rfl) (fun r4 M4 h => ?_)
      refine aw_istore_n C [some (.ref 85), some (.int a1), some (.int r4)] (tb_at ok_X8_either 18 rfl) S.2.2.2.1 (by decide) rfl ?_
      refine aw_iload_n C (tb_at ok_X8_either 19 rfl) rfl ?_
      refine aw_if_ne C 39 (tb_at ok_X8_either 20 rfl) (by decide) h (fun h => ?_) (fun h => ?_)
      · refine aw_iload_n C (tb_at ok_X8_either 21 rfl) rfl ?_
        refine aw_if_eq C 43 (tb_at ok_X8_either 22 rfl) (by decide) h (fun h => ?_) (fun h => ?_)
        · refine aw_iconst C (tb_at ok_X8_either 25 rfl) ki_0 ?_
          exact aw_loc [some (.ref 85), none, none] (sl_k (sl_n (sl_n sl_0))) (t_fM_either_b44 C S hB hn hrc ih h)
        · exact aw_loc [some (.ref 85), none, none] (sl_k (sl_n (sl_n sl_0))) (t_fM_either_b39 C S hB hn hrc ih h)
      · exact aw_loc [some (.ref 85), none, none] (sl_k (sl_n (sl_n sl_0))) (t_fM_either_b39 C S hB hn hrc ih h)
set_option maxHeartbeats 4000000 in
set_option maxRecDepth 20000 in
theorem t_fM_either {K : Cx} {n : Nat} {M : Mem} {r : Int32 × Mem} {lvd : Nat} {rc : Nat → Mem → Option (Int32 × Mem)} (C : Ctx K RX8 cX8_either) (S : SS K n (lvd + 1) 3 (some .int) (Ti n r)) (hB : 4 ≤ lvd) (hn : 113 ≤ n) (hrc : HR1 (kl K) (kw K) n lvd rc) (h : fM_either rc M = some r) : AS K n M 0 [some (.ref 85), none, none] [] := by
  refine aw_aload_n C (tb_at ok_X8_either 0 rfl) rfl ?_
  refine sw_cVi C S [] [] (tb_at ok_X8_either 1 rfl) h (fun q e => hrc.2.1 _  _ e) mf_X8_both (ob_85 hn) rfl rfl cw_RX8_287 rfl (Nat.le_refl _) rfl (Nat.le_of_ble_eq_true rfl) (fun r1 M1 h => ?_)
  refine aw_istore_n C [some (.ref 85), some (.int r1), none] (tb_at ok_X8_either 2 rfl) S.2.2.2.1 (by decide) rfl ?_
  exact aw_loc [some (.ref 85), some (.int r1), none] (sl_k (sl_k (sl_n sl_0))) (t_fM_either_b5 C S hB hn hrc 1000 _ _ h)
def tb_X8_atom : List (Nat × Instr × Nat) := [(0, .iconst 0, 1), (1, .istore_n 1, 1), (2, .aload_n 0, 1), (3, .bipush 45, 2), (5, .invokevirtual 257, 3), (8, .ifCond .eq 29, 3), (11, .aload_n 0, 1), (12, .invokevirtual 260, 3), (15, .ifCond .eq 146, 3), (18, .aload_n 0, 1), (19, .invokevirtual 264, 3), (22, .ineg, 1), (23, .istore_n 1, 1), (24, .aload_n 0, 1), (25, .dup, 1), (26, .getfield 226, 3), (29, .iconst 1, 1), (30, .isub, 1), (31, .putfield 226, 3), (34, .goto 127, 3), (37, .aload_n 0, 1), (38, .bipush 40, 2), (40, .invokevirtual 257, 3), (43, .ifCond .eq 52, 3), (46, .aload_n 0, 1), (47, .invokevirtual 260, 3), (50, .ifCond .eq 111, 3), (53, .aload_n 0, 1), (54, .invokevirtual 268, 3), (57, .istore_n 1, 1), (58, .aload_n 0, 1), (59, .bipush 41, 2), (61, .invokevirtual 257, 3), (64, .ifCond .ne 7, 3), (67, .aload_n 0, 1), (68, .invokevirtual 229, 3), (71, .aload_n 0, 1), (72, .dup, 1), (73, .getfield 226, 3), (76, .iconst 1, 1), (77, .isub, 1), (78, .putfield 226, 3), (81, .aload_n 0, 1), (82, .getfield 216, 3), (85, .ifCond .ne 76, 3), (88, .aload_n 0, 1), (89, .invokevirtual 232, 3), (92, .goto 69, 3), (95, .aload_n 0, 1), (96, .getfield 216, 3), (99, .ifCond .ne 24, 3), (102, .aload_n 0, 1), (103, .getfield 201, 3), (106, .iconst 2, 1), (107, .if_icmp .ne 16, 3), (110, .aload_n 0, 1), (111, .getfield 212, 3), (114, .l2i, 1), (115, .istore_n 1, 1), (116, .aload_n 0, 1), (117, .invokevirtual 232, 3), (120, .goto 41, 3), (123, .aload_n 0, 1), (124, .getfield 216, 3), (127, .ifCond .ne 30, 3), (130, .aload_n 0, 1), (131, .getfield 201, 3), (134, .iconst 1, 1), (135, .if_icmp .ne 22, 3), (138, .aload_n 0, 1), (139, .invokevirtual 271, 3), (142, .istore_n 1, 1), (143, .aload_n 0, 1), (144, .getfield 216, 3), (147, .ifCond .ne 14, 3), (150, .aload_n 0, 1), (151, .invokevirtual 232, 3), (154, .goto 7, 3), (157, .aload_n 0, 1), (158, .invokevirtual 229, 3), (161, .iload_n 1, 1), (162, .ireturn, 1)]
theorem ok_X8_atom : TB cX8_atom tb_X8_atom := (by decide +kernel : tb_X8_atom.all (fun q => tbq cX8_atom q) = true)
set_option maxHeartbeats 4000000 in
set_option maxRecDepth 20000 in
theorem t_fM_atom_b161 {K : Cx} {n : Nat} {a1 : Int32} {M : Mem} {r : Int32 × Mem} {lvd : Nat} {rc : Nat → Mem → Option (Int32 × Mem)} (C : Ctx K RX8 cX8_atom) (S : SS K n (lvd + 1) 2 (some .int) (Ti n r)) (hB : 4 ≤ lvd) (hn : 113 ≤ n) (hrc : HR1 (kl K) (kw K) n lvd rc) (h : fM_atom_b161 rc a1 M = some r) : AS K n M 161 [none, some (.int a1)] [] := by
  refine aw_iload_n C (tb_at ok_X8_atom 80 rfl) rfl ?_
  exact sw_iret C S rfl (tb_at ok_X8_atom 81 rfl) h
set_option maxHeartbeats 4000000 in
set_option maxRecDepth 20000 in
theorem t_fM_atom_b157 {K : Cx} {n : Nat} {a1 : Int32} {M : Mem} {r : Int32 × Mem} {lvd : Nat} {rc : Nat → Mem → Option (Int32 × Mem)} (C : Ctx K RX8 cX8_atom) (S : SS K n (lvd + 1) 2 (some .int) (Ti n r)) (hB : 4 ≤ lvd) (hn : 113 ≤ n) (hrc : HR1 (kl K) (kw K) n lvd rc) (h : fM_atom_b157 rc a1 M = some r) : AS K n M 157 [some (.ref 85), some (.int a1)] [] := by
  refine aw_aload_n C (tb_at ok_X8_atom 78 rfl) rfl ?_
  refine sw_cVv C S [] [] (tb_at ok_X8_atom 79 rfl) h (fun q e => m_fM_fail hn e) mf_X8_fail (ob_85 hn) rfl rfl cw_RX8_229 rfl (Nat.succ_le_succ (Nat.le_trans (by decide) hB)) rfl (Nat.le_of_ble_eq_true rfl) (fun M6 h => ?_)
  exact aw_loc [none, some (.int a1)] (sl_n (sl_k sl_0)) (t_fM_atom_b161 C S hB hn hrc h)
set_option maxHeartbeats 4000000 in
set_option maxRecDepth 20000 in
theorem t_fM_atom_b123 {K : Cx} {n : Nat} {a1 : Int32} {M : Mem} {r : Int32 × Mem} {lvd : Nat} {rc : Nat → Mem → Option (Int32 × Mem)} (C : Ctx K RX8 cX8_atom) (S : SS K n (lvd + 1) 2 (some .int) (Ti n r)) (hB : 4 ≤ lvd) (hn : 113 ≤ n) (hrc : HR1 (kl K) (kw K) n lvd rc) (h : fM_atom_b123 rc a1 M = some r) : AS K n M 123 [some (.ref 85), some (.int a1)] [] := by
  refine aw_aload_n C (tb_at ok_X8_atom 62 rfl) rfl ?_
  refine aw_get C (ob_85 hn) rfl (by decide) rfl fl_RX8_216 (tb_at ok_X8_atom 63 rfl) ?_
  refine aw_if_ne C 157 (tb_at ok_X8_atom 64 rfl) (by decide) h (fun h => ?_) (fun h => ?_)
  · refine aw_aload_n C (tb_at ok_X8_atom 65 rfl) rfl ?_
    refine aw_get C (ob_85 hn) rfl (by decide) rfl fl_RX8_201 (tb_at ok_X8_atom 66 rfl) ?_
    refine aw_iconst C (tb_at ok_X8_atom 67 rfl) ki_1 ?_
    refine aw_icmp_ne C 157 (tb_at ok_X8_atom 68 rfl) (by decide) h (fun h => ?_) (fun h => ?_)
    · refine aw_aload_n C (tb_at ok_X8_atom 69 rfl) rfl ?_
      refine sw_cVi C S [] [] (tb_at ok_X8_atom 70 rfl) h (fun q e => m_fM_name hn e) mf_X8_name (ob_85 hn) rfl rfl cw_RX8_271 rfl (Nat.succ_le_succ (Nat.le_trans (by decide) hB)) rfl (Nat.le_of_ble_eq_true rfl) (fun r4 M4 h => ?_)
      refine aw_istore_n C [some (.ref 85), some (.int r4)] (tb_at ok_X8_atom 71 rfl) S.2.2.2.1 (by decide) rfl ?_
      refine aw_aload_n C (tb_at ok_X8_atom 72 rfl) rfl ?_
      refine aw_get C (ob_85 hn) rfl (by decide) rfl fl_RX8_216 (tb_at ok_X8_atom 73 rfl) ?_
      refine aw_if_ne C 161 (tb_at ok_X8_atom 74 rfl) (by decide) h (fun h => ?_) (fun h => ?_)
      · refine aw_aload_n C (tb_at ok_X8_atom 75 rfl) rfl ?_
        refine sw_cVv C S [] [] (tb_at ok_X8_atom 76 rfl) h (fun q e => m_fM_next hn e) mf_X8_next (ob_85 hn) rfl rfl cw_RX8_232 rfl (Nat.succ_le_succ (Nat.le_trans (by decide) hB)) rfl (Nat.le_of_ble_eq_true rfl) (fun M5 h => ?_)
        refine aw_goto C 161 (tb_at ok_X8_atom 77 rfl) (by decide) ?_
        exact aw_loc [none, some (.int r4)] (sl_n (sl_k sl_0)) (t_fM_atom_b161 C S hB hn hrc h)
      · exact aw_loc [none, some (.int r4)] (sl_n (sl_k sl_0)) (t_fM_atom_b161 C S hB hn hrc h)
    · exact aw_loc [some (.ref 85), some (.int a1)] (sl_k (sl_k sl_0)) (t_fM_atom_b157 C S hB hn hrc h)
  · exact aw_loc [some (.ref 85), some (.int a1)] (sl_k (sl_k sl_0)) (t_fM_atom_b157 C S hB hn hrc h)
set_option maxHeartbeats 4000000 in
set_option maxRecDepth 20000 in
theorem t_fM_atom_b71 {K : Cx} {n : Nat} {a1 : Int32} {M : Mem} {r : Int32 × Mem} {lvd : Nat} {rc : Nat → Mem → Option (Int32 × Mem)} (C : Ctx K RX8 cX8_atom) (S : SS K n (lvd + 1) 2 (some .int) (Ti n r)) (hB : 4 ≤ lvd) (hn : 113 ≤ n) (hrc : HR1 (kl K) (kw K) n lvd rc) (h : fM_atom_b71 rc a1 M = some r) : AS K n M 71 [some (.ref 85), some (.int a1)] [] := by
  refine aw_aload_n C (tb_at ok_X8_atom 36 rfl) rfl ?_
  refine aw_dup C (tb_at ok_X8_atom 37 rfl) rfl ?_
  refine aw_get C (ob_85 hn) rfl (by decide) rfl fl_RX8_226 (tb_at ok_X8_atom 38 rfl) ?_
  refine aw_iconst C (tb_at ok_X8_atom 39 rfl) ki_1 ?_
  refine aw_isub C (tb_at ok_X8_atom 40 rfl) ?_
  refine sw_put C (ob_85 hn) rfl (by decide) (by decide) (Or.inr (by decide)) rfl rfl rfl rfl fl_RX8_226 (tb_at ok_X8_atom 41 rfl) ?_
  refine aw_aload_n C (tb_at ok_X8_atom 42 rfl) rfl ?_
  refine aw_get C (ob_85 hn) rfl (by decide) rfl fl_RX8_216 (tb_at ok_X8_atom 43 rfl) ?_
  refine aw_if_ne C 161 (tb_at ok_X8_atom 44 rfl) (by decide) h (fun h => ?_) (fun h => ?_)
  · refine aw_aload_n C (tb_at ok_X8_atom 45 rfl) rfl ?_
    refine sw_cVv C S [] [] (tb_at ok_X8_atom 46 rfl) h (fun q e => m_fM_next hn e) mf_X8_next (ob_85 hn) rfl rfl cw_RX8_232 rfl (Nat.succ_le_succ (Nat.le_trans (by decide) hB)) rfl (Nat.le_of_ble_eq_true rfl) (fun M11 h => ?_)
    refine aw_goto C 161 (tb_at ok_X8_atom 47 rfl) (by decide) ?_
    exact aw_loc [none, some (.int a1)] (sl_n (sl_k sl_0)) (t_fM_atom_b161 C S hB hn hrc h)
  · exact aw_loc [none, some (.int a1)] (sl_n (sl_k sl_0)) (t_fM_atom_b161 C S hB hn hrc h)
set_option maxHeartbeats 4000000 in
set_option maxRecDepth 20000 in
theorem t_fM_atom {K : Cx} {n : Nat} {M : Mem} {r : Int32 × Mem} {lvd : Nat} {rc : Nat → Mem → Option (Int32 × Mem)} (C : Ctx K RX8 cX8_atom) (S : SS K n (lvd + 1) 2 (some .int) (Ti n r)) (hB : 4 ≤ lvd) (hn : 113 ≤ n) (hrc : HR1 (kl K) (kw K) n lvd rc) (h : fM_atom rc M = some r) : AS K n M 0 [some (.ref 85), none] [] := by
  refine aw_iconst C (tb_at ok_X8_atom 0 rfl) ki_0 ?_
  refine aw_istore_n C [some (.ref 85), some (.int 0)] (tb_at ok_X8_atom 1 rfl) S.2.2.2.1 (by decide) rfl ?_
  refine aw_aload_n C (tb_at ok_X8_atom 2 rfl) rfl ?_
  refine aw_bipush C (tb_at ok_X8_atom 3 rfl) kb_45 ?_
  refine sw_cVi C S [.int 45] [] (tb_at ok_X8_atom 4 rfl) h (fun q e => m_fM_isSign hn e) mf_X8_isSign (ob_85 hn) rfl rfl cw_RX8_257 rfl (Nat.succ_le_succ (Nat.le_trans (by decide) hB)) rfl (Nat.le_of_ble_eq_true rfl) (fun r1 M1 h => ?_)
  refine aw_if_eq C 37 (tb_at ok_X8_atom 5 rfl) (by decide) h (fun h => ?_) (fun h => ?_)
  · refine aw_aload_n C (tb_at ok_X8_atom 20 rfl) rfl ?_
    refine aw_bipush C (tb_at ok_X8_atom 21 rfl) kb_40 ?_
    refine sw_cVi C S [.int 40] [] (tb_at ok_X8_atom 22 rfl) h (fun q e => m_fM_isSign hn e) mf_X8_isSign (ob_85 hn) rfl rfl cw_RX8_257 rfl (Nat.succ_le_succ (Nat.le_trans (by decide) hB)) rfl (Nat.le_of_ble_eq_true rfl) (fun r2 M2 h => ?_)
    refine aw_if_eq C 95 (tb_at ok_X8_atom 23 rfl) (by decide) h (fun h => ?_) (fun h => ?_)
    · refine aw_aload_n C (tb_at ok_X8_atom 48 rfl) rfl ?_
      refine aw_get C (ob_85 hn) rfl (by decide) rfl fl_RX8_216 (tb_at ok_X8_atom 49 rfl) ?_
      refine aw_if_ne C 123 (tb_at ok_X8_atom 50 rfl) (by decide) h (fun h => ?_) (fun h => ?_)
      · refine aw_aload_n C (tb_at ok_X8_atom 51 rfl) rfl ?_
        refine aw_get C (ob_85 hn) rfl (by decide) rfl fl_RX8_201 (tb_at ok_X8_atom 52 rfl) ?_
        refine aw_iconst C (tb_at ok_X8_atom 53 rfl) ki_2 ?_
        refine aw_icmp_ne C 123 (tb_at ok_X8_atom 54 rfl) (by decide) h (fun h => ?_) (fun h => ?_)
        · refine aw_aload_n C (tb_at ok_X8_atom 55 rfl) rfl ?_
          refine aw_getL C (ob_85 hn) rfl (by decide) rfl fl_RX8_212 (tb_at ok_X8_atom 56 rfl) ?_
          refine aw_l2i C (tb_at ok_X8_atom 57 rfl) ?_
          refine aw_istore_n C [some (.ref 85), some (.int ((lgc (M2 85 132) (M2 85 32)).toInt32))] (tb_at ok_X8_atom 58 rfl) S.2.2.2.1 (by decide) rfl ?_
          refine aw_aload_n C (tb_at ok_X8_atom 59 rfl) rfl ?_
          refine sw_cVv C S [] [] (tb_at ok_X8_atom 60 rfl) h (fun q e => m_fM_next hn e) mf_X8_next (ob_85 hn) rfl rfl cw_RX8_232 rfl (Nat.succ_le_succ (Nat.le_trans (by decide) hB)) rfl (Nat.le_of_ble_eq_true rfl) (fun M3 h => ?_)
          refine aw_goto C 161 (tb_at ok_X8_atom 61 rfl) (by decide) ?_
          exact aw_loc [none, some (.int ((lgc (M2 85 132) (M2 85 32)).toInt32))] (sl_n (sl_k sl_0)) (t_fM_atom_b161 C S hB hn hrc h)
        · exact aw_loc [some (.ref 85), some (.int 0)] (sl_k (sl_k sl_0)) (t_fM_atom_b123 C S hB hn hrc h)
      · exact aw_loc [some (.ref 85), some (.int 0)] (sl_k (sl_k sl_0)) (t_fM_atom_b123 C S hB hn hrc h)
    · refine aw_aload_n C (tb_at ok_X8_atom 24 rfl) rfl ?_
      refine sw_cVi C S [] [] (tb_at ok_X8_atom 25 rfl) h (fun q e => m_fM_opens hn e) mf_X8_opens (ob_85 hn) rfl rfl cw_RX8_260 rfl (Nat.succ_le_succ (Nat.le_trans (by decide) hB)) rfl (Nat.le_of_ble_eq_true rfl) (fun r7 M7 h => ?_)
      refine aw_if_eq C 161 (tb_at ok_X8_atom 26 rfl) (by decide) h (fun h => ?_) (fun h => ?_)
      · exact aw_loc [none, some (.int 0)] (sl_n (sl_k sl_0)) (t_fM_atom_b161 C S hB hn hrc h)
      · refine aw_aload_n C (tb_at ok_X8_atom 27 rfl) rfl ?_
        refine sw_cVi C S [] [] (tb_at ok_X8_atom 28 rfl) h (fun q e => hrc.1 _  _ e) mf_X8_either (ob_85 hn) rfl rfl cw_RX8_268 rfl (Nat.le_refl _) rfl (Nat.le_of_ble_eq_true rfl) (fun r8 M8 h => ?_)
        refine aw_istore_n C [some (.ref 85), some (.int r8)] (tb_at ok_X8_atom 29 rfl) S.2.2.2.1 (by decide) rfl ?_
        refine aw_aload_n C (tb_at ok_X8_atom 30 rfl) rfl ?_
        refine aw_bipush C (tb_at ok_X8_atom 31 rfl) kb_41 ?_
        refine sw_cVi C S [.int 41] [] (tb_at ok_X8_atom 32 rfl) h (fun q e => m_fM_isSign hn e) mf_X8_isSign (ob_85 hn) rfl rfl cw_RX8_257 rfl (Nat.succ_le_succ (Nat.le_trans (by decide) hB)) rfl (Nat.le_of_ble_eq_true rfl) (fun r9 M9 h => ?_)
        refine aw_if_ne C 71 (tb_at ok_X8_atom 33 rfl) (by decide) h (fun h => ?_) (fun h => ?_)
        · refine aw_aload_n C (tb_at ok_X8_atom 34 rfl) rfl ?_
          refine sw_cVv C S [] [] (tb_at ok_X8_atom 35 rfl) h (fun q e => m_fM_fail hn e) mf_X8_fail (ob_85 hn) rfl rfl cw_RX8_229 rfl (Nat.succ_le_succ (Nat.le_trans (by decide) hB)) rfl (Nat.le_of_ble_eq_true rfl) (fun M10 h => ?_)
          exact aw_loc [some (.ref 85), some (.int r8)] (sl_k (sl_k sl_0)) (t_fM_atom_b71 C S hB hn hrc h)
        · exact aw_loc [some (.ref 85), some (.int r8)] (sl_k (sl_k sl_0)) (t_fM_atom_b71 C S hB hn hrc h)
  · refine aw_aload_n C (tb_at ok_X8_atom 6 rfl) rfl ?_
    refine sw_cVi C S [] [] (tb_at ok_X8_atom 7 rfl) h (fun q e => m_fM_opens hn e) mf_X8_opens (ob_85 hn) rfl rfl cw_RX8_260 rfl (Nat.succ_le_succ (Nat.le_trans (by decide) hB)) rfl (Nat.le_of_ble_eq_true rfl) (fun r12 M12 h => ?_)
    refine aw_if_eq C 161 (tb_at ok_X8_atom 8 rfl) (by decide) h (fun h => ?_) (fun h => ?_)
    · exact aw_loc [none, some (.int 0)] (sl_n (sl_k sl_0)) (t_fM_atom_b161 C S hB hn hrc h)
    · refine aw_aload_n C (tb_at ok_X8_atom 9 rfl) rfl ?_
      refine sw_cVi C S [] [] (tb_at ok_X8_atom 10 rfl) h (fun q e => hrc.2.2.2.2.2 _  _ e) mf_X8_atom (ob_85 hn) rfl rfl cw_RX8_264 rfl (Nat.le_refl _) rfl (Nat.le_of_ble_eq_true rfl) (fun r13 M13 h => ?_)
      refine aw_ineg C (tb_at ok_X8_atom 11 rfl) ?_
      refine aw_istore_n C [some (.ref 85), some (.int (-r13))] (tb_at ok_X8_atom 12 rfl) S.2.2.2.1 (by decide) rfl ?_
      refine aw_aload_n C (tb_at ok_X8_atom 13 rfl) rfl ?_
      refine aw_dup C (tb_at ok_X8_atom 14 rfl) rfl ?_
      refine aw_get C (ob_85 hn) rfl (by decide) rfl fl_RX8_226 (tb_at ok_X8_atom 15 rfl) ?_
      refine aw_iconst C (tb_at ok_X8_atom 16 rfl) ki_1 ?_
      refine aw_isub C (tb_at ok_X8_atom 17 rfl) ?_
      refine sw_put C (ob_85 hn) rfl (by decide) (by decide) (Or.inr (by decide)) rfl rfl rfl rfl fl_RX8_226 (tb_at ok_X8_atom 18 rfl) ?_
      refine aw_goto C 161 (tb_at ok_X8_atom 19 rfl) (by decide) ?_
      exact aw_loc [none, some (.int (-r13))] (sl_n (sl_k sl_0)) (t_fM_atom_b161 C S hB hn hrc h)
theorem m_rM {l : Launch} {w : Wd} {n : Nat} (hn : 113 ≤ n) : ∀ d : Nat, HR1 l w n (4 + d) (f_rM d) := by
  intro d
  induction d with
  | zero => exact ⟨fun _ _ h => (by cases h), fun _ _ h => (by cases h), fun _ _ h => (by cases h), fun _ _ h => (by cases h), fun _ _ h => (by cases h), fun _ _ h => (by cases h)⟩
  | succ d ih =>
    exact ⟨fun M q h => sm_of (loc := [some (.ref 85), none, none]) mf_X8_either (by omega) (Nat.le_of_ble_eq_true rfl) rfl (fun K hl hw C S => t_fM_either C S (Nat.le_add_right _ _) hn (by rw [hl, hw]; exact ih) h),
      fun M q h => sm_of (loc := [some (.ref 85), none, none]) mf_X8_both (by omega) (Nat.le_of_ble_eq_true rfl) rfl (fun K hl hw C S => t_fM_both C S (Nat.le_add_right _ _) hn (by rw [hl, hw]; exact ih) h),
      fun M q h => sm_of (loc := [some (.ref 85), none, none, none]) mf_X8_not (by omega) (Nat.le_of_ble_eq_true rfl) rfl (fun K hl hw C S => t_fM_not C S (Nat.le_add_right _ _) hn (by rw [hl, hw]; exact ih) h),
      fun M q h => sm_of (loc := [some (.ref 85), none, none, none]) mf_X8_added (by omega) (Nat.le_of_ble_eq_true rfl) rfl (fun K hl hw C S => t_fM_added C S (Nat.le_add_right _ _) hn (by rw [hl, hw]; exact ih) h),
      fun M q h => sm_of (loc := [some (.ref 85), none]) mf_X8_term (by omega) (Nat.le_of_ble_eq_true rfl) rfl (fun K hl hw C S => t_fM_term C S (Nat.le_add_right _ _) hn (by rw [hl, hw]; exact ih) h),
      fun M q h => sm_of (loc := [some (.ref 85), none]) mf_X8_atom (by omega) (Nat.le_of_ble_eq_true rfl) rfl (fun K hl hw C S => t_fM_atom C S (Nat.le_add_right _ _) hn (by rw [hl, hw]; exact ih) h)⟩
