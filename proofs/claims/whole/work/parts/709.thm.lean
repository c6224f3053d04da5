/-! theorems 9 -/
def tb_X8_film : List (Nat × Instr × Nat) := [(0, .iload_n 1, 1), (1, .invokestatic 357, 3), (4, .ifCond .eq 28, 3), (7, .iload_n 2, 1), (8, .iconst (-1), 1), (9, .if_icmp .eq 11, 3), (12, .aload_n 0, 1), (13, .iload_n 2, 1), (14, .invokevirtual 131, 3), (17, .ifCond .eq 15, 3), (20, .iload_n 3, 1), (21, .i2l, 1), (22, .lconst 0, 1), (23, .ldc2_w 368, 3), (26, .invokestatic 114, 3), (29, .ifCond .ne 6, 3), (32, .bipush (-2), 2), (34, .ireturn, 1), (35, .aload_n 0, 1), (36, .iload_n 1, 1), (37, .iconst 0, 1), (38, .iload_n 3, 1), (39, .invokevirtual 370, 3), (42, .pop, 1), (43, .aload_n 0, 1), (44, .invokevirtual 330, 3), (47, .iconst 0, 1), (48, .istore 4, 2), (50, .iload 4, 2), (52, .iload_n 3, 1), (53, .if_icmp .ge 47, 3), (56, .aload_n 0, 1), (57, .iload 4, 2), (59, .invokevirtual 333, 3), (62, .aload_n 0, 1), (63, .getfield 102, 3), (66, .bipush 40, 2), (68, .iload_n 1, 1), (69, .imul, 1), (70, .iload 4, 2), (72, .iadd, 1), (73, .iload_n 2, 1), (74, .iconst (-1), 1), (75, .if_icmp .ne 12, 3), (78, .aload_n 0, 1), (79, .iload 4, 2), (81, .invokevirtual 169, 3), (84, .goto 9, 3), (87, .aload_n 0, 1), (88, .getfield 56, 3), (91, .iload_n 2, 1), (92, .iaload, 1), (93, .iastore, 1), (94, .iinc 4 1, 3), (97, .goto (-47), 3), (100, .iload_n 3, 1), (101, .ireturn, 1)]
theorem ok_X8_film : TB cX8_film tb_X8_film := (by decide +kernel : tb_X8_film.all (fun q => tbq cX8_film q) = true)
set_option maxHeartbeats 4000000 in
set_option maxRecDepth 20000 in
theorem t_fM_film_b93 {K : Cx} {n : Nat} {k50 : Int32 → Mem → Option (Int32 × Mem)} {a1 : Int32} {a2 : Int32} {a3 : Int32} {a4 : Int32} {s0 : Int32} {s1 : Int32} {M : Mem} {r : Int32 × Mem} (C : Ctx K RX8 cX8_film) (S : SS K n 70 5 (some .int) (Ti n r)) (hn : 113 ≤ n) (hk50 : ∀ (va4 : Int32) (M1 : Mem), k50 va4 M1 = some r → AS K n M1 50 [some (.ref 85), some (.int a1), some (.int a2), some (.int a3), some (.int va4)] []) (h : fM_film_b93 k50 a1 a2 a3 a4 s0 s1 M = some r) : AS K n M 93 [some (.ref 85), some (.int a1), some (.int a2), some (.int a3), some (.int a4)] [.int s0, .int s1, .ref 112] := by
  refine sw_iast C (ob_112 hn) (tb_at ok_X8_film 52 rfl) h (fun h => ?_)
  refine aw_iinc C [some (.ref 85), some (.int a1), some (.int a2), some (.int a3), some (.int (a4 + 1))] (tb_at ok_X8_film 53 rfl) rfl S.2.2.2.1 (by decide) ki_1 rfl ?_
  refine aw_goto C 50 (tb_at ok_X8_film 54 rfl) (by decide) ?_
  exact aw_loc [some (.ref 85), some (.int a1), some (.int a2), some (.int a3), some (.int (a4 + 1))] (sl_k (sl_k (sl_k (sl_k (sl_k sl_0))))) (hk50 _ _ h)
set_option maxHeartbeats 4000000 in
set_option maxRecDepth 20000 in
theorem t_fM_film_b50 {K : Cx} {n : Nat} {a1 : Int32} {a2 : Int32} {a3 : Int32} {r : Int32 × Mem} (C : Ctx K RX8 cX8_film) (S : SS K n 70 5 (some .int) (Ti n r)) (hn : 113 ≤ n) : ∀ (z : Nat) (a4 : Int32) (M : Mem), fM_film_b50 a1 a2 a3 z a4 M = some r → AS K n M 50 [some (.ref 85), some (.int a1), some (.int a2), some (.int a3), some (.int a4)] [] := by
  intro z
  induction z with
  | zero => intro a4 M h; cases h
  | succ z ih =>
    intro a4 M h
    refine aw_iload C (tb_at ok_X8_film 28 rfl) rfl ?_
    refine aw_iload_n C (tb_at ok_X8_film 29 rfl) rfl ?_
    refine aw_icmp_ge C 100 (tb_at ok_X8_film 30 rfl) (by decide) h (fun h => ?_) (fun h => ?_)
    · refine aw_iload_n C (tb_at ok_X8_film 55 rfl) rfl ?_
      exact sw_iret C S rfl (tb_at ok_X8_film 56 rfl) h
    · refine aw_aload_n C (tb_at ok_X8_film 31 rfl) rfl ?_
      refine aw_iload C (tb_at ok_X8_film 32 rfl) rfl ?_
      refine sw_cVv C S [.int a4] [] (tb_at ok_X8_film 33 rfl) h (fun q e => m_fM_lives hn e) mf_X8_lives (ob_85 hn) rfl rfl cw_RX8_333 rfl (by decide) rfl (Nat.le_of_ble_eq_true rfl) (fun M5 h => ?_)
      refine aw_aload_n C (tb_at ok_X8_film 34 rfl) rfl ?_
      refine aw_getR C (ob_85 hn) rfl (by decide) rfl p_85_58 fl_RX8_102 (tb_at ok_X8_film 35 rfl) ?_
      refine aw_bipush C (tb_at ok_X8_film 36 rfl) kb_40 ?_
      refine aw_iload_n C (tb_at ok_X8_film 37 rfl) rfl ?_
      refine aw_imul C (tb_at ok_X8_film 38 rfl) ?_
      refine aw_iload C (tb_at ok_X8_film 39 rfl) rfl ?_
      refine aw_iadd C (tb_at ok_X8_film 40 rfl) ?_
      refine aw_iload_n C (tb_at ok_X8_film 41 rfl) rfl ?_
      refine aw_iconst C (tb_at ok_X8_film 42 rfl) ki_m1 ?_
      refine aw_icmp_ne C 87 (tb_at ok_X8_film 43 rfl) (by decide) h (fun h => ?_) (fun h => ?_)
      · refine aw_aload_n C (tb_at ok_X8_film 44 rfl) rfl ?_
        refine aw_iload C (tb_at ok_X8_film 45 rfl) rfl ?_
        refine sw_cVi C S [.int a4] [.int ((40 * a1) + a4), .ref 112] (tb_at ok_X8_film 46 rfl) h (fun q e => m_fM_masterIn hn e) mf_X8_masterIn (ob_85 hn) rfl rfl cw_RX8_169 rfl (by decide) rfl (Nat.le_of_ble_eq_true rfl) (fun r6 M6 h => ?_)
        refine aw_goto C 93 (tb_at ok_X8_film 47 rfl) (by decide) ?_
        exact aw_loc [some (.ref 85), some (.int a1), some (.int a2), some (.int a3), some (.int a4)] (sl_k (sl_k (sl_k (sl_k (sl_k sl_0))))) (t_fM_film_b93 C S hn ih h)
      · refine aw_aload_n C (tb_at ok_X8_film 48 rfl) rfl ?_
        refine aw_getR C (ob_85 hn) rfl (by decide) rfl p_85_36 fl_RX8_56 (tb_at ok_X8_film 49 rfl) ?_
        refine aw_iload_n C (tb_at ok_X8_film 50 rfl) rfl ?_
        refine aw_iald C (ob_98 hn) (tb_at ok_X8_film 51 rfl) h (fun h => ?_)
        exact aw_loc [some (.ref 85), some (.int a1), some (.int a2), some (.int a3), some (.int a4)] (sl_k (sl_k (sl_k (sl_k (sl_k sl_0))))) (t_fM_film_b93 C S hn ih h)
set_option maxHeartbeats 4000000 in
set_option maxRecDepth 20000 in
theorem t_fM_film_b20 {K : Cx} {n : Nat} {a1 : Int32} {a2 : Int32} {a3 : Int32} {M : Mem} {r : Int32 × Mem} (C : Ctx K RX8 cX8_film) (S : SS K n 70 5 (some .int) (Ti n r)) (hn : 113 ≤ n) (h : fM_film_b20 a1 a2 a3 M = some r) : AS K n M 20 [some (.ref 85), some (.int a1), some (.int a2), some (.int a3), none] [] := by
  refine aw_iload_n C (tb_at ok_X8_film 10 rfl) rfl ?_
  refine aw_i2l C (tb_at ok_X8_film 11 rfl) ?_
  refine aw_lconst C (tb_at ok_X8_film 12 rfl) kl_0 ?_
  refine aw_ldc2 C kc_RX8_368 (tb_at ok_X8_film 13 rfl) ?_
  refine sw_cSi C S [.long (a3.toInt64), .long (0 : Int64), .long (40 : Int64)] [] (tb_at ok_X8_film 14 rfl) h (fun q e => m_fM_in hn e) mf_X8_in cw_RX8_114 rfl (by decide) rfl (Nat.le_of_ble_eq_true rfl) (fun r2 M2 h => ?_)
  refine aw_if_ne C 35 (tb_at ok_X8_film 15 rfl) (by decide) h (fun h => ?_) (fun h => ?_)
  · refine aw_bipush C (tb_at ok_X8_film 16 rfl) kb_m2 ?_
    exact sw_iret C S rfl (tb_at ok_X8_film 17 rfl) h
  · refine aw_aload_n C (tb_at ok_X8_film 18 rfl) rfl ?_
    refine aw_iload_n C (tb_at ok_X8_film 19 rfl) rfl ?_
    refine aw_iconst C (tb_at ok_X8_film 20 rfl) ki_0 ?_
    refine aw_iload_n C (tb_at ok_X8_film 21 rfl) rfl ?_
    refine sw_cVi C S [.int a1, .int 0, .int a3] [] (tb_at ok_X8_film 22 rfl) h (fun q e => m_fM_sheet hn e) mf_X8_sheet (ob_85 hn) rfl rfl cw_RX8_370 rfl (by decide) rfl (Nat.le_of_ble_eq_true rfl) (fun r3 M3 h => ?_)
    refine aw_pop C (tb_at ok_X8_film 23 rfl) rfl ?_
    refine aw_aload_n C (tb_at ok_X8_film 24 rfl) rfl ?_
    refine sw_cVv C S [] [] (tb_at ok_X8_film 25 rfl) h (fun q e => m_fM_startsOff hn e) mf_X8_startsOff (ob_85 hn) rfl rfl cw_RX8_330 rfl (by decide) rfl (Nat.le_of_ble_eq_true rfl) (fun M4 h => ?_)
    refine aw_iconst C (tb_at ok_X8_film 26 rfl) ki_0 ?_
    refine aw_istore C [some (.ref 85), some (.int a1), some (.int a2), some (.int a3), some (.int 0)] (tb_at ok_X8_film 27 rfl) S.2.2.2.1 (by decide) rfl ?_
    exact aw_loc [some (.ref 85), some (.int a1), some (.int a2), some (.int a3), some (.int 0)] (sl_k (sl_k (sl_k (sl_k (sl_k sl_0))))) (t_fM_film_b50 C S hn 1000 _ _ h)
set_option maxHeartbeats 4000000 in
set_option maxRecDepth 20000 in
theorem t_fM_film {K : Cx} {n : Nat} {a1 : Int32} {a2 : Int32} {a3 : Int32} {M : Mem} {r : Int32 × Mem} (C : Ctx K RX8 cX8_film) (S : SS K n 70 5 (some .int) (Ti n r)) (hn : 113 ≤ n) (h : fM_film a1 a2 a3 M = some r) : AS K n M 0 [some (.ref 85), some (.int a1), some (.int a2), some (.int a3), none] [] := by
  refine aw_iload_n C (tb_at ok_X8_film 0 rfl) rfl ?_
  refine sw_cSi C S [.int a1] [] (tb_at ok_X8_film 1 rfl) h (fun q e => m_fM_isSheet hn e) mf_X8_isSheet cw_RX8_357 rfl (by decide) rfl (Nat.le_of_ble_eq_true rfl) (fun r1 M1 h => ?_)
  refine aw_if_eq C 32 (tb_at ok_X8_film 2 rfl) (by decide) h (fun h => ?_) (fun h => ?_)
  · refine aw_bipush C (tb_at ok_X8_film 16 rfl) kb_m2 ?_
    exact sw_iret C S rfl (tb_at ok_X8_film 17 rfl) h
  · refine aw_iload_n C (tb_at ok_X8_film 3 rfl) rfl ?_
    refine aw_iconst C (tb_at ok_X8_film 4 rfl) ki_m1 ?_
    refine aw_icmp_eq C 20 (tb_at ok_X8_film 5 rfl) (by decide) h (fun h => ?_) (fun h => ?_)
    · exact aw_loc [some (.ref 85), some (.int a1), some (.int a2), some (.int a3), none] (sl_k (sl_k (sl_k (sl_k (sl_n sl_0))))) (t_fM_film_b20 C S hn h)
    · refine aw_aload_n C (tb_at ok_X8_film 6 rfl) rfl ?_
      refine aw_iload_n C (tb_at ok_X8_film 7 rfl) rfl ?_
      refine sw_cVi C S [.int a2] [] (tb_at ok_X8_film 8 rfl) h (fun q e => m_fM_isMaid hn e) mf_X8_isMaid (ob_85 hn) rfl rfl cw_RX8_131 rfl (by decide) rfl (Nat.le_of_ble_eq_true rfl) (fun r7 M7 h => ?_)
      refine aw_if_eq C 32 (tb_at ok_X8_film 9 rfl) (by decide) h (fun h => ?_) (fun h => ?_)
      · refine aw_bipush C (tb_at ok_X8_film 16 rfl) kb_m2 ?_
        exact sw_iret C S rfl (tb_at ok_X8_film 17 rfl) h
      · exact aw_loc [some (.ref 85), some (.int a1), some (.int a2), some (.int a3), none] (sl_k (sl_k (sl_k (sl_k (sl_n sl_0))))) (t_fM_film_b20 C S hn h)
theorem m_fM_film {l : Launch} {w : Wd} {n : Nat} {a1 : Int32} {a2 : Int32} {a3 : Int32} {M : Mem} {r : Int32 × Mem} (hn : 113 ≤ n) (h : fM_film a1 a2 a3 M = some r) : CM l w yX8_film cX8_film 5 (some .int) 70 0 0 [.ref 85, .int a1, .int a2, .int a3] n M (PD M) (Ti n r) := sm_of (loc := [some (.ref 85), some (.int a1), some (.int a2), some (.int a3), none]) mf_X8_film (by decide) (Nat.le_of_ble_eq_true rfl) rfl (fun K _ _ C S => t_fM_film C S hn h)
def tb_X8_draws : List (Nat × Instr × Nat) := [(0, .iload_n 1, 1), (1, .istore_n 2, 1), (2, .iconst 0, 1), (3, .istore_n 3, 1), (4, .iload_n 3, 1), (5, .aload_n 0, 1), (6, .getfield 121, 3), (9, .if_icmp .ge 46, 3), (12, .aload_n 0, 1), (13, .getfield 80, 3), (16, .iload_n 3, 1), (17, .aload_n 0, 1), (18, .getfield 32, 3), (21, .iload_n 3, 1), (22, .iaload, 1), (23, .iastore, 1), (24, .iload_n 2, 1), (25, .ldc_w 373, 3), (28, .imul, 1), (29, .sipush 12345, 3), (32, .iadd, 1), (33, .istore_n 2, 1), (34, .aload_n 0, 1), (35, .getfield 32, 3), (38, .iload_n 3, 1), (39, .iload_n 2, 1), (40, .bipush 9, 2), (42, .iushr, 1), (43, .bipush 50, 2), (45, .irem, 1), (46, .iconst 1, 1), (47, .iadd, 1), (48, .iastore, 1), (49, .iinc 3 1, 3), (52, .goto (-48), 3), (55, .aload_n 0, 1), (56, .invokevirtual 345, 3), (59, .istore_n 3, 1), (60, .iconst 0, 1), (61, .istore 4, 2), (63, .iload 4, 2), (65, .aload_n 0, 1), (66, .getfield 121, 3), (69, .if_icmp .ge 23, 3), (72, .aload_n 0, 1), (73, .getfield 32, 3), (76, .iload 4, 2), (78, .aload_n 0, 1), (79, .getfield 80, 3), (82, .iload 4, 2), (84, .iaload, 1), (85, .iastore, 1), (86, .iinc 4 1, 3), (89, .goto (-26), 3), (92, .iload_n 3, 1), (93, .ireturn, 1)]
theorem ok_X8_draws : TB cX8_draws tb_X8_draws := (by decide +kernel : tb_X8_draws.all (fun q => tbq cX8_draws q) = true)
set_option maxHeartbeats 4000000 in
set_option maxRecDepth 20000 in
theorem t_fM_draws_b63 {K : Cx} {n : Nat} {a3 : Int32} {r : Int32 × Mem} (C : Ctx K RX8 cX8_draws) (S : SS K n 72 5 (some .int) (Ti n r)) (hn : 113 ≤ n) : ∀ (z : Nat) (a4 : Int32) (M : Mem), fM_draws_b63 a3 z a4 M = some r → AS K n M 63 [some (.ref 85), none, none, some (.int a3), some (.int a4)] [] := by
  intro z
  induction z with
  | zero => intro a4 M h; cases h
  | succ z ih =>
    intro a4 M h
    refine aw_iload C (tb_at ok_X8_draws 40 rfl) rfl ?_
    refine aw_aload_n C (tb_at ok_X8_draws 41 rfl) rfl ?_
    refine aw_get C (ob_85 hn) rfl (by decide) rfl fl_RX8_121 (tb_at ok_X8_draws 42 rfl) ?_
    refine aw_icmp_ge C 92 (tb_at ok_X8_draws 43 rfl) (by decide) h (fun h => ?_) (fun h => ?_)
    · refine aw_iload_n C (tb_at ok_X8_draws 54 rfl) rfl ?_
      exact sw_iret C S rfl (tb_at ok_X8_draws 55 rfl) h
    · refine aw_aload_n C (tb_at ok_X8_draws 44 rfl) rfl ?_
      refine aw_getR C (ob_85 hn) rfl (by decide) rfl p_85_10 fl_RX8_32 (tb_at ok_X8_draws 45 rfl) ?_
      refine aw_iload C (tb_at ok_X8_draws 46 rfl) rfl ?_
      refine aw_aload_n C (tb_at ok_X8_draws 47 rfl) rfl ?_
      refine aw_getR C (ob_85 hn) rfl (by decide) rfl p_85_48 fl_RX8_80 (tb_at ok_X8_draws 48 rfl) ?_
      refine aw_iload C (tb_at ok_X8_draws 49 rfl) rfl ?_
      refine aw_iald C (ob_106 hn) (tb_at ok_X8_draws 50 rfl) h (fun h => ?_)
      refine sw_iast C (ob_91 hn) (tb_at ok_X8_draws 51 rfl) h (fun h => ?_)
      refine aw_iinc C [some (.ref 85), none, none, some (.int a3), some (.int (a4 + 1))] (tb_at ok_X8_draws 52 rfl) rfl S.2.2.2.1 (by decide) ki_1 rfl ?_
      refine aw_goto C 63 (tb_at ok_X8_draws 53 rfl) (by decide) ?_
      exact aw_loc [some (.ref 85), none, none, some (.int a3), some (.int (a4 + 1))] (sl_k (sl_n (sl_n (sl_k (sl_k sl_0))))) (ih _ _ h)
set_option maxHeartbeats 4000000 in
set_option maxRecDepth 20000 in
theorem t_fM_draws_b4 {K : Cx} {n : Nat} {r : Int32 × Mem} (C : Ctx K RX8 cX8_draws) (S : SS K n 72 5 (some .int) (Ti n r)) (hn : 113 ≤ n) : ∀ (z : Nat) (a2 : Int32) (a3 : Int32) (M : Mem), fM_draws_b4 z a2 a3 M = some r → AS K n M 4 [some (.ref 85), none, some (.int a2), some (.int a3), none] [] := by
  intro z
  induction z with
  | zero => intro a2 a3 M h; cases h
  | succ z ih =>
    intro a2 a3 M h
    refine aw_iload_n C (tb_at ok_X8_draws 4 rfl) rfl ?_
    refine aw_aload_n C (tb_at ok_X8_draws 5 rfl) rfl ?_
    refine aw_get C (ob_85 hn) rfl (by decide) rfl fl_RX8_121 (tb_at ok_X8_draws 6 rfl) ?_
    refine aw_icmp_ge C 55 (tb_at ok_X8_draws 7 rfl) (by decide) h (fun h => ?_) (fun h => ?_)
    · refine aw_aload_n C (tb_at ok_X8_draws 35 rfl) rfl ?_
      refine sw_cVi C S [] [] (tb_at ok_X8_draws 36 rfl) h (fun q e => m_fM_dear hn e) mf_X8_dear (ob_85 hn) rfl rfl cw_RX8_345 rfl (by decide) rfl (Nat.le_of_ble_eq_true rfl) (fun r1 M1 h => ?_)
      refine aw_istore_n C [some (.ref 85), none, some (.int a2), some (.int r1), none] (tb_at ok_X8_draws 37 rfl) S.2.2.2.1 (by decide) rfl ?_
      refine aw_iconst C (tb_at ok_X8_draws 38 rfl) ki_0 ?_
      refine aw_istore C [some (.ref 85), none, some (.int a2), some (.int r1), some (.int 0)] (tb_at ok_X8_draws 39 rfl) S.2.2.2.1 (by decide) rfl ?_
      exact aw_loc [some (.ref 85), none, none, some (.int r1), some (.int 0)] (sl_k (sl_n (sl_n (sl_k (sl_k sl_0))))) (t_fM_draws_b63 C S hn 1000 _ _ h)
    · refine aw_aload_n C (tb_at ok_X8_draws 8 rfl) rfl ?_
      refine aw_getR C (ob_85 hn) rfl (by decide) rfl p_85_48 fl_RX8_80 (tb_at ok_X8_draws 9 rfl) ?_
      refine aw_iload_n C (tb_at ok_X8_draws 10 rfl) rfl ?_
      refine aw_aload_n C (tb_at ok_X8_draws 11 rfl) rfl ?_
      refine aw_getR C (ob_85 hn) rfl (by decide) rfl p_85_10 fl_RX8_32 (tb_at ok_X8_draws 12 rfl) ?_
      refine aw_iload_n C (tb_at ok_X8_draws 13 rfl) rfl ?_
      refine aw_iald C (ob_91 hn) (tb_at ok_X8_draws 14 rfl) h (fun h => ?_)
      refine sw_iast C (ob_106 hn) (tb_at ok_X8_draws 15 rfl) h (fun h => ?_)
      refine aw_iload_n C (tb_at ok_X8_draws 16 rfl) rfl ?_
      refine aw_ldcw C kc_RX8_373 (tb_at ok_X8_draws 17 rfl) ?_
      refine aw_imul C (tb_at ok_X8_draws 18 rfl) ?_
      refine aw_sipush C (tb_at ok_X8_draws 19 rfl) ks_12345 ?_
      refine aw_iadd C (tb_at ok_X8_draws 20 rfl) ?_
      refine aw_istore_n C [some (.ref 85), none, some (.int ((a2 * 1103515245) + 12345)), some (.int a3), none] (tb_at ok_X8_draws 21 rfl) S.2.2.2.1 (by decide) rfl ?_
      refine aw_aload_n C (tb_at ok_X8_draws 22 rfl) rfl ?_
      refine aw_getR C (ob_85 hn) rfl (by decide) rfl p_85_10 fl_RX8_32 (tb_at ok_X8_draws 23 rfl) ?_
      refine aw_iload_n C (tb_at ok_X8_draws 24 rfl) rfl ?_
      refine aw_iload_n C (tb_at ok_X8_draws 25 rfl) rfl ?_
      refine aw_bipush C (tb_at ok_X8_draws 26 rfl) kb_9 ?_
      refine aw_iushr C (tb_at ok_X8_draws 27 rfl) ?_
      refine aw_bipush C (tb_at ok_X8_draws 28 rfl) kb_50 ?_
      refine aw_irem C (by decide) (tb_at ok_X8_draws 29 rfl) ?_
      refine aw_iconst C (tb_at ok_X8_draws 30 rfl) ki_1 ?_
      refine aw_iadd C (tb_at ok_X8_draws 31 rfl) ?_
      refine sw_iast C (ob_91 hn) (tb_at ok_X8_draws 32 rfl) h (fun h => ?_)
      refine aw_iinc C [some (.ref 85), none, some (.int ((a2 * 1103515245) + 12345)), some (.int (a3 + 1)), none] (tb_at ok_X8_draws 33 rfl) rfl S.2.2.2.1 (by decide) ki_1 rfl ?_
      refine aw_goto C 4 (tb_at ok_X8_draws 34 rfl) (by decide) ?_
      exact aw_loc [some (.ref 85), none, some (.int ((a2 * 1103515245) + 12345)), some (.int (a3 + 1)), none] (sl_k (sl_n (sl_k (sl_k (sl_n sl_0))))) (ih _ _ _ h)
set_option maxHeartbeats 4000000 in
set_option maxRecDepth 20000 in
theorem t_fM_draws {K : Cx} {n : Nat} {a1 : Int32} {M : Mem} {r : Int32 × Mem} (C : Ctx K RX8 cX8_draws) (S : SS K n 72 5 (some .int) (Ti n r)) (hn : 113 ≤ n) (h : fM_draws a1 M = some r) : AS K n M 0 [some (.ref 85), some (.int a1), none, none, none] [] := by
  refine aw_iload_n C (tb_at ok_X8_draws 0 rfl) rfl ?_
  refine aw_istore_n C [some (.ref 85), some (.int a1), some (.int a1), none, none] (tb_at ok_X8_draws 1 rfl) S.2.2.2.1 (by decide) rfl ?_
  refine aw_iconst C (tb_at ok_X8_draws 2 rfl) ki_0 ?_
  refine aw_istore_n C [some (.ref 85), some (.int a1), some (.int a1), some (.int 0), none] (tb_at ok_X8_draws 3 rfl) S.2.2.2.1 (by decide) rfl ?_
  exact aw_loc [some (.ref 85), none, some (.int a1), some (.int 0), none] (sl_k (sl_n (sl_k (sl_k (sl_n sl_0))))) (t_fM_draws_b4 C S hn 1000 _ _ _ h)
theorem m_fM_draws {l : Launch} {w : Wd} {n : Nat} {a1 : Int32} {M : Mem} {r : Int32 × Mem} (hn : 113 ≤ n) (h : fM_draws a1 M = some r) : CM l w yX8_draws cX8_draws 5 (some .int) 72 0 0 [.ref 85, .int a1] n M (PD M) (Ti n r) := sm_of (loc := [some (.ref 85), some (.int a1), none, none, none]) mf_X8_draws (by decide) (Nat.le_of_ble_eq_true rfl) rfl (fun K _ _ C S => t_fM_draws C S hn h)
def tb_X8_drawn : List (Nat × Instr × Nat) := [(0, .aload_n 0, 1), (1, .iload_n 1, 1), (2, .invokevirtual 374, 3), (5, .ireturn, 1)]
theorem ok_X8_drawn : TB cX8_drawn tb_X8_drawn := (by decide +kernel : tb_X8_drawn.all (fun q => tbq cX8_drawn q) = true)
set_option maxHeartbeats 4000000 in
set_option maxRecDepth 20000 in
theorem t_fM_drawn {K : Cx} {n : Nat} {a1 : Int32} {M : Mem} {r : Int32 × Mem} (C : Ctx K RX8 cX8_drawn) (S : SS K n 73 2 (some .int) (Ti n r)) (hn : 113 ≤ n) (h : fM_drawn a1 M = some r) : AS K n M 0 [some (.ref 85), some (.int a1)] [] := by
  refine aw_aload_n C (tb_at ok_X8_drawn 0 rfl) rfl ?_
  refine aw_iload_n C (tb_at ok_X8_drawn 1 rfl) rfl ?_
  refine sw_cVi C S [.int a1] [] (tb_at ok_X8_drawn 2 rfl) h (fun q e => m_fM_draws hn e) mf_X8_draws (ob_85 hn) rfl rfl cw_RX8_374 rfl (by decide) rfl (Nat.le_of_ble_eq_true rfl) (fun r1 M1 h => ?_)
  exact sw_iret C S rfl (tb_at ok_X8_drawn 3 rfl) h
theorem m_fM_drawn {l : Launch} {w : Wd} {n : Nat} {a1 : Int32} {M : Mem} {r : Int32 × Mem} (hn : 113 ≤ n) (h : fM_drawn a1 M = some r) : CM l w yX8_drawn cX8_drawn 2 (some .int) 73 0 0 [.ref 85, .int a1] n M (PD M) (Ti n r) := sm_of (loc := [some (.ref 85), some (.int a1)]) mf_X8_drawn (by decide) (Nat.le_of_ble_eq_true rfl) rfl (fun K _ _ C S => t_fM_drawn C S hn h)
def tb_X8_chance : List (Nat × Instr × Nat) := [(0, .iload_n 2, 1), (1, .i2l, 1), (2, .lconst 1, 1), (3, .ldc2_w 377, 3), (6, .invokestatic 114, 3), (9, .ifCond .eq 13, 3), (12, .iload_n 3, 1), (13, .i2l, 1), (14, .lconst 0, 1), (15, .lconst 1, 1), (16, .invokestatic 114, 3), (19, .ifCond .ne 7, 3), (22, .ldc2_w 379, 3), (25, .lreturn, 1), (26, .lconst 0, 1), (27, .lstore 4, 2), (29, .iconst 0, 1), (30, .istore 6, 2), (32, .iload 6, 2), (34, .iload_n 2, 1), (35, .if_icmp .ge 58, 3), (38, .aload_n 0, 1), (39, .iload_n 1, 1), (40, .iload 6, 2), (42, .iadd, 1), (43, .invokevirtual 374, 3), (46, .pop, 1), (47, .lload 4, 2), (49, .aload_n 0, 1), (50, .getfield 68, 3), (53, .iconst 0, 1), (54, .iaload, 1), (55, .aload_n 0, 1), (56, .getfield 68, 3), (59, .iconst 1, 1), (60, .iaload, 1), (61, .iadd, 1), (62, .aload_n 0, 1), (63, .getfield 68, 3), (66, .iconst 2, 1), (67, .iaload, 1), (68, .iadd, 1), (69, .aload_n 0, 1), (70, .getfield 68, 3), (73, .iconst 3, 1), (74, .iaload, 1), (75, .iadd, 1), (76, .ifCond .ne 7, 3), (79, .lconst 1, 1), (80, .goto 4, 3), (83, .lconst 0, 1), (84, .ladd, 1), (85, .lstore 4, 2), (87, .iinc 6 1, 3), (90, .goto (-58), 3), (93, .lload 4, 2), (95, .lstore 6, 2), (97, .iload_n 2, 1), (98, .i2l, 1), (99, .lstore 8, 2), (101, .lload 8, 2), (103, .lconst 0, 1), (104, .lcmp, 1), (105, .ifCond .eq 21, 3), (108, .lload 6, 2), (110, .lload 8, 2), (112, .lrem, 1), (113, .lstore 10, 2), (115, .lload 8, 2), (117, .lstore 6, 2), (119, .lload 10, 2), (121, .lstore 8, 2), (123, .goto (-22), 3), (126, .iload_n 3, 1), (127, .ifCond .ne 11, 3), (130, .lload 4, 2), (132, .lload 6, 2), (134, .ldiv, 1), (135, .goto 8, 3), (138, .iload_n 2, 1), (139, .i2l, 1), (140, .lload 6, 2), (142, .ldiv, 1), (143, .lreturn, 1)]
theorem ok_X8_chance : TB cX8_chance tb_X8_chance := (by decide +kernel : tb_X8_chance.all (fun q => tbq cX8_chance q) = true)
set_option maxHeartbeats 4000000 in
set_option maxRecDepth 20000 in
theorem t_fM_chance_b22 {K : Cx} {n : Nat} {M : Mem} {r : Int64 × Mem} (C : Ctx K RX8 cX8_chance) (S : SS K n 73 12 (some .long) (Tl n r)) (hn : 113 ≤ n) (h : fM_chance_b22 M = some r) : AS K n M 22 [none, none, none, none, none, none, none, none, none, none, none, none] [] := by
  refine aw_ldc2 C kc_RX8_379 (tb_at ok_X8_chance 12 rfl) ?_
  exact sw_lret C S (tb_at ok_X8_chance 13 rfl) h
set_option maxHeartbeats 4000000 in
set_option maxRecDepth 20000 in
theorem t_fM_chance_b101 {K : Cx} {n : Nat} {a2 : Int32} {a3 : Int32} {a4 : Int64} {r : Int64 × Mem} (C : Ctx K RX8 cX8_chance) (S : SS K n 73 12 (some .long) (Tl n r)) (hn : 113 ≤ n) : ∀ (z : Nat) (a6 : Int64) (a8 : Int64) (M : Mem), fM_chance_b101 a2 a3 a4 z a6 a8 M = some r → AS K n M 101 [none, none, some (.int a2), some (.int a3), some (.long a4), none, some (.long a6), none, some (.long a8), none, none, none] [] := by
  intro z
  induction z with
  | zero => intro a6 a8 M h; cases h
  | succ z ih =>
    intro a6 a8 M h
    refine aw_lload C (tb_at ok_X8_chance 60 rfl) rfl ?_
    refine aw_lconst C (tb_at ok_X8_chance 61 rfl) kl_0 ?_
    refine aw_lcmp C (tb_at ok_X8_chance 62 rfl) ?_
    refine aw_if_eq C 126 (tb_at ok_X8_chance 63 rfl) (by decide) h (fun h => ?_) (fun h => ?_)
    · refine aw_iload_n C (tb_at ok_X8_chance 73 rfl) rfl ?_
      refine aw_if_ne C 138 (tb_at ok_X8_chance 74 rfl) (by decide) h (fun h => ?_) (fun h => ?_)
      · refine aw_lload C (tb_at ok_X8_chance 75 rfl) rfl ?_
        refine aw_lload C (tb_at ok_X8_chance 76 rfl) rfl ?_
        refine sw_ldiv C (tb_at ok_X8_chance 77 rfl) h (fun h => ?_)
        refine aw_goto C 143 (tb_at ok_X8_chance 78 rfl) (by decide) ?_
        exact sw_lret C S (tb_at ok_X8_chance 83 rfl) h
      · refine aw_iload_n C (tb_at ok_X8_chance 79 rfl) rfl ?_
        refine aw_i2l C (tb_at ok_X8_chance 80 rfl) ?_
        refine aw_lload C (tb_at ok_X8_chance 81 rfl) rfl ?_
        refine sw_ldiv C (tb_at ok_X8_chance 82 rfl) h (fun h => ?_)
        exact sw_lret C S (tb_at ok_X8_chance 83 rfl) h
    · refine aw_lload C (tb_at ok_X8_chance 64 rfl) rfl ?_
      refine aw_lload C (tb_at ok_X8_chance 65 rfl) rfl ?_
      refine sw_lrem C (tb_at ok_X8_chance 66 rfl) h (fun h => ?_)
      refine aw_lstore C [none, none, some (.int a2), some (.int a3), some (.long a4), none, some (.long a6), none, some (.long a8), none, some (.long (a6 - a6 / a8 * a8)), none] (tb_at ok_X8_chance 67 rfl) S.2.2.2.1 (by decide) rfl ?_
      refine aw_lload C (tb_at ok_X8_chance 68 rfl) rfl ?_
      refine aw_lstore C [none, none, some (.int a2), some (.int a3), some (.long a4), none, some (.long a8), none, some (.long a8), none, some (.long (a6 - a6 / a8 * a8)), none] (tb_at ok_X8_chance 69 rfl) S.2.2.2.1 (by decide) rfl ?_
      refine aw_lload C (tb_at ok_X8_chance 70 rfl) rfl ?_
      refine aw_lstore C [none, none, some (.int a2), some (.int a3), some (.long a4), none, some (.long a8), none, some (.long (a6 - a6 / a8 * a8)), none, some (.long (a6 - a6 / a8 * a8)), none] (tb_at ok_X8_chance 71 rfl) S.2.2.2.1 (by decide) rfl ?_
      refine aw_goto C 101 (tb_at ok_X8_chance 72 rfl) (by decide) ?_
      exact aw_loc [none, none, some (.int a2), some (.int a3), some (.long a4), none, some (.long a8), none, some (.long (a6 - a6 / a8 * a8)), none, none, none] (sl_n (sl_n (sl_k (sl_k (sl_k (sl_n (sl_k (sl_n (sl_k (sl_n (sl_n (sl_n sl_0)))))))))))) (ih _ _ _ h)
set_option maxHeartbeats 4000000 in
set_option maxRecDepth 20000 in
theorem t_fM_chance_b84 {K : Cx} {n : Nat} {k32 : Int64 → Int32 → Mem → Option (Int64 × Mem)} {a1 : Int32} {a2 : Int32} {a3 : Int32} {a6 : Int32} {s0 : Int64} {s1 : Int64} {M : Mem} {r : Int64 × Mem} (C : Ctx K RX8 cX8_chance) (S : SS K n 73 12 (some .long) (Tl n r)) (hn : 113 ≤ n) (hk32 : ∀ (va4 : Int64) (va6 : Int32) (M1 : Mem), k32 va4 va6 M1 = some r → AS K n M1 32 [some (.ref 85), some (.int a1), some (.int a2), some (.int a3), some (.long va4), none, some (.int va6), none, none, none, none, none] []) (h : fM_chance_b84 k32 a1 a2 a3 a6 s0 s1 M = some r) : AS K n M 84 [some (.ref 85), some (.int a1), some (.int a2), some (.int a3), none, none, some (.int a6), none, none, none, none, none] [.long s0, .long s1] := by
  refine aw_ladd C (tb_at ok_X8_chance 51 rfl) ?_
  refine aw_lstore C [some (.ref 85), some (.int a1), some (.int a2), some (.int a3), some (.long (s1 + s0)), none, some (.int a6), none, none, none, none, none] (tb_at ok_X8_chance 52 rfl) S.2.2.2.1 (by decide) rfl ?_
  refine aw_iinc C [some (.ref 85), some (.int a1), some (.int a2), some (.int a3), some (.long (s1 + s0)), none, some (.int (a6 + 1)), none, none, none, none, none] (tb_at ok_X8_chance 53 rfl) rfl S.2.2.2.1 (by decide) ki_1 rfl ?_
  refine aw_goto C 32 (tb_at ok_X8_chance 54 rfl) (by decide) ?_
  exact aw_loc [some (.ref 85), some (.int a1), some (.int a2), some (.int a3), some (.long (s1 + s0)), none, some (.int (a6 + 1)), none, none, none, none, none] (sl_k (sl_k (sl_k (sl_k (sl_k (sl_n (sl_k (sl_n (sl_n (sl_n (sl_n (sl_n sl_0)))))))))))) (hk32 _ _ _ h)
set_option maxHeartbeats 4000000 in
set_option maxRecDepth 20000 in
theorem t_fM_chance_b32 {K : Cx} {n : Nat} {a1 : Int32} {a2 : Int32} {a3 : Int32} {r : Int64 × Mem} (C : Ctx K RX8 cX8_chance) (S : SS K n 73 12 (some .long) (Tl n r)) (hn : 113 ≤ n) : ∀ (z : Nat) (a4 : Int64) (a6 : Int32) (M : Mem), fM_chance_b32 a1 a2 a3 z a4 a6 M = some r → AS K n M 32 [some (.ref 85), some (.int a1), some (.int a2), some (.int a3), some (.long a4), none, some (.int a6), none, none, none, none, none] [] := by
  intro z
  induction z with
  | zero => intro a4 a6 M h; cases h
  | succ z ih =>
    intro a4 a6 M h
    refine aw_iload C (tb_at ok_X8_chance 18 rfl) rfl ?_
    refine aw_iload_n C (tb_at ok_X8_chance 19 rfl) rfl ?_
    refine aw_icmp_ge C 93 (tb_at ok_X8_chance 20 rfl) (by decide) h (fun h => ?_) (fun h => ?_)
    · refine aw_lload C (tb_at ok_X8_chance 55 rfl) rfl ?_
      refine aw_lstore C [some (.ref 85), some (.int a1), some (.int a2), some (.int a3), some (.long a4), none, some (.long a4), none, none, none, none, none] (tb_at ok_X8_chance 56 rfl) S.2.2.2.1 (by decide) rfl ?_
      refine aw_iload_n C (tb_at ok_X8_chance 57 rfl) rfl ?_
      refine aw_i2l C (tb_at ok_X8_chance 58 rfl) ?_
      refine aw_lstore C [some (.ref 85), some (.int a1), some (.int a2), some (.int a3), some (.long a4), none, some (.long a4), none, some (.long (a2.toInt64)), none, none, none] (tb_at ok_X8_chance 59 rfl) S.2.2.2.1 (by decide) rfl ?_
      exact aw_loc [none, none, some (.int a2), some (.int a3), some (.long a4), none, some (.long a4), none, some (.long (a2.toInt64)), none, none, none] (sl_n (sl_n (sl_k (sl_k (sl_k (sl_n (sl_k (sl_n (sl_k (sl_n (sl_n (sl_n sl_0)))))))))))) (t_fM_chance_b101 C S hn 1000 _ _ _ h)
    · refine aw_aload_n C (tb_at ok_X8_chance 21 rfl) rfl ?_
      refine aw_iload_n C (tb_at ok_X8_chance 22 rfl) rfl ?_
      refine aw_iload C (tb_at ok_X8_chance 23 rfl) rfl ?_
      refine aw_iadd C (tb_at ok_X8_chance 24 rfl) ?_
      refine sw_cVi C S [.int (a1 + a6)] [] (tb_at ok_X8_chance 25 rfl) h (fun q e => m_fM_draws hn e) mf_X8_draws (ob_85 hn) rfl rfl cw_RX8_374 rfl (by decide) rfl (Nat.le_of_ble_eq_true rfl) (fun r3 M3 h => ?_)
      refine aw_pop C (tb_at ok_X8_chance 26 rfl) rfl ?_
      refine aw_lload C (tb_at ok_X8_chance 27 rfl) rfl ?_
      refine aw_aload_n C (tb_at ok_X8_chance 28 rfl) rfl ?_
      refine aw_getR C (ob_85 hn) rfl (by decide) rfl p_85_40 fl_RX8_68 (tb_at ok_X8_chance 29 rfl) ?_
      refine aw_iconst C (tb_at ok_X8_chance 30 rfl) ki_0 ?_
      refine aw_iald C (ob_102 hn) (tb_at ok_X8_chance 31 rfl) h (fun h => ?_)
      refine aw_aload_n C (tb_at ok_X8_chance 32 rfl) rfl ?_
      refine aw_getR C (ob_85 hn) rfl (by decide) rfl p_85_40 fl_RX8_68 (tb_at ok_X8_chance 33 rfl) ?_
      refine aw_iconst C (tb_at ok_X8_chance 34 rfl) ki_1 ?_
      refine aw_iald C (ob_102 hn) (tb_at ok_X8_chance 35 rfl) h (fun h => ?_)
      refine aw_iadd C (tb_at ok_X8_chance 36 rfl) ?_
      refine aw_aload_n C (tb_at ok_X8_chance 37 rfl) rfl ?_
      refine aw_getR C (ob_85 hn) rfl (by decide) rfl p_85_40 fl_RX8_68 (tb_at ok_X8_chance 38 rfl) ?_
      refine aw_iconst C (tb_at ok_X8_chance 39 rfl) ki_2 ?_
      refine aw_iald C (ob_102 hn) (tb_at ok_X8_chance 40 rfl) h (fun h => ?_)
      refine aw_iadd C (tb_at ok_X8_chance 41 rfl) ?_
      refine aw_aload_n C (tb_at ok_X8_chance 42 rfl) rfl ?_
      refine aw_getR C (ob_85 hn) rfl (by decide) rfl p_85_40 fl_RX8_68 (tb_at ok_X8_chance 43 rfl) ?_
      refine aw_iconst C (tb_at ok_X8_chance 44 rfl) ki_3 ?_
      refine aw_iald C (ob_102 hn) (tb_at ok_X8_chance 45 rfl) h (fun h => ?_)
      refine aw_iadd C (tb_at ok_X8_chance 46 rfl) ?_
      refine aw_if_ne C 83 (tb_at ok_X8_chance 47 rfl) (by decide) h (fun h => ?_) (fun h => ?_)
      · refine aw_lconst C (tb_at ok_X8_chance 48 rfl) kl_1 ?_
        refine aw_goto C 84 (tb_at ok_X8_chance 49 rfl) (by decide) ?_
        exact aw_loc [some (.ref 85), some (.int a1), some (.int a2), some (.int a3), none, none, some (.int a6), none, none, none, none, none] (sl_k (sl_k (sl_k (sl_k (sl_n (sl_n (sl_k (sl_n (sl_n (sl_n (sl_n (sl_n sl_0)))))))))))) (t_fM_chance_b84 C S hn ih h)
      · refine aw_lconst C (tb_at ok_X8_chance 50 rfl) kl_0 ?_
        exact aw_loc [some (.ref 85), some (.int a1), some (.int a2), some (.int a3), none, none, some (.int a6), none, none, none, none, none] (sl_k (sl_k (sl_k (sl_k (sl_n (sl_n (sl_k (sl_n (sl_n (sl_n (sl_n (sl_n sl_0)))))))))))) (t_fM_chance_b84 C S hn ih h)
set_option maxHeartbeats 4000000 in
set_option maxRecDepth 20000 in
theorem t_fM_chance {K : Cx} {n : Nat} {a1 : Int32} {a2 : Int32} {a3 : Int32} {M : Mem} {r : Int64 × Mem} (C : Ctx K RX8 cX8_chance) (S : SS K n 73 12 (some .long) (Tl n r)) (hn : 113 ≤ n) (h : fM_chance a1 a2 a3 M = some r) : AS K n M 0 [some (.ref 85), some (.int a1), some (.int a2), some (.int a3), none, none, none, none, none, none, none, none] [] := by
  refine aw_iload_n C (tb_at ok_X8_chance 0 rfl) rfl ?_
  refine aw_i2l C (tb_at ok_X8_chance 1 rfl) ?_
  refine aw_lconst C (tb_at ok_X8_chance 2 rfl) kl_1 ?_
  refine aw_ldc2 C kc_RX8_377 (tb_at ok_X8_chance 3 rfl) ?_
  refine sw_cSi C S [.long (a2.toInt64), .long (1 : Int64), .long (20 : Int64)] [] (tb_at ok_X8_chance 4 rfl) h (fun q e => m_fM_in hn e) mf_X8_in cw_RX8_114 rfl (by decide) rfl (Nat.le_of_ble_eq_true rfl) (fun r1 M1 h => ?_)
  refine aw_if_eq C 22 (tb_at ok_X8_chance 5 rfl) (by decide) h (fun h => ?_) (fun h => ?_)
  · exact aw_loc [none, none, none, none, none, none, none, none, none, none, none, none] (sl_n (sl_n (sl_n (sl_n (sl_n (sl_n (sl_n (sl_n (sl_n (sl_n (sl_n (sl_n sl_0)))))))))))) (t_fM_chance_b22 C S hn h)
  · refine aw_iload_n C (tb_at ok_X8_chance 6 rfl) rfl ?_
    refine aw_i2l C (tb_at ok_X8_chance 7 rfl) ?_
    refine aw_lconst C (tb_at ok_X8_chance 8 rfl) kl_0 ?_
    refine aw_lconst C (tb_at ok_X8_chance 9 rfl) kl_1 ?_
    refine sw_cSi C S [.long (a3.toInt64), .long (0 : Int64), .long (1 : Int64)] [] (tb_at ok_X8_chance 10 rfl) h (fun q e => m_fM_in hn e) mf_X8_in cw_RX8_114 rfl (by decide) rfl (Nat.le_of_ble_eq_true rfl) (fun r2 M2 h => ?_)
    refine aw_if_ne C 26 (tb_at ok_X8_chance 11 rfl) (by decide) h (fun h => ?_) (fun h => ?_)
    · exact aw_loc [none, none, none, none, none, none, none, none, none, none, none, none] (sl_n (sl_n (sl_n (sl_n (sl_n (sl_n (sl_n (sl_n (sl_n (sl_n (sl_n (sl_n sl_0)))))))))))) (t_fM_chance_b22 C S hn h)
    · refine aw_lconst C (tb_at ok_X8_chance 14 rfl) kl_0 ?_
      refine aw_lstore C [some (.ref 85), some (.int a1), some (.int a2), some (.int a3), some (.long (0 : Int64)), none, none, none, none, none, none, none] (tb_at ok_X8_chance 15 rfl) S.2.2.2.1 (by decide) rfl ?_
      refine aw_iconst C (tb_at ok_X8_chance 16 rfl) ki_0 ?_
      refine aw_istore C [some (.ref 85), some (.int a1), some (.int a2), some (.int a3), some (.long (0 : Int64)), none, some (.int 0), none, none, none, none, none] (tb_at ok_X8_chance 17 rfl) S.2.2.2.1 (by decide) rfl ?_
      exact aw_loc [some (.ref 85), some (.int a1), some (.int a2), some (.int a3), some (.long (0 : Int64)), none, some (.int 0), none, none, none, none, none] (sl_k (sl_k (sl_k (sl_k (sl_k (sl_n (sl_k (sl_n (sl_n (sl_n (sl_n (sl_n sl_0)))))))))))) (t_fM_chance_b32 C S hn 1000 _ _ _ h)
theorem m_fM_chance {l : Launch} {w : Wd} {n : Nat} {a1 : Int32} {a2 : Int32} {a3 : Int32} {M : Mem} {r : Int64 × Mem} (hn : 113 ≤ n) (h : fM_chance a1 a2 a3 M = some r) : CM l w yX8_chance cX8_chance 12 (some .long) 73 0 0 [.ref 85, .int a1, .int a2, .int a3] n M (PD M) (Tl n r) := sm_of (loc := [some (.ref 85), some (.int a1), some (.int a2), some (.int a3), none, none, none, none, none, none, none, none]) mf_X8_chance (by decide) (Nat.le_of_ble_eq_true rfl) rfl (fun K _ _ C S => t_fM_chance C S hn h)
def tb_X8_image : List (Nat × Instr × Nat) := [(0, .iconst 0, 1), (1, .istore_n 1, 1), (2, .iload_n 1, 1), (3, .bipush 8, 2), (5, .if_icmp .ge 51, 3), (8, .aload_n 0, 1), (9, .getfield 83, 3), (12, .iload_n 1, 1), (13, .aload_n 0, 1), (14, .getfield 26, 3), (17, .iload_n 1, 1), (18, .iaload, 1), (19, .iastore, 1), (20, .aload_n 0, 1), (21, .getfield 83, 3), (24, .bipush 8, 2), (26, .iload_n 1, 1), (27, .iadd, 1), (28, .aload_n 0, 1), (29, .getfield 29, 3), (32, .iload_n 1, 1), (33, .iaload, 1), (34, .iastore, 1), (35, .aload_n 0, 1), (36, .getfield 83, 3), (39, .bipush 16, 2), (41, .iload_n 1, 1), (42, .iadd, 1), (43, .aload_n 0, 1), (44, .getfield 32, 3), (47, .iload_n 1, 1), (48, .iaload, 1), (49, .iastore, 1), (50, .iinc 1 1, 3), (53, .goto (-51), 3), (56, .iconst 0, 1), (57, .istore_n 1, 1), (58, .iload_n 1, 1), (59, .iconst 4, 1), (60, .if_icmp .ge 50, 3), (63, .aload_n 0, 1), (64, .getfield 86, 3), (67, .iload_n 1, 1), (68, .aload_n 0, 1), (69, .getfield 38, 3), (72, .iload_n 1, 1), (73, .iaload, 1), (74, .iastore, 1), (75, .aload_n 0, 1), (76, .getfield 86, 3), (79, .iconst 4, 1), (80, .iload_n 1, 1), (81, .iadd, 1), (82, .aload_n 0, 1), (83, .getfield 41, 3), (86, .iload_n 1, 1), (87, .iaload, 1), (88, .iastore, 1), (89, .aload_n 0, 1), (90, .getfield 86, 3), (93, .bipush 8, 2), (95, .iload_n 1, 1), (96, .iadd, 1), (97, .aload_n 0, 1), (98, .getfield 47, 3), (101, .iload_n 1, 1), (102, .iaload, 1), (103, .iastore, 1), (104, .iinc 1 1, 3), (107, .goto (-49), 3), (110, .iconst 0, 1), (111, .istore_n 1, 1), (112, .iload_n 1, 1), (113, .bipush 20, 2), (115, .if_icmp .ge 24, 3), (118, .aload_n 0, 1), (119, .getfield 86, 3), (122, .bipush 12, 2), (124, .iload_n 1, 1), (125, .iadd, 1), (126, .aload_n 0, 1), (127, .getfield 44, 3), (130, .iload_n 1, 1), (131, .iaload, 1), (132, .iastore, 1), (133, .iinc 1 1, 3), (136, .goto (-24), 3), (139, .aload_n 0, 1), (140, .aload_n 0, 1), (141, .getfield 118, 3), (144, .putfield 89, 3), (147, .aload_n 0, 1), (148, .aload_n 0, 1), (149, .getfield 23, 3), (152, .putfield 381, 3), (155, .aload_n 0, 1), (156, .aload_n 0, 1), (157, .getfield 121, 3), (160, .putfield 384, 3), (163, .aload_n 0, 1), (164, .aload_n 0, 1), (165, .getfield 297, 3), (168, .putfield 387, 3), (171, .aload_n 0, 1), (172, .getfield 118, 3), (175, .ireturn, 1)]
theorem ok_X8_image : TB cX8_image tb_X8_image := (by decide +kernel : tb_X8_image.all (fun q => tbq cX8_image q) = true)
set_option maxHeartbeats 4000000 in
set_option maxRecDepth 20000 in
theorem t_fM_image_b112 {K : Cx} {n : Nat} {r : Int32 × Mem} (C : Ctx K RX8 cX8_image) (S : SS K n 1 2 (some .int) (Ti n r)) (hn : 113 ≤ n) : ∀ (z : Nat) (a1 : Int32) (M : Mem), fM_image_b112 z a1 M = some r → AS K n M 112 [some (.ref 85), some (.int a1)] [] := by
  intro z
  induction z with
  | zero => intro a1 M h; cases h
  | succ z ih =>
    intro a1 M h
    refine aw_iload_n C (tb_at ok_X8_image 72 rfl) rfl ?_
    refine aw_bipush C (tb_at ok_X8_image 73 rfl) kb_20 ?_
    refine aw_icmp_ge C 139 (tb_at ok_X8_image 74 rfl) (by decide) h (fun h => ?_) (fun h => ?_)
    · refine aw_aload_n C (tb_at ok_X8_image 87 rfl) rfl ?_
      refine aw_aload_n C (tb_at ok_X8_image 88 rfl) rfl ?_
      refine aw_get C (ob_85 hn) rfl (by decide) rfl fl_RX8_118 (tb_at ok_X8_image 89 rfl) ?_
      refine sw_put C (ob_85 hn) rfl (by decide) (by decide) (Or.inr (by decide)) rfl rfl rfl rfl fl_RX8_89 (tb_at ok_X8_image 90 rfl) ?_
      refine aw_aload_n C (tb_at ok_X8_image 91 rfl) rfl ?_
      refine aw_aload_n C (tb_at ok_X8_image 92 rfl) rfl ?_
      refine aw_get C (ob_85 hn) rfl (by decide) rfl fl_RX8_23 (tb_at ok_X8_image 93 rfl) ?_
      refine sw_put C (ob_85 hn) rfl (by decide) (by decide) (Or.inr (by decide)) rfl rfl rfl rfl fl_RX8_381 (tb_at ok_X8_image 94 rfl) ?_
      refine aw_aload_n C (tb_at ok_X8_image 95 rfl) rfl ?_
      refine aw_aload_n C (tb_at ok_X8_image 96 rfl) rfl ?_
      refine aw_get C (ob_85 hn) rfl (by decide) rfl fl_RX8_121 (tb_at ok_X8_image 97 rfl) ?_
      refine sw_put C (ob_85 hn) rfl (by decide) (by decide) (Or.inr (by decide)) rfl rfl rfl rfl fl_RX8_384 (tb_at ok_X8_image 98 rfl) ?_
      refine aw_aload_n C (tb_at ok_X8_image 99 rfl) rfl ?_
      refine aw_aload_n C (tb_at ok_X8_image 100 rfl) rfl ?_
      refine aw_get C (ob_85 hn) rfl (by decide) rfl fl_RX8_297 (tb_at ok_X8_image 101 rfl) ?_
      refine sw_put C (ob_85 hn) rfl (by decide) (by decide) (Or.inr (by decide)) rfl rfl rfl rfl fl_RX8_387 (tb_at ok_X8_image 102 rfl) ?_
      refine aw_aload_n C (tb_at ok_X8_image 103 rfl) rfl ?_
      refine aw_get C (ob_85 hn) rfl (by decide) rfl fl_RX8_118 (tb_at ok_X8_image 104 rfl) ?_
      exact sw_iret C S rfl (tb_at ok_X8_image 105 rfl) h
    · refine aw_aload_n C (tb_at ok_X8_image 75 rfl) rfl ?_
      refine aw_getR C (ob_85 hn) rfl (by decide) rfl p_85_50 fl_RX8_86 (tb_at ok_X8_image 76 rfl) ?_
      refine aw_bipush C (tb_at ok_X8_image 77 rfl) kb_12 ?_
      refine aw_iload_n C (tb_at ok_X8_image 78 rfl) rfl ?_
      refine aw_iadd C (tb_at ok_X8_image 79 rfl) ?_
      refine aw_aload_n C (tb_at ok_X8_image 80 rfl) rfl ?_
      refine aw_getR C (ob_85 hn) rfl (by decide) rfl p_85_15 fl_RX8_44 (tb_at ok_X8_image 81 rfl) ?_
      refine aw_iload_n C (tb_at ok_X8_image 82 rfl) rfl ?_
      refine aw_iald C (ob_95 hn) (tb_at ok_X8_image 83 rfl) h (fun h => ?_)
      refine sw_iast C (ob_108 hn) (tb_at ok_X8_image 84 rfl) h (fun h => ?_)
      refine aw_iinc C [some (.ref 85), some (.int (a1 + 1))] (tb_at ok_X8_image 85 rfl) rfl S.2.2.2.1 (by decide) ki_1 rfl ?_
      refine aw_goto C 112 (tb_at ok_X8_image 86 rfl) (by decide) ?_
      exact aw_loc [some (.ref 85), some (.int (a1 + 1))] (sl_k (sl_k sl_0)) (ih _ _ h)
set_option maxHeartbeats 4000000 in
set_option maxRecDepth 20000 in
theorem t_fM_image_b58 {K : Cx} {n : Nat} {r : Int32 × Mem} (C : Ctx K RX8 cX8_image) (S : SS K n 1 2 (some .int) (Ti n r)) (hn : 113 ≤ n) : ∀ (z : Nat) (a1 : Int32) (M : Mem), fM_image_b58 z a1 M = some r → AS K n M 58 [some (.ref 85), some (.int a1)] [] := by
  intro z
  induction z with
  | zero => intro a1 M h; cases h
  | succ z ih =>
    intro a1 M h
    refine aw_iload_n C (tb_at ok_X8_image 37 rfl) rfl ?_
    refine aw_iconst C (tb_at ok_X8_image 38 rfl) ki_4 ?_
    refine aw_icmp_ge C 110 (tb_at ok_X8_image 39 rfl) (by decide) h (fun h => ?_) (fun h => ?_)
    · refine aw_iconst C (tb_at ok_X8_image 70 rfl) ki_0 ?_
      refine aw_istore_n C [some (.ref 85), some (.int 0)] (tb_at ok_X8_image 71 rfl) S.2.2.2.1 (by decide) rfl ?_
      exact aw_loc [some (.ref 85), some (.int 0)] (sl_k (sl_k sl_0)) (t_fM_image_b112 C S hn 1000 _ _ h)
    · refine aw_aload_n C (tb_at ok_X8_image 40 rfl) rfl ?_
      refine aw_getR C (ob_85 hn) rfl (by decide) rfl p_85_50 fl_RX8_86 (tb_at ok_X8_image 41 rfl) ?_
      refine aw_iload_n C (tb_at ok_X8_image 42 rfl) rfl ?_
      refine aw_aload_n C (tb_at ok_X8_image 43 rfl) rfl ?_
      refine aw_getR C (ob_85 hn) rfl (by decide) rfl p_85_13 fl_RX8_38 (tb_at ok_X8_image 44 rfl) ?_
      refine aw_iload_n C (tb_at ok_X8_image 45 rfl) rfl ?_
      refine aw_iald C (ob_93 hn) (tb_at ok_X8_image 46 rfl) h (fun h => ?_)
      refine sw_iast C (ob_108 hn) (tb_at ok_X8_image 47 rfl) h (fun h => ?_)
      refine aw_aload_n C (tb_at ok_X8_image 48 rfl) rfl ?_
      refine aw_getR C (ob_85 hn) rfl (by decide) rfl p_85_50 fl_RX8_86 (tb_at ok_X8_image 49 rfl) ?_
      refine aw_iconst C (tb_at ok_X8_image 50 rfl) ki_4 ?_
      refine aw_iload_n C (tb_at ok_X8_image 51 rfl) rfl ?_
      refine aw_iadd C (tb_at ok_X8_image 52 rfl) ?_
      refine aw_aload_n C (tb_at ok_X8_image 53 rfl) rfl ?_
      refine aw_getR C (ob_85 hn) rfl (by decide) rfl p_85_14 fl_RX8_41 (tb_at ok_X8_image 54 rfl) ?_
      refine aw_iload_n C (tb_at ok_X8_image 55 rfl) rfl ?_
      refine aw_iald C (ob_94 hn) (tb_at ok_X8_image 56 rfl) h (fun h => ?_)
      refine sw_iast C (ob_108 hn) (tb_at ok_X8_image 57 rfl) h (fun h => ?_)
      refine aw_aload_n C (tb_at ok_X8_image 58 rfl) rfl ?_
      refine aw_getR C (ob_85 hn) rfl (by decide) rfl p_85_50 fl_RX8_86 (tb_at ok_X8_image 59 rfl) ?_
      refine aw_bipush C (tb_at ok_X8_image 60 rfl) kb_8 ?_
      refine aw_iload_n C (tb_at ok_X8_image 61 rfl) rfl ?_
      refine aw_iadd C (tb_at ok_X8_image 62 rfl) ?_
      refine aw_aload_n C (tb_at ok_X8_image 63 rfl) rfl ?_
      refine aw_getR C (ob_85 hn) rfl (by decide) rfl p_85_16 fl_RX8_47 (tb_at ok_X8_image 64 rfl) ?_
      refine aw_iload_n C (tb_at ok_X8_image 65 rfl) rfl ?_
      refine aw_iald C (ob_96 hn) (tb_at ok_X8_image 66 rfl) h (fun h => ?_)
      refine sw_iast C (ob_108 hn) (tb_at ok_X8_image 67 rfl) h (fun h => ?_)
      refine aw_iinc C [some (.ref 85), some (.int (a1 + 1))] (tb_at ok_X8_image 68 rfl) rfl S.2.2.2.1 (by decide) ki_1 rfl ?_
      refine aw_goto C 58 (tb_at ok_X8_image 69 rfl) (by decide) ?_
      exact aw_loc [some (.ref 85), some (.int (a1 + 1))] (sl_k (sl_k sl_0)) (ih _ _ h)
set_option maxHeartbeats 4000000 in
set_option maxRecDepth 20000 in
theorem t_fM_image_b2 {K : Cx} {n : Nat} {r : Int32 × Mem} (C : Ctx K RX8 cX8_image) (S : SS K n 1 2 (some .int) (Ti n r)) (hn : 113 ≤ n) : ∀ (z : Nat) (a1 : Int32) (M : Mem), fM_image_b2 z a1 M = some r → AS K n M 2 [some (.ref 85), some (.int a1)] [] := by
  intro z
  induction z with
  | zero => intro a1 M h; cases h
  | succ z ih =>
    intro a1 M h
    refine aw_iload_n C (tb_at ok_X8_image 2 rfl) rfl ?_
    refine aw_bipush C (tb_at ok_X8_image 3 rfl) kb_8 ?_
    refine aw_icmp_ge C 56 (tb_at ok_X8_image 4 rfl) (by decide) h (fun h => ?_) (fun h => ?_)
    · refine aw_iconst C (tb_at ok_X8_image 35 rfl) ki_0 ?_
      refine aw_istore_n C [some (.ref 85), some (.int 0)] (tb_at ok_X8_image 36 rfl) S.2.2.2.1 (by decide) rfl ?_
      exact aw_loc [some (.ref 85), some (.int 0)] (sl_k (sl_k sl_0)) (t_fM_image_b58 C S hn 1000 _ _ h)
    · refine aw_aload_n C (tb_at ok_X8_image 5 rfl) rfl ?_
      refine aw_getR C (ob_85 hn) rfl (by decide) rfl p_85_49 fl_RX8_83 (tb_at ok_X8_image 6 rfl) ?_
      refine aw_iload_n C (tb_at ok_X8_image 7 rfl) rfl ?_
      refine aw_aload_n C (tb_at ok_X8_image 8 rfl) rfl ?_
      refine aw_getR C (ob_85 hn) rfl (by decide) rfl p_85_8 fl_RX8_26 (tb_at ok_X8_image 9 rfl) ?_
      refine aw_iload_n C (tb_at ok_X8_image 10 rfl) rfl ?_
      refine aw_iald C (ob_89 hn) (tb_at ok_X8_image 11 rfl) h (fun h => ?_)
      refine sw_iast C (ob_107 hn) (tb_at ok_X8_image 12 rfl) h (fun h => ?_)
      refine aw_aload_n C (tb_at ok_X8_image 13 rfl) rfl ?_
      refine aw_getR C (ob_85 hn) rfl (by decide) rfl p_85_49 fl_RX8_83 (tb_at ok_X8_image 14 rfl) ?_
      refine aw_bipush C (tb_at ok_X8_image 15 rfl) kb_8 ?_
      refine aw_iload_n C (tb_at ok_X8_image 16 rfl) rfl ?_
      refine aw_iadd C (tb_at ok_X8_image 17 rfl) ?_
      refine aw_aload_n C (tb_at ok_X8_image 18 rfl) rfl ?_
      refine aw_getR C (ob_85 hn) rfl (by decide) rfl p_85_9 fl_RX8_29 (tb_at ok_X8_image 19 rfl) ?_
      refine aw_iload_n C (tb_at ok_X8_image 20 rfl) rfl ?_
      refine aw_iald C (ob_90 hn) (tb_at ok_X8_image 21 rfl) h (fun h => ?_)
      refine sw_iast C (ob_107 hn) (tb_at ok_X8_image 22 rfl) h (fun h => ?_)
      refine aw_aload_n C (tb_at ok_X8_image 23 rfl) rfl ?_
      refine aw_getR C (ob_85 hn) rfl (by decide) rfl p_85_49 fl_RX8_83 (tb_at ok_X8_image 24 rfl) ?_
      refine aw_bipush C (tb_at ok_X8_image 25 rfl) kb_16 ?_
      refine aw_iload_n C (tb_at ok_X8_image 26 rfl) rfl ?_
      refine aw_iadd C (tb_at ok_X8_image 27 rfl) ?_
      refine aw_aload_n C (tb_at ok_X8_image 28 rfl) rfl ?_
      refine aw_getR C (ob_85 hn) rfl (by decide) rfl p_85_10 fl_RX8_32 (tb_at ok_X8_image 29 rfl) ?_
      refine aw_iload_n C (tb_at ok_X8_image 30 rfl) rfl ?_
      refine aw_iald C (ob_91 hn) (tb_at ok_X8_image 31 rfl) h (fun h => ?_)
      refine sw_iast C (ob_107 hn) (tb_at ok_X8_image 32 rfl) h (fun h => ?_)
      refine aw_iinc C [some (.ref 85), some (.int (a1 + 1))] (tb_at ok_X8_image 33 rfl) rfl S.2.2.2.1 (by decide) ki_1 rfl ?_
      refine aw_goto C 2 (tb_at ok_X8_image 34 rfl) (by decide) ?_
      exact aw_loc [some (.ref 85), some (.int (a1 + 1))] (sl_k (sl_k sl_0)) (ih _ _ h)
set_option maxHeartbeats 4000000 in
set_option maxRecDepth 20000 in
theorem t_fM_image {K : Cx} {n : Nat} {M : Mem} {r : Int32 × Mem} (C : Ctx K RX8 cX8_image) (S : SS K n 1 2 (some .int) (Ti n r)) (hn : 113 ≤ n) (h : fM_image M = some r) : AS K n M 0 [some (.ref 85), none] [] := by
  refine aw_iconst C (tb_at ok_X8_image 0 rfl) ki_0 ?_
  refine aw_istore_n C [some (.ref 85), some (.int 0)] (tb_at ok_X8_image 1 rfl) S.2.2.2.1 (by decide) rfl ?_
  exact aw_loc [some (.ref 85), some (.int 0)] (sl_k (sl_k sl_0)) (t_fM_image_b2 C S hn 1000 _ _ h)
theorem m_fM_image {l : Launch} {w : Wd} {n : Nat} {M : Mem} {r : Int32 × Mem} (hn : 113 ≤ n) (h : fM_image M = some r) : CM l w yX8_image cX8_image 2 (some .int) 1 0 0 [.ref 85] n M (PD M) (Ti n r) := sm_of (loc := [some (.ref 85), none]) mf_X8_image (by decide) (Nat.le_of_ble_eq_true rfl) rfl (fun K _ _ C S => t_fM_image C S hn h)
def tb_X8_back : List (Nat × Instr × Nat) := [(0, .aload_n 0, 1), (1, .getfield 89, 3), (4, .iconst (-1), 1), (5, .if_icmp .ne 6, 3), (8, .bipush (-3), 2), (10, .ireturn, 1), (11, .iconst 0, 1), (12, .istore_n 1, 1), (13, .iload_n 1, 1), (14, .bipush 8, 2), (16, .if_icmp .ge 51, 3), (19, .aload_n 0, 1), (20, .getfield 26, 3), (23, .iload_n 1, 1), (24, .aload_n 0, 1), (25, .getfield 83, 3), (28, .iload_n 1, 1), (29, .iaload, 1), (30, .iastore, 1), (31, .aload_n 0, 1), (32, .getfield 29, 3), (35, .iload_n 1, 1), (36, .aload_n 0, 1), (37, .getfield 83, 3), (40, .bipush 8, 2), (42, .iload_n 1, 1), (43, .iadd, 1), (44, .iaload, 1), (45, .iastore, 1), (46, .aload_n 0, 1), (47, .getfield 32, 3), (50, .iload_n 1, 1), (51, .aload_n 0, 1), (52, .getfield 83, 3), (55, .bipush 16, 2), (57, .iload_n 1, 1), (58, .iadd, 1), (59, .iaload, 1), (60, .iastore, 1), (61, .iinc 1 1, 3), (64, .goto (-51), 3), (67, .iconst 0, 1), (68, .istore_n 1, 1), (69, .iload_n 1, 1), (70, .iconst 4, 1), (71, .if_icmp .ge 50, 3), (74, .aload_n 0, 1), (75, .getfield 38, 3), (78, .iload_n 1, 1), (79, .aload_n 0, 1), (80, .getfield 86, 3), (83, .iload_n 1, 1), (84, .iaload, 1), (85, .iastore, 1), (86, .aload_n 0, 1), (87, .getfield 41, 3), (90, .iload_n 1, 1), (91, .aload_n 0, 1), (92, .getfield 86, 3), (95, .iconst 4, 1), (96, .iload_n 1, 1), (97, .iadd, 1), (98, .iaload, 1), (99, .iastore, 1), (100, .aload_n 0, 1), (101, .getfield 47, 3), (104, .iload_n 1, 1), (105, .aload_n 0, 1), (106, .getfield 86, 3), (109, .bipush 8, 2), (111, .iload_n 1, 1), (112, .iadd, 1), (113, .iaload, 1), (114, .iastore, 1), (115, .iinc 1 1, 3), (118, .goto (-49), 3), (121, .iconst 0, 1), (122, .istore_n 1, 1), (123, .iload_n 1, 1), (124, .bipush 20, 2), (126, .if_icmp .ge 24, 3), (129, .aload_n 0, 1), (130, .getfield 44, 3), (133, .iload_n 1, 1), (134, .aload_n 0, 1), (135, .getfield 86, 3), (138, .bipush 12, 2), (140, .iload_n 1, 1), (141, .iadd, 1), (142, .iaload, 1), (143, .iastore, 1), (144, .iinc 1 1, 3), (147, .goto (-24), 3), (150, .aload_n 0, 1), (151, .aload_n 0, 1), (152, .getfield 89, 3), (155, .putfield 118, 3), (158, .aload_n 0, 1), (159, .aload_n 0, 1), (160, .getfield 381, 3), (163, .putfield 23, 3), (166, .aload_n 0, 1), (167, .aload_n 0, 1), (168, .getfield 384, 3), (171, .putfield 121, 3), (174, .aload_n 0, 1), (175, .aload_n 0, 1), (176, .getfield 387, 3), (179, .putfield 297, 3), (182, .aload_n 0, 1), (183, .getfield 118, 3), (186, .ireturn, 1)]
theorem ok_X8_back : TB cX8_back tb_X8_back := (by decide +kernel : tb_X8_back.all (fun q => tbq cX8_back q) = true)
set_option maxHeartbeats 4000000 in
set_option maxRecDepth 20000 in
theorem t_fM_back_b123 {K : Cx} {n : Nat} {r : Int32 × Mem} (C : Ctx K RX8 cX8_back) (S : SS K n 1 2 (some .int) (Ti n r)) (hn : 113 ≤ n) : ∀ (z : Nat) (a1 : Int32) (M : Mem), fM_back_b123 z a1 M = some r → AS K n M 123 [some (.ref 85), some (.int a1)] [] := by
  intro z
  induction z with
  | zero => intro a1 M h; cases h
  | succ z ih =>
    intro a1 M h
    refine aw_iload_n C (tb_at ok_X8_back 78 rfl) rfl ?_
    refine aw_bipush C (tb_at ok_X8_back 79 rfl) kb_20 ?_
    refine aw_icmp_ge C 150 (tb_at ok_X8_back 80 rfl) (by decide) h (fun h => ?_) (fun h => ?_)
    · refine aw_aload_n C (tb_at ok_X8_back 93 rfl) rfl ?_
      refine aw_aload_n C (tb_at ok_X8_back 94 rfl) rfl ?_
      refine aw_get C (ob_85 hn) rfl (by decide) rfl fl_RX8_89 (tb_at ok_X8_back 95 rfl) ?_
      refine sw_put C (ob_85 hn) rfl (by decide) (by decide) (Or.inr (by decide)) rfl rfl rfl rfl fl_RX8_118 (tb_at ok_X8_back 96 rfl) ?_
      refine aw_aload_n C (tb_at ok_X8_back 97 rfl) rfl ?_
      refine aw_aload_n C (tb_at ok_X8_back 98 rfl) rfl ?_
      refine aw_get C (ob_85 hn) rfl (by decide) rfl fl_RX8_381 (tb_at ok_X8_back 99 rfl) ?_
      refine sw_put C (ob_85 hn) rfl (by decide) (by decide) (Or.inr (by decide)) rfl rfl rfl rfl fl_RX8_23 (tb_at ok_X8_back 100 rfl) ?_
      refine aw_aload_n C (tb_at ok_X8_back 101 rfl) rfl ?_
      refine aw_aload_n C (tb_at ok_X8_back 102 rfl) rfl ?_
      refine aw_get C (ob_85 hn) rfl (by decide) rfl fl_RX8_384 (tb_at ok_X8_back 103 rfl) ?_
      refine sw_put C (ob_85 hn) rfl (by decide) (by decide) (Or.inr (by decide)) rfl rfl rfl rfl fl_RX8_121 (tb_at ok_X8_back 104 rfl) ?_
      refine aw_aload_n C (tb_at ok_X8_back 105 rfl) rfl ?_
      refine aw_aload_n C (tb_at ok_X8_back 106 rfl) rfl ?_
      refine aw_get C (ob_85 hn) rfl (by decide) rfl fl_RX8_387 (tb_at ok_X8_back 107 rfl) ?_
      refine sw_put C (ob_85 hn) rfl (by decide) (by decide) (Or.inr (by decide)) rfl rfl rfl rfl fl_RX8_297 (tb_at ok_X8_back 108 rfl) ?_
      refine aw_aload_n C (tb_at ok_X8_back 109 rfl) rfl ?_
      refine aw_get C (ob_85 hn) rfl (by decide) rfl fl_RX8_118 (tb_at ok_X8_back 110 rfl) ?_
      exact sw_iret C S rfl (tb_at ok_X8_back 111 rfl) h
    · refine aw_aload_n C (tb_at ok_X8_back 81 rfl) rfl ?_
      refine aw_getR C (ob_85 hn) rfl (by decide) rfl p_85_15 fl_RX8_44 (tb_at ok_X8_back 82 rfl) ?_
      refine aw_iload_n C (tb_at ok_X8_back 83 rfl) rfl ?_
      refine aw_aload_n C (tb_at ok_X8_back 84 rfl) rfl ?_
      refine aw_getR C (ob_85 hn) rfl (by decide) rfl p_85_50 fl_RX8_86 (tb_at ok_X8_back 85 rfl) ?_
      refine aw_bipush C (tb_at ok_X8_back 86 rfl) kb_12 ?_
      refine aw_iload_n C (tb_at ok_X8_back 87 rfl) rfl ?_
      refine aw_iadd C (tb_at ok_X8_back 88 rfl) ?_
      refine aw_iald C (ob_108 hn) (tb_at ok_X8_back 89 rfl) h (fun h => ?_)
      refine sw_iast C (ob_95 hn) (tb_at ok_X8_back 90 rfl) h (fun h => ?_)
      refine aw_iinc C [some (.ref 85), some (.int (a1 + 1))] (tb_at ok_X8_back 91 rfl) rfl S.2.2.2.1 (by decide) ki_1 rfl ?_
      refine aw_goto C 123 (tb_at ok_X8_back 92 rfl) (by decide) ?_
      exact aw_loc [some (.ref 85), some (.int (a1 + 1))] (sl_k (sl_k sl_0)) (ih _ _ h)
set_option maxHeartbeats 4000000 in
set_option maxRecDepth 20000 in
theorem t_fM_back_b69 {K : Cx} {n : Nat} {r : Int32 × Mem} (C : Ctx K RX8 cX8_back) (S : SS K n 1 2 (some .int) (Ti n r)) (hn : 113 ≤ n) : ∀ (z : Nat) (a1 : Int32) (M : Mem), fM_back_b69 z a1 M = some r → AS K n M 69 [some (.ref 85), some (.int a1)] [] := by
  intro z
  induction z with
  | zero => intro a1 M h; cases h
  | succ z ih =>
    intro a1 M h
    refine aw_iload_n C (tb_at ok_X8_back 43 rfl) rfl ?_
    refine aw_iconst C (tb_at ok_X8_back 44 rfl) ki_4 ?_
    refine aw_icmp_ge C 121 (tb_at ok_X8_back 45 rfl) (by decide) h (fun h => ?_) (fun h => ?_)
    · refine aw_iconst C (tb_at ok_X8_back 76 rfl) ki_0 ?_
      refine aw_istore_n C [some (.ref 85), some (.int 0)] (tb_at ok_X8_back 77 rfl) S.2.2.2.1 (by decide) rfl ?_
      exact aw_loc [some (.ref 85), some (.int 0)] (sl_k (sl_k sl_0)) (t_fM_back_b123 C S hn 1000 _ _ h)
    · refine aw_aload_n C (tb_at ok_X8_back 46 rfl) rfl ?_
      refine aw_getR C (ob_85 hn) rfl (by decide) rfl p_85_13 fl_RX8_38 (tb_at ok_X8_back 47 rfl) ?_
      refine aw_iload_n C (tb_at ok_X8_back 48 rfl) rfl ?_
      refine aw_aload_n C (tb_at ok_X8_back 49 rfl) rfl ?_
      refine aw_getR C (ob_85 hn) rfl (by decide) rfl p_85_50 fl_RX8_86 (tb_at ok_X8_back 50 rfl) ?_
      refine aw_iload_n C (tb_at ok_X8_back 51 rfl) rfl ?_
      refine aw_iald C (ob_108 hn) (tb_at ok_X8_back 52 rfl) h (fun h => ?_)
      refine sw_iast C (ob_93 hn) (tb_at ok_X8_back 53 rfl) h (fun h => ?_)
      refine aw_aload_n C (tb_at ok_X8_back 54 rfl) rfl ?_
      refine aw_getR C (ob_85 hn) rfl (by decide) rfl p_85_14 fl_RX8_41 (tb_at ok_X8_back 55 rfl) ?_
      refine aw_iload_n C (tb_at ok_X8_back 56 rfl) rfl ?_
      refine aw_aload_n C (tb_at ok_X8_back 57 rfl) rfl ?_
      refine aw_getR C (ob_85 hn) rfl (by decide) rfl p_85_50 fl_RX8_86 (tb_at ok_X8_back 58 rfl) ?_
      refine aw_iconst C (tb_at ok_X8_back 59 rfl) ki_4 ?_
      refine aw_iload_n C (tb_at ok_X8_back 60 rfl) rfl ?_
      refine aw_iadd C (tb_at ok_X8_back 61 rfl) ?_
      refine aw_iald C (ob_108 hn) (tb_at ok_X8_back 62 rfl) h (fun h => ?_)
      refine sw_iast C (ob_94 hn) (tb_at ok_X8_back 63 rfl) h (fun h => ?_)
      refine aw_aload_n C (tb_at ok_X8_back 64 rfl) rfl ?_
      refine aw_getR C (ob_85 hn) rfl (by decide) rfl p_85_16 fl_RX8_47 (tb_at ok_X8_back 65 rfl) ?_
      refine aw_iload_n C (tb_at ok_X8_back 66 rfl) rfl ?_
      refine aw_aload_n C (tb_at ok_X8_back 67 rfl) rfl ?_
      refine aw_getR C (ob_85 hn) rfl (by decide) rfl p_85_50 fl_RX8_86 (tb_at ok_X8_back 68 rfl) ?_
      refine aw_bipush C (tb_at ok_X8_back 69 rfl) kb_8 ?_
      refine aw_iload_n C (tb_at ok_X8_back 70 rfl) rfl ?_
      refine aw_iadd C (tb_at ok_X8_back 71 rfl) ?_
      refine aw_iald C (ob_108 hn) (tb_at ok_X8_back 72 rfl) h (fun h => ?_)
      refine sw_iast C (ob_96 hn) (tb_at ok_X8_back 73 rfl) h (fun h => ?_)
      refine aw_iinc C [some (.ref 85), some (.int (a1 + 1))] (tb_at ok_X8_back 74 rfl) rfl S.2.2.2.1 (by decide) ki_1 rfl ?_
      refine aw_goto C 69 (tb_at ok_X8_back 75 rfl) (by decide) ?_
      exact aw_loc [some (.ref 85), some (.int (a1 + 1))] (sl_k (sl_k sl_0)) (ih _ _ h)
set_option maxHeartbeats 4000000 in
set_option maxRecDepth 20000 in
theorem t_fM_back_b13 {K : Cx} {n : Nat} {r : Int32 × Mem} (C : Ctx K RX8 cX8_back) (S : SS K n 1 2 (some .int) (Ti n r)) (hn : 113 ≤ n) : ∀ (z : Nat) (a1 : Int32) (M : Mem), fM_back_b13 z a1 M = some r → AS K n M 13 [some (.ref 85), some (.int a1)] [] := by
  intro z
  induction z with
  | zero => intro a1 M h; cases h
  | succ z ih =>
    intro a1 M h
    refine aw_iload_n C (tb_at ok_X8_back 8 rfl) rfl ?_
    refine aw_bipush C (tb_at ok_X8_back 9 rfl) kb_8 ?_
    refine aw_icmp_ge C 67 (tb_at ok_X8_back 10 rfl) (by decide) h (fun h => ?_) (fun h => ?_)
    · refine aw_iconst C (tb_at ok_X8_back 41 rfl) ki_0 ?_
      refine aw_istore_n C [some (.ref 85), some (.int 0)] (tb_at ok_X8_back 42 rfl) S.2.2.2.1 (by decide) rfl ?_
      exact aw_loc [some (.ref 85), some (.int 0)] (sl_k (sl_k sl_0)) (t_fM_back_b69 C S hn 1000 _ _ h)
    · refine aw_aload_n C (tb_at ok_X8_back 11 rfl) rfl ?_
      refine aw_getR C (ob_85 hn) rfl (by decide) rfl p_85_8 fl_RX8_26 (tb_at ok_X8_back 12 rfl) ?_
      refine aw_iload_n C (tb_at ok_X8_back 13 rfl) rfl ?_
      refine aw_aload_n C (tb_at ok_X8_back 14 rfl) rfl ?_
      refine aw_getR C (ob_85 hn) rfl (by decide) rfl p_85_49 fl_RX8_83 (tb_at ok_X8_back 15 rfl) ?_
      refine aw_iload_n C (tb_at ok_X8_back 16 rfl) rfl ?_
      refine aw_iald C (ob_107 hn) (tb_at ok_X8_back 17 rfl) h (fun h => ?_)
      refine sw_iast C (ob_89 hn) (tb_at ok_X8_back 18 rfl) h (fun h => ?_)
      refine aw_aload_n C (tb_at ok_X8_back 19 rfl) rfl ?_
      refine aw_getR C (ob_85 hn) rfl (by decide) rfl p_85_9 fl_RX8_29 (tb_at ok_X8_back 20 rfl) ?_
      refine aw_iload_n C (tb_at ok_X8_back 21 rfl) rfl ?_
      refine aw_aload_n C (tb_at ok_X8_back 22 rfl) rfl ?_
      refine aw_getR C (ob_85 hn) rfl (by decide) rfl p_85_49 fl_RX8_83 (tb_at ok_X8_back 23 rfl) ?_
      refine aw_bipush C (tb_at ok_X8_back 24 rfl) kb_8 ?_
      refine aw_iload_n C (tb_at ok_X8_back 25 rfl) rfl ?_
      refine aw_iadd C (tb_at ok_X8_back 26 rfl) ?_
      refine aw_iald C (ob_107 hn) (tb_at ok_X8_back 27 rfl) h (fun h => ?_)
      refine sw_iast C (ob_90 hn) (tb_at ok_X8_back 28 rfl) h (fun h => ?_)
      refine aw_aload_n C (tb_at ok_X8_back 29 rfl) rfl ?_
      refine aw_getR C (ob_85 hn) rfl (by decide) rfl p_85_10 fl_RX8_32 (tb_at ok_X8_back 30 rfl) ?_
      refine aw_iload_n C (tb_at ok_X8_back 31 rfl) rfl ?_
      refine aw_aload_n C (tb_at ok_X8_back 32 rfl) rfl ?_
      refine aw_getR C (ob_85 hn) rfl (by decide) rfl p_85_49 fl_RX8_83 (tb_at ok_X8_back 33 rfl) ?_
      refine aw_bipush C (tb_at ok_X8_back 34 rfl) kb_16 ?_
      refine aw_iload_n C (tb_at ok_X8_back 35 rfl) rfl ?_
      refine aw_iadd C (tb_at ok_X8_back 36 rfl) ?_
      refine aw_iald C (ob_107 hn) (tb_at ok_X8_back 37 rfl) h (fun h => ?_)
      refine sw_iast C (ob_91 hn) (tb_at ok_X8_back 38 rfl) h (fun h => ?_)
      refine aw_iinc C [some (.ref 85), some (.int (a1 + 1))] (tb_at ok_X8_back 39 rfl) rfl S.2.2.2.1 (by decide) ki_1 rfl ?_
      refine aw_goto C 13 (tb_at ok_X8_back 40 rfl) (by decide) ?_
      exact aw_loc [some (.ref 85), some (.int (a1 + 1))] (sl_k (sl_k sl_0)) (ih _ _ h)
set_option maxHeartbeats 4000000 in
set_option maxRecDepth 20000 in
theorem t_fM_back {K : Cx} {n : Nat} {M : Mem} {r : Int32 × Mem} (C : Ctx K RX8 cX8_back) (S : SS K n 1 2 (some .int) (Ti n r)) (hn : 113 ≤ n) (h : fM_back M = some r) : AS K n M 0 [some (.ref 85), none] [] := by
  refine aw_aload_n C (tb_at ok_X8_back 0 rfl) rfl ?_
  refine aw_get C (ob_85 hn) rfl (by decide) rfl fl_RX8_89 (tb_at ok_X8_back 1 rfl) ?_
  refine aw_iconst C (tb_at ok_X8_back 2 rfl) ki_m1 ?_
  refine aw_icmp_ne C 11 (tb_at ok_X8_back 3 rfl) (by decide) h (fun h => ?_) (fun h => ?_)
  · refine aw_bipush C (tb_at ok_X8_back 4 rfl) kb_m3 ?_
    exact sw_iret C S rfl (tb_at ok_X8_back 5 rfl) h
  · refine aw_iconst C (tb_at ok_X8_back 6 rfl) ki_0 ?_
    refine aw_istore_n C [some (.ref 85), some (.int 0)] (tb_at ok_X8_back 7 rfl) S.2.2.2.1 (by decide) rfl ?_
    exact aw_loc [some (.ref 85), some (.int 0)] (sl_k (sl_k sl_0)) (t_fM_back_b13 C S hn 1000 _ _ h)
theorem m_fM_back {l : Launch} {w : Wd} {n : Nat} {M : Mem} {r : Int32 × Mem} (hn : 113 ≤ n) (h : fM_back M = some r) : CM l w yX8_back cX8_back 2 (some .int) 1 0 0 [.ref 85] n M (PD M) (Ti n r) := sm_of (loc := [some (.ref 85), none]) mf_X8_back (by decide) (Nat.le_of_ble_eq_true rfl) rfl (fun K _ _ C S => t_fM_back C S hn h)
def tb_X8_count : List (Nat × Instr × Nat) := [(0, .iload_n 1, 1), (1, .i2l, 1), (2, .lconst 0, 1), (3, .ldc2_w 390, 3), (6, .invokestatic 114, 3), (9, .ifCond .ne 6, 3), (12, .bipush (-2), 2), (14, .ireturn, 1), (15, .iload_n 1, 1), (16, .bipush 6, 2), (18, .if_icmp .ge 67, 3), (21, .iload_n 1, 1), (22, .ifCond .ne 10, 3), (25, .aload_n 0, 1), (26, .getfield 118, 3), (29, .goto 55, 3), (32, .iload_n 1, 1), (33, .iconst 1, 1), (34, .if_icmp .ne 10, 3), (37, .aload_n 0, 1), (38, .getfield 121, 3), (41, .goto 43, 3), (44, .iload_n 1, 1), (45, .iconst 2, 1), (46, .if_icmp .ne 10, 3), (49, .aload_n 0, 1), (50, .getfield 23, 3), (53, .goto 31, 3), (56, .iload_n 1, 1), (57, .iconst 3, 1), (58, .if_icmp .ne 10, 3), (61, .aload_n 0, 1), (62, .getfield 109, 3), (65, .goto 19, 3), (68, .iload_n 1, 1), (69, .iconst 4, 1), (70, .if_icmp .ne 10, 3), (73, .aload_n 0, 1), (74, .getfield 183, 3), (77, .goto 7, 3), (80, .aload_n 0, 1), (81, .getfield 297, 3), (84, .ireturn, 1), (85, .iconst 0, 1), (86, .istore_n 2, 1), (87, .iconst 0, 1), (88, .istore_n 3, 1), (89, .iload_n 3, 1), (90, .bipush 8, 2), (92, .if_icmp .ge 18, 3), (95, .iload_n 2, 1), (96, .aload_n 0, 1), (97, .getfield 26, 3), (100, .iload_n 3, 1), (101, .iaload, 1), (102, .iadd, 1), (103, .istore_n 2, 1), (104, .iinc 3 1, 3), (107, .goto (-18), 3), (110, .iload_n 2, 1), (111, .ireturn, 1)]
theorem ok_X8_count : TB cX8_count tb_X8_count := (by decide +kernel : tb_X8_count.all (fun q => tbq cX8_count q) = true)
set_option maxHeartbeats 4000000 in
set_option maxRecDepth 20000 in
theorem t_fM_count_b89 {K : Cx} {n : Nat} {r : Int32 × Mem} (C : Ctx K RX8 cX8_count) (S : SS K n 2 4 (some .int) (Ti n r)) (hn : 113 ≤ n) : ∀ (z : Nat) (a2 : Int32) (a3 : Int32) (M : Mem), fM_count_b89 z a2 a3 M = some r → AS K n M 89 [some (.ref 85), none, some (.int a2), some (.int a3)] [] := by
  intro z
  induction z with
  | zero => intro a2 a3 M h; cases h
  | succ z ih =>
    intro a2 a3 M h
    refine aw_iload_n C (tb_at ok_X8_count 47 rfl) rfl ?_
    refine aw_bipush C (tb_at ok_X8_count 48 rfl) kb_8 ?_
    refine aw_icmp_ge C 110 (tb_at ok_X8_count 49 rfl) (by decide) h (fun h => ?_) (fun h => ?_)
    · refine aw_iload_n C (tb_at ok_X8_count 59 rfl) rfl ?_
      exact sw_iret C S rfl (tb_at ok_X8_count 60 rfl) h
    · refine aw_iload_n C (tb_at ok_X8_count 50 rfl) rfl ?_
      refine aw_aload_n C (tb_at ok_X8_count 51 rfl) rfl ?_
      refine aw_getR C (ob_85 hn) rfl (by decide) rfl p_85_8 fl_RX8_26 (tb_at ok_X8_count 52 rfl) ?_
      refine aw_iload_n C (tb_at ok_X8_count 53 rfl) rfl ?_
      refine aw_iald C (ob_89 hn) (tb_at ok_X8_count 54 rfl) h (fun h => ?_)
      refine aw_iadd C (tb_at ok_X8_count 55 rfl) ?_
      refine aw_istore_n C [some (.ref 85), none, some (.int (a2 + (M 89 (ix a3)))), some (.int a3)] (tb_at ok_X8_count 56 rfl) S.2.2.2.1 (by decide) rfl ?_
      refine aw_iinc C [some (.ref 85), none, some (.int (a2 + (M 89 (ix a3)))), some (.int (a3 + 1))] (tb_at ok_X8_count 57 rfl) rfl S.2.2.2.1 (by decide) ki_1 rfl ?_
      refine aw_goto C 89 (tb_at ok_X8_count 58 rfl) (by decide) ?_
      exact aw_loc [some (.ref 85), none, some (.int (a2 + (M 89 (ix a3)))), some (.int (a3 + 1))] (sl_k (sl_n (sl_k (sl_k sl_0)))) (ih _ _ _ h)
set_option maxHeartbeats 4000000 in
set_option maxRecDepth 20000 in
theorem t_fM_count {K : Cx} {n : Nat} {a1 : Int32} {M : Mem} {r : Int32 × Mem} (C : Ctx K RX8 cX8_count) (S : SS K n 2 4 (some .int) (Ti n r)) (hn : 113 ≤ n) (h : fM_count a1 M = some r) : AS K n M 0 [some (.ref 85), some (.int a1), none, none] [] := by
  refine aw_iload_n C (tb_at ok_X8_count 0 rfl) rfl ?_
  refine aw_i2l C (tb_at ok_X8_count 1 rfl) ?_
  refine aw_lconst C (tb_at ok_X8_count 2 rfl) kl_0 ?_
  refine aw_ldc2 C kc_RX8_390 (tb_at ok_X8_count 3 rfl) ?_
  refine sw_cSi C S [.long (a1.toInt64), .long (0 : Int64), .long (6 : Int64)] [] (tb_at ok_X8_count 4 rfl) h (fun q e => m_fM_in hn e) mf_X8_in cw_RX8_114 rfl (by decide) rfl (Nat.le_of_ble_eq_true rfl) (fun r1 M1 h => ?_)
  refine aw_if_ne C 15 (tb_at ok_X8_count 5 rfl) (by decide) h (fun h => ?_) (fun h => ?_)
  · refine aw_bipush C (tb_at ok_X8_count 6 rfl) kb_m2 ?_
    exact sw_iret C S rfl (tb_at ok_X8_count 7 rfl) h
  · refine aw_iload_n C (tb_at ok_X8_count 8 rfl) rfl ?_
    refine aw_bipush C (tb_at ok_X8_count 9 rfl) kb_6 ?_
    refine aw_icmp_ge C 85 (tb_at ok_X8_count 10 rfl) (by decide) h (fun h => ?_) (fun h => ?_)
    · refine aw_iconst C (tb_at ok_X8_count 43 rfl) ki_0 ?_
      refine aw_istore_n C [some (.ref 85), some (.int a1), some (.int 0), none] (tb_at ok_X8_count 44 rfl) S.2.2.2.1 (by decide) rfl ?_
      refine aw_iconst C (tb_at ok_X8_count 45 rfl) ki_0 ?_
      refine aw_istore_n C [some (.ref 85), some (.int a1), some (.int 0), some (.int 0)] (tb_at ok_X8_count 46 rfl) S.2.2.2.1 (by decide) rfl ?_
      exact aw_loc [some (.ref 85), none, some (.int 0), some (.int 0)] (sl_k (sl_n (sl_k (sl_k sl_0)))) (t_fM_count_b89 C S hn 1000 _ _ _ h)
    · refine aw_iload_n C (tb_at ok_X8_count 11 rfl) rfl ?_
      refine aw_if_ne C 32 (tb_at ok_X8_count 12 rfl) (by decide) h (fun h => ?_) (fun h => ?_)
      · refine aw_aload_n C (tb_at ok_X8_count 13 rfl) rfl ?_
        refine aw_get C (ob_85 hn) rfl (by decide) rfl fl_RX8_118 (tb_at ok_X8_count 14 rfl) ?_
        refine aw_goto C 84 (tb_at ok_X8_count 15 rfl) (by decide) ?_
        exact sw_iret C S rfl (tb_at ok_X8_count 42 rfl) h
      · refine aw_iload_n C (tb_at ok_X8_count 16 rfl) rfl ?_
        refine aw_iconst C (tb_at ok_X8_count 17 rfl) ki_1 ?_
        refine aw_icmp_ne C 44 (tb_at ok_X8_count 18 rfl) (by decide) h (fun h => ?_) (fun h => ?_)
        · refine aw_aload_n C (tb_at ok_X8_count 19 rfl) rfl ?_
          refine aw_get C (ob_85 hn) rfl (by decide) rfl fl_RX8_121 (tb_at ok_X8_count 20 rfl) ?_
          refine aw_goto C 84 (tb_at ok_X8_count 21 rfl) (by decide) ?_
          exact sw_iret C S rfl (tb_at ok_X8_count 42 rfl) h
        · refine aw_iload_n C (tb_at ok_X8_count 22 rfl) rfl ?_
          refine aw_iconst C (tb_at ok_X8_count 23 rfl) ki_2 ?_
          refine aw_icmp_ne C 56 (tb_at ok_X8_count 24 rfl) (by decide) h (fun h => ?_) (fun h => ?_)
          · refine aw_aload_n C (tb_at ok_X8_count 25 rfl) rfl ?_
            refine aw_get C (ob_85 hn) rfl (by decide) rfl fl_RX8_23 (tb_at ok_X8_count 26 rfl) ?_
            refine aw_goto C 84 (tb_at ok_X8_count 27 rfl) (by decide) ?_
            exact sw_iret C S rfl (tb_at ok_X8_count 42 rfl) h
          · refine aw_iload_n C (tb_at ok_X8_count 28 rfl) rfl ?_
            refine aw_iconst C (tb_at ok_X8_count 29 rfl) ki_3 ?_
            refine aw_icmp_ne C 68 (tb_at ok_X8_count 30 rfl) (by decide) h (fun h => ?_) (fun h => ?_)
            · refine aw_aload_n C (tb_at ok_X8_count 31 rfl) rfl ?_
              refine aw_get C (ob_85 hn) rfl (by decide) rfl fl_RX8_109 (tb_at ok_X8_count 32 rfl) ?_
              refine aw_goto C 84 (tb_at ok_X8_count 33 rfl) (by decide) ?_
              exact sw_iret C S rfl (tb_at ok_X8_count 42 rfl) h
            · refine aw_iload_n C (tb_at ok_X8_count 34 rfl) rfl ?_
              refine aw_iconst C (tb_at ok_X8_count 35 rfl) ki_4 ?_
              refine aw_icmp_ne C 80 (tb_at ok_X8_count 36 rfl) (by decide) h (fun h => ?_) (fun h => ?_)
              · refine aw_aload_n C (tb_at ok_X8_count 37 rfl) rfl ?_
                refine aw_get C (ob_85 hn) rfl (by decide) rfl fl_RX8_183 (tb_at ok_X8_count 38 rfl) ?_
                refine aw_goto C 84 (tb_at ok_X8_count 39 rfl) (by decide) ?_
                exact sw_iret C S rfl (tb_at ok_X8_count 42 rfl) h
              · refine aw_aload_n C (tb_at ok_X8_count 40 rfl) rfl ?_
                refine aw_get C (ob_85 hn) rfl (by decide) rfl fl_RX8_297 (tb_at ok_X8_count 41 rfl) ?_
                exact sw_iret C S rfl (tb_at ok_X8_count 42 rfl) h
theorem m_fM_count {l : Launch} {w : Wd} {n : Nat} {a1 : Int32} {M : Mem} {r : Int32 × Mem} (hn : 113 ≤ n) (h : fM_count a1 M = some r) : CM l w yX8_count cX8_count 4 (some .int) 2 0 0 [.ref 85, .int a1] n M (PD M) (Ti n r) := sm_of (loc := [some (.ref 85), some (.int a1), none, none]) mf_X8_count (by decide) (Nat.le_of_ble_eq_true rfl) rfl (fun K _ _ C S => t_fM_count C S hn h)
def tb_X8_cell : List (Nat × Instr × Nat) := [(0, .iload_n 1, 1), (1, .invokestatic 357, 3), (4, .ifCond .ne 6, 3), (7, .bipush (-2), 2), (9, .ireturn, 1), (10, .aload_n 0, 1), (11, .getfield 92, 3), (14, .iload_n 1, 1), (15, .baload, 1), (16, .ifCond .ne 6, 3), (19, .bipush (-11), 2), (21, .ireturn, 1), (22, .iload_n 2, 1), (23, .i2l, 1), (24, .lconst 0, 1), (25, .aload_n 0, 1), (26, .getfield 99, 3), (29, .iload_n 1, 1), (30, .iaload, 1), (31, .iconst 1, 1), (32, .isub, 1), (33, .i2l, 1), (34, .invokestatic 114, 3), (37, .ifCond .ne 6, 3), (40, .bipush (-12), 2), (42, .ireturn, 1), (43, .aload_n 0, 1), (44, .getfield 102, 3), (47, .bipush 40, 2), (49, .iload_n 1, 1), (50, .imul, 1), (51, .iload_n 2, 1), (52, .iadd, 1), (53, .aload_n 0, 1), (54, .getfield 96, 3), (57, .iload_n 1, 1), (58, .iaload, 1), (59, .ifCond .ne 8, 3), (62, .iload_n 3, 1), (63, .i2b, 1), (64, .goto 19, 3), (67, .aload_n 0, 1), (68, .getfield 96, 3), (71, .iload_n 1, 1), (72, .iaload, 1), (73, .iconst 1, 1), (74, .if_icmp .ne 8, 3), (77, .iload_n 3, 1), (78, .i2s, 1), (79, .goto 4, 3), (82, .iload_n 3, 1), (83, .iastore, 1), (84, .iconst 1, 1), (85, .ireturn, 1)]
theorem ok_X8_cell : TB cX8_cell tb_X8_cell := (by decide +kernel : tb_X8_cell.all (fun q => tbq cX8_cell q) = true)
set_option maxHeartbeats 4000000 in
set_option maxRecDepth 20000 in
theorem t_fM_cell_b83 {K : Cx} {n : Nat} {s0 : Int32} {s1 : Int32} {M : Mem} {r : Int32 × Mem} (C : Ctx K RX8 cX8_cell) (S : SS K n 3 4 (some .int) (Ti n r)) (hn : 113 ≤ n) (h : fM_cell_b83 s0 s1 M = some r) : AS K n M 83 [none, none, none, none] [.int s0, .int s1, .ref 112] := by
  refine sw_iast C (ob_112 hn) (tb_at ok_X8_cell 51 rfl) h (fun h => ?_)
  refine aw_iconst C (tb_at ok_X8_cell 52 rfl) ki_1 ?_
  exact sw_iret C S rfl (tb_at ok_X8_cell 53 rfl) h
set_option maxHeartbeats 4000000 in
set_option maxRecDepth 20000 in
theorem t_fM_cell {K : Cx} {n : Nat} {a1 : Int32} {a2 : Int32} {a3 : Int32} {M : Mem} {r : Int32 × Mem} (C : Ctx K RX8 cX8_cell) (S : SS K n 3 4 (some .int) (Ti n r)) (hn : 113 ≤ n) (h : fM_cell a1 a2 a3 M = some r) : AS K n M 0 [some (.ref 85), some (.int a1), some (.int a2), some (.int a3)] [] := by
  refine aw_iload_n C (tb_at ok_X8_cell 0 rfl) rfl ?_
  refine sw_cSi C S [.int a1] [] (tb_at ok_X8_cell 1 rfl) h (fun q e => m_fM_isSheet hn e) mf_X8_isSheet cw_RX8_357 rfl (by decide) rfl (Nat.le_of_ble_eq_true rfl) (fun r1 M1 h => ?_)
  refine aw_if_ne C 10 (tb_at ok_X8_cell 2 rfl) (by decide) h (fun h => ?_) (fun h => ?_)
  · refine aw_bipush C (tb_at ok_X8_cell 3 rfl) kb_m2 ?_
    exact sw_iret C S rfl (tb_at ok_X8_cell 4 rfl) h
  · refine aw_aload_n C (tb_at ok_X8_cell 5 rfl) rfl ?_
    refine aw_getR C (ob_85 hn) rfl (by decide) rfl p_85_55 fl_RX8_92 (tb_at ok_X8_cell 6 rfl) ?_
    refine aw_iload_n C (tb_at ok_X8_cell 7 rfl) rfl ?_
    refine aw_zald C (ob_109 hn) (tb_at ok_X8_cell 8 rfl) h (fun h => ?_)
    refine aw_if_ne C 22 (tb_at ok_X8_cell 9 rfl) (by decide) h (fun h => ?_) (fun h => ?_)
    · refine aw_bipush C (tb_at ok_X8_cell 10 rfl) kb_m11 ?_
      exact sw_iret C S rfl (tb_at ok_X8_cell 11 rfl) h
    · refine aw_iload_n C (tb_at ok_X8_cell 12 rfl) rfl ?_
      refine aw_i2l C (tb_at ok_X8_cell 13 rfl) ?_
      refine aw_lconst C (tb_at ok_X8_cell 14 rfl) kl_0 ?_
      refine aw_aload_n C (tb_at ok_X8_cell 15 rfl) rfl ?_
      refine aw_getR C (ob_85 hn) rfl (by decide) rfl p_85_57 fl_RX8_99 (tb_at ok_X8_cell 16 rfl) ?_
      refine aw_iload_n C (tb_at ok_X8_cell 17 rfl) rfl ?_
      refine aw_iald C (ob_111 hn) (tb_at ok_X8_cell 18 rfl) h (fun h => ?_)
      refine aw_iconst C (tb_at ok_X8_cell 19 rfl) ki_1 ?_
      refine aw_isub C (tb_at ok_X8_cell 20 rfl) ?_
      refine aw_i2l C (tb_at ok_X8_cell 21 rfl) ?_
      refine sw_cSi C S [.long (a2.toInt64), .long (0 : Int64), .long (((M1 111 (ix a1)) - 1).toInt64)] [] (tb_at ok_X8_cell 22 rfl) h (fun q e => m_fM_in hn e) mf_X8_in cw_RX8_114 rfl (by decide) rfl (Nat.le_of_ble_eq_true rfl) (fun r2 M2 h => ?_)
      refine aw_if_ne C 43 (tb_at ok_X8_cell 23 rfl) (by decide) h (fun h => ?_) (fun h => ?_)
      · refine aw_bipush C (tb_at ok_X8_cell 24 rfl) kb_m12 ?_
        exact sw_iret C S rfl (tb_at ok_X8_cell 25 rfl) h
      · refine aw_aload_n C (tb_at ok_X8_cell 26 rfl) rfl ?_
        refine aw_getR C (ob_85 hn) rfl (by decide) rfl p_85_58 fl_RX8_102 (tb_at ok_X8_cell 27 rfl) ?_
        refine aw_bipush C (tb_at ok_X8_cell 28 rfl) kb_40 ?_
        refine aw_iload_n C (tb_at ok_X8_cell 29 rfl) rfl ?_
        refine aw_imul C (tb_at ok_X8_cell 30 rfl) ?_
        refine aw_iload_n C (tb_at ok_X8_cell 31 rfl) rfl ?_
        refine aw_iadd C (tb_at ok_X8_cell 32 rfl) ?_
        refine aw_aload_n C (tb_at ok_X8_cell 33 rfl) rfl ?_
        refine aw_getR C (ob_85 hn) rfl (by decide) rfl p_85_56 fl_RX8_96 (tb_at ok_X8_cell 34 rfl) ?_
        refine aw_iload_n C (tb_at ok_X8_cell 35 rfl) rfl ?_
        refine aw_iald C (ob_110 hn) (tb_at ok_X8_cell 36 rfl) h (fun h => ?_)
        refine aw_if_ne C 67 (tb_at ok_X8_cell 37 rfl) (by decide) h (fun h => ?_) (fun h => ?_)
        · refine aw_iload_n C (tb_at ok_X8_cell 38 rfl) rfl ?_
          refine aw_i2b C (tb_at ok_X8_cell 39 rfl) ?_
          refine aw_goto C 83 (tb_at ok_X8_cell 40 rfl) (by decide) ?_
          exact aw_loc [none, none, none, none] (sl_n (sl_n (sl_n (sl_n sl_0)))) (t_fM_cell_b83 C S hn h)
        · refine aw_aload_n C (tb_at ok_X8_cell 41 rfl) rfl ?_
          refine aw_getR C (ob_85 hn) rfl (by decide) rfl p_85_56 fl_RX8_96 (tb_at ok_X8_cell 42 rfl) ?_
          refine aw_iload_n C (tb_at ok_X8_cell 43 rfl) rfl ?_
          refine aw_iald C (ob_110 hn) (tb_at ok_X8_cell 44 rfl) h (fun h => ?_)
          refine aw_iconst C (tb_at ok_X8_cell 45 rfl) ki_1 ?_
          refine aw_icmp_ne C 82 (tb_at ok_X8_cell 46 rfl) (by decide) h (fun h => ?_) (fun h => ?_)
          · refine aw_iload_n C (tb_at ok_X8_cell 47 rfl) rfl ?_
            refine aw_i2s C (tb_at ok_X8_cell 48 rfl) ?_
            refine aw_goto C 83 (tb_at ok_X8_cell 49 rfl) (by decide) ?_
            exact aw_loc [none, none, none, none] (sl_n (sl_n (sl_n (sl_n sl_0)))) (t_fM_cell_b83 C S hn h)
          · refine aw_iload_n C (tb_at ok_X8_cell 50 rfl) rfl ?_
            exact aw_loc [none, none, none, none] (sl_n (sl_n (sl_n (sl_n sl_0)))) (t_fM_cell_b83 C S hn h)
theorem m_fM_cell {l : Launch} {w : Wd} {n : Nat} {a1 : Int32} {a2 : Int32} {a3 : Int32} {M : Mem} {r : Int32 × Mem} (hn : 113 ≤ n) (h : fM_cell a1 a2 a3 M = some r) : CM l w yX8_cell cX8_cell 4 (some .int) 3 0 0 [.ref 85, .int a1, .int a2, .int a3] n M (PD M) (Ti n r) := sm_of (loc := [some (.ref 85), some (.int a1), some (.int a2), some (.int a3)]) mf_X8_cell (by decide) (Nat.le_of_ble_eq_true rfl) rfl (fun K _ _ C S => t_fM_cell C S hn h)
def tb_X8_copy : List (Nat × Instr × Nat) := [(0, .iload_n 1, 1), (1, .invokestatic 357, 3), (4, .ifCond .eq 10, 3), (7, .iload_n 3, 1), (8, .invokestatic 357, 3), (11, .ifCond .ne 6, 3), (14, .bipush (-2), 2), (16, .ireturn, 1), (17, .aload_n 0, 1), (18, .getfield 92, 3), (21, .iload_n 1, 1), (22, .baload, 1), (23, .ifCond .eq 12, 3), (26, .aload_n 0, 1), (27, .getfield 92, 3), (30, .iload_n 3, 1), (31, .baload, 1), (32, .ifCond .ne 6, 3), (35, .bipush (-11), 2), (37, .ireturn, 1), (38, .aload_n 0, 1), (39, .getfield 96, 3), (42, .iload_n 1, 1), (43, .iaload, 1), (44, .aload_n 0, 1), (45, .getfield 96, 3), (48, .iload_n 3, 1), (49, .iaload, 1), (50, .if_icmp .eq 6, 3), (53, .bipush (-13), 2), (55, .ireturn, 1), (56, .iload 5, 2), (58, .ifCond .lt 39, 3), (61, .iload_n 2, 1), (62, .ifCond .lt 35, 3), (65, .iload 4, 2), (67, .ifCond .lt 30, 3), (70, .iload_n 2, 1), (71, .aload_n 0, 1), (72, .getfield 99, 3), (75, .iload_n 1, 1), (76, .iaload, 1), (77, .iload 5, 2), (79, .isub, 1), (80, .if_icmp .gt 17, 3), (83, .iload 4, 2), (85, .aload_n 0, 1), (86, .getfield 99, 3), (89, .iload_n 3, 1), (90, .iaload, 1), (91, .iload 5, 2), (93, .isub, 1), (94, .if_icmp .le 6, 3), (97, .bipush (-12), 2), (99, .ireturn, 1), (100, .iload_n 1, 1), (101, .iload_n 3, 1), (102, .if_icmp .ne 13, 3), (105, .iload_n 2, 1), (106, .iload 4, 2), (108, .if_icmp .ge 7, 3), (111, .iconst 1, 1), (112, .goto 4, 3), (115, .iconst 0, 1), (116, .istore 6, 2), (118, .iconst 0, 1), (119, .istore 7, 2), (121, .iload 7, 2), (123, .iload 5, 2), (125, .if_icmp .ge 57, 3), (128, .iload 6, 2), (130, .ifCond .eq 13, 3), (133, .iload 5, 2), (135, .iconst 1, 1), (136, .isub, 1), (137, .iload 7, 2), (139, .isub, 1), (140, .goto 5, 3), (143, .iload 7, 2), (145, .istore 8, 2), (147, .aload_n 0, 1), (148, .getfield 102, 3), (151, .bipush 40, 2), (153, .iload_n 3, 1), (154, .imul, 1), (155, .iload 4, 2), (157, .iadd, 1), (158, .iload 8, 2), (160, .iadd, 1), (161, .aload_n 0, 1), (162, .getfield 102, 3), (165, .bipush 40, 2), (167, .iload_n 1, 1), (168, .imul, 1), (169, .iload_n 2, 1), (170, .iadd, 1), (171, .iload 8, 2), (173, .iadd, 1), (174, .iaload, 1), (175, .iastore, 1), (176, .iinc 7 1, 3), (179, .goto (-58), 3), (182, .iload 5, 2), (184, .ireturn, 1)]
theorem ok_X8_copy : TB cX8_copy tb_X8_copy := (by decide +kernel : tb_X8_copy.all (fun q => tbq cX8_copy q) = true)
set_option maxHeartbeats 4000000 in
set_option maxRecDepth 20000 in
theorem t_fM_copy_b145 {K : Cx} {n : Nat} {k121 : Int32 → Mem → Option (Int32 × Mem)} {a1 : Int32} {a2 : Int32} {a3 : Int32} {a4 : Int32} {a5 : Int32} {a6 : Int32} {a7 : Int32} {s0 : Int32} {M : Mem} {r : Int32 × Mem} (C : Ctx K RX8 cX8_copy) (S : SS K n 3 9 (some .int) (Ti n r)) (hn : 113 ≤ n) (hk121 : ∀ (va7 : Int32) (M1 : Mem), k121 va7 M1 = some r → AS K n M1 121 [some (.ref 85), some (.int a1), some (.int a2), some (.int a3), some (.int a4), some (.int a5), some (.int a6), some (.int va7), none] []) (h : fM_copy_b145 k121 a1 a2 a3 a4 a5 a6 a7 s0 M = some r) : AS K n M 145 [some (.ref 85), some (.int a1), some (.int a2), some (.int a3), some (.int a4), some (.int a5), some (.int a6), some (.int a7), none] [.int s0] := by
  refine aw_istore C [some (.ref 85), some (.int a1), some (.int a2), some (.int a3), some (.int a4), some (.int a5), some (.int a6), some (.int a7), some (.int s0)] (tb_at ok_X8_copy 79 rfl) S.2.2.2.1 (by decide) rfl ?_
  refine aw_aload_n C (tb_at ok_X8_copy 80 rfl) rfl ?_
  refine aw_getR C (ob_85 hn) rfl (by decide) rfl p_85_58 fl_RX8_102 (tb_at ok_X8_copy 81 rfl) ?_
  refine aw_bipush C (tb_at ok_X8_copy 82 rfl) kb_40 ?_
  refine aw_iload_n C (tb_at ok_X8_copy 83 rfl) rfl ?_
  refine aw_imul C (tb_at ok_X8_copy 84 rfl) ?_
  refine aw_iload C (tb_at ok_X8_copy 85 rfl) rfl ?_
  refine aw_iadd C (tb_at ok_X8_copy 86 rfl) ?_
  refine aw_iload C (tb_at ok_X8_copy 87 rfl) rfl ?_
  refine aw_iadd C (tb_at ok_X8_copy 88 rfl) ?_
  refine aw_aload_n C (tb_at ok_X8_copy 89 rfl) rfl ?_
  refine aw_getR C (ob_85 hn) rfl (by decide) rfl p_85_58 fl_RX8_102 (tb_at ok_X8_copy 90 rfl) ?_
  refine aw_bipush C (tb_at ok_X8_copy 91 rfl) kb_40 ?_
  refine aw_iload_n C (tb_at ok_X8_copy 92 rfl) rfl ?_
  refine aw_imul C (tb_at ok_X8_copy 93 rfl) ?_
  refine aw_iload_n C (tb_at ok_X8_copy 94 rfl) rfl ?_
  refine aw_iadd C (tb_at ok_X8_copy 95 rfl) ?_
  refine aw_iload C (tb_at ok_X8_copy 96 rfl) rfl ?_
  refine aw_iadd C (tb_at ok_X8_copy 97 rfl) ?_
  refine aw_iald C (ob_112 hn) (tb_at ok_X8_copy 98 rfl) h (fun h => ?_)
  refine sw_iast C (ob_112 hn) (tb_at ok_X8_copy 99 rfl) h (fun h => ?_)
  refine aw_iinc C [some (.ref 85), some (.int a1), some (.int a2), some (.int a3), some (.int a4), some (.int a5), some (.int a6), some (.int (a7 + 1)), some (.int s0)] (tb_at ok_X8_copy 100 rfl) rfl S.2.2.2.1 (by decide) ki_1 rfl ?_
  refine aw_goto C 121 (tb_at ok_X8_copy 101 rfl) (by decide) ?_
  exact aw_loc [some (.ref 85), some (.int a1), some (.int a2), some (.int a3), some (.int a4), some (.int a5), some (.int a6), some (.int (a7 + 1)), none] (sl_k (sl_k (sl_k (sl_k (sl_k (sl_k (sl_k (sl_k (sl_n sl_0))))))))) (hk121 _ _ h)
set_option maxHeartbeats 4000000 in
set_option maxRecDepth 20000 in
theorem t_fM_copy_b121 {K : Cx} {n : Nat} {a1 : Int32} {a2 : Int32} {a3 : Int32} {a4 : Int32} {a5 : Int32} {a6 : Int32} {r : Int32 × Mem} (C : Ctx K RX8 cX8_copy) (S : SS K n 3 9 (some .int) (Ti n r)) (hn : 113 ≤ n) : ∀ (z : Nat) (a7 : Int32) (M : Mem), fM_copy_b121 a1 a2 a3 a4 a5 a6 z a7 M = some r → AS K n M 121 [some (.ref 85), some (.int a1), some (.int a2), some (.int a3), some (.int a4), some (.int a5), some (.int a6), some (.int a7), none] [] := by
  intro z
  induction z with
  | zero => intro a7 M h; cases h
  | succ z ih =>
    intro a7 M h
    refine aw_iload C (tb_at ok_X8_copy 67 rfl) rfl ?_
    refine aw_iload C (tb_at ok_X8_copy 68 rfl) rfl ?_
    refine aw_icmp_ge C 182 (tb_at ok_X8_copy 69 rfl) (by decide) h (fun h => ?_) (fun h => ?_)
    · refine aw_iload C (tb_at ok_X8_copy 102 rfl) rfl ?_
      exact sw_iret C S rfl (tb_at ok_X8_copy 103 rfl) h
    · refine aw_iload C (tb_at ok_X8_copy 70 rfl) rfl ?_
      refine aw_if_eq C 143 (tb_at ok_X8_copy 71 rfl) (by decide) h (fun h => ?_) (fun h => ?_)
      · refine aw_iload C (tb_at ok_X8_copy 78 rfl) rfl ?_
        exact aw_loc [some (.ref 85), some (.int a1), some (.int a2), some (.int a3), some (.int a4), some (.int a5), some (.int a6), some (.int a7), none] (sl_k (sl_k (sl_k (sl_k (sl_k (sl_k (sl_k (sl_k (sl_n sl_0))))))))) (t_fM_copy_b145 C S hn ih h)
      · refine aw_iload C (tb_at ok_X8_copy 72 rfl) rfl ?_
        refine aw_iconst C (tb_at ok_X8_copy 73 rfl) ki_1 ?_
        refine aw_isub C (tb_at ok_X8_copy 74 rfl) ?_
        refine aw_iload C (tb_at ok_X8_copy 75 rfl) rfl ?_
        refine aw_isub C (tb_at ok_X8_copy 76 rfl) ?_
        refine aw_goto C 145 (tb_at ok_X8_copy 77 rfl) (by decide) ?_
        exact aw_loc [some (.ref 85), some (.int a1), some (.int a2), some (.int a3), some (.int a4), some (.int a5), some (.int a6), some (.int a7), none] (sl_k (sl_k (sl_k (sl_k (sl_k (sl_k (sl_k (sl_k (sl_n sl_0))))))))) (t_fM_copy_b145 C S hn ih h)
set_option maxHeartbeats 4000000 in
set_option maxRecDepth 20000 in
theorem t_fM_copy_b116 {K : Cx} {n : Nat} {a1 : Int32} {a2 : Int32} {a3 : Int32} {a4 : Int32} {a5 : Int32} {s0 : Int32} {M : Mem} {r : Int32 × Mem} (C : Ctx K RX8 cX8_copy) (S : SS K n 3 9 (some .int) (Ti n r)) (hn : 113 ≤ n) (h : fM_copy_b116 a1 a2 a3 a4 a5 s0 M = some r) : AS K n M 116 [some (.ref 85), some (.int a1), some (.int a2), some (.int a3), some (.int a4), some (.int a5), none, none, none] [.int s0] := by
  refine aw_istore C [some (.ref 85), some (.int a1), some (.int a2), some (.int a3), some (.int a4), some (.int a5), some (.int s0), none, none] (tb_at ok_X8_copy 64 rfl) S.2.2.2.1 (by decide) rfl ?_
  refine aw_iconst C (tb_at ok_X8_copy 65 rfl) ki_0 ?_
  refine aw_istore C [some (.ref 85), some (.int a1), some (.int a2), some (.int a3), some (.int a4), some (.int a5), some (.int s0), some (.int 0), none] (tb_at ok_X8_copy 66 rfl) S.2.2.2.1 (by decide) rfl ?_
  exact aw_loc [some (.ref 85), some (.int a1), some (.int a2), some (.int a3), some (.int a4), some (.int a5), some (.int s0), some (.int 0), none] (sl_k (sl_k (sl_k (sl_k (sl_k (sl_k (sl_k (sl_k (sl_n sl_0))))))))) (t_fM_copy_b121 C S hn 1000 _ _ h)
set_option maxHeartbeats 4000000 in
set_option maxRecDepth 20000 in
theorem t_fM_copy_b115 {K : Cx} {n : Nat} {a1 : Int32} {a2 : Int32} {a3 : Int32} {a4 : Int32} {a5 : Int32} {M : Mem} {r : Int32 × Mem} (C : Ctx K RX8 cX8_copy) (S : SS K n 3 9 (some .int) (Ti n r)) (hn : 113 ≤ n) (h : fM_copy_b115 a1 a2 a3 a4 a5 M = some r) : AS K n M 115 [some (.ref 85), some (.int a1), some (.int a2), some (.int a3), some (.int a4), some (.int a5), none, none, none] [] := by
  refine aw_iconst C (tb_at ok_X8_copy 63 rfl) ki_0 ?_
  exact aw_loc [some (.ref 85), some (.int a1), some (.int a2), some (.int a3), some (.int a4), some (.int a5), none, none, none] (sl_k (sl_k (sl_k (sl_k (sl_k (sl_k (sl_n (sl_n (sl_n sl_0))))))))) (t_fM_copy_b116 C S hn h)
set_option maxHeartbeats 4000000 in
set_option maxRecDepth 20000 in
theorem t_fM_copy {K : Cx} {n : Nat} {a1 : Int32} {a2 : Int32} {a3 : Int32} {a4 : Int32} {a5 : Int32} {M : Mem} {r : Int32 × Mem} (C : Ctx K RX8 cX8_copy) (S : SS K n 3 9 (some .int) (Ti n r)) (hn : 113 ≤ n) (h : fM_copy a1 a2 a3 a4 a5 M = some r) : AS K n M 0 [some (.ref 85), some (.int a1), some (.int a2), some (.int a3), some (.int a4), some (.int a5), none, none, none] [] := by
  refine aw_iload_n C (tb_at ok_X8_copy 0 rfl) rfl ?_
  refine sw_cSi C S [.int a1] [] (tb_at ok_X8_copy 1 rfl) h (fun q e => m_fM_isSheet hn e) mf_X8_isSheet cw_RX8_357 rfl (by decide) rfl (Nat.le_of_ble_eq_true rfl) (fun r1 M1 h => ?_)
  refine aw_if_eq C 14 (tb_at ok_X8_copy 2 rfl) (by decide) h (fun h => ?_) (fun h => ?_)
  · refine aw_bipush C (tb_at ok_X8_copy 6 rfl) kb_m2 ?_
    exact sw_iret C S rfl (tb_at ok_X8_copy 7 rfl) h
  · refine aw_iload_n C (tb_at ok_X8_copy 3 rfl) rfl ?_
    refine sw_cSi C S [.int a3] [] (tb_at ok_X8_copy 4 rfl) h (fun q e => m_fM_isSheet hn e) mf_X8_isSheet cw_RX8_357 rfl (by decide) rfl (Nat.le_of_ble_eq_true rfl) (fun r2 M2 h => ?_)
    refine aw_if_ne C 17 (tb_at ok_X8_copy 5 rfl) (by decide) h (fun h => ?_) (fun h => ?_)
    · refine aw_bipush C (tb_at ok_X8_copy 6 rfl) kb_m2 ?_
      exact sw_iret C S rfl (tb_at ok_X8_copy 7 rfl) h
    · refine aw_aload_n C (tb_at ok_X8_copy 8 rfl) rfl ?_
      refine aw_getR C (ob_85 hn) rfl (by decide) rfl p_85_55 fl_RX8_92 (tb_at ok_X8_copy 9 rfl) ?_
      refine aw_iload_n C (tb_at ok_X8_copy 10 rfl) rfl ?_
      refine aw_zald C (ob_109 hn) (tb_at ok_X8_copy 11 rfl) h (fun h => ?_)
      refine aw_if_eq C 35 (tb_at ok_X8_copy 12 rfl) (by decide) h (fun h => ?_) (fun h => ?_)
      · refine aw_bipush C (tb_at ok_X8_copy 18 rfl) kb_m11 ?_
        exact sw_iret C S rfl (tb_at ok_X8_copy 19 rfl) h
      · refine aw_aload_n C (tb_at ok_X8_copy 13 rfl) rfl ?_
        refine aw_getR C (ob_85 hn) rfl (by decide) rfl p_85_55 fl_RX8_92 (tb_at ok_X8_copy 14 rfl) ?_
        refine aw_iload_n C (tb_at ok_X8_copy 15 rfl) rfl ?_
        refine aw_zald C (ob_109 hn) (tb_at ok_X8_copy 16 rfl) h (fun h => ?_)
        refine aw_if_ne C 38 (tb_at ok_X8_copy 17 rfl) (by decide) h (fun h => ?_) (fun h => ?_)
        · refine aw_bipush C (tb_at ok_X8_copy 18 rfl) kb_m11 ?_
          exact sw_iret C S rfl (tb_at ok_X8_copy 19 rfl) h
        · refine aw_aload_n C (tb_at ok_X8_copy 20 rfl) rfl ?_
          refine aw_getR C (ob_85 hn) rfl (by decide) rfl p_85_56 fl_RX8_96 (tb_at ok_X8_copy 21 rfl) ?_
          refine aw_iload_n C (tb_at ok_X8_copy 22 rfl) rfl ?_
          refine aw_iald C (ob_110 hn) (tb_at ok_X8_copy 23 rfl) h (fun h => ?_)
          refine aw_aload_n C (tb_at ok_X8_copy 24 rfl) rfl ?_
          refine aw_getR C (ob_85 hn) rfl (by decide) rfl p_85_56 fl_RX8_96 (tb_at ok_X8_copy 25 rfl) ?_
          refine aw_iload_n C (tb_at ok_X8_copy 26 rfl) rfl ?_
          refine aw_iald C (ob_110 hn) (tb_at ok_X8_copy 27 rfl) h (fun h => ?_)
          refine aw_icmp_eq C 56 (tb_at ok_X8_copy 28 rfl) (by decide) h (fun h => ?_) (fun h => ?_)
          · refine aw_iload C (tb_at ok_X8_copy 31 rfl) rfl ?_
            refine aw_if_lt C 97 (tb_at ok_X8_copy 32 rfl) (by decide) h (fun h => ?_) (fun h => ?_)
            · refine aw_bipush C (tb_at ok_X8_copy 53 rfl) kb_m12 ?_
              exact sw_iret C S rfl (tb_at ok_X8_copy 54 rfl) h
            · refine aw_iload_n C (tb_at ok_X8_copy 33 rfl) rfl ?_
              refine aw_if_lt C 97 (tb_at ok_X8_copy 34 rfl) (by decide) h (fun h => ?_) (fun h => ?_)
              · refine aw_bipush C (tb_at ok_X8_copy 53 rfl) kb_m12 ?_
                exact sw_iret C S rfl (tb_at ok_X8_copy 54 rfl) h
              · refine aw_iload C (tb_at ok_X8_copy 35 rfl) rfl ?_
                refine aw_if_lt C 97 (tb_at ok_X8_copy 36 rfl) (by decide) h (fun h => ?_) (fun h => ?_)
                · refine aw_bipush C (tb_at ok_X8_copy 53 rfl) kb_m12 ?_
                  exact sw_iret C S rfl (tb_at ok_X8_copy 54 rfl) h
                · refine aw_iload_n C (tb_at ok_X8_copy 37 rfl) rfl ?_
                  refine aw_aload_n C (tb_at ok_X8_copy 38 rfl) rfl ?_
                  refine aw_getR C (ob_85 hn) rfl (by decide) rfl p_85_57 fl_RX8_99 (tb_at ok_X8_copy 39 rfl) ?_
                  refine aw_iload_n C (tb_at ok_X8_copy 40 rfl) rfl ?_
                  refine aw_iald C (ob_111 hn) (tb_at ok_X8_copy 41 rfl) h (fun h => ?_)
                  refine aw_iload C (tb_at ok_X8_copy 42 rfl) rfl ?_
                  refine aw_isub C (tb_at ok_X8_copy 43 rfl) ?_
                  refine aw_icmp_gt C 97 (tb_at ok_X8_copy 44 rfl) (by decide) h (fun h => ?_) (fun h => ?_)
                  · refine aw_bipush C (tb_at ok_X8_copy 53 rfl) kb_m12 ?_
                    exact sw_iret C S rfl (tb_at ok_X8_copy 54 rfl) h
                  · refine aw_iload C (tb_at ok_X8_copy 45 rfl) rfl ?_
                    refine aw_aload_n C (tb_at ok_X8_copy 46 rfl) rfl ?_
                    refine aw_getR C (ob_85 hn) rfl (by decide) rfl p_85_57 fl_RX8_99 (tb_at ok_X8_copy 47 rfl) ?_
                    refine aw_iload_n C (tb_at ok_X8_copy 48 rfl) rfl ?_
                    refine aw_iald C (ob_111 hn) (tb_at ok_X8_copy 49 rfl) h (fun h => ?_)
                    refine aw_iload C (tb_at ok_X8_copy 50 rfl) rfl ?_
                    refine aw_isub C (tb_at ok_X8_copy 51 rfl) ?_
                    refine aw_icmp_le C 100 (tb_at ok_X8_copy 52 rfl) (by decide) h (fun h => ?_) (fun h => ?_)
                    · refine aw_iload_n C (tb_at ok_X8_copy 55 rfl) rfl ?_
                      refine aw_iload_n C (tb_at ok_X8_copy 56 rfl) rfl ?_
                      refine aw_icmp_ne C 115 (tb_at ok_X8_copy 57 rfl) (by decide) h (fun h => ?_) (fun h => ?_)
                      · refine aw_iload_n C (tb_at ok_X8_copy 58 rfl) rfl ?_
                        refine aw_iload C (tb_at ok_X8_copy 59 rfl) rfl ?_
                        refine aw_icmp_ge C 115 (tb_at ok_X8_copy 60 rfl) (by decide) h (fun h => ?_) (fun h => ?_)
                        · exact aw_loc [some (.ref 85), some (.int a1), some (.int a2), some (.int a3), some (.int a4), some (.int a5), none, none, none] (sl_k (sl_k (sl_k (sl_k (sl_k (sl_k (sl_n (sl_n (sl_n sl_0))))))))) (t_fM_copy_b115 C S hn h)
                        · refine aw_iconst C (tb_at ok_X8_copy 61 rfl) ki_1 ?_
                          refine aw_goto C 116 (tb_at ok_X8_copy 62 rfl) (by decide) ?_
                          exact aw_loc [some (.ref 85), some (.int a1), some (.int a2), some (.int a3), some (.int a4), some (.int a5), none, none, none] (sl_k (sl_k (sl_k (sl_k (sl_k (sl_k (sl_n (sl_n (sl_n sl_0))))))))) (t_fM_copy_b116 C S hn h)
                      · exact aw_loc [some (.ref 85), some (.int a1), some (.int a2), some (.int a3), some (.int a4), some (.int a5), none, none, none] (sl_k (sl_k (sl_k (sl_k (sl_k (sl_k (sl_n (sl_n (sl_n sl_0))))))))) (t_fM_copy_b115 C S hn h)
                    · refine aw_bipush C (tb_at ok_X8_copy 53 rfl) kb_m12 ?_
                      exact sw_iret C S rfl (tb_at ok_X8_copy 54 rfl) h
          · refine aw_bipush C (tb_at ok_X8_copy 29 rfl) kb_m13 ?_
            exact sw_iret C S rfl (tb_at ok_X8_copy 30 rfl) h
theorem m_fM_copy {l : Launch} {w : Wd} {n : Nat} {a1 : Int32} {a2 : Int32} {a3 : Int32} {a4 : Int32} {a5 : Int32} {M : Mem} {r : Int32 × Mem} (hn : 113 ≤ n) (h : fM_copy a1 a2 a3 a4 a5 M = some r) : CM l w yX8_copy cX8_copy 9 (some .int) 3 0 0 [.ref 85, .int a1, .int a2, .int a3, .int a4, .int a5] n M (PD M) (Ti n r) := sm_of (loc := [some (.ref 85), some (.int a1), some (.int a2), some (.int a3), some (.int a4), some (.int a5), none, none, none]) mf_X8_copy (by decide) (Nat.le_of_ble_eq_true rfl) rfl (fun K _ _ C S => t_fM_copy C S hn h)
def tb_X8_maids : List (Nat × Instr × Nat) := [(0, .iload_n 1, 1), (1, .invokestatic 357, 3), (4, .ifCond .eq 28, 3), (7, .iload_n 2, 1), (8, .i2l, 1), (9, .lconst 0, 1), (10, .ldc2_w 394, 3), (13, .invokestatic 114, 3), (16, .ifCond .eq 16, 3), (19, .iload 4, 2), (21, .i2l, 1), (22, .lconst 0, 1), (23, .ldc2_w 360, 3), (26, .invokestatic 114, 3), (29, .ifCond .ne 6, 3), (32, .bipush (-2), 2), (34, .ireturn, 1), (35, .aload_n 0, 1), (36, .getfield 92, 3), (39, .iload_n 1, 1), (40, .baload, 1), (41, .ifCond .eq 16, 3), (44, .aload_n 0, 1), (45, .getfield 96, 3), (48, .iload_n 1, 1), (49, .iaload, 1), (50, .iload_n 2, 1), (51, .if_icmp .eq 6, 3), (54, .bipush (-13), 2), (56, .ireturn, 1), (57, .aload_n 0, 1), (58, .getfield 92, 3), (61, .iload_n 1, 1), (62, .baload, 1), (63, .ifCond .ne 6, 3), (66, .bipush (-11), 2), (68, .ireturn, 1), (69, .iconst 0, 1), (70, .istore 5, 2), (72, .iconst 0, 1), (73, .istore 6, 2), (75, .iload 6, 2), (77, .iload 4, 2), (79, .if_icmp .ge 88, 3), (82, .iload_n 3, 1), (83, .ifCond .lt 20, 3), (86, .iload_n 3, 1), (87, .aload_n 0, 1), (88, .getfield 99, 3), (91, .iload_n 1, 1), (92, .iaload, 1), (93, .iconst 3, 1), (94, .iload 6, 2), (96, .imul, 1), (97, .isub, 1), (98, .iconst 3, 1), (99, .isub, 1), (100, .if_icmp .le 6, 3), (103, .bipush (-12), 2), (105, .ireturn, 1), (106, .bipush 40, 2), (108, .iload_n 1, 1), (109, .imul, 1), (110, .iload_n 3, 1), (111, .iadd, 1), (112, .iconst 3, 1), (113, .iload 6, 2), (115, .imul, 1), (116, .iadd, 1), (117, .istore 7, 2), (119, .iload 5, 2), (121, .aload_n 0, 1), (122, .aload_n 0, 1), (123, .getfield 102, 3), (126, .iload 7, 2), (128, .iaload, 1), (129, .aload_n 0, 1), (130, .getfield 102, 3), (133, .iload 7, 2), (135, .iconst 1, 1), (136, .iadd, 1), (137, .iaload, 1), (138, .aload_n 0, 1), (139, .getfield 102, 3), (142, .iload 7, 2), (144, .iconst 2, 1), (145, .iadd, 1), (146, .iaload, 1), (147, .invokevirtual 396, 3), (150, .ifCond .lt 7, 3), (153, .iconst 1, 1), (154, .goto 4, 3), (157, .iconst 0, 1), (158, .iadd, 1), (159, .istore 5, 2), (161, .iinc 6 1, 3), (164, .goto (-89), 3), (167, .iload 5, 2), (169, .ireturn, 1)]
theorem ok_X8_maids : TB cX8_maids tb_X8_maids := (by decide +kernel : tb_X8_maids.all (fun q => tbq cX8_maids q) = true)
set_option maxHeartbeats 4000000 in
set_option maxRecDepth 20000 in
theorem t_fM_maids_b158 {K : Cx} {n : Nat} {k75 : Int32 → Int32 → Mem → Option (Int32 × Mem)} {a1 : Int32} {a3 : Int32} {a4 : Int32} {a6 : Int32} {s0 : Int32} {s1 : Int32} {M : Mem} {r : Int32 × Mem} (C : Ctx K RX8 cX8_maids) (S : SS K n 4 8 (some .int) (Ti n r)) (hn : 113 ≤ n) (hk75 : ∀ (va5 : Int32) (va6 : Int32) (M1 : Mem), k75 va5 va6 M1 = some r → AS K n M1 75 [some (.ref 85), some (.int a1), none, some (.int a3), some (.int a4), some (.int va5), some (.int va6), none] []) (h : fM_maids_b158 k75 a1 a3 a4 a6 s0 s1 M = some r) : AS K n M 158 [some (.ref 85), some (.int a1), none, some (.int a3), some (.int a4), none, some (.int a6), none] [.int s0, .int s1] := by
  refine aw_iadd C (tb_at ok_X8_maids 93 rfl) ?_
  refine aw_istore C [some (.ref 85), some (.int a1), none, some (.int a3), some (.int a4), some (.int (s1 + s0)), some (.int a6), none] (tb_at ok_X8_maids 94 rfl) S.2.2.2.1 (by decide) rfl ?_
  refine aw_iinc C [some (.ref 85), some (.int a1), none, some (.int a3), some (.int a4), some (.int (s1 + s0)), some (.int (a6 + 1)), none] (tb_at ok_X8_maids 95 rfl) rfl S.2.2.2.1 (by decide) ki_1 rfl ?_
  refine aw_goto C 75 (tb_at ok_X8_maids 96 rfl) (by decide) ?_
  exact aw_loc [some (.ref 85), some (.int a1), none, some (.int a3), some (.int a4), some (.int (s1 + s0)), some (.int (a6 + 1)), none] (sl_k (sl_k (sl_n (sl_k (sl_k (sl_k (sl_k (sl_n sl_0)))))))) (hk75 _ _ _ h)
set_option maxHeartbeats 4000000 in
set_option maxRecDepth 20000 in
theorem t_fM_maids_b75 {K : Cx} {n : Nat} {a1 : Int32} {a3 : Int32} {a4 : Int32} {r : Int32 × Mem} (C : Ctx K RX8 cX8_maids) (S : SS K n 4 8 (some .int) (Ti n r)) (hn : 113 ≤ n) : ∀ (z : Nat) (a5 : Int32) (a6 : Int32) (M : Mem), fM_maids_b75 a1 a3 a4 z a5 a6 M = some r → AS K n M 75 [some (.ref 85), some (.int a1), none, some (.int a3), some (.int a4), some (.int a5), some (.int a6), none] [] := by
  intro z
  induction z with
  | zero => intro a5 a6 M h; cases h
  | succ z ih =>
    intro a5 a6 M h
    refine aw_iload C (tb_at ok_X8_maids 41 rfl) rfl ?_
    refine aw_iload C (tb_at ok_X8_maids 42 rfl) rfl ?_
    refine aw_icmp_ge C 167 (tb_at ok_X8_maids 43 rfl) (by decide) h (fun h => ?_) (fun h => ?_)
    · refine aw_iload C (tb_at ok_X8_maids 97 rfl) rfl ?_
      exact sw_iret C S rfl (tb_at ok_X8_maids 98 rfl) h
    · refine aw_iload_n C (tb_at ok_X8_maids 44 rfl) rfl ?_
      refine aw_if_lt C 103 (tb_at ok_X8_maids 45 rfl) (by decide) h (fun h => ?_) (fun h => ?_)
      · refine aw_bipush C (tb_at ok_X8_maids 58 rfl) kb_m12 ?_
        exact sw_iret C S rfl (tb_at ok_X8_maids 59 rfl) h
      · refine aw_iload_n C (tb_at ok_X8_maids 46 rfl) rfl ?_
        refine aw_aload_n C (tb_at ok_X8_maids 47 rfl) rfl ?_
        refine aw_getR C (ob_85 hn) rfl (by decide) rfl p_85_57 fl_RX8_99 (tb_at ok_X8_maids 48 rfl) ?_
        refine aw_iload_n C (tb_at ok_X8_maids 49 rfl) rfl ?_
        refine aw_iald C (ob_111 hn) (tb_at ok_X8_maids 50 rfl) h (fun h => ?_)
        refine aw_iconst C (tb_at ok_X8_maids 51 rfl) ki_3 ?_
        refine aw_iload C (tb_at ok_X8_maids 52 rfl) rfl ?_
        refine aw_imul C (tb_at ok_X8_maids 53 rfl) ?_
        refine aw_isub C (tb_at ok_X8_maids 54 rfl) ?_
        refine aw_iconst C (tb_at ok_X8_maids 55 rfl) ki_3 ?_
        refine aw_isub C (tb_at ok_X8_maids 56 rfl) ?_
        refine aw_icmp_le C 106 (tb_at ok_X8_maids 57 rfl) (by decide) h (fun h => ?_) (fun h => ?_)
        · refine aw_bipush C (tb_at ok_X8_maids 60 rfl) kb_40 ?_
          refine aw_iload_n C (tb_at ok_X8_maids 61 rfl) rfl ?_
          refine aw_imul C (tb_at ok_X8_maids 62 rfl) ?_
          refine aw_iload_n C (tb_at ok_X8_maids 63 rfl) rfl ?_
          refine aw_iadd C (tb_at ok_X8_maids 64 rfl) ?_
          refine aw_iconst C (tb_at ok_X8_maids 65 rfl) ki_3 ?_
          refine aw_iload C (tb_at ok_X8_maids 66 rfl) rfl ?_
          refine aw_imul C (tb_at ok_X8_maids 67 rfl) ?_
          refine aw_iadd C (tb_at ok_X8_maids 68 rfl) ?_
          refine aw_istore C [some (.ref 85), some (.int a1), none, some (.int a3), some (.int a4), some (.int a5), some (.int a6), some (.int (((40 * a1) + a3) + (3 * a6)))] (tb_at ok_X8_maids 69 rfl) S.2.2.2.1 (by decide) rfl ?_
          refine aw_iload C (tb_at ok_X8_maids 70 rfl) rfl ?_
          refine aw_aload_n C (tb_at ok_X8_maids 71 rfl) rfl ?_
          refine aw_aload_n C (tb_at ok_X8_maids 72 rfl) rfl ?_
          refine aw_getR C (ob_85 hn) rfl (by decide) rfl p_85_58 fl_RX8_102 (tb_at ok_X8_maids 73 rfl) ?_
          refine aw_iload C (tb_at ok_X8_maids 74 rfl) rfl ?_
          refine aw_iald C (ob_112 hn) (tb_at ok_X8_maids 75 rfl) h (fun h => ?_)
          refine aw_aload_n C (tb_at ok_X8_maids 76 rfl) rfl ?_
          refine aw_getR C (ob_85 hn) rfl (by decide) rfl p_85_58 fl_RX8_102 (tb_at ok_X8_maids 77 rfl) ?_
          refine aw_iload C (tb_at ok_X8_maids 78 rfl) rfl ?_
          refine aw_iconst C (tb_at ok_X8_maids 79 rfl) ki_1 ?_
          refine aw_iadd C (tb_at ok_X8_maids 80 rfl) ?_
          refine aw_iald C (ob_112 hn) (tb_at ok_X8_maids 81 rfl) h (fun h => ?_)
          refine aw_aload_n C (tb_at ok_X8_maids 82 rfl) rfl ?_
          refine aw_getR C (ob_85 hn) rfl (by decide) rfl p_85_58 fl_RX8_102 (tb_at ok_X8_maids 83 rfl) ?_
          refine aw_iload C (tb_at ok_X8_maids 84 rfl) rfl ?_
          refine aw_iconst C (tb_at ok_X8_maids 85 rfl) ki_2 ?_
          refine aw_iadd C (tb_at ok_X8_maids 86 rfl) ?_
          refine aw_iald C (ob_112 hn) (tb_at ok_X8_maids 87 rfl) h (fun h => ?_)
          refine sw_cVi C S [.int (M 112 (ix (((40 * a1) + a3) + (3 * a6)))), .int (M 112 (ix ((((40 * a1) + a3) + (3 * a6)) + 1))), .int (M 112 (ix ((((40 * a1) + a3) + (3 * a6)) + 2)))] [.int a5] (tb_at ok_X8_maids 88 rfl) h (fun q e => m_fM_maid hn e) mf_X8_maid (ob_85 hn) rfl rfl cw_RX8_396 rfl (by decide) rfl (Nat.le_of_ble_eq_true rfl) (fun r4 M4 h => ?_)
          refine aw_if_lt C 157 (tb_at ok_X8_maids 89 rfl) (by decide) h (fun h => ?_) (fun h => ?_)
          · refine aw_iconst C (tb_at ok_X8_maids 92 rfl) ki_0 ?_
            exact aw_loc [some (.ref 85), some (.int a1), none, some (.int a3), some (.int a4), none, some (.int a6), none] (sl_k (sl_k (sl_n (sl_k (sl_k (sl_n (sl_k (sl_n sl_0)))))))) (t_fM_maids_b158 C S hn ih h)
          · refine aw_iconst C (tb_at ok_X8_maids 90 rfl) ki_1 ?_
            refine aw_goto C 158 (tb_at ok_X8_maids 91 rfl) (by decide) ?_
            exact aw_loc [some (.ref 85), some (.int a1), none, some (.int a3), some (.int a4), none, some (.int a6), none] (sl_k (sl_k (sl_n (sl_k (sl_k (sl_n (sl_k (sl_n sl_0)))))))) (t_fM_maids_b158 C S hn ih h)
        · refine aw_bipush C (tb_at ok_X8_maids 58 rfl) kb_m12 ?_
          exact sw_iret C S rfl (tb_at ok_X8_maids 59 rfl) h
set_option maxHeartbeats 4000000 in
set_option maxRecDepth 20000 in
theorem t_fM_maids_b57 {K : Cx} {n : Nat} {a1 : Int32} {a3 : Int32} {a4 : Int32} {M : Mem} {r : Int32 × Mem} (C : Ctx K RX8 cX8_maids) (S : SS K n 4 8 (some .int) (Ti n r)) (hn : 113 ≤ n) (h : fM_maids_b57 a1 a3 a4 M = some r) : AS K n M 57 [some (.ref 85), some (.int a1), none, some (.int a3), some (.int a4), none, none, none] [] := by
  refine aw_aload_n C (tb_at ok_X8_maids 30 rfl) rfl ?_
  refine aw_getR C (ob_85 hn) rfl (by decide) rfl p_85_55 fl_RX8_92 (tb_at ok_X8_maids 31 rfl) ?_
  refine aw_iload_n C (tb_at ok_X8_maids 32 rfl) rfl ?_
  refine aw_zald C (ob_109 hn) (tb_at ok_X8_maids 33 rfl) h (fun h => ?_)
  refine aw_if_ne C 69 (tb_at ok_X8_maids 34 rfl) (by decide) h (fun h => ?_) (fun h => ?_)
  · refine aw_bipush C (tb_at ok_X8_maids 35 rfl) kb_m11 ?_
    exact sw_iret C S rfl (tb_at ok_X8_maids 36 rfl) h
  · refine aw_iconst C (tb_at ok_X8_maids 37 rfl) ki_0 ?_
    refine aw_istore C [some (.ref 85), some (.int a1), none, some (.int a3), some (.int a4), some (.int 0), none, none] (tb_at ok_X8_maids 38 rfl) S.2.2.2.1 (by decide) rfl ?_
    refine aw_iconst C (tb_at ok_X8_maids 39 rfl) ki_0 ?_
    refine aw_istore C [some (.ref 85), some (.int a1), none, some (.int a3), some (.int a4), some (.int 0), some (.int 0), none] (tb_at ok_X8_maids 40 rfl) S.2.2.2.1 (by decide) rfl ?_
    exact aw_loc [some (.ref 85), some (.int a1), none, some (.int a3), some (.int a4), some (.int 0), some (.int 0), none] (sl_k (sl_k (sl_n (sl_k (sl_k (sl_k (sl_k (sl_n sl_0)))))))) (t_fM_maids_b75 C S hn 1000 _ _ _ h)
set_option maxHeartbeats 4000000 in
set_option maxRecDepth 20000 in
theorem t_fM_maids {K : Cx} {n : Nat} {a1 : Int32} {a2 : Int32} {a3 : Int32} {a4 : Int32} {M : Mem} {r : Int32 × Mem} (C : Ctx K RX8 cX8_maids) (S : SS K n 4 8 (some .int) (Ti n r)) (hn : 113 ≤ n) (h : fM_maids a1 a2 a3 a4 M = some r) : AS K n M 0 [some (.ref 85), some (.int a1), some (.int a2), some (.int a3), some (.int a4), none, none, none] [] := by
  refine aw_iload_n C (tb_at ok_X8_maids 0 rfl) rfl ?_
  refine sw_cSi C S [.int a1] [] (tb_at ok_X8_maids 1 rfl) h (fun q e => m_fM_isSheet hn e) mf_X8_isSheet cw_RX8_357 rfl (by decide) rfl (Nat.le_of_ble_eq_true rfl) (fun r1 M1 h => ?_)
  refine aw_if_eq C 32 (tb_at ok_X8_maids 2 rfl) (by decide) h (fun h => ?_) (fun h => ?_)
  · refine aw_bipush C (tb_at ok_X8_maids 15 rfl) kb_m2 ?_
    exact sw_iret C S rfl (tb_at ok_X8_maids 16 rfl) h
  · refine aw_iload_n C (tb_at ok_X8_maids 3 rfl) rfl ?_
    refine aw_i2l C (tb_at ok_X8_maids 4 rfl) ?_
    refine aw_lconst C (tb_at ok_X8_maids 5 rfl) kl_0 ?_
    refine aw_ldc2 C kc_RX8_394 (tb_at ok_X8_maids 6 rfl) ?_
    refine sw_cSi C S [.long (a2.toInt64), .long (0 : Int64), .long (2 : Int64)] [] (tb_at ok_X8_maids 7 rfl) h (fun q e => m_fM_in hn e) mf_X8_in cw_RX8_114 rfl (by decide) rfl (Nat.le_of_ble_eq_true rfl) (fun r2 M2 h => ?_)
    refine aw_if_eq C 32 (tb_at ok_X8_maids 8 rfl) (by decide) h (fun h => ?_) (fun h => ?_)
    · refine aw_bipush C (tb_at ok_X8_maids 15 rfl) kb_m2 ?_
      exact sw_iret C S rfl (tb_at ok_X8_maids 16 rfl) h
    · refine aw_iload C (tb_at ok_X8_maids 9 rfl) rfl ?_
      refine aw_i2l C (tb_at ok_X8_maids 10 rfl) ?_
      refine aw_lconst C (tb_at ok_X8_maids 11 rfl) kl_0 ?_
      refine aw_ldc2 C kc_RX8_360 (tb_at ok_X8_maids 12 rfl) ?_
      refine sw_cSi C S [.long (a4.toInt64), .long (0 : Int64), .long (4 : Int64)] [] (tb_at ok_X8_maids 13 rfl) h (fun q e => m_fM_in hn e) mf_X8_in cw_RX8_114 rfl (by decide) rfl (Nat.le_of_ble_eq_true rfl) (fun r3 M3 h => ?_)
      refine aw_if_ne C 35 (tb_at ok_X8_maids 14 rfl) (by decide) h (fun h => ?_) (fun h => ?_)
      · refine aw_bipush C (tb_at ok_X8_maids 15 rfl) kb_m2 ?_
        exact sw_iret C S rfl (tb_at ok_X8_maids 16 rfl) h
      · refine aw_aload_n C (tb_at ok_X8_maids 17 rfl) rfl ?_
        refine aw_getR C (ob_85 hn) rfl (by decide) rfl p_85_55 fl_RX8_92 (tb_at ok_X8_maids 18 rfl) ?_
        refine aw_iload_n C (tb_at ok_X8_maids 19 rfl) rfl ?_
        refine aw_zald C (ob_109 hn) (tb_at ok_X8_maids 20 rfl) h (fun h => ?_)
        refine aw_if_eq C 57 (tb_at ok_X8_maids 21 rfl) (by decide) h (fun h => ?_) (fun h => ?_)
        · exact aw_loc [some (.ref 85), some (.int a1), none, some (.int a3), some (.int a4), none, none, none] (sl_k (sl_k (sl_n (sl_k (sl_k (sl_n (sl_n (sl_n sl_0)))))))) (t_fM_maids_b57 C S hn h)
        · refine aw_aload_n C (tb_at ok_X8_maids 22 rfl) rfl ?_
          refine aw_getR C (ob_85 hn) rfl (by decide) rfl p_85_56 fl_RX8_96 (tb_at ok_X8_maids 23 rfl) ?_
          refine aw_iload_n C (tb_at ok_X8_maids 24 rfl) rfl ?_
          refine aw_iald C (ob_110 hn) (tb_at ok_X8_maids 25 rfl) h (fun h => ?_)
          refine aw_iload_n C (tb_at ok_X8_maids 26 rfl) rfl ?_
          refine aw_icmp_eq C 57 (tb_at ok_X8_maids 27 rfl) (by decide) h (fun h => ?_) (fun h => ?_)
          · exact aw_loc [some (.ref 85), some (.int a1), none, some (.int a3), some (.int a4), none, none, none] (sl_k (sl_k (sl_n (sl_k (sl_k (sl_n (sl_n (sl_n sl_0)))))))) (t_fM_maids_b57 C S hn h)
          · refine aw_bipush C (tb_at ok_X8_maids 28 rfl) kb_m13 ?_
            exact sw_iret C S rfl (tb_at ok_X8_maids 29 rfl) h
theorem m_fM_maids {l : Launch} {w : Wd} {n : Nat} {a1 : Int32} {a2 : Int32} {a3 : Int32} {a4 : Int32} {M : Mem} {r : Int32 × Mem} (hn : 113 ≤ n) (h : fM_maids a1 a2 a3 a4 M = some r) : CM l w yX8_maids cX8_maids 8 (some .int) 4 0 0 [.ref 85, .int a1, .int a2, .int a3, .int a4] n M (PD M) (Ti n r) := sm_of (loc := [some (.ref 85), some (.int a1), some (.int a2), some (.int a3), some (.int a4), none, none, none]) mf_X8_maids (by decide) (Nat.le_of_ble_eq_true rfl) rfl (fun K _ _ C S => t_fM_maids C S hn h)
