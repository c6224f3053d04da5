/-! theorems 3 -/
def tb_X7_text : List (Nat × Instr × Nat) := [(0, .aload_n 0, 1), (1, .getfield 39, 3), (4, .bipush 6, 2), (6, .if_icmp .lt 6, 3), (9, .bipush (-4), 2), (11, .ireturn, 1), (12, .aload_n 0, 1), (13, .getfield 29, 3), (16, .aload_n 0, 1), (17, .getfield 35, 3), (20, .aload_n 0, 1), (21, .getfield 39, 3), (24, .aaload, 1), (25, .invokevirtual 80, 3), (28, .istore_n 1, 1), (29, .iload_n 1, 1), (30, .iconst (-1), 1), (31, .if_icmp .eq 8, 3), (34, .bipush (-100), 2), (36, .iload_n 1, 1), (37, .isub, 1), (38, .ireturn, 1), (39, .aload_n 0, 1), (40, .dup, 1), (41, .getfield 39, 3), (44, .iconst 1, 1), (45, .iadd, 1), (46, .putfield 39, 3), (49, .aload_n 0, 1), (50, .getfield 39, 3), (53, .iconst 1, 1), (54, .isub, 1), (55, .ireturn, 1)]
theorem ok_X7_text : TB cX7_text tb_X7_text := (by decide +kernel : tb_X7_text.all (fun q => tbq cX7_text q) = true)
set_option maxHeartbeats 4000000 in
set_option maxRecDepth 20000 in
theorem t_fN_text {K : Cx} {n : Nat} {M : Mem} {r : Int32 × Mem} (C : Ctx K RX7 cX7_text) (S : SS K n 74 2 (some .int) (Ti n r)) (hn : 85 ≤ n) (h : fN_text M = some r) : AS K n M 0 [some (.ref 0), none] [] := by
  refine aw_aload_n C (tb_at ok_X7_text 0 rfl) rfl ?_
  refine aw_get C (ob_0 hn) rfl (by decide) rfl fl_RX7_39 (tb_at ok_X7_text 1 rfl) ?_
  refine aw_bipush C (tb_at ok_X7_text 2 rfl) kb_6 ?_
  refine aw_icmp_lt C 12 (tb_at ok_X7_text 3 rfl) (by decide) h (fun h => ?_) (fun h => ?_)
  · refine aw_aload_n C (tb_at ok_X7_text 6 rfl) rfl ?_
    refine aw_getR C (ob_0 hn) rfl (by decide) rfl p_0_4 fl_RX7_29 (tb_at ok_X7_text 7 rfl) ?_
    refine aw_aload_n C (tb_at ok_X7_text 8 rfl) rfl ?_
    refine aw_getR C (ob_0 hn) rfl (by decide) rfl p_0_5 fl_RX7_35 (tb_at ok_X7_text 9 rfl) ?_
    refine aw_aload_n C (tb_at ok_X7_text 10 rfl) rfl ?_
    refine aw_get C (ob_0 hn) rfl (by decide) rfl fl_RX7_39 (tb_at ok_X7_text 11 rfl) ?_
    refine sw_aald C 4 (ob_44 hn) (by decide) rfl (tb_at ok_X7_text 12 rfl) (fun z => tPA z) h (fun hi1 h => ?_)
    refine sw_cVi C S [.ref (59 + 3 * ix (M 0 6))] [] (tb_at ok_X7_text 13 rfl) h (fun q e => m_fR_read hn (tA hi1) e) mf_X3_read (ob_40 hn) rfl rfl cw_RX7_80 rfl (by decide) rfl (Nat.le_of_ble_eq_true rfl) (fun r2 M2 h => ?_)
    refine aw_istore_n C [some (.ref 0), some (.int r2)] (tb_at ok_X7_text 14 rfl) S.2.2.2.1 (by decide) rfl ?_
    refine aw_iload_n C (tb_at ok_X7_text 15 rfl) rfl ?_
    refine aw_iconst C (tb_at ok_X7_text 16 rfl) ki_m1 ?_
    refine aw_icmp_eq C 39 (tb_at ok_X7_text 17 rfl) (by decide) h (fun h => ?_) (fun h => ?_)
    · refine aw_aload_n C (tb_at ok_X7_text 22 rfl) rfl ?_
      refine aw_dup C (tb_at ok_X7_text 23 rfl) rfl ?_
      refine aw_get C (ob_0 hn) rfl (by decide) rfl fl_RX7_39 (tb_at ok_X7_text 24 rfl) ?_
      refine aw_iconst C (tb_at ok_X7_text 25 rfl) ki_1 ?_
      refine aw_iadd C (tb_at ok_X7_text 26 rfl) ?_
      refine sw_put C (ob_0 hn) rfl (by decide) (by decide) (Or.inr (by decide)) rfl rfl rfl rfl fl_RX7_39 (tb_at ok_X7_text 27 rfl) ?_
      refine aw_aload_n C (tb_at ok_X7_text 28 rfl) rfl ?_
      refine aw_get C (ob_0 hn) rfl (by decide) rfl fl_RX7_39 (tb_at ok_X7_text 29 rfl) ?_
      refine aw_iconst C (tb_at ok_X7_text 30 rfl) ki_1 ?_
      refine aw_isub C (tb_at ok_X7_text 31 rfl) ?_
      exact sw_iret C S rfl (tb_at ok_X7_text 32 rfl) h
    · refine aw_bipush C (tb_at ok_X7_text 18 rfl) kb_m100 ?_
      refine aw_iload_n C (tb_at ok_X7_text 19 rfl) rfl ?_
      refine aw_isub C (tb_at ok_X7_text 20 rfl) ?_
      exact sw_iret C S rfl (tb_at ok_X7_text 21 rfl) h
  · refine aw_bipush C (tb_at ok_X7_text 4 rfl) kb_m4 ?_
    exact sw_iret C S rfl (tb_at ok_X7_text 5 rfl) h
theorem m_fN_text {l : Launch} {w : Wd} {n : Nat} {M : Mem} {r : Int32 × Mem} (hn : 85 ≤ n) (h : fN_text M = some r) : CM l w yX7_text cX7_text 2 (some .int) 74 0 0 [.ref 0] n M (PD M) (Ti n r) := sm_of (loc := [some (.ref 0), none]) mf_X7_text (by decide) (Nat.le_of_ble_eq_true rfl) rfl (fun K _ _ C S => t_fN_text C S hn h)
def tb_X7_force : List (Nat × Instr × Nat) := [(0, .iload_n 1, 1), (1, .aload_n 0, 1), (2, .getfield 39, 3), (5, .invokestatic 87, 3), (8, .ifCond .ne 6, 3), (11, .bipush (-2), 2), (13, .ireturn, 1), (14, .aload_n 0, 1), (15, .getfield 10, 3), (18, .getfield 164, 3), (21, .istore_n 2, 1), (22, .aload_n 0, 1), (23, .getfield 10, 3), (26, .iload_n 1, 1), (27, .putfield 164, 3), (30, .iload_n 2, 1), (31, .ireturn, 1)]
theorem ok_X7_force : TB cX7_force tb_X7_force := (by decide +kernel : tb_X7_force.all (fun q => tbq cX7_force q) = true)
set_option maxHeartbeats 4000000 in
set_option maxRecDepth 20000 in
theorem t_fN_force {K : Cx} {n : Nat} {a1 : Int32} {M : Mem} {r : Int32 × Mem} (C : Ctx K RX7 cX7_force) (S : SS K n 2 3 (some .int) (Ti n r)) (hn : 85 ≤ n) (h : fN_force a1 M = some r) : AS K n M 0 [some (.ref 0), some (.int a1), none] [] := by
  refine aw_iload_n C (tb_at ok_X7_force 0 rfl) rfl ?_
  refine aw_aload_n C (tb_at ok_X7_force 1 rfl) rfl ?_
  refine aw_get C (ob_0 hn) rfl (by decide) rfl fl_RX7_39 (tb_at ok_X7_force 2 rfl) ?_
  refine sw_cSi C S [.int a1, .int (M 0 6)] [] (tb_at ok_X7_force 3 rfl) h (fun q e => m_fN_within hn e) mf_X7_within cw_RX7_87 rfl (by decide) rfl (Nat.le_of_ble_eq_true rfl) (fun r1 M1 h => ?_)
  refine aw_if_ne C 14 (tb_at ok_X7_force 4 rfl) (by decide) h (fun h => ?_) (fun h => ?_)
  · refine aw_bipush C (tb_at ok_X7_force 5 rfl) kb_m2 ?_
    exact sw_iret C S rfl (tb_at ok_X7_force 6 rfl) h
  · refine aw_aload_n C (tb_at ok_X7_force 7 rfl) rfl ?_
    refine aw_getR C (ob_0 hn) rfl (by decide) rfl p_0_0 fl_RX7_10 (tb_at ok_X7_force 8 rfl) ?_
    refine aw_get C (ob_1 hn) rfl (by decide) rfl fl_RX7_164 (tb_at ok_X7_force 9 rfl) ?_
    refine aw_istore_n C [some (.ref 0), some (.int a1), some (.int (M1 1 3))] (tb_at ok_X7_force 10 rfl) S.2.2.2.1 (by decide) rfl ?_
    refine aw_aload_n C (tb_at ok_X7_force 11 rfl) rfl ?_
    refine aw_getR C (ob_0 hn) rfl (by decide) rfl p_0_0 fl_RX7_10 (tb_at ok_X7_force 12 rfl) ?_
    refine aw_iload_n C (tb_at ok_X7_force 13 rfl) rfl ?_
    refine sw_put C (ob_1 hn) rfl (by decide) (by decide) (Or.inr (by decide)) rfl rfl rfl rfl fl_RX7_164 (tb_at ok_X7_force 14 rfl) ?_
    refine aw_iload_n C (tb_at ok_X7_force 15 rfl) rfl ?_
    exact sw_iret C S rfl (tb_at ok_X7_force 16 rfl) h
theorem m_fN_force {l : Launch} {w : Wd} {n : Nat} {a1 : Int32} {M : Mem} {r : Int32 × Mem} (hn : 85 ≤ n) (h : fN_force a1 M = some r) : CM l w yX7_force cX7_force 3 (some .int) 2 0 0 [.ref 0, .int a1] n M (PD M) (Ti n r) := sm_of (loc := [some (.ref 0), some (.int a1), none]) mf_X7_force (by decide) (Nat.le_of_ble_eq_true rfl) rfl (fun K _ _ C S => t_fN_force C S hn h)
def tb_X7_master : List (Nat × Instr × Nat) := [(0, .iload_n 1, 1), (1, .bipush 100, 2), (3, .invokestatic 87, 3), (6, .ifCond .eq 14, 3), (9, .aload_n 0, 1), (10, .getfield 10, 3), (13, .iload_n 1, 1), (14, .invokevirtual 167, 3), (17, .goto 5, 3), (20, .bipush (-2), 2), (22, .ireturn, 1)]
theorem ok_X7_master : TB cX7_master tb_X7_master := (by decide +kernel : tb_X7_master.all (fun q => tbq cX7_master q) = true)
set_option maxHeartbeats 4000000 in
set_option maxRecDepth 20000 in
theorem t_fN_master {K : Cx} {n : Nat} {a1 : Int32} {M : Mem} {r : Int32 × Mem} (C : Ctx K RX7 cX7_master) (S : SS K n 2 2 (some .int) (Ti n r)) (hn : 85 ≤ n) (h : fN_master a1 M = some r) : AS K n M 0 [some (.ref 0), some (.int a1)] [] := by
  refine aw_iload_n C (tb_at ok_X7_master 0 rfl) rfl ?_
  refine aw_bipush C (tb_at ok_X7_master 1 rfl) kb_100 ?_
  refine sw_cSi C S [.int a1, .int 100] [] (tb_at ok_X7_master 2 rfl) h (fun q e => m_fN_within hn e) mf_X7_within cw_RX7_87 rfl (by decide) rfl (Nat.le_of_ble_eq_true rfl) (fun r1 M1 h => ?_)
  refine aw_if_eq C 20 (tb_at ok_X7_master 3 rfl) (by decide) h (fun h => ?_) (fun h => ?_)
  · refine aw_bipush C (tb_at ok_X7_master 9 rfl) kb_m2 ?_
    exact sw_iret C S rfl (tb_at ok_X7_master 10 rfl) h
  · refine aw_aload_n C (tb_at ok_X7_master 4 rfl) rfl ?_
    refine aw_getR C (ob_0 hn) rfl (by decide) rfl p_0_0 fl_RX7_10 (tb_at ok_X7_master 5 rfl) ?_
    refine aw_iload_n C (tb_at ok_X7_master 6 rfl) rfl ?_
    refine sw_cVi C S [.int a1] [] (tb_at ok_X7_master 7 rfl) h (fun q e => m_fH_masterIn hn (by decide) e) mf_X1_masterIn (ob_1 hn) rfl rfl cw_RX7_167 rfl (by decide) rfl (Nat.le_of_ble_eq_true rfl) (fun r2 M2 h => ?_)
    refine aw_goto C 22 (tb_at ok_X7_master 8 rfl) (by decide) ?_
    exact sw_iret C S rfl (tb_at ok_X7_master 10 rfl) h
theorem m_fN_master {l : Launch} {w : Wd} {n : Nat} {a1 : Int32} {M : Mem} {r : Int32 × Mem} (hn : 85 ≤ n) (h : fN_master a1 M = some r) : CM l w yX7_master cX7_master 2 (some .int) 2 0 0 [.ref 0, .int a1] n M (PD M) (Ti n r) := sm_of (loc := [some (.ref 0), some (.int a1)]) mf_X7_master (by decide) (Nat.le_of_ble_eq_true rfl) rfl (fun K _ _ C S => t_fN_master C S hn h)
def tb_X7_free : List (Nat × Instr × Nat) := [(0, .iload_n 1, 1), (1, .bipush 8, 2), (3, .invokestatic 87, 3), (6, .ifCond .eq 12, 3), (9, .iload_n 2, 1), (10, .bipush 100, 2), (12, .invokestatic 87, 3), (15, .ifCond .ne 6, 3), (18, .bipush (-2), 2), (20, .ireturn, 1), (21, .iload_n 2, 1), (22, .istore_n 3, 1), (23, .iload_n 3, 1), (24, .bipush 100, 2), (26, .if_icmp .ge 21, 3), (29, .aload_n 0, 1), (30, .getfield 10, 3), (33, .iload_n 3, 1), (34, .invokevirtual 167, 3), (37, .iload_n 1, 1), (38, .if_icmp .eq 9, 3), (41, .iinc 3 1, 3), (44, .goto (-21), 3), (47, .iload_n 3, 1), (48, .iload_n 2, 1), (49, .isub, 1), (50, .ireturn, 1)]
theorem ok_X7_free : TB cX7_free tb_X7_free := (by decide +kernel : tb_X7_free.all (fun q => tbq cX7_free q) = true)
set_option maxHeartbeats 4000000 in
set_option maxRecDepth 20000 in
theorem t_fN_free_b47 {K : Cx} {n : Nat} {a2 : Int32} {a3 : Int32} {M : Mem} {r : Int32 × Mem} (C : Ctx K RX7 cX7_free) (S : SS K n 2 4 (some .int) (Ti n r)) (hn : 85 ≤ n) (h : fN_free_b47 a2 a3 M = some r) : AS K n M 47 [none, none, some (.int a2), some (.int a3)] [] := by
  refine aw_iload_n C (tb_at ok_X7_free 23 rfl) rfl ?_
  refine aw_iload_n C (tb_at ok_X7_free 24 rfl) rfl ?_
  refine aw_isub C (tb_at ok_X7_free 25 rfl) ?_
  exact sw_iret C S rfl (tb_at ok_X7_free 26 rfl) h
set_option maxHeartbeats 4000000 in
set_option maxRecDepth 20000 in
theorem t_fN_free_b23 {K : Cx} {n : Nat} {a1 : Int32} {a2 : Int32} {r : Int32 × Mem} (C : Ctx K RX7 cX7_free) (S : SS K n 2 4 (some .int) (Ti n r)) (hn : 85 ≤ n) : ∀ (z : Nat) (a3 : Int32) (M : Mem), fN_free_b23 a1 a2 z a3 M = some r → AS K n M 23 [some (.ref 0), some (.int a1), some (.int a2), some (.int a3)] [] := by
  intro z
  induction z with
  | zero => intro a3 M h; cases h
  | succ z ih =>
    intro a3 M h
    refine aw_iload_n C (tb_at ok_X7_free 12 rfl) rfl ?_
    refine aw_bipush C (tb_at ok_X7_free 13 rfl) kb_100 ?_
    refine aw_icmp_ge C 47 (tb_at ok_X7_free 14 rfl) (by decide) h (fun h => ?_) (fun h => ?_)
    · exact aw_loc [none, none, some (.int a2), some (.int a3)] (sl_n (sl_n (sl_k (sl_k sl_0)))) (t_fN_free_b47 C S hn h)
    · refine aw_aload_n C (tb_at ok_X7_free 15 rfl) rfl ?_
      refine aw_getR C (ob_0 hn) rfl (by decide) rfl p_0_0 fl_RX7_10 (tb_at ok_X7_free 16 rfl) ?_
      refine aw_iload_n C (tb_at ok_X7_free 17 rfl) rfl ?_
      refine sw_cVi C S [.int a3] [] (tb_at ok_X7_free 18 rfl) h (fun q e => m_fH_masterIn hn (by decide) e) mf_X1_masterIn (ob_1 hn) rfl rfl cw_RX7_167 rfl (by decide) rfl (Nat.le_of_ble_eq_true rfl) (fun r3 M3 h => ?_)
      refine aw_iload_n C (tb_at ok_X7_free 19 rfl) rfl ?_
      refine aw_icmp_eq C 47 (tb_at ok_X7_free 20 rfl) (by decide) h (fun h => ?_) (fun h => ?_)
      · exact aw_loc [none, none, some (.int a2), some (.int a3)] (sl_n (sl_n (sl_k (sl_k sl_0)))) (t_fN_free_b47 C S hn h)
      · refine aw_iinc C [some (.ref 0), some (.int a1), some (.int a2), some (.int (a3 + 1))] (tb_at ok_X7_free 21 rfl) rfl S.2.2.2.1 (by decide) ki_1 rfl ?_
        refine aw_goto C 23 (tb_at ok_X7_free 22 rfl) (by decide) ?_
        exact aw_loc [some (.ref 0), some (.int a1), some (.int a2), some (.int (a3 + 1))] (sl_k (sl_k (sl_k (sl_k sl_0)))) (ih _ _ h)
set_option maxHeartbeats 4000000 in
set_option maxRecDepth 20000 in
theorem t_fN_free {K : Cx} {n : Nat} {a1 : Int32} {a2 : Int32} {M : Mem} {r : Int32 × Mem} (C : Ctx K RX7 cX7_free) (S : SS K n 2 4 (some .int) (Ti n r)) (hn : 85 ≤ n) (h : fN_free a1 a2 M = some r) : AS K n M 0 [some (.ref 0), some (.int a1), some (.int a2), none] [] := by
  refine aw_iload_n C (tb_at ok_X7_free 0 rfl) rfl ?_
  refine aw_bipush C (tb_at ok_X7_free 1 rfl) kb_8 ?_
  refine sw_cSi C S [.int a1, .int 8] [] (tb_at ok_X7_free 2 rfl) h (fun q e => m_fN_within hn e) mf_X7_within cw_RX7_87 rfl (by decide) rfl (Nat.le_of_ble_eq_true rfl) (fun r1 M1 h => ?_)
  refine aw_if_eq C 18 (tb_at ok_X7_free 3 rfl) (by decide) h (fun h => ?_) (fun h => ?_)
  · refine aw_bipush C (tb_at ok_X7_free 8 rfl) kb_m2 ?_
    exact sw_iret C S rfl (tb_at ok_X7_free 9 rfl) h
  · refine aw_iload_n C (tb_at ok_X7_free 4 rfl) rfl ?_
    refine aw_bipush C (tb_at ok_X7_free 5 rfl) kb_100 ?_
    refine sw_cSi C S [.int a2, .int 100] [] (tb_at ok_X7_free 6 rfl) h (fun q e => m_fN_within hn e) mf_X7_within cw_RX7_87 rfl (by decide) rfl (Nat.le_of_ble_eq_true rfl) (fun r2 M2 h => ?_)
    refine aw_if_ne C 21 (tb_at ok_X7_free 7 rfl) (by decide) h (fun h => ?_) (fun h => ?_)
    · refine aw_bipush C (tb_at ok_X7_free 8 rfl) kb_m2 ?_
      exact sw_iret C S rfl (tb_at ok_X7_free 9 rfl) h
    · refine aw_iload_n C (tb_at ok_X7_free 10 rfl) rfl ?_
      refine aw_istore_n C [some (.ref 0), some (.int a1), some (.int a2), some (.int a2)] (tb_at ok_X7_free 11 rfl) S.2.2.2.1 (by decide) rfl ?_
      exact aw_loc [some (.ref 0), some (.int a1), some (.int a2), some (.int a2)] (sl_k (sl_k (sl_k (sl_k sl_0)))) (t_fN_free_b23 C S hn 1000 _ _ h)
theorem m_fN_free {l : Launch} {w : Wd} {n : Nat} {a1 : Int32} {a2 : Int32} {M : Mem} {r : Int32 × Mem} (hn : 85 ≤ n) (h : fN_free a1 a2 M = some r) : CM l w yX7_free cX7_free 4 (some .int) 2 0 0 [.ref 0, .int a1, .int a2] n M (PD M) (Ti n r) := sm_of (loc := [some (.ref 0), some (.int a1), some (.int a2), none]) mf_X7_free (by decide) (Nat.le_of_ble_eq_true rfl) rfl (fun K _ _ C S => t_fN_free C S hn h)
def tb_X7_longestFree : List (Nat × Instr × Nat) := [(0, .iconst 0, 1), (1, .istore_n 3, 1), (2, .iconst (-1), 1), (3, .istore 4, 2), (5, .iconst 0, 1), (6, .istore 5, 2), (8, .iconst 0, 1), (9, .istore 6, 2), (11, .iload 6, 2), (13, .bipush 100, 2), (15, .if_icmp .ge 50, 3), (18, .aload_n 0, 1), (19, .getfield 10, 3), (22, .iload 6, 2), (24, .invokevirtual 167, 3), (27, .iload_n 1, 1), (28, .if_icmp .ne 7, 3), (31, .iconst 0, 1), (32, .goto 7, 3), (35, .iload 5, 2), (37, .iconst 1, 1), (38, .iadd, 1), (39, .istore 5, 2), (41, .iload 5, 2), (43, .iload_n 3, 1), (44, .if_icmp .le 15, 3), (47, .iload 5, 2), (49, .istore_n 3, 1), (50, .iload 6, 2), (52, .iload 5, 2), (54, .isub, 1), (55, .iconst 1, 1), (56, .iadd, 1), (57, .istore 4, 2), (59, .iinc 6 1, 3), (62, .goto (-51), 3), (65, .iload_n 2, 1), (66, .ifCond .ne 7, 3), (69, .iload_n 3, 1), (70, .goto 5, 3), (73, .iload 4, 2), (75, .ireturn, 1)]
theorem ok_X7_longestFree : TB cX7_longestFree tb_X7_longestFree := (by decide +kernel : tb_X7_longestFree.all (fun q => tbq cX7_longestFree q) = true)
set_option maxHeartbeats 4000000 in
set_option maxRecDepth 20000 in
theorem t_fN_longestFree_b59 {K : Cx} {n : Nat} {k11 : Int32 → Int32 → Int32 → Int32 → Mem → Option (Int32 × Mem)} {a1 : Int32} {a2 : Int32} {a3 : Int32} {a4 : Int32} {a5 : Int32} {a6 : Int32} {M : Mem} {r : Int32 × Mem} (C : Ctx K RX7 cX7_longestFree) (S : SS K n 2 7 (some .int) (Ti n r)) (hn : 85 ≤ n) (hk11 : ∀ (va3 : Int32) (va4 : Int32) (va5 : Int32) (va6 : Int32) (M1 : Mem), k11 va3 va4 va5 va6 M1 = some r → AS K n M1 11 [some (.ref 0), some (.int a1), some (.int a2), some (.int va3), some (.int va4), some (.int va5), some (.int va6)] []) (h : fN_longestFree_b59 k11 a1 a2 a3 a4 a5 a6 M = some r) : AS K n M 59 [some (.ref 0), some (.int a1), some (.int a2), some (.int a3), some (.int a4), some (.int a5), some (.int a6)] [] := by
  refine aw_iinc C [some (.ref 0), some (.int a1), some (.int a2), some (.int a3), some (.int a4), some (.int a5), some (.int (a6 + 1))] (tb_at ok_X7_longestFree 34 rfl) rfl S.2.2.2.1 (by decide) ki_1 rfl ?_
  refine aw_goto C 11 (tb_at ok_X7_longestFree 35 rfl) (by decide) ?_
  exact aw_loc [some (.ref 0), some (.int a1), some (.int a2), some (.int a3), some (.int a4), some (.int a5), some (.int (a6 + 1))] (sl_k (sl_k (sl_k (sl_k (sl_k (sl_k (sl_k sl_0))))))) (hk11 _ _ _ _ _ h)
set_option maxHeartbeats 4000000 in
set_option maxRecDepth 20000 in
theorem t_fN_longestFree_b39 {K : Cx} {n : Nat} {k11 : Int32 → Int32 → Int32 → Int32 → Mem → Option (Int32 × Mem)} {a1 : Int32} {a2 : Int32} {a3 : Int32} {a4 : Int32} {a6 : Int32} {s0 : Int32} {M : Mem} {r : Int32 × Mem} (C : Ctx K RX7 cX7_longestFree) (S : SS K n 2 7 (some .int) (Ti n r)) (hn : 85 ≤ n) (hk11 : ∀ (va3 : Int32) (va4 : Int32) (va5 : Int32) (va6 : Int32) (M1 : Mem), k11 va3 va4 va5 va6 M1 = some r → AS K n M1 11 [some (.ref 0), some (.int a1), some (.int a2), some (.int va3), some (.int va4), some (.int va5), some (.int va6)] []) (h : fN_longestFree_b39 k11 a1 a2 a3 a4 a6 s0 M = some r) : AS K n M 39 [some (.ref 0), some (.int a1), some (.int a2), some (.int a3), some (.int a4), none, some (.int a6)] [.int s0] := by
  refine aw_istore C [some (.ref 0), some (.int a1), some (.int a2), some (.int a3), some (.int a4), some (.int s0), some (.int a6)] (tb_at ok_X7_longestFree 22 rfl) S.2.2.2.1 (by decide) rfl ?_
  refine aw_iload C (tb_at ok_X7_longestFree 23 rfl) rfl ?_
  refine aw_iload_n C (tb_at ok_X7_longestFree 24 rfl) rfl ?_
  refine aw_icmp_le C 59 (tb_at ok_X7_longestFree 25 rfl) (by decide) h (fun h => ?_) (fun h => ?_)
  · exact aw_loc [some (.ref 0), some (.int a1), some (.int a2), some (.int a3), some (.int a4), some (.int s0), some (.int a6)] (sl_k (sl_k (sl_k (sl_k (sl_k (sl_k (sl_k sl_0))))))) (t_fN_longestFree_b59 C S hn hk11 h)
  · refine aw_iload C (tb_at ok_X7_longestFree 26 rfl) rfl ?_
    refine aw_istore_n C [some (.ref 0), some (.int a1), some (.int a2), some (.int s0), some (.int a4), some (.int s0), some (.int a6)] (tb_at ok_X7_longestFree 27 rfl) S.2.2.2.1 (by decide) rfl ?_
    refine aw_iload C (tb_at ok_X7_longestFree 28 rfl) rfl ?_
    refine aw_iload C (tb_at ok_X7_longestFree 29 rfl) rfl ?_
    refine aw_isub C (tb_at ok_X7_longestFree 30 rfl) ?_
    refine aw_iconst C (tb_at ok_X7_longestFree 31 rfl) ki_1 ?_
    refine aw_iadd C (tb_at ok_X7_longestFree 32 rfl) ?_
    refine aw_istore C [some (.ref 0), some (.int a1), some (.int a2), some (.int s0), some (.int ((a6 - s0) + 1)), some (.int s0), some (.int a6)] (tb_at ok_X7_longestFree 33 rfl) S.2.2.2.1 (by decide) rfl ?_
    exact aw_loc [some (.ref 0), some (.int a1), some (.int a2), some (.int s0), some (.int ((a6 - s0) + 1)), some (.int s0), some (.int a6)] (sl_k (sl_k (sl_k (sl_k (sl_k (sl_k (sl_k sl_0))))))) (t_fN_longestFree_b59 C S hn hk11 h)
set_option maxHeartbeats 4000000 in
set_option maxRecDepth 20000 in
theorem t_fN_longestFree_b11 {K : Cx} {n : Nat} {a1 : Int32} {a2 : Int32} {r : Int32 × Mem} (C : Ctx K RX7 cX7_longestFree) (S : SS K n 2 7 (some .int) (Ti n r)) (hn : 85 ≤ n) : ∀ (z : Nat) (a3 : Int32) (a4 : Int32) (a5 : Int32) (a6 : Int32) (M : Mem), fN_longestFree_b11 a1 a2 z a3 a4 a5 a6 M = some r → AS K n M 11 [some (.ref 0), some (.int a1), some (.int a2), some (.int a3), some (.int a4), some (.int a5), some (.int a6)] [] := by
  intro z
  induction z with
  | zero => intro a3 a4 a5 a6 M h; cases h
  | succ z ih =>
    intro a3 a4 a5 a6 M h
    refine aw_iload C (tb_at ok_X7_longestFree 8 rfl) rfl ?_
    refine aw_bipush C (tb_at ok_X7_longestFree 9 rfl) kb_100 ?_
    refine aw_icmp_ge C 65 (tb_at ok_X7_longestFree 10 rfl) (by decide) h (fun h => ?_) (fun h => ?_)
    · refine aw_iload_n C (tb_at ok_X7_longestFree 36 rfl) rfl ?_
      refine aw_if_ne C 73 (tb_at ok_X7_longestFree 37 rfl) (by decide) h (fun h => ?_) (fun h => ?_)
      · refine aw_iload_n C (tb_at ok_X7_longestFree 38 rfl) rfl ?_
        refine aw_goto C 75 (tb_at ok_X7_longestFree 39 rfl) (by decide) ?_
        exact sw_iret C S rfl (tb_at ok_X7_longestFree 41 rfl) h
      · refine aw_iload C (tb_at ok_X7_longestFree 40 rfl) rfl ?_
        exact sw_iret C S rfl (tb_at ok_X7_longestFree 41 rfl) h
    · refine aw_aload_n C (tb_at ok_X7_longestFree 11 rfl) rfl ?_
      refine aw_getR C (ob_0 hn) rfl (by decide) rfl p_0_0 fl_RX7_10 (tb_at ok_X7_longestFree 12 rfl) ?_
      refine aw_iload C (tb_at ok_X7_longestFree 13 rfl) rfl ?_
      refine sw_cVi C S [.int a6] [] (tb_at ok_X7_longestFree 14 rfl) h (fun q e => m_fH_masterIn hn (by decide) e) mf_X1_masterIn (ob_1 hn) rfl rfl cw_RX7_167 rfl (by decide) rfl (Nat.le_of_ble_eq_true rfl) (fun r1 M1 h => ?_)
      refine aw_iload_n C (tb_at ok_X7_longestFree 15 rfl) rfl ?_
      refine aw_icmp_ne C 35 (tb_at ok_X7_longestFree 16 rfl) (by decide) h (fun h => ?_) (fun h => ?_)
      · refine aw_iconst C (tb_at ok_X7_longestFree 17 rfl) ki_0 ?_
        refine aw_goto C 39 (tb_at ok_X7_longestFree 18 rfl) (by decide) ?_
        exact aw_loc [some (.ref 0), some (.int a1), some (.int a2), some (.int a3), some (.int a4), none, some (.int a6)] (sl_k (sl_k (sl_k (sl_k (sl_k (sl_n (sl_k sl_0))))))) (t_fN_longestFree_b39 C S hn ih h)
      · refine aw_iload C (tb_at ok_X7_longestFree 19 rfl) rfl ?_
        refine aw_iconst C (tb_at ok_X7_longestFree 20 rfl) ki_1 ?_
        refine aw_iadd C (tb_at ok_X7_longestFree 21 rfl) ?_
        exact aw_loc [some (.ref 0), some (.int a1), some (.int a2), some (.int a3), some (.int a4), none, some (.int a6)] (sl_k (sl_k (sl_k (sl_k (sl_k (sl_n (sl_k sl_0))))))) (t_fN_longestFree_b39 C S hn ih h)
set_option maxHeartbeats 4000000 in
set_option maxRecDepth 20000 in
theorem t_fN_longestFree {K : Cx} {n : Nat} {a1 : Int32} {a2 : Int32} {M : Mem} {r : Int32 × Mem} (C : Ctx K RX7 cX7_longestFree) (S : SS K n 2 7 (some .int) (Ti n r)) (hn : 85 ≤ n) (h : fN_longestFree a1 a2 M = some r) : AS K n M 0 [some (.ref 0), some (.int a1), some (.int a2), none, none, none, none] [] := by
  refine aw_iconst C (tb_at ok_X7_longestFree 0 rfl) ki_0 ?_
  refine aw_istore_n C [some (.ref 0), some (.int a1), some (.int a2), some (.int 0), none, none, none] (tb_at ok_X7_longestFree 1 rfl) S.2.2.2.1 (by decide) rfl ?_
  refine aw_iconst C (tb_at ok_X7_longestFree 2 rfl) ki_m1 ?_
  refine aw_istore C [some (.ref 0), some (.int a1), some (.int a2), some (.int 0), some (.int (-1)), none, none] (tb_at ok_X7_longestFree 3 rfl) S.2.2.2.1 (by decide) rfl ?_
  refine aw_iconst C (tb_at ok_X7_longestFree 4 rfl) ki_0 ?_
  refine aw_istore C [some (.ref 0), some (.int a1), some (.int a2), some (.int 0), some (.int (-1)), some (.int 0), none] (tb_at ok_X7_longestFree 5 rfl) S.2.2.2.1 (by decide) rfl ?_
  refine aw_iconst C (tb_at ok_X7_longestFree 6 rfl) ki_0 ?_
  refine aw_istore C [some (.ref 0), some (.int a1), some (.int a2), some (.int 0), some (.int (-1)), some (.int 0), some (.int 0)] (tb_at ok_X7_longestFree 7 rfl) S.2.2.2.1 (by decide) rfl ?_
  exact aw_loc [some (.ref 0), some (.int a1), some (.int a2), some (.int 0), some (.int (-1)), some (.int 0), some (.int 0)] (sl_k (sl_k (sl_k (sl_k (sl_k (sl_k (sl_k sl_0))))))) (t_fN_longestFree_b11 C S hn 1000 _ _ _ _ _ h)
theorem m_fN_longestFree {l : Launch} {w : Wd} {n : Nat} {a1 : Int32} {a2 : Int32} {M : Mem} {r : Int32 × Mem} (hn : 85 ≤ n) (h : fN_longestFree a1 a2 M = some r) : CM l w yX7_longestFree cX7_longestFree 7 (some .int) 2 0 0 [.ref 0, .int a1, .int a2] n M (PD M) (Ti n r) := sm_of (loc := [some (.ref 0), some (.int a1), some (.int a2), none, none, none, none]) mf_X7_longestFree (by decide) (Nat.le_of_ble_eq_true rfl) rfl (fun K _ _ C S => t_fN_longestFree C S hn h)
def tb_X7_longest : List (Nat × Instr × Nat) := [(0, .iload_n 1, 1), (1, .bipush 8, 2), (3, .invokestatic 87, 3), (6, .ifCond .eq 11, 3), (9, .iload_n 2, 1), (10, .iconst 2, 1), (11, .invokestatic 87, 3), (14, .ifCond .ne 6, 3), (17, .bipush (-2), 2), (19, .ireturn, 1), (20, .aload_n 0, 1), (21, .iload_n 1, 1), (22, .iload_n 2, 1), (23, .invokevirtual 170, 3), (26, .ireturn, 1)]
theorem ok_X7_longest : TB cX7_longest tb_X7_longest := (by decide +kernel : tb_X7_longest.all (fun q => tbq cX7_longest q) = true)
set_option maxHeartbeats 4000000 in
set_option maxRecDepth 20000 in
theorem t_fN_longest {K : Cx} {n : Nat} {a1 : Int32} {a2 : Int32} {M : Mem} {r : Int32 × Mem} (C : Ctx K RX7 cX7_longest) (S : SS K n 3 3 (some .int) (Ti n r)) (hn : 85 ≤ n) (h : fN_longest a1 a2 M = some r) : AS K n M 0 [some (.ref 0), some (.int a1), some (.int a2)] [] := by
  refine aw_iload_n C (tb_at ok_X7_longest 0 rfl) rfl ?_
  refine aw_bipush C (tb_at ok_X7_longest 1 rfl) kb_8 ?_
  refine sw_cSi C S [.int a1, .int 8] [] (tb_at ok_X7_longest 2 rfl) h (fun q e => m_fN_within hn e) mf_X7_within cw_RX7_87 rfl (by decide) rfl (Nat.le_of_ble_eq_true rfl) (fun r1 M1 h => ?_)
  refine aw_if_eq C 17 (tb_at ok_X7_longest 3 rfl) (by decide) h (fun h => ?_) (fun h => ?_)
  · refine aw_bipush C (tb_at ok_X7_longest 8 rfl) kb_m2 ?_
    exact sw_iret C S rfl (tb_at ok_X7_longest 9 rfl) h
  · refine aw_iload_n C (tb_at ok_X7_longest 4 rfl) rfl ?_
    refine aw_iconst C (tb_at ok_X7_longest 5 rfl) ki_2 ?_
    refine sw_cSi C S [.int a2, .int 2] [] (tb_at ok_X7_longest 6 rfl) h (fun q e => m_fN_within hn e) mf_X7_within cw_RX7_87 rfl (by decide) rfl (Nat.le_of_ble_eq_true rfl) (fun r2 M2 h => ?_)
    refine aw_if_ne C 20 (tb_at ok_X7_longest 7 rfl) (by decide) h (fun h => ?_) (fun h => ?_)
    · refine aw_bipush C (tb_at ok_X7_longest 8 rfl) kb_m2 ?_
      exact sw_iret C S rfl (tb_at ok_X7_longest 9 rfl) h
    · refine aw_aload_n C (tb_at ok_X7_longest 10 rfl) rfl ?_
      refine aw_iload_n C (tb_at ok_X7_longest 11 rfl) rfl ?_
      refine aw_iload_n C (tb_at ok_X7_longest 12 rfl) rfl ?_
      refine sw_cVi C S [.int a1, .int a2] [] (tb_at ok_X7_longest 13 rfl) h (fun q e => m_fN_longestFree hn e) mf_X7_longestFree (ob_0 hn) rfl rfl cw_RX7_170 rfl (by decide) rfl (Nat.le_of_ble_eq_true rfl) (fun r3 M3 h => ?_)
      exact sw_iret C S rfl (tb_at ok_X7_longest 14 rfl) h
theorem m_fN_longest {l : Launch} {w : Wd} {n : Nat} {a1 : Int32} {a2 : Int32} {M : Mem} {r : Int32 × Mem} (hn : 85 ≤ n) (h : fN_longest a1 a2 M = some r) : CM l w yX7_longest cX7_longest 3 (some .int) 3 0 0 [.ref 0, .int a1, .int a2] n M (PD M) (Ti n r) := sm_of (loc := [some (.ref 0), some (.int a1), some (.int a2)]) mf_X7_longest (by decide) (Nat.le_of_ble_eq_true rfl) rfl (fun K _ _ C S => t_fN_longest C S hn h)
def tb_X7_never : List (Nat × Instr × Nat) := [(0, .iload_n 1, 1), (1, .ifCond .lt 9, 3), (4, .iload_n 1, 1), (5, .bipush 100, 2), (7, .if_icmp .le 6, 3), (10, .bipush (-2), 2), (12, .ireturn, 1), (13, .iconst 0, 1), (14, .istore_n 2, 1), (15, .iconst 0, 1), (16, .istore_n 3, 1), (17, .iload_n 3, 1), (18, .bipush 8, 2), (20, .if_icmp .ge 25, 3), (23, .aload_n 0, 1), (24, .iload_n 3, 1), (25, .iconst 0, 1), (26, .invokevirtual 170, 3), (29, .iload_n 1, 1), (30, .if_icmp .ge 9, 3), (33, .iload_n 2, 1), (34, .iconst 1, 1), (35, .iload_n 3, 1), (36, .ishl, 1), (37, .ior, 1), (38, .istore_n 2, 1), (39, .iinc 3 1, 3), (42, .goto (-25), 3), (45, .iload_n 2, 1), (46, .ireturn, 1)]
theorem ok_X7_never : TB cX7_never tb_X7_never := (by decide +kernel : tb_X7_never.all (fun q => tbq cX7_never q) = true)
set_option maxHeartbeats 4000000 in
set_option maxRecDepth 20000 in
theorem t_fN_never_b39 {K : Cx} {n : Nat} {k17 : Int32 → Int32 → Mem → Option (Int32 × Mem)} {a1 : Int32} {a2 : Int32} {a3 : Int32} {M : Mem} {r : Int32 × Mem} (C : Ctx K RX7 cX7_never) (S : SS K n 3 4 (some .int) (Ti n r)) (hn : 85 ≤ n) (hk17 : ∀ (va2 : Int32) (va3 : Int32) (M1 : Mem), k17 va2 va3 M1 = some r → AS K n M1 17 [some (.ref 0), some (.int a1), some (.int va2), some (.int va3)] []) (h : fN_never_b39 k17 a1 a2 a3 M = some r) : AS K n M 39 [some (.ref 0), some (.int a1), some (.int a2), some (.int a3)] [] := by
  refine aw_iinc C [some (.ref 0), some (.int a1), some (.int a2), some (.int (a3 + 1))] (tb_at ok_X7_never 26 rfl) rfl S.2.2.2.1 (by decide) ki_1 rfl ?_
  refine aw_goto C 17 (tb_at ok_X7_never 27 rfl) (by decide) ?_
  exact aw_loc [some (.ref 0), some (.int a1), some (.int a2), some (.int (a3 + 1))] (sl_k (sl_k (sl_k (sl_k sl_0)))) (hk17 _ _ _ h)
set_option maxHeartbeats 4000000 in
set_option maxRecDepth 20000 in
theorem t_fN_never_b17 {K : Cx} {n : Nat} {a1 : Int32} {r : Int32 × Mem} (C : Ctx K RX7 cX7_never) (S : SS K n 3 4 (some .int) (Ti n r)) (hn : 85 ≤ n) : ∀ (z : Nat) (a2 : Int32) (a3 : Int32) (M : Mem), fN_never_b17 a1 z a2 a3 M = some r → AS K n M 17 [some (.ref 0), some (.int a1), some (.int a2), some (.int a3)] [] := by
  intro z
  induction z with
  | zero => intro a2 a3 M h; cases h
  | succ z ih =>
    intro a2 a3 M h
    refine aw_iload_n C (tb_at ok_X7_never 11 rfl) rfl ?_
    refine aw_bipush C (tb_at ok_X7_never 12 rfl) kb_8 ?_
    refine aw_icmp_ge C 45 (tb_at ok_X7_never 13 rfl) (by decide) h (fun h => ?_) (fun h => ?_)
    · refine aw_iload_n C (tb_at ok_X7_never 28 rfl) rfl ?_
      exact sw_iret C S rfl (tb_at ok_X7_never 29 rfl) h
    · refine aw_aload_n C (tb_at ok_X7_never 14 rfl) rfl ?_
      refine aw_iload_n C (tb_at ok_X7_never 15 rfl) rfl ?_
      refine aw_iconst C (tb_at ok_X7_never 16 rfl) ki_0 ?_
      refine sw_cVi C S [.int a3, .int 0] [] (tb_at ok_X7_never 17 rfl) h (fun q e => m_fN_longestFree hn e) mf_X7_longestFree (ob_0 hn) rfl rfl cw_RX7_170 rfl (by decide) rfl (Nat.le_of_ble_eq_true rfl) (fun r1 M1 h => ?_)
      refine aw_iload_n C (tb_at ok_X7_never 18 rfl) rfl ?_
      refine aw_icmp_ge C 39 (tb_at ok_X7_never 19 rfl) (by decide) h (fun h => ?_) (fun h => ?_)
      · exact aw_loc [some (.ref 0), some (.int a1), some (.int a2), some (.int a3)] (sl_k (sl_k (sl_k (sl_k sl_0)))) (t_fN_never_b39 C S hn ih h)
      · refine aw_iload_n C (tb_at ok_X7_never 20 rfl) rfl ?_
        refine aw_iconst C (tb_at ok_X7_never 21 rfl) ki_1 ?_
        refine aw_iload_n C (tb_at ok_X7_never 22 rfl) rfl ?_
        refine aw_ishl C (tb_at ok_X7_never 23 rfl) ?_
        refine aw_ior C (tb_at ok_X7_never 24 rfl) ?_
        refine aw_istore_n C [some (.ref 0), some (.int a1), some (.int (a2 ||| (1 <<< (a3 &&& 31)))), some (.int a3)] (tb_at ok_X7_never 25 rfl) S.2.2.2.1 (by decide) rfl ?_
        exact aw_loc [some (.ref 0), some (.int a1), some (.int (a2 ||| (1 <<< (a3 &&& 31)))), some (.int a3)] (sl_k (sl_k (sl_k (sl_k sl_0)))) (t_fN_never_b39 C S hn ih h)
set_option maxHeartbeats 4000000 in
set_option maxRecDepth 20000 in
theorem t_fN_never {K : Cx} {n : Nat} {a1 : Int32} {M : Mem} {r : Int32 × Mem} (C : Ctx K RX7 cX7_never) (S : SS K n 3 4 (some .int) (Ti n r)) (hn : 85 ≤ n) (h : fN_never a1 M = some r) : AS K n M 0 [some (.ref 0), some (.int a1), none, none] [] := by
  refine aw_iload_n C (tb_at ok_X7_never 0 rfl) rfl ?_
  refine aw_if_lt C 10 (tb_at ok_X7_never 1 rfl) (by decide) h (fun h => ?_) (fun h => ?_)
  · refine aw_bipush C (tb_at ok_X7_never 5 rfl) kb_m2 ?_
    exact sw_iret C S rfl (tb_at ok_X7_never 6 rfl) h
  · refine aw_iload_n C (tb_at ok_X7_never 2 rfl) rfl ?_
    refine aw_bipush C (tb_at ok_X7_never 3 rfl) kb_100 ?_
    refine aw_icmp_le C 13 (tb_at ok_X7_never 4 rfl) (by decide) h (fun h => ?_) (fun h => ?_)
    · refine aw_iconst C (tb_at ok_X7_never 7 rfl) ki_0 ?_
      refine aw_istore_n C [some (.ref 0), some (.int a1), some (.int 0), none] (tb_at ok_X7_never 8 rfl) S.2.2.2.1 (by decide) rfl ?_
      refine aw_iconst C (tb_at ok_X7_never 9 rfl) ki_0 ?_
      refine aw_istore_n C [some (.ref 0), some (.int a1), some (.int 0), some (.int 0)] (tb_at ok_X7_never 10 rfl) S.2.2.2.1 (by decide) rfl ?_
      exact aw_loc [some (.ref 0), some (.int a1), some (.int 0), some (.int 0)] (sl_k (sl_k (sl_k (sl_k sl_0)))) (t_fN_never_b17 C S hn 1000 _ _ _ h)
    · refine aw_bipush C (tb_at ok_X7_never 5 rfl) kb_m2 ?_
      exact sw_iret C S rfl (tb_at ok_X7_never 6 rfl) h
theorem m_fN_never {l : Launch} {w : Wd} {n : Nat} {a1 : Int32} {M : Mem} {r : Int32 × Mem} (hn : 85 ≤ n) (h : fN_never a1 M = some r) : CM l w yX7_never cX7_never 4 (some .int) 3 0 0 [.ref 0, .int a1] n M (PD M) (Ti n r) := sm_of (loc := [some (.ref 0), some (.int a1), none, none]) mf_X7_never (by decide) (Nat.le_of_ble_eq_true rfl) rfl (fun K _ _ C S => t_fN_never C S hn h)
def tb_X7_isAskedOfMorning : List (Nat × Instr × Nat) := [(0, .iload_n 1, 1), (1, .bipush 10, 2), (3, .if_icmp .lt 29, 3), (6, .iload_n 1, 1), (7, .bipush 50, 2), (9, .if_icmp .ge 23, 3), (12, .iload_n 1, 1), (13, .bipush 10, 2), (15, .irem, 1), (16, .aload_n 0, 1), (17, .getfield 10, 3), (20, .getfield 111, 3), (23, .if_icmp .ge 7, 3), (26, .iconst 1, 1), (27, .goto 4, 3), (30, .iconst 0, 1), (31, .ireturn, 1), (32, .iload_n 1, 1), (33, .iconst 4, 1), (34, .invokestatic 87, 3), (37, .ifCond .ne 15, 3), (40, .iload_n 1, 1), (41, .bipush 50, 2), (43, .isub, 1), (44, .bipush 8, 2), (46, .invokestatic 87, 3), (49, .ifCond .eq 7, 3), (52, .iconst 1, 1), (53, .goto 4, 3), (56, .iconst 0, 1), (57, .ireturn, 1)]
theorem ok_X7_isAskedOfMorning : TB cX7_isAskedOfMorning tb_X7_isAskedOfMorning := (by decide +kernel : tb_X7_isAskedOfMorning.all (fun q => tbq cX7_isAskedOfMorning q) = true)
set_option maxHeartbeats 4000000 in
set_option maxRecDepth 20000 in
theorem t_fN_isAskedOfMorning_b52 {K : Cx} {n : Nat} {M : Mem} {r : Int32 × Mem} (C : Ctx K RX7 cX7_isAskedOfMorning) (S : SS K n 2 2 (some .boolean) (Ti n r)) (hn : 85 ≤ n) (h : fN_isAskedOfMorning_b52 M = some r) : AS K n M 52 [none, none] [] := by
  refine aw_iconst C (tb_at ok_X7_isAskedOfMorning 27 rfl) ki_1 ?_
  refine aw_goto C 57 (tb_at ok_X7_isAskedOfMorning 28 rfl) (by decide) ?_
  exact sw_iret C S rfl (tb_at ok_X7_isAskedOfMorning 30 rfl) h
set_option maxHeartbeats 4000000 in
set_option maxRecDepth 20000 in
theorem t_fN_isAskedOfMorning_b32 {K : Cx} {n : Nat} {a1 : Int32} {M : Mem} {r : Int32 × Mem} (C : Ctx K RX7 cX7_isAskedOfMorning) (S : SS K n 2 2 (some .boolean) (Ti n r)) (hn : 85 ≤ n) (h : fN_isAskedOfMorning_b32 a1 M = some r) : AS K n M 32 [none, some (.int a1)] [] := by
  refine aw_iload_n C (tb_at ok_X7_isAskedOfMorning 17 rfl) rfl ?_
  refine aw_iconst C (tb_at ok_X7_isAskedOfMorning 18 rfl) ki_4 ?_
  refine sw_cSi C S [.int a1, .int 4] [] (tb_at ok_X7_isAskedOfMorning 19 rfl) h (fun q e => m_fN_within hn e) mf_X7_within cw_RX7_87 rfl (by decide) rfl (Nat.le_of_ble_eq_true rfl) (fun r1 M1 h => ?_)
  refine aw_if_ne C 52 (tb_at ok_X7_isAskedOfMorning 20 rfl) (by decide) h (fun h => ?_) (fun h => ?_)
  · refine aw_iload_n C (tb_at ok_X7_isAskedOfMorning 21 rfl) rfl ?_
    refine aw_bipush C (tb_at ok_X7_isAskedOfMorning 22 rfl) kb_50 ?_
    refine aw_isub C (tb_at ok_X7_isAskedOfMorning 23 rfl) ?_
    refine aw_bipush C (tb_at ok_X7_isAskedOfMorning 24 rfl) kb_8 ?_
    refine sw_cSi C S [.int (a1 - 50), .int 8] [] (tb_at ok_X7_isAskedOfMorning 25 rfl) h (fun q e => m_fN_within hn e) mf_X7_within cw_RX7_87 rfl (by decide) rfl (Nat.le_of_ble_eq_true rfl) (fun r2 M2 h => ?_)
    refine aw_if_eq C 56 (tb_at ok_X7_isAskedOfMorning 26 rfl) (by decide) h (fun h => ?_) (fun h => ?_)
    · refine aw_iconst C (tb_at ok_X7_isAskedOfMorning 29 rfl) ki_0 ?_
      exact sw_iret C S rfl (tb_at ok_X7_isAskedOfMorning 30 rfl) h
    · exact aw_loc [none, none] (sl_n (sl_n sl_0)) (t_fN_isAskedOfMorning_b52 C S hn h)
  · exact aw_loc [none, none] (sl_n (sl_n sl_0)) (t_fN_isAskedOfMorning_b52 C S hn h)
set_option maxHeartbeats 4000000 in
set_option maxRecDepth 20000 in
theorem t_fN_isAskedOfMorning {K : Cx} {n : Nat} {a1 : Int32} {M : Mem} {r : Int32 × Mem} (C : Ctx K RX7 cX7_isAskedOfMorning) (S : SS K n 2 2 (some .boolean) (Ti n r)) (hn : 85 ≤ n) (h : fN_isAskedOfMorning a1 M = some r) : AS K n M 0 [some (.ref 0), some (.int a1)] [] := by
  refine aw_iload_n C (tb_at ok_X7_isAskedOfMorning 0 rfl) rfl ?_
  refine aw_bipush C (tb_at ok_X7_isAskedOfMorning 1 rfl) kb_10 ?_
  refine aw_icmp_lt C 32 (tb_at ok_X7_isAskedOfMorning 2 rfl) (by decide) h (fun h => ?_) (fun h => ?_)
  · exact aw_loc [none, some (.int a1)] (sl_n (sl_k sl_0)) (t_fN_isAskedOfMorning_b32 C S hn h)
  · refine aw_iload_n C (tb_at ok_X7_isAskedOfMorning 3 rfl) rfl ?_
    refine aw_bipush C (tb_at ok_X7_isAskedOfMorning 4 rfl) kb_50 ?_
    refine aw_icmp_ge C 32 (tb_at ok_X7_isAskedOfMorning 5 rfl) (by decide) h (fun h => ?_) (fun h => ?_)
    · exact aw_loc [none, some (.int a1)] (sl_n (sl_k sl_0)) (t_fN_isAskedOfMorning_b32 C S hn h)
    · refine aw_iload_n C (tb_at ok_X7_isAskedOfMorning 6 rfl) rfl ?_
      refine aw_bipush C (tb_at ok_X7_isAskedOfMorning 7 rfl) kb_10 ?_
      refine aw_irem C (by decide) (tb_at ok_X7_isAskedOfMorning 8 rfl) ?_
      refine aw_aload_n C (tb_at ok_X7_isAskedOfMorning 9 rfl) rfl ?_
      refine aw_getR C (ob_0 hn) rfl (by decide) rfl p_0_0 fl_RX7_10 (tb_at ok_X7_isAskedOfMorning 10 rfl) ?_
      refine aw_get C (ob_1 hn) rfl (by decide) rfl fl_RX7_111 (tb_at ok_X7_isAskedOfMorning 11 rfl) ?_
      refine aw_icmp_ge C 30 (tb_at ok_X7_isAskedOfMorning 12 rfl) (by decide) h (fun h => ?_) (fun h => ?_)
      · refine aw_iconst C (tb_at ok_X7_isAskedOfMorning 15 rfl) ki_0 ?_
        exact sw_iret C S rfl (tb_at ok_X7_isAskedOfMorning 16 rfl) h
      · refine aw_iconst C (tb_at ok_X7_isAskedOfMorning 13 rfl) ki_1 ?_
        refine aw_goto C 31 (tb_at ok_X7_isAskedOfMorning 14 rfl) (by decide) ?_
        exact sw_iret C S rfl (tb_at ok_X7_isAskedOfMorning 16 rfl) h
theorem m_fN_isAskedOfMorning {l : Launch} {w : Wd} {n : Nat} {a1 : Int32} {M : Mem} {r : Int32 × Mem} (hn : 85 ≤ n) (h : fN_isAskedOfMorning a1 M = some r) : CM l w yX7_isAskedOfMorning cX7_isAskedOfMorning 2 (some .boolean) 2 0 0 [.ref 0, .int a1] n M (PD M) (Ti n r) := sm_of (loc := [some (.ref 0), some (.int a1)]) mf_X7_isAskedOfMorning (by decide) (Nat.le_of_ble_eq_true rfl) rfl (fun K _ _ C S => t_fN_isAskedOfMorning C S hn h)
def tb_X7_morning : List (Nat × Instr × Nat) := [(0, .iload_n 1, 1), (1, .ifCond .lt 17, 3), (4, .iload_n 1, 1), (5, .bipush 100, 2), (7, .if_icmp .gt 11, 3), (10, .aload_n 0, 1), (11, .iload_n 2, 1), (12, .invokevirtual 173, 3), (15, .ifCond .ne 6, 3), (18, .bipush (-2), 2), (20, .ireturn, 1), (21, .aload_n 0, 1), (22, .getfield 48, 3), (25, .aload_n 0, 1), (26, .getfield 10, 3), (29, .iload_n 1, 1), (30, .invokevirtual 176, 3), (33, .iload_n 2, 1), (34, .bipush 50, 2), (36, .if_icmp .lt 16, 3), (39, .aload_n 0, 1), (40, .getfield 48, 3), (43, .getfield 180, 3), (46, .iload_n 2, 1), (47, .bipush 50, 2), (49, .isub, 1), (50, .iaload, 1), (51, .ireturn, 1), (52, .iload_n 2, 1), (53, .bipush 10, 2), (55, .if_icmp .lt 19, 3), (58, .aload_n 0, 1), (59, .getfield 48, 3), (62, .iload_n 2, 1), (63, .bipush 10, 2), (65, .irem, 1), (66, .iload_n 2, 1), (67, .bipush 10, 2), (69, .idiv, 1), (70, .invokevirtual 181, 3), (73, .ireturn, 1), (74, .iload_n 2, 1), (75, .tableswitch 49 0 2 #[25, 33, 41], 25), (100, .aload_n 0, 1), (101, .getfield 48, 3), (104, .invokevirtual 184, 3), (107, .ireturn, 1), (108, .aload_n 0, 1), (109, .getfield 48, 3), (112, .getfield 187, 3), (115, .ireturn, 1), (116, .aload_n 0, 1), (117, .getfield 48, 3), (120, .getfield 190, 3), (123, .ireturn, 1), (124, .aload_n 0, 1), (125, .getfield 48, 3), (128, .invokevirtual 193, 3), (131, .ireturn, 1)]
theorem ok_X7_morning : TB cX7_morning tb_X7_morning := (by decide +kernel : tb_X7_morning.all (fun q => tbq cX7_morning q) = true)
set_option maxHeartbeats 4000000 in
set_option maxRecDepth 20000 in
theorem t_fN_morning {K : Cx} {n : Nat} {a1 : Int32} {a2 : Int32} {M : Mem} {r : Int32 × Mem} (C : Ctx K RX7 cX7_morning) (S : SS K n 7 3 (some .int) (Ti n r)) (hn : 85 ≤ n) (h : fN_morning a1 a2 M = some r) : AS K n M 0 [some (.ref 0), some (.int a1), some (.int a2)] [] := by
  refine aw_iload_n C (tb_at ok_X7_morning 0 rfl) rfl ?_
  refine aw_if_lt C 18 (tb_at ok_X7_morning 1 rfl) (by decide) h (fun h => ?_) (fun h => ?_)
  · refine aw_bipush C (tb_at ok_X7_morning 9 rfl) kb_m2 ?_
    exact sw_iret C S rfl (tb_at ok_X7_morning 10 rfl) h
  · refine aw_iload_n C (tb_at ok_X7_morning 2 rfl) rfl ?_
    refine aw_bipush C (tb_at ok_X7_morning 3 rfl) kb_100 ?_
    refine aw_icmp_gt C 18 (tb_at ok_X7_morning 4 rfl) (by decide) h (fun h => ?_) (fun h => ?_)
    · refine aw_bipush C (tb_at ok_X7_morning 9 rfl) kb_m2 ?_
      exact sw_iret C S rfl (tb_at ok_X7_morning 10 rfl) h
    · refine aw_aload_n C (tb_at ok_X7_morning 5 rfl) rfl ?_
      refine aw_iload_n C (tb_at ok_X7_morning 6 rfl) rfl ?_
      refine sw_cVi C S [.int a2] [] (tb_at ok_X7_morning 7 rfl) h (fun q e => m_fN_isAskedOfMorning hn e) mf_X7_isAskedOfMorning (ob_0 hn) rfl rfl cw_RX7_173 rfl (by decide) rfl (Nat.le_of_ble_eq_true rfl) (fun r1 M1 h => ?_)
      refine aw_if_ne C 21 (tb_at ok_X7_morning 8 rfl) (by decide) h (fun h => ?_) (fun h => ?_)
      · refine aw_bipush C (tb_at ok_X7_morning 9 rfl) kb_m2 ?_
        exact sw_iret C S rfl (tb_at ok_X7_morning 10 rfl) h
      · refine aw_aload_n C (tb_at ok_X7_morning 11 rfl) rfl ?_
        refine aw_getR C (ob_0 hn) rfl (by decide) rfl p_0_7 fl_RX7_48 (tb_at ok_X7_morning 12 rfl) ?_
        refine aw_aload_n C (tb_at ok_X7_morning 13 rfl) rfl ?_
        refine aw_getR C (ob_0 hn) rfl (by decide) rfl p_0_0 fl_RX7_10 (tb_at ok_X7_morning 14 rfl) ?_
        refine aw_iload_n C (tb_at ok_X7_morning 15 rfl) rfl ?_
        refine sw_cVv C S [.ref 1, .int a1] [] (tb_at ok_X7_morning 16 rfl) h (fun q e => m_fD_run hn (by decide) e) mf_X0_run (ob_45 hn) rfl rfl cw_RX7_176 rfl (by decide) rfl (Nat.le_of_ble_eq_true rfl) (fun M2 h => ?_)
        refine aw_iload_n C (tb_at ok_X7_morning 17 rfl) rfl ?_
        refine aw_bipush C (tb_at ok_X7_morning 18 rfl) kb_50 ?_
        refine aw_icmp_lt C 52 (tb_at ok_X7_morning 19 rfl) (by decide) h (fun h => ?_) (fun h => ?_)
        · refine aw_iload_n C (tb_at ok_X7_morning 28 rfl) rfl ?_
          refine aw_bipush C (tb_at ok_X7_morning 29 rfl) kb_10 ?_
          refine aw_icmp_lt C 74 (tb_at ok_X7_morning 30 rfl) (by decide) h (fun h => ?_) (fun h => ?_)
          · refine aw_iload_n C (tb_at ok_X7_morning 41 rfl) rfl ?_
            by_cases c4 : a2 = 0
            · refine aw_tsIn C 25 100 (tb_at ok_X7_morning 42 rfl) (by rw [c4]; decide) (by rw [c4]; decide) (by rw [c4]; rfl) (by decide) ?_
              have h := (if_pos c4).symm.trans h
              refine aw_aload_n C (tb_at ok_X7_morning 43 rfl) rfl ?_
              refine aw_getR C (ob_0 hn) rfl (by decide) rfl p_0_7 fl_RX7_48 (tb_at ok_X7_morning 44 rfl) ?_
              refine sw_cVi C S [] [] (tb_at ok_X7_morning 45 rfl) h (fun q e => m_fD_workLeft hn e) mf_X0_workLeft (ob_45 hn) rfl rfl cw_RX7_184 rfl (by decide) rfl (Nat.le_of_ble_eq_true rfl) (fun r3 M3 h => ?_)
              exact sw_iret C S rfl (tb_at ok_X7_morning 46 rfl) h
            have h := (if_neg c4).symm.trans h
            by_cases c5 : a2 = 1
            · refine aw_tsIn C 33 108 (tb_at ok_X7_morning 42 rfl) (by rw [c5]; decide) (by rw [c5]; decide) (by rw [c5]; rfl) (by decide) ?_
              have h := (if_pos c5).symm.trans h
              refine aw_aload_n C (tb_at ok_X7_morning 47 rfl) rfl ?_
              refine aw_getR C (ob_0 hn) rfl (by decide) rfl p_0_7 fl_RX7_48 (tb_at ok_X7_morning 48 rfl) ?_
              refine aw_get C (ob_45 hn) rfl (by decide) rfl fl_RX7_187 (tb_at ok_X7_morning 49 rfl) ?_
              exact sw_iret C S rfl (tb_at ok_X7_morning 50 rfl) h
            have h := (if_neg c5).symm.trans h
            by_cases c6 : a2 = 2
            · refine aw_tsIn C 41 116 (tb_at ok_X7_morning 42 rfl) (by rw [c6]; decide) (by rw [c6]; decide) (by rw [c6]; rfl) (by decide) ?_
              have h := (if_pos c6).symm.trans h
              refine aw_aload_n C (tb_at ok_X7_morning 51 rfl) rfl ?_
              refine aw_getR C (ob_0 hn) rfl (by decide) rfl p_0_7 fl_RX7_48 (tb_at ok_X7_morning 52 rfl) ?_
              refine aw_get C (ob_45 hn) rfl (by decide) rfl fl_RX7_190 (tb_at ok_X7_morning 53 rfl) ?_
              exact sw_iret C S rfl (tb_at ok_X7_morning 54 rfl) h
            have h := (if_neg c6).symm.trans h
            refine aw_tsOut C 124 (tb_at ok_X7_morning 42 rfl) ?_ (by decide) ?_
            · rcases Int.lt_or_le (a2).toInt 0 with q | q
              · exact Or.inl q
              · refine Or.inr (Int.lt_of_not_ge (fun q2 => ?_))
                have q3 : (a2).toInt = 0 ∨ (a2).toInt = 1 ∨ (a2).toInt = 2 := by omega
                rcases q3 with e | e | e
                · exact c4 (Int32.toInt_inj.mp (e.trans (by decide)))
                · exact c5 (Int32.toInt_inj.mp (e.trans (by decide)))
                · exact c6 (Int32.toInt_inj.mp (e.trans (by decide)))
            refine aw_aload_n C (tb_at ok_X7_morning 55 rfl) rfl ?_
            refine aw_getR C (ob_0 hn) rfl (by decide) rfl p_0_7 fl_RX7_48 (tb_at ok_X7_morning 56 rfl) ?_
            refine sw_cVi C S [] [] (tb_at ok_X7_morning 57 rfl) h (fun q e => m_fD_dear hn e) mf_X0_dear (ob_45 hn) rfl rfl cw_RX7_193 rfl (by decide) rfl (Nat.le_of_ble_eq_true rfl) (fun r7 M7 h => ?_)
            exact sw_iret C S rfl (tb_at ok_X7_morning 58 rfl) h
          · refine aw_aload_n C (tb_at ok_X7_morning 31 rfl) rfl ?_
            refine aw_getR C (ob_0 hn) rfl (by decide) rfl p_0_7 fl_RX7_48 (tb_at ok_X7_morning 32 rfl) ?_
            refine aw_iload_n C (tb_at ok_X7_morning 33 rfl) rfl ?_
            refine aw_bipush C (tb_at ok_X7_morning 34 rfl) kb_10 ?_
            refine aw_irem C (by decide) (tb_at ok_X7_morning 35 rfl) ?_
            refine aw_iload_n C (tb_at ok_X7_morning 36 rfl) rfl ?_
            refine aw_bipush C (tb_at ok_X7_morning 37 rfl) kb_10 ?_
            refine aw_idiv C (by decide) (tb_at ok_X7_morning 38 rfl) ?_
            refine sw_cVi C S [.int (a2 - a2 / 10 * 10), .int (a2 / 10)] [] (tb_at ok_X7_morning 39 rfl) h (fun q e => m_fD_ofMaid hn e) mf_X0_ofMaid (ob_45 hn) rfl rfl cw_RX7_181 rfl (by decide) rfl (Nat.le_of_ble_eq_true rfl) (fun r8 M8 h => ?_)
            exact sw_iret C S rfl (tb_at ok_X7_morning 40 rfl) h
        · refine aw_aload_n C (tb_at ok_X7_morning 20 rfl) rfl ?_
          refine aw_getR C (ob_0 hn) rfl (by decide) rfl p_0_7 fl_RX7_48 (tb_at ok_X7_morning 21 rfl) ?_
          refine aw_getR C (ob_45 hn) rfl (by decide) rfl p_45_11 fl_RX7_180 (tb_at ok_X7_morning 22 rfl) ?_
          refine aw_iload_n C (tb_at ok_X7_morning 23 rfl) rfl ?_
          refine aw_bipush C (tb_at ok_X7_morning 24 rfl) kb_50 ?_
          refine aw_isub C (tb_at ok_X7_morning 25 rfl) ?_
          refine aw_iald C (ob_56 hn) (tb_at ok_X7_morning 26 rfl) h (fun h => ?_)
          exact sw_iret C S rfl (tb_at ok_X7_morning 27 rfl) h
theorem m_fN_morning {l : Launch} {w : Wd} {n : Nat} {a1 : Int32} {a2 : Int32} {M : Mem} {r : Int32 × Mem} (hn : 85 ≤ n) (h : fN_morning a1 a2 M = some r) : CM l w yX7_morning cX7_morning 3 (some .int) 7 0 0 [.ref 0, .int a1, .int a2] n M (PD M) (Ti n r) := sm_of (loc := [some (.ref 0), some (.int a1), some (.int a2)]) mf_X7_morning (by decide) (Nat.le_of_ble_eq_true rfl) rfl (fun K _ _ C S => t_fN_morning C S hn h)
def tb_X7_firstOrder : List (Nat × Instr × Nat) := [(0, .iconst 1, 1), (1, .istore_n 2, 1), (2, .iconst 0, 1), (3, .istore_n 3, 1), (4, .iload_n 3, 1), (5, .iload_n 1, 1), (6, .if_icmp .ge 22, 3), (9, .aload_n 0, 1), (10, .getfield 58, 3), (13, .iload_n 3, 1), (14, .iload_n 3, 1), (15, .iastore, 1), (16, .iload_n 2, 1), (17, .iload_n 3, 1), (18, .iconst 1, 1), (19, .iadd, 1), (20, .imul, 1), (21, .istore_n 2, 1), (22, .iinc 3 1, 3), (25, .goto (-21), 3), (28, .iload_n 2, 1), (29, .ireturn, 1)]
theorem ok_X7_firstOrder : TB cX7_firstOrder tb_X7_firstOrder := (by decide +kernel : tb_X7_firstOrder.all (fun q => tbq cX7_firstOrder q) = true)
set_option maxHeartbeats 4000000 in
set_option maxRecDepth 20000 in
theorem t_fN_firstOrder_b4 {K : Cx} {n : Nat} {a1 : Int32} {r : Int32 × Mem} (C : Ctx K RX7 cX7_firstOrder) (S : SS K n 1 4 (some .int) (Ti n r)) (hn : 85 ≤ n) : ∀ (z : Nat) (a2 : Int32) (a3 : Int32) (M : Mem), fN_firstOrder_b4 a1 z a2 a3 M = some r → AS K n M 4 [some (.ref 0), some (.int a1), some (.int a2), some (.int a3)] [] := by
  intro z
  induction z with
  | zero => intro a2 a3 M h; cases h
  | succ z ih =>
    intro a2 a3 M h
    refine aw_iload_n C (tb_at ok_X7_firstOrder 4 rfl) rfl ?_
    refine aw_iload_n C (tb_at ok_X7_firstOrder 5 rfl) rfl ?_
    refine aw_icmp_ge C 28 (tb_at ok_X7_firstOrder 6 rfl) (by decide) h (fun h => ?_) (fun h => ?_)
    · refine aw_iload_n C (tb_at ok_X7_firstOrder 20 rfl) rfl ?_
      exact sw_iret C S rfl (tb_at ok_X7_firstOrder 21 rfl) h
    · refine aw_aload_n C (tb_at ok_X7_firstOrder 7 rfl) rfl ?_
      refine aw_getR C (ob_0 hn) rfl (by decide) rfl p_0_9 fl_RX7_58 (tb_at ok_X7_firstOrder 8 rfl) ?_
      refine aw_iload_n C (tb_at ok_X7_firstOrder 9 rfl) rfl ?_
      refine aw_iload_n C (tb_at ok_X7_firstOrder 10 rfl) rfl ?_
      refine sw_iast C (ob_58 hn) (tb_at ok_X7_firstOrder 11 rfl) h (fun h => ?_)
      refine aw_iload_n C (tb_at ok_X7_firstOrder 12 rfl) rfl ?_
      refine aw_iload_n C (tb_at ok_X7_firstOrder 13 rfl) rfl ?_
      refine aw_iconst C (tb_at ok_X7_firstOrder 14 rfl) ki_1 ?_
      refine aw_iadd C (tb_at ok_X7_firstOrder 15 rfl) ?_
      refine aw_imul C (tb_at ok_X7_firstOrder 16 rfl) ?_
      refine aw_istore_n C [some (.ref 0), some (.int a1), some (.int (a2 * (a3 + 1))), some (.int a3)] (tb_at ok_X7_firstOrder 17 rfl) S.2.2.2.1 (by decide) rfl ?_
      refine aw_iinc C [some (.ref 0), some (.int a1), some (.int (a2 * (a3 + 1))), some (.int (a3 + 1))] (tb_at ok_X7_firstOrder 18 rfl) rfl S.2.2.2.1 (by decide) ki_1 rfl ?_
      refine aw_goto C 4 (tb_at ok_X7_firstOrder 19 rfl) (by decide) ?_
      exact aw_loc [some (.ref 0), some (.int a1), some (.int (a2 * (a3 + 1))), some (.int (a3 + 1))] (sl_k (sl_k (sl_k (sl_k sl_0)))) (ih _ _ _ h)
set_option maxHeartbeats 4000000 in
set_option maxRecDepth 20000 in
theorem t_fN_firstOrder {K : Cx} {n : Nat} {a1 : Int32} {M : Mem} {r : Int32 × Mem} (C : Ctx K RX7 cX7_firstOrder) (S : SS K n 1 4 (some .int) (Ti n r)) (hn : 85 ≤ n) (h : fN_firstOrder a1 M = some r) : AS K n M 0 [some (.ref 0), some (.int a1), none, none] [] := by
  refine aw_iconst C (tb_at ok_X7_firstOrder 0 rfl) ki_1 ?_
  refine aw_istore_n C [some (.ref 0), some (.int a1), some (.int 1), none] (tb_at ok_X7_firstOrder 1 rfl) S.2.2.2.1 (by decide) rfl ?_
  refine aw_iconst C (tb_at ok_X7_firstOrder 2 rfl) ki_0 ?_
  refine aw_istore_n C [some (.ref 0), some (.int a1), some (.int 1), some (.int 0)] (tb_at ok_X7_firstOrder 3 rfl) S.2.2.2.1 (by decide) rfl ?_
  exact aw_loc [some (.ref 0), some (.int a1), some (.int 1), some (.int 0)] (sl_k (sl_k (sl_k (sl_k sl_0)))) (t_fN_firstOrder_b4 C S hn 1000 _ _ _ h)
theorem m_fN_firstOrder {l : Launch} {w : Wd} {n : Nat} {a1 : Int32} {M : Mem} {r : Int32 × Mem} (hn : 85 ≤ n) (h : fN_firstOrder a1 M = some r) : CM l w yX7_firstOrder cX7_firstOrder 4 (some .int) 1 0 0 [.ref 0, .int a1] n M (PD M) (Ti n r) := sm_of (loc := [some (.ref 0), some (.int a1), none, none]) mf_X7_firstOrder (by decide) (Nat.le_of_ble_eq_true rfl) rfl (fun K _ _ C S => t_fN_firstOrder C S hn h)
def tb_X7_swapPlaces : List (Nat × Instr × Nat) := [(0, .aload_n 0, 1), (1, .getfield 58, 3), (4, .iload_n 1, 1), (5, .iaload, 1), (6, .istore_n 3, 1), (7, .aload_n 0, 1), (8, .getfield 58, 3), (11, .iload_n 1, 1), (12, .aload_n 0, 1), (13, .getfield 58, 3), (16, .iload_n 2, 1), (17, .iaload, 1), (18, .iastore, 1), (19, .aload_n 0, 1), (20, .getfield 58, 3), (23, .iload_n 2, 1), (24, .iload_n 3, 1), (25, .iastore, 1), (26, .return_, 1)]
theorem ok_X7_swapPlaces : TB cX7_swapPlaces tb_X7_swapPlaces := (by decide +kernel : tb_X7_swapPlaces.all (fun q => tbq cX7_swapPlaces q) = true)
set_option maxHeartbeats 4000000 in
set_option maxRecDepth 20000 in
theorem t_fN_swapPlaces {K : Cx} {n : Nat} {a1 : Int32} {a2 : Int32} {M : Mem} {r : Mem} (C : Ctx K RX7 cX7_swapPlaces) (S : SS K n 1 4 none (Tv n r)) (hn : 85 ≤ n) (h : fN_swapPlaces a1 a2 M = some r) : AS K n M 0 [some (.ref 0), some (.int a1), some (.int a2), none] [] := by
  refine aw_aload_n C (tb_at ok_X7_swapPlaces 0 rfl) rfl ?_
  refine aw_getR C (ob_0 hn) rfl (by decide) rfl p_0_9 fl_RX7_58 (tb_at ok_X7_swapPlaces 1 rfl) ?_
  refine aw_iload_n C (tb_at ok_X7_swapPlaces 2 rfl) rfl ?_
  refine aw_iald C (ob_58 hn) (tb_at ok_X7_swapPlaces 3 rfl) h (fun h => ?_)
  refine aw_istore_n C [some (.ref 0), some (.int a1), some (.int a2), some (.int (M 58 (ix a1)))] (tb_at ok_X7_swapPlaces 4 rfl) S.2.2.2.1 (by decide) rfl ?_
  refine aw_aload_n C (tb_at ok_X7_swapPlaces 5 rfl) rfl ?_
  refine aw_getR C (ob_0 hn) rfl (by decide) rfl p_0_9 fl_RX7_58 (tb_at ok_X7_swapPlaces 6 rfl) ?_
  refine aw_iload_n C (tb_at ok_X7_swapPlaces 7 rfl) rfl ?_
  refine aw_aload_n C (tb_at ok_X7_swapPlaces 8 rfl) rfl ?_
  refine aw_getR C (ob_0 hn) rfl (by decide) rfl p_0_9 fl_RX7_58 (tb_at ok_X7_swapPlaces 9 rfl) ?_
  refine aw_iload_n C (tb_at ok_X7_swapPlaces 10 rfl) rfl ?_
  refine aw_iald C (ob_58 hn) (tb_at ok_X7_swapPlaces 11 rfl) h (fun h => ?_)
  refine sw_iast C (ob_58 hn) (tb_at ok_X7_swapPlaces 12 rfl) h (fun h => ?_)
  refine aw_aload_n C (tb_at ok_X7_swapPlaces 13 rfl) rfl ?_
  refine aw_getR C (ob_0 hn) rfl (by decide) rfl p_0_9 fl_RX7_58 (tb_at ok_X7_swapPlaces 14 rfl) ?_
  refine aw_iload_n C (tb_at ok_X7_swapPlaces 15 rfl) rfl ?_
  refine aw_iload_n C (tb_at ok_X7_swapPlaces 16 rfl) rfl ?_
  refine sw_iast C (ob_58 hn) (tb_at ok_X7_swapPlaces 17 rfl) h (fun h => ?_)
  exact sw_vret C S (tb_at ok_X7_swapPlaces 18 rfl) h
theorem m_fN_swapPlaces {l : Launch} {w : Wd} {n : Nat} {a1 : Int32} {a2 : Int32} {M : Mem} {r : Mem} (hn : 85 ≤ n) (h : fN_swapPlaces a1 a2 M = some r) : CM l w yX7_swapPlaces cX7_swapPlaces 4 none 1 0 0 [.ref 0, .int a1, .int a2] n M (PD M) (Tv n r) := sm_of (loc := [some (.ref 0), some (.int a1), some (.int a2), none]) mf_X7_swapPlaces (by decide) (Nat.le_of_ble_eq_true rfl) rfl (fun K _ _ C S => t_fN_swapPlaces C S hn h)
def tb_X7_nextOrder : List (Nat × Instr × Nat) := [(0, .iload_n 1, 1), (1, .iconst 2, 1), (2, .isub, 1), (3, .istore_n 2, 1), (4, .iload_n 2, 1), (5, .ifCond .lt 26, 3), (8, .aload_n 0, 1), (9, .getfield 58, 3), (12, .iload_n 2, 1), (13, .iaload, 1), (14, .aload_n 0, 1), (15, .getfield 58, 3), (18, .iload_n 2, 1), (19, .iconst 1, 1), (20, .iadd, 1), (21, .iaload, 1), (22, .if_icmp .le 9, 3), (25, .iinc 2 (-1), 3), (28, .goto (-24), 3), (31, .iload_n 2, 1), (32, .ifCond .ge 4, 3), (35, .return_, 1), (36, .iload_n 1, 1), (37, .iconst 1, 1), (38, .isub, 1), (39, .istore_n 3, 1), (40, .iload_n 3, 1), (41, .iload_n 2, 1), (42, .if_icmp .le 24, 3), (45, .aload_n 0, 1), (46, .getfield 58, 3), (49, .iload_n 3, 1), (50, .iaload, 1), (51, .aload_n 0, 1), (52, .getfield 58, 3), (55, .iload_n 2, 1), (56, .iaload, 1), (57, .if_icmp .ge 9, 3), (60, .iinc 3 (-1), 3), (63, .goto (-23), 3), (66, .aload_n 0, 1), (67, .iload_n 2, 1), (68, .iload_n 3, 1), (69, .invokevirtual 207, 3), (72, .iload_n 2, 1), (73, .iconst 1, 1), (74, .iadd, 1), (75, .istore 4, 2), (77, .iload_n 1, 1), (78, .iconst 1, 1), (79, .isub, 1), (80, .istore 5, 2), (82, .iload 4, 2), (84, .iload 5, 2), (86, .if_icmp .ge 20, 3), (89, .aload_n 0, 1), (90, .iload 4, 2), (92, .iload 5, 2), (94, .invokevirtual 207, 3), (97, .iinc 4 1, 3), (100, .iinc 5 (-1), 3), (103, .goto (-21), 3), (106, .return_, 1)]
theorem ok_X7_nextOrder : TB cX7_nextOrder tb_X7_nextOrder := (by decide +kernel : tb_X7_nextOrder.all (fun q => tbq cX7_nextOrder q) = true)
set_option maxHeartbeats 4000000 in
set_option maxRecDepth 20000 in
theorem t_fN_nextOrder_b82 {K : Cx} {n : Nat} {r : Mem} (C : Ctx K RX7 cX7_nextOrder) (S : SS K n 2 6 none (Tv n r)) (hn : 85 ≤ n) : ∀ (z : Nat) (a4 : Int32) (a5 : Int32) (M : Mem), fN_nextOrder_b82 z a4 a5 M = some r → AS K n M 82 [some (.ref 0), none, none, none, some (.int a4), some (.int a5)] [] := by
  intro z
  induction z with
  | zero => intro a4 a5 M h; cases h
  | succ z ih =>
    intro a4 a5 M h
    refine aw_iload C (tb_at ok_X7_nextOrder 52 rfl) rfl ?_
    refine aw_iload C (tb_at ok_X7_nextOrder 53 rfl) rfl ?_
    refine aw_icmp_ge C 106 (tb_at ok_X7_nextOrder 54 rfl) (by decide) h (fun h => ?_) (fun h => ?_)
    · exact sw_vret C S (tb_at ok_X7_nextOrder 62 rfl) h
    · refine aw_aload_n C (tb_at ok_X7_nextOrder 55 rfl) rfl ?_
      refine aw_iload C (tb_at ok_X7_nextOrder 56 rfl) rfl ?_
      refine aw_iload C (tb_at ok_X7_nextOrder 57 rfl) rfl ?_
      refine sw_cVv C S [.int a4, .int a5] [] (tb_at ok_X7_nextOrder 58 rfl) h (fun q e => m_fN_swapPlaces hn e) mf_X7_swapPlaces (ob_0 hn) rfl rfl cw_RX7_207 rfl (by decide) rfl (Nat.le_of_ble_eq_true rfl) (fun M2 h => ?_)
      refine aw_iinc C [some (.ref 0), none, none, none, some (.int (a4 + 1)), some (.int a5)] (tb_at ok_X7_nextOrder 59 rfl) rfl S.2.2.2.1 (by decide) ki_1 rfl ?_
      refine aw_iinc C [some (.ref 0), none, none, none, some (.int (a4 + 1)), some (.int (a5 + (-1)))] (tb_at ok_X7_nextOrder 60 rfl) rfl S.2.2.2.1 (by decide) ki_m1 rfl ?_
      refine aw_goto C 82 (tb_at ok_X7_nextOrder 61 rfl) (by decide) ?_
      exact aw_loc [some (.ref 0), none, none, none, some (.int (a4 + 1)), some (.int (a5 + (-1)))] (sl_k (sl_n (sl_n (sl_n (sl_k (sl_k sl_0)))))) (ih _ _ _ h)
set_option maxHeartbeats 4000000 in
set_option maxRecDepth 20000 in
theorem t_fN_nextOrder_b66 {K : Cx} {n : Nat} {a1 : Int32} {a2 : Int32} {a3 : Int32} {M : Mem} {r : Mem} (C : Ctx K RX7 cX7_nextOrder) (S : SS K n 2 6 none (Tv n r)) (hn : 85 ≤ n) (h : fN_nextOrder_b66 a1 a2 a3 M = some r) : AS K n M 66 [some (.ref 0), some (.int a1), some (.int a2), some (.int a3), none, none] [] := by
  refine aw_aload_n C (tb_at ok_X7_nextOrder 40 rfl) rfl ?_
  refine aw_iload_n C (tb_at ok_X7_nextOrder 41 rfl) rfl ?_
  refine aw_iload_n C (tb_at ok_X7_nextOrder 42 rfl) rfl ?_
  refine sw_cVv C S [.int a2, .int a3] [] (tb_at ok_X7_nextOrder 43 rfl) h (fun q e => m_fN_swapPlaces hn e) mf_X7_swapPlaces (ob_0 hn) rfl rfl cw_RX7_207 rfl (by decide) rfl (Nat.le_of_ble_eq_true rfl) (fun M1 h => ?_)
  refine aw_iload_n C (tb_at ok_X7_nextOrder 44 rfl) rfl ?_
  refine aw_iconst C (tb_at ok_X7_nextOrder 45 rfl) ki_1 ?_
  refine aw_iadd C (tb_at ok_X7_nextOrder 46 rfl) ?_
  refine aw_istore C [some (.ref 0), some (.int a1), some (.int a2), some (.int a3), some (.int (a2 + 1)), none] (tb_at ok_X7_nextOrder 47 rfl) S.2.2.2.1 (by decide) rfl ?_
  refine aw_iload_n C (tb_at ok_X7_nextOrder 48 rfl) rfl ?_
  refine aw_iconst C (tb_at ok_X7_nextOrder 49 rfl) ki_1 ?_
  refine aw_isub C (tb_at ok_X7_nextOrder 50 rfl) ?_
  refine aw_istore C [some (.ref 0), some (.int a1), some (.int a2), some (.int a3), some (.int (a2 + 1)), some (.int (a1 - 1))] (tb_at ok_X7_nextOrder 51 rfl) S.2.2.2.1 (by decide) rfl ?_
  exact aw_loc [some (.ref 0), none, none, none, some (.int (a2 + 1)), some (.int (a1 - 1))] (sl_k (sl_n (sl_n (sl_n (sl_k (sl_k sl_0)))))) (t_fN_nextOrder_b82 C S hn 1000 _ _ _ h)
set_option maxHeartbeats 4000000 in
set_option maxRecDepth 20000 in
theorem t_fN_nextOrder_b40 {K : Cx} {n : Nat} {a1 : Int32} {a2 : Int32} {r : Mem} (C : Ctx K RX7 cX7_nextOrder) (S : SS K n 2 6 none (Tv n r)) (hn : 85 ≤ n) : ∀ (z : Nat) (a3 : Int32) (M : Mem), fN_nextOrder_b40 a1 a2 z a3 M = some r → AS K n M 40 [some (.ref 0), some (.int a1), some (.int a2), some (.int a3), none, none] [] := by
  intro z
  induction z with
  | zero => intro a3 M h; cases h
  | succ z ih =>
    intro a3 M h
    refine aw_iload_n C (tb_at ok_X7_nextOrder 26 rfl) rfl ?_
    refine aw_iload_n C (tb_at ok_X7_nextOrder 27 rfl) rfl ?_
    refine aw_icmp_le C 66 (tb_at ok_X7_nextOrder 28 rfl) (by decide) h (fun h => ?_) (fun h => ?_)
    · exact aw_loc [some (.ref 0), some (.int a1), some (.int a2), some (.int a3), none, none] (sl_k (sl_k (sl_k (sl_k (sl_n (sl_n sl_0)))))) (t_fN_nextOrder_b66 C S hn h)
    · refine aw_aload_n C (tb_at ok_X7_nextOrder 29 rfl) rfl ?_
      refine aw_getR C (ob_0 hn) rfl (by decide) rfl p_0_9 fl_RX7_58 (tb_at ok_X7_nextOrder 30 rfl) ?_
      refine aw_iload_n C (tb_at ok_X7_nextOrder 31 rfl) rfl ?_
      refine aw_iald C (ob_58 hn) (tb_at ok_X7_nextOrder 32 rfl) h (fun h => ?_)
      refine aw_aload_n C (tb_at ok_X7_nextOrder 33 rfl) rfl ?_
      refine aw_getR C (ob_0 hn) rfl (by decide) rfl p_0_9 fl_RX7_58 (tb_at ok_X7_nextOrder 34 rfl) ?_
      refine aw_iload_n C (tb_at ok_X7_nextOrder 35 rfl) rfl ?_
      refine aw_iald C (ob_58 hn) (tb_at ok_X7_nextOrder 36 rfl) h (fun h => ?_)
      refine aw_icmp_ge C 66 (tb_at ok_X7_nextOrder 37 rfl) (by decide) h (fun h => ?_) (fun h => ?_)
      · exact aw_loc [some (.ref 0), some (.int a1), some (.int a2), some (.int a3), none, none] (sl_k (sl_k (sl_k (sl_k (sl_n (sl_n sl_0)))))) (t_fN_nextOrder_b66 C S hn h)
      · refine aw_iinc C [some (.ref 0), some (.int a1), some (.int a2), some (.int (a3 + (-1))), none, none] (tb_at ok_X7_nextOrder 38 rfl) rfl S.2.2.2.1 (by decide) ki_m1 rfl ?_
        refine aw_goto C 40 (tb_at ok_X7_nextOrder 39 rfl) (by decide) ?_
        exact aw_loc [some (.ref 0), some (.int a1), some (.int a2), some (.int (a3 + (-1))), none, none] (sl_k (sl_k (sl_k (sl_k (sl_n (sl_n sl_0)))))) (ih _ _ h)
set_option maxHeartbeats 4000000 in
set_option maxRecDepth 20000 in
theorem t_fN_nextOrder_b31 {K : Cx} {n : Nat} {a1 : Int32} {a2 : Int32} {M : Mem} {r : Mem} (C : Ctx K RX7 cX7_nextOrder) (S : SS K n 2 6 none (Tv n r)) (hn : 85 ≤ n) (h : fN_nextOrder_b31 a1 a2 M = some r) : AS K n M 31 [some (.ref 0), some (.int a1), some (.int a2), none, none, none] [] := by
  refine aw_iload_n C (tb_at ok_X7_nextOrder 19 rfl) rfl ?_
  refine aw_if_ge C 36 (tb_at ok_X7_nextOrder 20 rfl) (by decide) h (fun h => ?_) (fun h => ?_)
  · refine aw_iload_n C (tb_at ok_X7_nextOrder 22 rfl) rfl ?_
    refine aw_iconst C (tb_at ok_X7_nextOrder 23 rfl) ki_1 ?_
    refine aw_isub C (tb_at ok_X7_nextOrder 24 rfl) ?_
    refine aw_istore_n C [some (.ref 0), some (.int a1), some (.int a2), some (.int (a1 - 1)), none, none] (tb_at ok_X7_nextOrder 25 rfl) S.2.2.2.1 (by decide) rfl ?_
    exact aw_loc [some (.ref 0), some (.int a1), some (.int a2), some (.int (a1 - 1)), none, none] (sl_k (sl_k (sl_k (sl_k (sl_n (sl_n sl_0)))))) (t_fN_nextOrder_b40 C S hn 1000 _ _ h)
  · exact sw_vret C S (tb_at ok_X7_nextOrder 21 rfl) h
set_option maxHeartbeats 4000000 in
set_option maxRecDepth 20000 in
theorem t_fN_nextOrder_b4 {K : Cx} {n : Nat} {a1 : Int32} {r : Mem} (C : Ctx K RX7 cX7_nextOrder) (S : SS K n 2 6 none (Tv n r)) (hn : 85 ≤ n) : ∀ (z : Nat) (a2 : Int32) (M : Mem), fN_nextOrder_b4 a1 z a2 M = some r → AS K n M 4 [some (.ref 0), some (.int a1), some (.int a2), none, none, none] [] := by
  intro z
  induction z with
  | zero => intro a2 M h; cases h
  | succ z ih =>
    intro a2 M h
    refine aw_iload_n C (tb_at ok_X7_nextOrder 4 rfl) rfl ?_
    refine aw_if_lt C 31 (tb_at ok_X7_nextOrder 5 rfl) (by decide) h (fun h => ?_) (fun h => ?_)
    · exact aw_loc [some (.ref 0), some (.int a1), some (.int a2), none, none, none] (sl_k (sl_k (sl_k (sl_n (sl_n (sl_n sl_0)))))) (t_fN_nextOrder_b31 C S hn h)
    · refine aw_aload_n C (tb_at ok_X7_nextOrder 6 rfl) rfl ?_
      refine aw_getR C (ob_0 hn) rfl (by decide) rfl p_0_9 fl_RX7_58 (tb_at ok_X7_nextOrder 7 rfl) ?_
      refine aw_iload_n C (tb_at ok_X7_nextOrder 8 rfl) rfl ?_
      refine aw_iald C (ob_58 hn) (tb_at ok_X7_nextOrder 9 rfl) h (fun h => ?_)
      refine aw_aload_n C (tb_at ok_X7_nextOrder 10 rfl) rfl ?_
      refine aw_getR C (ob_0 hn) rfl (by decide) rfl p_0_9 fl_RX7_58 (tb_at ok_X7_nextOrder 11 rfl) ?_
      refine aw_iload_n C (tb_at ok_X7_nextOrder 12 rfl) rfl ?_
      refine aw_iconst C (tb_at ok_X7_nextOrder 13 rfl) ki_1 ?_
      refine aw_iadd C (tb_at ok_X7_nextOrder 14 rfl) ?_
      refine aw_iald C (ob_58 hn) (tb_at ok_X7_nextOrder 15 rfl) h (fun h => ?_)
      refine aw_icmp_le C 31 (tb_at ok_X7_nextOrder 16 rfl) (by decide) h (fun h => ?_) (fun h => ?_)
      · exact aw_loc [some (.ref 0), some (.int a1), some (.int a2), none, none, none] (sl_k (sl_k (sl_k (sl_n (sl_n (sl_n sl_0)))))) (t_fN_nextOrder_b31 C S hn h)
      · refine aw_iinc C [some (.ref 0), some (.int a1), some (.int (a2 + (-1))), none, none, none] (tb_at ok_X7_nextOrder 17 rfl) rfl S.2.2.2.1 (by decide) ki_m1 rfl ?_
        refine aw_goto C 4 (tb_at ok_X7_nextOrder 18 rfl) (by decide) ?_
        exact aw_loc [some (.ref 0), some (.int a1), some (.int (a2 + (-1))), none, none, none] (sl_k (sl_k (sl_k (sl_n (sl_n (sl_n sl_0)))))) (ih _ _ h)
set_option maxHeartbeats 4000000 in
set_option maxRecDepth 20000 in
theorem t_fN_nextOrder {K : Cx} {n : Nat} {a1 : Int32} {M : Mem} {r : Mem} (C : Ctx K RX7 cX7_nextOrder) (S : SS K n 2 6 none (Tv n r)) (hn : 85 ≤ n) (h : fN_nextOrder a1 M = some r) : AS K n M 0 [some (.ref 0), some (.int a1), none, none, none, none] [] := by
  refine aw_iload_n C (tb_at ok_X7_nextOrder 0 rfl) rfl ?_
  refine aw_iconst C (tb_at ok_X7_nextOrder 1 rfl) ki_2 ?_
  refine aw_isub C (tb_at ok_X7_nextOrder 2 rfl) ?_
  refine aw_istore_n C [some (.ref 0), some (.int a1), some (.int (a1 - 2)), none, none, none] (tb_at ok_X7_nextOrder 3 rfl) S.2.2.2.1 (by decide) rfl ?_
  exact aw_loc [some (.ref 0), some (.int a1), some (.int (a1 - 2)), none, none, none] (sl_k (sl_k (sl_k (sl_n (sl_n (sl_n sl_0)))))) (t_fN_nextOrder_b4 C S hn 1000 _ _ h)
theorem m_fN_nextOrder {l : Launch} {w : Wd} {n : Nat} {a1 : Int32} {M : Mem} {r : Mem} (hn : 85 ≤ n) (h : fN_nextOrder a1 M = some r) : CM l w yX7_nextOrder cX7_nextOrder 6 none 2 0 0 [.ref 0, .int a1] n M (PD M) (Tv n r) := sm_of (loc := [some (.ref 0), some (.int a1), none, none, none, none]) mf_X7_nextOrder (by decide) (Nat.le_of_ble_eq_true rfl) rfl (fun K _ _ C S => t_fN_nextOrder C S hn h)
def tb_X7_best : List (Nat × Instr × Nat) := [(0, .iload_n 1, 1), (1, .aload_n 0, 1), (2, .getfield 10, 3), (5, .getfield 111, 3), (8, .invokestatic 87, 3), (11, .ifCond .eq 11, 3), (14, .iload_n 2, 1), (15, .iconst 2, 1), (16, .invokestatic 87, 3), (19, .ifCond .ne 6, 3), (22, .bipush (-2), 2), (24, .ireturn, 1), (25, .aload_n 0, 1), (26, .getfield 10, 3), (29, .getfield 114, 3), (32, .iload_n 1, 1), (33, .aaload, 1), (34, .getfield 123, 3), (37, .istore_n 3, 1), (38, .aload_n 0, 1), (39, .iload_n 3, 1), (40, .invokevirtual 196, 3), (43, .istore 4, 2), (45, .iconst 0, 1), (46, .istore 5, 2), (48, .iconst 0, 1), (49, .istore 6, 2), (51, .aload_n 0, 1), (52, .getfield 19, 3), (55, .aload_n 0, 1), (56, .getfield 10, 3), (59, .invokevirtual 199, 3), (62, .iconst 0, 1), (63, .istore 7, 2), (65, .iload 7, 2), (67, .iload 4, 2), (69, .if_icmp .ge 125, 3), (72, .iconst 0, 1), (73, .istore 8, 2), (75, .iconst 0, 1), (76, .istore 9, 2), (78, .iload 9, 2), (80, .iload_n 3, 1), (81, .if_icmp .ge 60, 3), (84, .aload_n 0, 1), (85, .getfield 10, 3), (88, .getfield 114, 3), (91, .iload_n 1, 1), (92, .aaload, 1), (93, .getfield 126, 3), (96, .aload_n 0, 1), (97, .getfield 58, 3), (100, .iload 9, 2), (102, .iaload, 1), (103, .iaload, 1), (104, .istore 10, 2), (106, .aload_n 0, 1), (107, .getfield 19, 3), (110, .getfield 114, 3), (113, .iload_n 1, 1), (114, .aaload, 1), (115, .getfield 126, 3), (118, .iload 9, 2), (120, .iload 10, 2), (122, .iastore, 1), (123, .iload 8, 2), (125, .bipush 10, 2), (127, .imul, 1), (128, .iload 10, 2), (130, .iadd, 1), (131, .iconst 1, 1), (132, .iadd, 1), (133, .istore 8, 2), (135, .iinc 9 1, 3), (138, .goto (-60), 3), (141, .aload_n 0, 1), (142, .getfield 48, 3), (145, .aload_n 0, 1), (146, .getfield 19, 3), (149, .bipush 100, 2), (151, .invokevirtual 176, 3), (154, .aload_n 0, 1), (155, .getfield 48, 3), (158, .invokevirtual 193, 3), (161, .istore 9, 2), (163, .iload 7, 2), (165, .ifCond .eq 10, 3), (168, .iload 9, 2), (170, .iload 5, 2), (172, .if_icmp .ge 11, 3), (175, .iload 9, 2), (177, .istore 5, 2), (179, .iload 8, 2), (181, .istore 6, 2), (183, .aload_n 0, 1), (184, .iload_n 3, 1), (185, .invokevirtual 203, 3), (188, .iinc 7 1, 3), (191, .goto (-126), 3), (194, .iload_n 2, 1), (195, .ifCond .ne 8, 3), (198, .iload 6, 2), (200, .goto 5, 3), (203, .iload 5, 2), (205, .ireturn, 1)]
theorem ok_X7_best : TB cX7_best tb_X7_best := (by decide +kernel : tb_X7_best.all (fun q => tbq cX7_best q) = true)
set_option maxHeartbeats 4000000 in
set_option maxRecDepth 20000 in
theorem t_fN_best_b183 {K : Cx} {n : Nat} {k65 : Int32 → Int32 → Int32 → Mem → Option (Int32 × Mem)} {a1 : Int32} {a2 : Int32} {a3 : Int32} {a4 : Int32} {a5 : Int32} {a6 : Int32} {a7 : Int32} {M : Mem} {r : Int32 × Mem} (C : Ctx K RX7 cX7_best) (S : SS K n 7 11 (some .int) (Ti n r)) (hn : 85 ≤ n) (hk65 : ∀ (va5 : Int32) (va6 : Int32) (va7 : Int32) (M1 : Mem), k65 va5 va6 va7 M1 = some r → AS K n M1 65 [some (.ref 0), some (.int a1), some (.int a2), some (.int a3), some (.int a4), some (.int va5), some (.int va6), some (.int va7), none, none, none] []) (h : fN_best_b183 k65 a1 a2 a3 a4 a5 a6 a7 M = some r) : AS K n M 183 [some (.ref 0), some (.int a1), some (.int a2), some (.int a3), some (.int a4), some (.int a5), some (.int a6), some (.int a7), none, none, none] [] := by
  refine aw_aload_n C (tb_at ok_X7_best 94 rfl) rfl ?_
  refine aw_iload_n C (tb_at ok_X7_best 95 rfl) rfl ?_
  refine sw_cVv C S [.int a3] [] (tb_at ok_X7_best 96 rfl) h (fun q e => m_fN_nextOrder hn e) mf_X7_nextOrder (ob_0 hn) rfl rfl cw_RX7_203 rfl (by decide) rfl (Nat.le_of_ble_eq_true rfl) (fun M8 h => ?_)
  refine aw_iinc C [some (.ref 0), some (.int a1), some (.int a2), some (.int a3), some (.int a4), some (.int a5), some (.int a6), some (.int (a7 + 1)), none, none, none] (tb_at ok_X7_best 97 rfl) rfl S.2.2.2.1 (by decide) ki_1 rfl ?_
  refine aw_goto C 65 (tb_at ok_X7_best 98 rfl) (by decide) ?_
  exact aw_loc [some (.ref 0), some (.int a1), some (.int a2), some (.int a3), some (.int a4), some (.int a5), some (.int a6), some (.int (a7 + 1)), none, none, none] (sl_k (sl_k (sl_k (sl_k (sl_k (sl_k (sl_k (sl_k (sl_n (sl_n (sl_n sl_0))))))))))) (hk65 _ _ _ _ h)
set_option maxHeartbeats 4000000 in
set_option maxRecDepth 20000 in
theorem t_fN_best_b175 {K : Cx} {n : Nat} {k65 : Int32 → Int32 → Int32 → Mem → Option (Int32 × Mem)} {a1 : Int32} {a2 : Int32} {a3 : Int32} {a4 : Int32} {a7 : Int32} {a8 : Int32} {a9 : Int32} {M : Mem} {r : Int32 × Mem} (C : Ctx K RX7 cX7_best) (S : SS K n 7 11 (some .int) (Ti n r)) (hn : 85 ≤ n) (hk65 : ∀ (va5 : Int32) (va6 : Int32) (va7 : Int32) (M1 : Mem), k65 va5 va6 va7 M1 = some r → AS K n M1 65 [some (.ref 0), some (.int a1), some (.int a2), some (.int a3), some (.int a4), some (.int va5), some (.int va6), some (.int va7), none, none, none] []) (h : fN_best_b175 k65 a1 a2 a3 a4 a7 a8 a9 M = some r) : AS K n M 175 [some (.ref 0), some (.int a1), some (.int a2), some (.int a3), some (.int a4), none, none, some (.int a7), some (.int a8), some (.int a9), none] [] := by
  refine aw_iload C (tb_at ok_X7_best 90 rfl) rfl ?_
  refine aw_istore C [some (.ref 0), some (.int a1), some (.int a2), some (.int a3), some (.int a4), some (.int a9), none, some (.int a7), some (.int a8), some (.int a9), none] (tb_at ok_X7_best 91 rfl) S.2.2.2.1 (by decide) rfl ?_
  refine aw_iload C (tb_at ok_X7_best 92 rfl) rfl ?_
  refine aw_istore C [some (.ref 0), some (.int a1), some (.int a2), some (.int a3), some (.int a4), some (.int a9), some (.int a8), some (.int a7), some (.int a8), some (.int a9), none] (tb_at ok_X7_best 93 rfl) S.2.2.2.1 (by decide) rfl ?_
  exact aw_loc [some (.ref 0), some (.int a1), some (.int a2), some (.int a3), some (.int a4), some (.int a9), some (.int a8), some (.int a7), none, none, none] (sl_k (sl_k (sl_k (sl_k (sl_k (sl_k (sl_k (sl_k (sl_n (sl_n (sl_n sl_0))))))))))) (t_fN_best_b183 C S hn hk65 h)
set_option maxHeartbeats 4000000 in
set_option maxRecDepth 20000 in
theorem t_fN_best_b78 {K : Cx} {n : Nat} {k65 : Int32 → Int32 → Int32 → Mem → Option (Int32 × Mem)} {a1 : Int32} {a2 : Int32} {a3 : Int32} {a4 : Int32} {a5 : Int32} {a6 : Int32} {a7 : Int32} {r : Int32 × Mem} (C : Ctx K RX7 cX7_best) (S : SS K n 7 11 (some .int) (Ti n r)) (hn : 85 ≤ n) (hk65 : ∀ (va5 : Int32) (va6 : Int32) (va7 : Int32) (M1 : Mem), k65 va5 va6 va7 M1 = some r → AS K n M1 65 [some (.ref 0), some (.int a1), some (.int a2), some (.int a3), some (.int a4), some (.int va5), some (.int va6), some (.int va7), none, none, none] []) : ∀ (z : Nat) (a8 : Int32) (a9 : Int32) (M : Mem), fN_best_b78 k65 a1 a2 a3 a4 a5 a6 a7 z a8 a9 M = some r → AS K n M 78 [some (.ref 0), some (.int a1), some (.int a2), some (.int a3), some (.int a4), some (.int a5), some (.int a6), some (.int a7), some (.int a8), some (.int a9), none] [] := by
  intro z
  induction z with
  | zero => intro a8 a9 M h; cases h
  | succ z ih =>
    intro a8 a9 M h
    refine aw_iload C (tb_at ok_X7_best 41 rfl) rfl ?_
    refine aw_iload_n C (tb_at ok_X7_best 42 rfl) rfl ?_
    refine aw_icmp_ge C 141 (tb_at ok_X7_best 43 rfl) (by decide) h (fun h => ?_) (fun h => ?_)
    · refine aw_aload_n C (tb_at ok_X7_best 75 rfl) rfl ?_
      refine aw_getR C (ob_0 hn) rfl (by decide) rfl p_0_7 fl_RX7_48 (tb_at ok_X7_best 76 rfl) ?_
      refine aw_aload_n C (tb_at ok_X7_best 77 rfl) rfl ?_
      refine aw_getR C (ob_0 hn) rfl (by decide) rfl p_0_2 fl_RX7_19 (tb_at ok_X7_best 78 rfl) ?_
      refine aw_bipush C (tb_at ok_X7_best 79 rfl) kb_100 ?_
      refine sw_cVv C S [.ref 27, .int 100] [] (tb_at ok_X7_best 80 rfl) h (fun q e => m_fD_run hn (by decide) e) mf_X0_run (ob_45 hn) rfl rfl cw_RX7_176 rfl (by decide) rfl (Nat.le_of_ble_eq_true rfl) (fun M6 h => ?_)
      refine aw_aload_n C (tb_at ok_X7_best 81 rfl) rfl ?_
      refine aw_getR C (ob_0 hn) rfl (by decide) rfl p_0_7 fl_RX7_48 (tb_at ok_X7_best 82 rfl) ?_
      refine sw_cVi C S [] [] (tb_at ok_X7_best 83 rfl) h (fun q e => m_fD_dear hn e) mf_X0_dear (ob_45 hn) rfl rfl cw_RX7_193 rfl (by decide) rfl (Nat.le_of_ble_eq_true rfl) (fun r7 M7 h => ?_)
      refine aw_istore C [some (.ref 0), some (.int a1), some (.int a2), some (.int a3), some (.int a4), some (.int a5), some (.int a6), some (.int a7), some (.int a8), some (.int r7), none] (tb_at ok_X7_best 84 rfl) S.2.2.2.1 (by decide) rfl ?_
      refine aw_iload C (tb_at ok_X7_best 85 rfl) rfl ?_
      refine aw_if_eq C 175 (tb_at ok_X7_best 86 rfl) (by decide) h (fun h => ?_) (fun h => ?_)
      · exact aw_loc [some (.ref 0), some (.int a1), some (.int a2), some (.int a3), some (.int a4), none, none, some (.int a7), some (.int a8), some (.int r7), none] (sl_k (sl_k (sl_k (sl_k (sl_k (sl_n (sl_n (sl_k (sl_k (sl_k (sl_n sl_0))))))))))) (t_fN_best_b175 C S hn hk65 h)
      · refine aw_iload C (tb_at ok_X7_best 87 rfl) rfl ?_
        refine aw_iload C (tb_at ok_X7_best 88 rfl) rfl ?_
        refine aw_icmp_ge C 183 (tb_at ok_X7_best 89 rfl) (by decide) h (fun h => ?_) (fun h => ?_)
        · exact aw_loc [some (.ref 0), some (.int a1), some (.int a2), some (.int a3), some (.int a4), some (.int a5), some (.int a6), some (.int a7), none, none, none] (sl_k (sl_k (sl_k (sl_k (sl_k (sl_k (sl_k (sl_k (sl_n (sl_n (sl_n sl_0))))))))))) (t_fN_best_b183 C S hn hk65 h)
        · exact aw_loc [some (.ref 0), some (.int a1), some (.int a2), some (.int a3), some (.int a4), none, none, some (.int a7), some (.int a8), some (.int r7), none] (sl_k (sl_k (sl_k (sl_k (sl_k (sl_n (sl_n (sl_k (sl_k (sl_k (sl_n sl_0))))))))))) (t_fN_best_b175 C S hn hk65 h)
    · refine aw_aload_n C (tb_at ok_X7_best 44 rfl) rfl ?_
      refine aw_getR C (ob_0 hn) rfl (by decide) rfl p_0_0 fl_RX7_10 (tb_at ok_X7_best 45 rfl) ?_
      refine aw_getR C (ob_1 hn) rfl (by decide) rfl p_1_7 fl_RX7_114 (tb_at ok_X7_best 46 rfl) ?_
      refine aw_iload_n C (tb_at ok_X7_best 47 rfl) rfl ?_
      refine sw_aald C 2 (ob_5 hn) (by decide) rfl (tb_at ok_X7_best 48 rfl) (fun z => hPA_5 z) h (fun hi9 h => ?_)
      refine aw_getR C (aO hn (hA_5 hi9)) rfl (by decide) rfl (aP4 (hA_5 hi9)) fl_RX7_126 (tb_at ok_X7_best 49 rfl) ?_
      refine aw_aload_n C (tb_at ok_X7_best 50 rfl) rfl ?_
      refine aw_getR C (ob_0 hn) rfl (by decide) rfl p_0_9 fl_RX7_58 (tb_at ok_X7_best 51 rfl) ?_
      refine aw_iload C (tb_at ok_X7_best 52 rfl) rfl ?_
      refine aw_iald C (ob_58 hn) (tb_at ok_X7_best 53 rfl) h (fun h => ?_)
      refine aw_iald C (aO1 hn (hA_5 hi9)) (tb_at ok_X7_best 54 rfl) h (fun h => ?_)
      refine aw_istore C [some (.ref 0), some (.int a1), some (.int a2), some (.int a3), some (.int a4), some (.int a5), some (.int a6), some (.int a7), some (.int a8), some (.int a9), some (.int (M ((6 + 2 * ix a1) + 1) (ix (M 58 (ix a9)))))] (tb_at ok_X7_best 55 rfl) S.2.2.2.1 (by decide) rfl ?_
      refine aw_aload_n C (tb_at ok_X7_best 56 rfl) rfl ?_
      refine aw_getR C (ob_0 hn) rfl (by decide) rfl p_0_2 fl_RX7_19 (tb_at ok_X7_best 57 rfl) ?_
      refine aw_getR C (ob_27 hn) rfl (by decide) rfl p_27_7 fl_RX7_114 (tb_at ok_X7_best 58 rfl) ?_
      refine aw_iload_n C (tb_at ok_X7_best 59 rfl) rfl ?_
      refine sw_aald C 2 (ob_31 hn) (by decide) rfl (tb_at ok_X7_best 60 rfl) (fun z => hPA_31 z) h (fun hi10 h => ?_)
      refine aw_getR C (aO hn (hA_31 hi10)) rfl (by decide) rfl (aP4 (hA_31 hi10)) fl_RX7_126 (tb_at ok_X7_best 61 rfl) ?_
      refine aw_iload C (tb_at ok_X7_best 62 rfl) rfl ?_
      refine aw_iload C (tb_at ok_X7_best 63 rfl) rfl ?_
      refine sw_iast C (aO1 hn (hA_31 hi10)) (tb_at ok_X7_best 64 rfl) h (fun h => ?_)
      refine aw_iload C (tb_at ok_X7_best 65 rfl) rfl ?_
      refine aw_bipush C (tb_at ok_X7_best 66 rfl) kb_10 ?_
      refine aw_imul C (tb_at ok_X7_best 67 rfl) ?_
      refine aw_iload C (tb_at ok_X7_best 68 rfl) rfl ?_
      refine aw_iadd C (tb_at ok_X7_best 69 rfl) ?_
      refine aw_iconst C (tb_at ok_X7_best 70 rfl) ki_1 ?_
      refine aw_iadd C (tb_at ok_X7_best 71 rfl) ?_
      refine aw_istore C [some (.ref 0), some (.int a1), some (.int a2), some (.int a3), some (.int a4), some (.int a5), some (.int a6), some (.int a7), some (.int (((a8 * 10) + (M ((6 + 2 * ix a1) + 1) (ix (M 58 (ix a9))))) + 1)), some (.int a9), some (.int (M ((6 + 2 * ix a1) + 1) (ix (M 58 (ix a9)))))] (tb_at ok_X7_best 72 rfl) S.2.2.2.1 (by decide) rfl ?_
      refine aw_iinc C [some (.ref 0), some (.int a1), some (.int a2), some (.int a3), some (.int a4), some (.int a5), some (.int a6), some (.int a7), some (.int (((a8 * 10) + (M ((6 + 2 * ix a1) + 1) (ix (M 58 (ix a9))))) + 1)), some (.int (a9 + 1)), some (.int (M ((6 + 2 * ix a1) + 1) (ix (M 58 (ix a9)))))] (tb_at ok_X7_best 73 rfl) rfl S.2.2.2.1 (by decide) ki_1 rfl ?_
      refine aw_goto C 78 (tb_at ok_X7_best 74 rfl) (by decide) ?_
      exact aw_loc [some (.ref 0), some (.int a1), some (.int a2), some (.int a3), some (.int a4), some (.int a5), some (.int a6), some (.int a7), some (.int (((a8 * 10) + (M ((6 + 2 * ix a1) + 1) (ix (M 58 (ix a9))))) + 1)), some (.int (a9 + 1)), none] (sl_k (sl_k (sl_k (sl_k (sl_k (sl_k (sl_k (sl_k (sl_k (sl_k (sl_n sl_0))))))))))) (ih _ _ _ h)
set_option maxHeartbeats 4000000 in
set_option maxRecDepth 20000 in
theorem t_fN_best_b65 {K : Cx} {n : Nat} {a1 : Int32} {a2 : Int32} {a3 : Int32} {a4 : Int32} {r : Int32 × Mem} (C : Ctx K RX7 cX7_best) (S : SS K n 7 11 (some .int) (Ti n r)) (hn : 85 ≤ n) : ∀ (z : Nat) (a5 : Int32) (a6 : Int32) (a7 : Int32) (M : Mem), fN_best_b65 a1 a2 a3 a4 z a5 a6 a7 M = some r → AS K n M 65 [some (.ref 0), some (.int a1), some (.int a2), some (.int a3), some (.int a4), some (.int a5), some (.int a6), some (.int a7), none, none, none] [] := by
  intro z
  induction z with
  | zero => intro a5 a6 a7 M h; cases h
  | succ z ih =>
    intro a5 a6 a7 M h
    refine aw_iload C (tb_at ok_X7_best 34 rfl) rfl ?_
    refine aw_iload C (tb_at ok_X7_best 35 rfl) rfl ?_
    refine aw_icmp_ge C 194 (tb_at ok_X7_best 36 rfl) (by decide) h (fun h => ?_) (fun h => ?_)
    · refine aw_iload_n C (tb_at ok_X7_best 99 rfl) rfl ?_
      refine aw_if_ne C 203 (tb_at ok_X7_best 100 rfl) (by decide) h (fun h => ?_) (fun h => ?_)
      · refine aw_iload C (tb_at ok_X7_best 101 rfl) rfl ?_
        refine aw_goto C 205 (tb_at ok_X7_best 102 rfl) (by decide) ?_
        exact sw_iret C S rfl (tb_at ok_X7_best 104 rfl) h
      · refine aw_iload C (tb_at ok_X7_best 103 rfl) rfl ?_
        exact sw_iret C S rfl (tb_at ok_X7_best 104 rfl) h
    · refine aw_iconst C (tb_at ok_X7_best 37 rfl) ki_0 ?_
      refine aw_istore C [some (.ref 0), some (.int a1), some (.int a2), some (.int a3), some (.int a4), some (.int a5), some (.int a6), some (.int a7), some (.int 0), none, none] (tb_at ok_X7_best 38 rfl) S.2.2.2.1 (by decide) rfl ?_
      refine aw_iconst C (tb_at ok_X7_best 39 rfl) ki_0 ?_
      refine aw_istore C [some (.ref 0), some (.int a1), some (.int a2), some (.int a3), some (.int a4), some (.int a5), some (.int a6), some (.int a7), some (.int 0), some (.int 0), none] (tb_at ok_X7_best 40 rfl) S.2.2.2.1 (by decide) rfl ?_
      exact aw_loc [some (.ref 0), some (.int a1), some (.int a2), some (.int a3), some (.int a4), some (.int a5), some (.int a6), some (.int a7), some (.int 0), some (.int 0), none] (sl_k (sl_k (sl_k (sl_k (sl_k (sl_k (sl_k (sl_k (sl_k (sl_k (sl_n sl_0))))))))))) (t_fN_best_b78 C S hn ih 1000 _ _ _ h)
set_option maxHeartbeats 4000000 in
set_option maxRecDepth 20000 in
theorem t_fN_best {K : Cx} {n : Nat} {a1 : Int32} {a2 : Int32} {M : Mem} {r : Int32 × Mem} (C : Ctx K RX7 cX7_best) (S : SS K n 7 11 (some .int) (Ti n r)) (hn : 85 ≤ n) (h : fN_best a1 a2 M = some r) : AS K n M 0 [some (.ref 0), some (.int a1), some (.int a2), none, none, none, none, none, none, none, none] [] := by
  refine aw_iload_n C (tb_at ok_X7_best 0 rfl) rfl ?_
  refine aw_aload_n C (tb_at ok_X7_best 1 rfl) rfl ?_
  refine aw_getR C (ob_0 hn) rfl (by decide) rfl p_0_0 fl_RX7_10 (tb_at ok_X7_best 2 rfl) ?_
  refine aw_get C (ob_1 hn) rfl (by decide) rfl fl_RX7_111 (tb_at ok_X7_best 3 rfl) ?_
  refine sw_cSi C S [.int a1, .int (M 1 2)] [] (tb_at ok_X7_best 4 rfl) h (fun q e => m_fN_within hn e) mf_X7_within cw_RX7_87 rfl (by decide) rfl (Nat.le_of_ble_eq_true rfl) (fun r1 M1 h => ?_)
  refine aw_if_eq C 22 (tb_at ok_X7_best 5 rfl) (by decide) h (fun h => ?_) (fun h => ?_)
  · refine aw_bipush C (tb_at ok_X7_best 10 rfl) kb_m2 ?_
    exact sw_iret C S rfl (tb_at ok_X7_best 11 rfl) h
  · refine aw_iload_n C (tb_at ok_X7_best 6 rfl) rfl ?_
    refine aw_iconst C (tb_at ok_X7_best 7 rfl) ki_2 ?_
    refine sw_cSi C S [.int a2, .int 2] [] (tb_at ok_X7_best 8 rfl) h (fun q e => m_fN_within hn e) mf_X7_within cw_RX7_87 rfl (by decide) rfl (Nat.le_of_ble_eq_true rfl) (fun r2 M2 h => ?_)
    refine aw_if_ne C 25 (tb_at ok_X7_best 9 rfl) (by decide) h (fun h => ?_) (fun h => ?_)
    · refine aw_bipush C (tb_at ok_X7_best 10 rfl) kb_m2 ?_
      exact sw_iret C S rfl (tb_at ok_X7_best 11 rfl) h
    · refine aw_aload_n C (tb_at ok_X7_best 12 rfl) rfl ?_
      refine aw_getR C (ob_0 hn) rfl (by decide) rfl p_0_0 fl_RX7_10 (tb_at ok_X7_best 13 rfl) ?_
      refine aw_getR C (ob_1 hn) rfl (by decide) rfl p_1_7 fl_RX7_114 (tb_at ok_X7_best 14 rfl) ?_
      refine aw_iload_n C (tb_at ok_X7_best 15 rfl) rfl ?_
      refine sw_aald C 2 (ob_5 hn) (by decide) rfl (tb_at ok_X7_best 16 rfl) (fun z => hPA_5 z) h (fun hi3 h => ?_)
      refine aw_get C (aO hn (hA_5 hi3)) rfl (by decide) rfl fl_RX7_123 (tb_at ok_X7_best 17 rfl) ?_
      refine aw_istore_n C [some (.ref 0), some (.int a1), some (.int a2), some (.int (M2 (6 + 2 * ix a1) 3)), none, none, none, none, none, none, none] (tb_at ok_X7_best 18 rfl) S.2.2.2.1 (by decide) rfl ?_
      refine aw_aload_n C (tb_at ok_X7_best 19 rfl) rfl ?_
      refine aw_iload_n C (tb_at ok_X7_best 20 rfl) rfl ?_
      refine sw_cVi C S [.int (M2 (6 + 2 * ix a1) 3)] [] (tb_at ok_X7_best 21 rfl) h (fun q e => m_fN_firstOrder hn e) mf_X7_firstOrder (ob_0 hn) rfl rfl cw_RX7_196 rfl (by decide) rfl (Nat.le_of_ble_eq_true rfl) (fun r4 M4 h => ?_)
      refine aw_istore C [some (.ref 0), some (.int a1), some (.int a2), some (.int (M2 (6 + 2 * ix a1) 3)), some (.int r4), none, none, none, none, none, none] (tb_at ok_X7_best 22 rfl) S.2.2.2.1 (by decide) rfl ?_
      refine aw_iconst C (tb_at ok_X7_best 23 rfl) ki_0 ?_
      refine aw_istore C [some (.ref 0), some (.int a1), some (.int a2), some (.int (M2 (6 + 2 * ix a1) 3)), some (.int r4), some (.int 0), none, none, none, none, none] (tb_at ok_X7_best 24 rfl) S.2.2.2.1 (by decide) rfl ?_
      refine aw_iconst C (tb_at ok_X7_best 25 rfl) ki_0 ?_
      refine aw_istore C [some (.ref 0), some (.int a1), some (.int a2), some (.int (M2 (6 + 2 * ix a1) 3)), some (.int r4), some (.int 0), some (.int 0), none, none, none, none] (tb_at ok_X7_best 26 rfl) S.2.2.2.1 (by decide) rfl ?_
      refine aw_aload_n C (tb_at ok_X7_best 27 rfl) rfl ?_
      refine aw_getR C (ob_0 hn) rfl (by decide) rfl p_0_2 fl_RX7_19 (tb_at ok_X7_best 28 rfl) ?_
      refine aw_aload_n C (tb_at ok_X7_best 29 rfl) rfl ?_
      refine aw_getR C (ob_0 hn) rfl (by decide) rfl p_0_0 fl_RX7_10 (tb_at ok_X7_best 30 rfl) ?_
      refine sw_cVv C S [.ref 1] [] (tb_at ok_X7_best 31 rfl) h (fun q e => m_fH_become hn (by decide) (by decide) e) mf_X1_become (ob_27 hn) rfl rfl cw_RX7_199 rfl (by decide) rfl (Nat.le_of_ble_eq_true rfl) (fun M5 h => ?_)
      refine aw_iconst C (tb_at ok_X7_best 32 rfl) ki_0 ?_
      refine aw_istore C [some (.ref 0), some (.int a1), some (.int a2), some (.int (M2 (6 + 2 * ix a1) 3)), some (.int r4), some (.int 0), some (.int 0), some (.int 0), none, none, none] (tb_at ok_X7_best 33 rfl) S.2.2.2.1 (by decide) rfl ?_
      exact aw_loc [some (.ref 0), some (.int a1), some (.int a2), some (.int (M2 (6 + 2 * ix a1) 3)), some (.int r4), some (.int 0), some (.int 0), some (.int 0), none, none, none] (sl_k (sl_k (sl_k (sl_k (sl_k (sl_k (sl_k (sl_k (sl_n (sl_n (sl_n sl_0))))))))))) (t_fN_best_b65 C S hn 1000 _ _ _ _ h)
theorem m_fN_best {l : Launch} {w : Wd} {n : Nat} {a1 : Int32} {a2 : Int32} {M : Mem} {r : Int32 × Mem} (hn : 85 ≤ n) (h : fN_best a1 a2 M = some r) : CM l w yX7_best cX7_best 11 (some .int) 7 0 0 [.ref 0, .int a1, .int a2] n M (PD M) (Ti n r) := sm_of (loc := [some (.ref 0), some (.int a1), some (.int a2), none, none, none, none, none, none, none, none]) mf_X7_best (by decide) (Nat.le_of_ble_eq_true rfl) rfl (fun K _ _ C S => t_fN_best C S hn h)
def tb_X7_begin : List (Nat × Instr × Nat) := [(0, .iload_n 1, 1), (1, .aload_n 0, 1), (2, .getfield 10, 3), (5, .getfield 111, 3), (8, .invokestatic 87, 3), (11, .ifCond .eq 11, 3), (14, .iload_n 2, 1), (15, .iconst 2, 1), (16, .invokestatic 87, 3), (19, .ifCond .ne 6, 3), (22, .bipush (-2), 2), (24, .ireturn, 1), (25, .iconst 0, 1), (26, .istore_n 3, 1), (27, .iconst (-1), 1), (28, .istore 4, 2), (30, .aload_n 0, 1), (31, .getfield 19, 3), (34, .aload_n 0, 1), (35, .getfield 10, 3), (38, .invokevirtual 199, 3), (41, .iconst 0, 1), (42, .istore 5, 2), (44, .iload 5, 2), (46, .bipush 8, 2), (48, .if_icmp .ge 64, 3), (51, .aload_n 0, 1), (52, .getfield 19, 3), (55, .getfield 114, 3), (58, .iload_n 1, 1), (59, .aaload, 1), (60, .iload 5, 2), (62, .putfield 142, 3), (65, .aload_n 0, 1), (66, .getfield 48, 3), (69, .aload_n 0, 1), (70, .getfield 19, 3), (73, .bipush 100, 2), (75, .invokevirtual 176, 3), (78, .aload_n 0, 1), (79, .getfield 48, 3), (82, .invokevirtual 193, 3), (85, .istore 6, 2), (87, .iload 4, 2), (89, .iconst (-1), 1), (90, .if_icmp .eq 9, 3), (93, .iload 6, 2), (95, .iload_n 3, 1), (96, .if_icmp .ge 10, 3), (99, .iload 6, 2), (101, .istore_n 3, 1), (102, .iload 5, 2), (104, .istore 4, 2), (106, .iinc 5 1, 3), (109, .goto (-65), 3), (112, .iload_n 2, 1), (113, .ifCond .ne 8, 3), (116, .iload 4, 2), (118, .goto 4, 3), (121, .iload_n 3, 1), (122, .ireturn, 1)]
theorem ok_X7_begin : TB cX7_begin tb_X7_begin := (by decide +kernel : tb_X7_begin.all (fun q => tbq cX7_begin q) = true)
set_option maxHeartbeats 4000000 in
set_option maxRecDepth 20000 in
theorem t_fN_begin_b106 {K : Cx} {n : Nat} {k44 : Int32 → Int32 → Int32 → Mem → Option (Int32 × Mem)} {a1 : Int32} {a2 : Int32} {a3 : Int32} {a4 : Int32} {a5 : Int32} {M : Mem} {r : Int32 × Mem} (C : Ctx K RX7 cX7_begin) (S : SS K n 7 7 (some .int) (Ti n r)) (hn : 85 ≤ n) (hk44 : ∀ (va3 : Int32) (va4 : Int32) (va5 : Int32) (M1 : Mem), k44 va3 va4 va5 M1 = some r → AS K n M1 44 [some (.ref 0), some (.int a1), some (.int a2), some (.int va3), some (.int va4), some (.int va5), none] []) (h : fN_begin_b106 k44 a1 a2 a3 a4 a5 M = some r) : AS K n M 106 [some (.ref 0), some (.int a1), some (.int a2), some (.int a3), some (.int a4), some (.int a5), none] [] := by
  refine aw_iinc C [some (.ref 0), some (.int a1), some (.int a2), some (.int a3), some (.int a4), some (.int (a5 + 1)), none] (tb_at ok_X7_begin 53 rfl) rfl S.2.2.2.1 (by decide) ki_1 rfl ?_
  refine aw_goto C 44 (tb_at ok_X7_begin 54 rfl) (by decide) ?_
  exact aw_loc [some (.ref 0), some (.int a1), some (.int a2), some (.int a3), some (.int a4), some (.int (a5 + 1)), none] (sl_k (sl_k (sl_k (sl_k (sl_k (sl_k (sl_n sl_0))))))) (hk44 _ _ _ _ h)
set_option maxHeartbeats 4000000 in
set_option maxRecDepth 20000 in
theorem t_fN_begin_b99 {K : Cx} {n : Nat} {k44 : Int32 → Int32 → Int32 → Mem → Option (Int32 × Mem)} {a1 : Int32} {a2 : Int32} {a5 : Int32} {a6 : Int32} {M : Mem} {r : Int32 × Mem} (C : Ctx K RX7 cX7_begin) (S : SS K n 7 7 (some .int) (Ti n r)) (hn : 85 ≤ n) (hk44 : ∀ (va3 : Int32) (va4 : Int32) (va5 : Int32) (M1 : Mem), k44 va3 va4 va5 M1 = some r → AS K n M1 44 [some (.ref 0), some (.int a1), some (.int a2), some (.int va3), some (.int va4), some (.int va5), none] []) (h : fN_begin_b99 k44 a1 a2 a5 a6 M = some r) : AS K n M 99 [some (.ref 0), some (.int a1), some (.int a2), none, none, some (.int a5), some (.int a6)] [] := by
  refine aw_iload C (tb_at ok_X7_begin 49 rfl) rfl ?_
  refine aw_istore_n C [some (.ref 0), some (.int a1), some (.int a2), some (.int a6), none, some (.int a5), some (.int a6)] (tb_at ok_X7_begin 50 rfl) S.2.2.2.1 (by decide) rfl ?_
  refine aw_iload C (tb_at ok_X7_begin 51 rfl) rfl ?_
  refine aw_istore C [some (.ref 0), some (.int a1), some (.int a2), some (.int a6), some (.int a5), some (.int a5), some (.int a6)] (tb_at ok_X7_begin 52 rfl) S.2.2.2.1 (by decide) rfl ?_
  exact aw_loc [some (.ref 0), some (.int a1), some (.int a2), some (.int a6), some (.int a5), some (.int a5), none] (sl_k (sl_k (sl_k (sl_k (sl_k (sl_k (sl_n sl_0))))))) (t_fN_begin_b106 C S hn hk44 h)
set_option maxHeartbeats 4000000 in
set_option maxRecDepth 20000 in
theorem t_fN_begin_b44 {K : Cx} {n : Nat} {a1 : Int32} {a2 : Int32} {r : Int32 × Mem} (C : Ctx K RX7 cX7_begin) (S : SS K n 7 7 (some .int) (Ti n r)) (hn : 85 ≤ n) : ∀ (z : Nat) (a3 : Int32) (a4 : Int32) (a5 : Int32) (M : Mem), fN_begin_b44 a1 a2 z a3 a4 a5 M = some r → AS K n M 44 [some (.ref 0), some (.int a1), some (.int a2), some (.int a3), some (.int a4), some (.int a5), none] [] := by
  intro z
  induction z with
  | zero => intro a3 a4 a5 M h; cases h
  | succ z ih =>
    intro a3 a4 a5 M h
    refine aw_iload C (tb_at ok_X7_begin 23 rfl) rfl ?_
    refine aw_bipush C (tb_at ok_X7_begin 24 rfl) kb_8 ?_
    refine aw_icmp_ge C 112 (tb_at ok_X7_begin 25 rfl) (by decide) h (fun h => ?_) (fun h => ?_)
    · refine aw_iload_n C (tb_at ok_X7_begin 55 rfl) rfl ?_
      refine aw_if_ne C 121 (tb_at ok_X7_begin 56 rfl) (by decide) h (fun h => ?_) (fun h => ?_)
      · refine aw_iload C (tb_at ok_X7_begin 57 rfl) rfl ?_
        refine aw_goto C 122 (tb_at ok_X7_begin 58 rfl) (by decide) ?_
        exact sw_iret C S rfl (tb_at ok_X7_begin 60 rfl) h
      · refine aw_iload_n C (tb_at ok_X7_begin 59 rfl) rfl ?_
        exact sw_iret C S rfl (tb_at ok_X7_begin 60 rfl) h
    · refine aw_aload_n C (tb_at ok_X7_begin 26 rfl) rfl ?_
      refine aw_getR C (ob_0 hn) rfl (by decide) rfl p_0_2 fl_RX7_19 (tb_at ok_X7_begin 27 rfl) ?_
      refine aw_getR C (ob_27 hn) rfl (by decide) rfl p_27_7 fl_RX7_114 (tb_at ok_X7_begin 28 rfl) ?_
      refine aw_iload_n C (tb_at ok_X7_begin 29 rfl) rfl ?_
      refine sw_aald C 2 (ob_31 hn) (by decide) rfl (tb_at ok_X7_begin 30 rfl) (fun z => hPA_31 z) h (fun hi4 h => ?_)
      refine aw_iload C (tb_at ok_X7_begin 31 rfl) rfl ?_
      refine sw_put C (aO hn (hA_31 hi4)) rfl (by decide) (by decide) (Or.inr (by decide)) rfl rfl rfl rfl fl_RX7_142 (tb_at ok_X7_begin 32 rfl) ?_
      refine aw_aload_n C (tb_at ok_X7_begin 33 rfl) rfl ?_
      refine aw_getR C (ob_0 hn) rfl (by decide) rfl p_0_7 fl_RX7_48 (tb_at ok_X7_begin 34 rfl) ?_
      refine aw_aload_n C (tb_at ok_X7_begin 35 rfl) rfl ?_
      refine aw_getR C (ob_0 hn) rfl (by decide) rfl p_0_2 fl_RX7_19 (tb_at ok_X7_begin 36 rfl) ?_
      refine aw_bipush C (tb_at ok_X7_begin 37 rfl) kb_100 ?_
      refine sw_cVv C S [.ref 27, .int 100] [] (tb_at ok_X7_begin 38 rfl) h (fun q e => m_fD_run hn (by decide) e) mf_X0_run (ob_45 hn) rfl rfl cw_RX7_176 rfl (by decide) rfl (Nat.le_of_ble_eq_true rfl) (fun M5 h => ?_)
      refine aw_aload_n C (tb_at ok_X7_begin 39 rfl) rfl ?_
      refine aw_getR C (ob_0 hn) rfl (by decide) rfl p_0_7 fl_RX7_48 (tb_at ok_X7_begin 40 rfl) ?_
      refine sw_cVi C S [] [] (tb_at ok_X7_begin 41 rfl) h (fun q e => m_fD_dear hn e) mf_X0_dear (ob_45 hn) rfl rfl cw_RX7_193 rfl (by decide) rfl (Nat.le_of_ble_eq_true rfl) (fun r6 M6 h => ?_)
      refine aw_istore C [some (.ref 0), some (.int a1), some (.int a2), some (.int a3), some (.int a4), some (.int a5), some (.int r6)] (tb_at ok_X7_begin 42 rfl) S.2.2.2.1 (by decide) rfl ?_
      refine aw_iload C (tb_at ok_X7_begin 43 rfl) rfl ?_
      refine aw_iconst C (tb_at ok_X7_begin 44 rfl) ki_m1 ?_
      refine aw_icmp_eq C 99 (tb_at ok_X7_begin 45 rfl) (by decide) h (fun h => ?_) (fun h => ?_)
      · exact aw_loc [some (.ref 0), some (.int a1), some (.int a2), none, none, some (.int a5), some (.int r6)] (sl_k (sl_k (sl_k (sl_n (sl_n (sl_k (sl_k sl_0))))))) (t_fN_begin_b99 C S hn ih h)
      · refine aw_iload C (tb_at ok_X7_begin 46 rfl) rfl ?_
        refine aw_iload_n C (tb_at ok_X7_begin 47 rfl) rfl ?_
        refine aw_icmp_ge C 106 (tb_at ok_X7_begin 48 rfl) (by decide) h (fun h => ?_) (fun h => ?_)
        · exact aw_loc [some (.ref 0), some (.int a1), some (.int a2), some (.int a3), some (.int a4), some (.int a5), none] (sl_k (sl_k (sl_k (sl_k (sl_k (sl_k (sl_n sl_0))))))) (t_fN_begin_b106 C S hn ih h)
        · exact aw_loc [some (.ref 0), some (.int a1), some (.int a2), none, none, some (.int a5), some (.int r6)] (sl_k (sl_k (sl_k (sl_n (sl_n (sl_k (sl_k sl_0))))))) (t_fN_begin_b99 C S hn ih h)
set_option maxHeartbeats 4000000 in
set_option maxRecDepth 20000 in
theorem t_fN_begin {K : Cx} {n : Nat} {a1 : Int32} {a2 : Int32} {M : Mem} {r : Int32 × Mem} (C : Ctx K RX7 cX7_begin) (S : SS K n 7 7 (some .int) (Ti n r)) (hn : 85 ≤ n) (h : fN_begin a1 a2 M = some r) : AS K n M 0 [some (.ref 0), some (.int a1), some (.int a2), none, none, none, none] [] := by
  refine aw_iload_n C (tb_at ok_X7_begin 0 rfl) rfl ?_
  refine aw_aload_n C (tb_at ok_X7_begin 1 rfl) rfl ?_
  refine aw_getR C (ob_0 hn) rfl (by decide) rfl p_0_0 fl_RX7_10 (tb_at ok_X7_begin 2 rfl) ?_
  refine aw_get C (ob_1 hn) rfl (by decide) rfl fl_RX7_111 (tb_at ok_X7_begin 3 rfl) ?_
  refine sw_cSi C S [.int a1, .int (M 1 2)] [] (tb_at ok_X7_begin 4 rfl) h (fun q e => m_fN_within hn e) mf_X7_within cw_RX7_87 rfl (by decide) rfl (Nat.le_of_ble_eq_true rfl) (fun r1 M1 h => ?_)
  refine aw_if_eq C 22 (tb_at ok_X7_begin 5 rfl) (by decide) h (fun h => ?_) (fun h => ?_)
  · refine aw_bipush C (tb_at ok_X7_begin 10 rfl) kb_m2 ?_
    exact sw_iret C S rfl (tb_at ok_X7_begin 11 rfl) h
  · refine aw_iload_n C (tb_at ok_X7_begin 6 rfl) rfl ?_
    refine aw_iconst C (tb_at ok_X7_begin 7 rfl) ki_2 ?_
    refine sw_cSi C S [.int a2, .int 2] [] (tb_at ok_X7_begin 8 rfl) h (fun q e => m_fN_within hn e) mf_X7_within cw_RX7_87 rfl (by decide) rfl (Nat.le_of_ble_eq_true rfl) (fun r2 M2 h => ?_)
    refine aw_if_ne C 25 (tb_at ok_X7_begin 9 rfl) (by decide) h (fun h => ?_) (fun h => ?_)
    · refine aw_bipush C (tb_at ok_X7_begin 10 rfl) kb_m2 ?_
      exact sw_iret C S rfl (tb_at ok_X7_begin 11 rfl) h
    · refine aw_iconst C (tb_at ok_X7_begin 12 rfl) ki_0 ?_
      refine aw_istore_n C [some (.ref 0), some (.int a1), some (.int a2), some (.int 0), none, none, none] (tb_at ok_X7_begin 13 rfl) S.2.2.2.1 (by decide) rfl ?_
      refine aw_iconst C (tb_at ok_X7_begin 14 rfl) ki_m1 ?_
      refine aw_istore C [some (.ref 0), some (.int a1), some (.int a2), some (.int 0), some (.int (-1)), none, none] (tb_at ok_X7_begin 15 rfl) S.2.2.2.1 (by decide) rfl ?_
      refine aw_aload_n C (tb_at ok_X7_begin 16 rfl) rfl ?_
      refine aw_getR C (ob_0 hn) rfl (by decide) rfl p_0_2 fl_RX7_19 (tb_at ok_X7_begin 17 rfl) ?_
      refine aw_aload_n C (tb_at ok_X7_begin 18 rfl) rfl ?_
      refine aw_getR C (ob_0 hn) rfl (by decide) rfl p_0_0 fl_RX7_10 (tb_at ok_X7_begin 19 rfl) ?_
      refine sw_cVv C S [.ref 1] [] (tb_at ok_X7_begin 20 rfl) h (fun q e => m_fH_become hn (by decide) (by decide) e) mf_X1_become (ob_27 hn) rfl rfl cw_RX7_199 rfl (by decide) rfl (Nat.le_of_ble_eq_true rfl) (fun M3 h => ?_)
      refine aw_iconst C (tb_at ok_X7_begin 21 rfl) ki_0 ?_
      refine aw_istore C [some (.ref 0), some (.int a1), some (.int a2), some (.int 0), some (.int (-1)), some (.int 0), none] (tb_at ok_X7_begin 22 rfl) S.2.2.2.1 (by decide) rfl ?_
      exact aw_loc [some (.ref 0), some (.int a1), some (.int a2), some (.int 0), some (.int (-1)), some (.int 0), none] (sl_k (sl_k (sl_k (sl_k (sl_k (sl_k (sl_n sl_0))))))) (t_fN_begin_b44 C S hn 1000 _ _ _ _ h)
theorem m_fN_begin {l : Launch} {w : Wd} {n : Nat} {a1 : Int32} {a2 : Int32} {M : Mem} {r : Int32 × Mem} (hn : 85 ≤ n) (h : fN_begin a1 a2 M = some r) : CM l w yX7_begin cX7_begin 7 (some .int) 7 0 0 [.ref 0, .int a1, .int a2] n M (PD M) (Ti n r) := sm_of (loc := [some (.ref 0), some (.int a1), some (.int a2), none, none, none, none]) mf_X7_begin (by decide) (Nat.le_of_ble_eq_true rfl) rfl (fun K _ _ C S => t_fN_begin C S hn h)
def tb_X7_home : List (Nat × Instr × Nat) := [(0, .iload_n 1, 1), (1, .iconst 2, 1), (2, .invokestatic 87, 3), (5, .ifCond .ne 6, 3), (8, .bipush (-2), 2), (10, .ireturn, 1), (11, .aload_n 0, 1), (12, .getfield 48, 3), (15, .aload_n 0, 1), (16, .getfield 10, 3), (19, .bipush 100, 2), (21, .invokevirtual 176, 3), (24, .aload_n 0, 1), (25, .getfield 48, 3), (28, .invokevirtual 193, 3), (31, .istore_n 2, 1), (32, .iconst (-1), 1), (33, .istore_n 3, 1), (34, .iconst 0, 1), (35, .istore 4, 2), (37, .iload 4, 2), (39, .aload_n 0, 1), (40, .getfield 10, 3), (43, .getfield 111, 3), (46, .if_icmp .ge 63, 3), (49, .aload_n 0, 1), (50, .getfield 19, 3), (53, .aload_n 0, 1), (54, .getfield 10, 3), (57, .invokevirtual 199, 3), (60, .aload_n 0, 1), (61, .getfield 19, 3), (64, .iload 4, 2), (66, .invokevirtual 211, 3), (69, .aload_n 0, 1), (70, .getfield 48, 3), (73, .aload_n 0, 1), (74, .getfield 19, 3), (77, .bipush 100, 2), (79, .invokevirtual 176, 3), (82, .aload_n 0, 1), (83, .getfield 48, 3), (86, .invokevirtual 193, 3), (89, .istore 5, 2), (91, .iload 5, 2), (93, .iload_n 2, 1), (94, .if_icmp .ge 9, 3), (97, .iload 5, 2), (99, .istore_n 2, 1), (100, .iload 4, 2), (102, .istore_n 3, 1), (103, .iinc 4 1, 3), (106, .goto (-69), 3), (109, .iload_n 1, 1), (110, .ifCond .ne 7, 3), (113, .iload_n 3, 1), (114, .goto 4, 3), (117, .iload_n 2, 1), (118, .ireturn, 1)]
theorem ok_X7_home : TB cX7_home tb_X7_home := (by decide +kernel : tb_X7_home.all (fun q => tbq cX7_home q) = true)
set_option maxHeartbeats 4000000 in
set_option maxRecDepth 20000 in
theorem t_fN_home_b103 {K : Cx} {n : Nat} {k37 : Int32 → Int32 → Int32 → Mem → Option (Int32 × Mem)} {a1 : Int32} {a2 : Int32} {a3 : Int32} {a4 : Int32} {M : Mem} {r : Int32 × Mem} (C : Ctx K RX7 cX7_home) (S : SS K n 7 6 (some .int) (Ti n r)) (hn : 85 ≤ n) (hk37 : ∀ (va2 : Int32) (va3 : Int32) (va4 : Int32) (M1 : Mem), k37 va2 va3 va4 M1 = some r → AS K n M1 37 [some (.ref 0), some (.int a1), some (.int va2), some (.int va3), some (.int va4), none] []) (h : fN_home_b103 k37 a1 a2 a3 a4 M = some r) : AS K n M 103 [some (.ref 0), some (.int a1), some (.int a2), some (.int a3), some (.int a4), none] [] := by
  refine aw_iinc C [some (.ref 0), some (.int a1), some (.int a2), some (.int a3), some (.int (a4 + 1)), none] (tb_at ok_X7_home 51 rfl) rfl S.2.2.2.1 (by decide) ki_1 rfl ?_
  refine aw_goto C 37 (tb_at ok_X7_home 52 rfl) (by decide) ?_
  exact aw_loc [some (.ref 0), some (.int a1), some (.int a2), some (.int a3), some (.int (a4 + 1)), none] (sl_k (sl_k (sl_k (sl_k (sl_k (sl_n sl_0)))))) (hk37 _ _ _ _ h)
set_option maxHeartbeats 4000000 in
set_option maxRecDepth 20000 in
theorem t_fN_home_b37 {K : Cx} {n : Nat} {a1 : Int32} {r : Int32 × Mem} (C : Ctx K RX7 cX7_home) (S : SS K n 7 6 (some .int) (Ti n r)) (hn : 85 ≤ n) : ∀ (z : Nat) (a2 : Int32) (a3 : Int32) (a4 : Int32) (M : Mem), fN_home_b37 a1 z a2 a3 a4 M = some r → AS K n M 37 [some (.ref 0), some (.int a1), some (.int a2), some (.int a3), some (.int a4), none] [] := by
  intro z
  induction z with
  | zero => intro a2 a3 a4 M h; cases h
  | succ z ih =>
    intro a2 a3 a4 M h
    refine aw_iload C (tb_at ok_X7_home 20 rfl) rfl ?_
    refine aw_aload_n C (tb_at ok_X7_home 21 rfl) rfl ?_
    refine aw_getR C (ob_0 hn) rfl (by decide) rfl p_0_0 fl_RX7_10 (tb_at ok_X7_home 22 rfl) ?_
    refine aw_get C (ob_1 hn) rfl (by decide) rfl fl_RX7_111 (tb_at ok_X7_home 23 rfl) ?_
    refine aw_icmp_ge C 109 (tb_at ok_X7_home 24 rfl) (by decide) h (fun h => ?_) (fun h => ?_)
    · refine aw_iload_n C (tb_at ok_X7_home 53 rfl) rfl ?_
      refine aw_if_ne C 117 (tb_at ok_X7_home 54 rfl) (by decide) h (fun h => ?_) (fun h => ?_)
      · refine aw_iload_n C (tb_at ok_X7_home 55 rfl) rfl ?_
        refine aw_goto C 118 (tb_at ok_X7_home 56 rfl) (by decide) ?_
        exact sw_iret C S rfl (tb_at ok_X7_home 58 rfl) h
      · refine aw_iload_n C (tb_at ok_X7_home 57 rfl) rfl ?_
        exact sw_iret C S rfl (tb_at ok_X7_home 58 rfl) h
    · refine aw_aload_n C (tb_at ok_X7_home 25 rfl) rfl ?_
      refine aw_getR C (ob_0 hn) rfl (by decide) rfl p_0_2 fl_RX7_19 (tb_at ok_X7_home 26 rfl) ?_
      refine aw_aload_n C (tb_at ok_X7_home 27 rfl) rfl ?_
      refine aw_getR C (ob_0 hn) rfl (by decide) rfl p_0_0 fl_RX7_10 (tb_at ok_X7_home 28 rfl) ?_
      refine sw_cVv C S [.ref 1] [] (tb_at ok_X7_home 29 rfl) h (fun q e => m_fH_become hn (by decide) (by decide) e) mf_X1_become (ob_27 hn) rfl rfl cw_RX7_199 rfl (by decide) rfl (Nat.le_of_ble_eq_true rfl) (fun M4 h => ?_)
      refine aw_aload_n C (tb_at ok_X7_home 30 rfl) rfl ?_
      refine aw_getR C (ob_0 hn) rfl (by decide) rfl p_0_2 fl_RX7_19 (tb_at ok_X7_home 31 rfl) ?_
      refine aw_iload C (tb_at ok_X7_home 32 rfl) rfl ?_
      refine sw_cVv C S [.int a4] [] (tb_at ok_X7_home 33 rfl) h (fun q e => m_fH_leaveOut hn (by decide) e) mf_X1_leaveOut (ob_27 hn) rfl rfl cw_RX7_211 rfl (by decide) rfl (Nat.le_of_ble_eq_true rfl) (fun M5 h => ?_)
      refine aw_aload_n C (tb_at ok_X7_home 34 rfl) rfl ?_
      refine aw_getR C (ob_0 hn) rfl (by decide) rfl p_0_7 fl_RX7_48 (tb_at ok_X7_home 35 rfl) ?_
      refine aw_aload_n C (tb_at ok_X7_home 36 rfl) rfl ?_
      refine aw_getR C (ob_0 hn) rfl (by decide) rfl p_0_2 fl_RX7_19 (tb_at ok_X7_home 37 rfl) ?_
      refine aw_bipush C (tb_at ok_X7_home 38 rfl) kb_100 ?_
      refine sw_cVv C S [.ref 27, .int 100] [] (tb_at ok_X7_home 39 rfl) h (fun q e => m_fD_run hn (by decide) e) mf_X0_run (ob_45 hn) rfl rfl cw_RX7_176 rfl (by decide) rfl (Nat.le_of_ble_eq_true rfl) (fun M6 h => ?_)
      refine aw_aload_n C (tb_at ok_X7_home 40 rfl) rfl ?_
      refine aw_getR C (ob_0 hn) rfl (by decide) rfl p_0_7 fl_RX7_48 (tb_at ok_X7_home 41 rfl) ?_
      refine sw_cVi C S [] [] (tb_at ok_X7_home 42 rfl) h (fun q e => m_fD_dear hn e) mf_X0_dear (ob_45 hn) rfl rfl cw_RX7_193 rfl (by decide) rfl (Nat.le_of_ble_eq_true rfl) (fun r7 M7 h => ?_)
      refine aw_istore C [some (.ref 0), some (.int a1), some (.int a2), some (.int a3), some (.int a4), some (.int r7)] (tb_at ok_X7_home 43 rfl) S.2.2.2.1 (by decide) rfl ?_
      refine aw_iload C (tb_at ok_X7_home 44 rfl) rfl ?_
      refine aw_iload_n C (tb_at ok_X7_home 45 rfl) rfl ?_
      refine aw_icmp_ge C 103 (tb_at ok_X7_home 46 rfl) (by decide) h (fun h => ?_) (fun h => ?_)
      · exact aw_loc [some (.ref 0), some (.int a1), some (.int a2), some (.int a3), some (.int a4), none] (sl_k (sl_k (sl_k (sl_k (sl_k (sl_n sl_0)))))) (t_fN_home_b103 C S hn ih h)
      · refine aw_iload C (tb_at ok_X7_home 47 rfl) rfl ?_
        refine aw_istore_n C [some (.ref 0), some (.int a1), some (.int r7), some (.int a3), some (.int a4), some (.int r7)] (tb_at ok_X7_home 48 rfl) S.2.2.2.1 (by decide) rfl ?_
        refine aw_iload C (tb_at ok_X7_home 49 rfl) rfl ?_
        refine aw_istore_n C [some (.ref 0), some (.int a1), some (.int r7), some (.int a4), some (.int a4), some (.int r7)] (tb_at ok_X7_home 50 rfl) S.2.2.2.1 (by decide) rfl ?_
        exact aw_loc [some (.ref 0), some (.int a1), some (.int r7), some (.int a4), some (.int a4), none] (sl_k (sl_k (sl_k (sl_k (sl_k (sl_n sl_0)))))) (t_fN_home_b103 C S hn ih h)
set_option maxHeartbeats 4000000 in
set_option maxRecDepth 20000 in
theorem t_fN_home {K : Cx} {n : Nat} {a1 : Int32} {M : Mem} {r : Int32 × Mem} (C : Ctx K RX7 cX7_home) (S : SS K n 7 6 (some .int) (Ti n r)) (hn : 85 ≤ n) (h : fN_home a1 M = some r) : AS K n M 0 [some (.ref 0), some (.int a1), none, none, none, none] [] := by
  refine aw_iload_n C (tb_at ok_X7_home 0 rfl) rfl ?_
  refine aw_iconst C (tb_at ok_X7_home 1 rfl) ki_2 ?_
  refine sw_cSi C S [.int a1, .int 2] [] (tb_at ok_X7_home 2 rfl) h (fun q e => m_fN_within hn e) mf_X7_within cw_RX7_87 rfl (by decide) rfl (Nat.le_of_ble_eq_true rfl) (fun r1 M1 h => ?_)
  refine aw_if_ne C 11 (tb_at ok_X7_home 3 rfl) (by decide) h (fun h => ?_) (fun h => ?_)
  · refine aw_bipush C (tb_at ok_X7_home 4 rfl) kb_m2 ?_
    exact sw_iret C S rfl (tb_at ok_X7_home 5 rfl) h
  · refine aw_aload_n C (tb_at ok_X7_home 6 rfl) rfl ?_
    refine aw_getR C (ob_0 hn) rfl (by decide) rfl p_0_7 fl_RX7_48 (tb_at ok_X7_home 7 rfl) ?_
    refine aw_aload_n C (tb_at ok_X7_home 8 rfl) rfl ?_
    refine aw_getR C (ob_0 hn) rfl (by decide) rfl p_0_0 fl_RX7_10 (tb_at ok_X7_home 9 rfl) ?_
    refine aw_bipush C (tb_at ok_X7_home 10 rfl) kb_100 ?_
    refine sw_cVv C S [.ref 1, .int 100] [] (tb_at ok_X7_home 11 rfl) h (fun q e => m_fD_run hn (by decide) e) mf_X0_run (ob_45 hn) rfl rfl cw_RX7_176 rfl (by decide) rfl (Nat.le_of_ble_eq_true rfl) (fun M2 h => ?_)
    refine aw_aload_n C (tb_at ok_X7_home 12 rfl) rfl ?_
    refine aw_getR C (ob_0 hn) rfl (by decide) rfl p_0_7 fl_RX7_48 (tb_at ok_X7_home 13 rfl) ?_
    refine sw_cVi C S [] [] (tb_at ok_X7_home 14 rfl) h (fun q e => m_fD_dear hn e) mf_X0_dear (ob_45 hn) rfl rfl cw_RX7_193 rfl (by decide) rfl (Nat.le_of_ble_eq_true rfl) (fun r3 M3 h => ?_)
    refine aw_istore_n C [some (.ref 0), some (.int a1), some (.int r3), none, none, none] (tb_at ok_X7_home 15 rfl) S.2.2.2.1 (by decide) rfl ?_
    refine aw_iconst C (tb_at ok_X7_home 16 rfl) ki_m1 ?_
    refine aw_istore_n C [some (.ref 0), some (.int a1), some (.int r3), some (.int (-1)), none, none] (tb_at ok_X7_home 17 rfl) S.2.2.2.1 (by decide) rfl ?_
    refine aw_iconst C (tb_at ok_X7_home 18 rfl) ki_0 ?_
    refine aw_istore C [some (.ref 0), some (.int a1), some (.int r3), some (.int (-1)), some (.int 0), none] (tb_at ok_X7_home 19 rfl) S.2.2.2.1 (by decide) rfl ?_
    exact aw_loc [some (.ref 0), some (.int a1), some (.int r3), some (.int (-1)), some (.int 0), none] (sl_k (sl_k (sl_k (sl_k (sl_k (sl_n sl_0)))))) (t_fN_home_b37 C S hn 1000 _ _ _ _ h)
theorem m_fN_home {l : Launch} {w : Wd} {n : Nat} {a1 : Int32} {M : Mem} {r : Int32 × Mem} (hn : 85 ≤ n) (h : fN_home a1 M = some r) : CM l w yX7_home cX7_home 6 (some .int) 7 0 0 [.ref 0, .int a1] n M (PD M) (Ti n r) := sm_of (loc := [some (.ref 0), some (.int a1), none, none, none, none]) mf_X7_home (by decide) (Nat.le_of_ble_eq_true rfl) rfl (fun K _ _ C S => t_fN_home C S hn h)
def tb_X7_stairs : List (Nat × Instr × Nat) := [(0, .aload_n 0, 1), (1, .getfield 19, 3), (4, .aload_n 0, 1), (5, .getfield 10, 3), (8, .invokevirtual 199, 3), (11, .aload_n 0, 1), (12, .getfield 19, 3), (15, .iconst 0, 1), (16, .putfield 129, 3), (19, .aload_n 0, 1), (20, .getfield 48, 3), (23, .aload_n 0, 1), (24, .getfield 19, 3), (27, .bipush 100, 2), (29, .invokevirtual 176, 3), (32, .aload_n 0, 1), (33, .getfield 48, 3), (36, .invokevirtual 193, 3), (39, .istore_n 1, 1), (40, .aload_n 0, 1), (41, .getfield 19, 3), (44, .iconst 3, 1), (45, .putfield 129, 3), (48, .aload_n 0, 1), (49, .getfield 48, 3), (52, .aload_n 0, 1), (53, .getfield 19, 3), (56, .bipush 100, 2), (58, .invokevirtual 176, 3), (61, .iload_n 1, 1), (62, .aload_n 0, 1), (63, .getfield 48, 3), (66, .invokevirtual 193, 3), (69, .isub, 1), (70, .ireturn, 1)]
theorem ok_X7_stairs : TB cX7_stairs tb_X7_stairs := (by decide +kernel : tb_X7_stairs.all (fun q => tbq cX7_stairs q) = true)
set_option maxHeartbeats 4000000 in
set_option maxRecDepth 20000 in
theorem t_fN_stairs {K : Cx} {n : Nat} {M : Mem} {r : Int32 × Mem} (C : Ctx K RX7 cX7_stairs) (S : SS K n 7 2 (some .int) (Ti n r)) (hn : 85 ≤ n) (h : fN_stairs M = some r) : AS K n M 0 [some (.ref 0), none] [] := by
  refine aw_aload_n C (tb_at ok_X7_stairs 0 rfl) rfl ?_
  refine aw_getR C (ob_0 hn) rfl (by decide) rfl p_0_2 fl_RX7_19 (tb_at ok_X7_stairs 1 rfl) ?_
  refine aw_aload_n C (tb_at ok_X7_stairs 2 rfl) rfl ?_
  refine aw_getR C (ob_0 hn) rfl (by decide) rfl p_0_0 fl_RX7_10 (tb_at ok_X7_stairs 3 rfl) ?_
  refine sw_cVv C S [.ref 1] [] (tb_at ok_X7_stairs 4 rfl) h (fun q e => m_fH_become hn (by decide) (by decide) e) mf_X1_become (ob_27 hn) rfl rfl cw_RX7_199 rfl (by decide) rfl (Nat.le_of_ble_eq_true rfl) (fun M1 h => ?_)
  refine aw_aload_n C (tb_at ok_X7_stairs 5 rfl) rfl ?_
  refine aw_getR C (ob_0 hn) rfl (by decide) rfl p_0_2 fl_RX7_19 (tb_at ok_X7_stairs 6 rfl) ?_
  refine aw_iconst C (tb_at ok_X7_stairs 7 rfl) ki_0 ?_
  refine sw_put C (ob_27 hn) rfl (by decide) (by decide) (Or.inl (by decide)) rfl rfl rfl rfl fl_RX7_129 (tb_at ok_X7_stairs 8 rfl) ?_
  refine aw_aload_n C (tb_at ok_X7_stairs 9 rfl) rfl ?_
  refine aw_getR C (ob_0 hn) rfl (by decide) rfl p_0_7 fl_RX7_48 (tb_at ok_X7_stairs 10 rfl) ?_
  refine aw_aload_n C (tb_at ok_X7_stairs 11 rfl) rfl ?_
  refine aw_getR C (ob_0 hn) rfl (by decide) rfl p_0_2 fl_RX7_19 (tb_at ok_X7_stairs 12 rfl) ?_
  refine aw_bipush C (tb_at ok_X7_stairs 13 rfl) kb_100 ?_
  refine sw_cVv C S [.ref 27, .int 100] [] (tb_at ok_X7_stairs 14 rfl) h (fun q e => m_fD_run hn (by decide) e) mf_X0_run (ob_45 hn) rfl rfl cw_RX7_176 rfl (by decide) rfl (Nat.le_of_ble_eq_true rfl) (fun M2 h => ?_)
  refine aw_aload_n C (tb_at ok_X7_stairs 15 rfl) rfl ?_
  refine aw_getR C (ob_0 hn) rfl (by decide) rfl p_0_7 fl_RX7_48 (tb_at ok_X7_stairs 16 rfl) ?_
  refine sw_cVi C S [] [] (tb_at ok_X7_stairs 17 rfl) h (fun q e => m_fD_dear hn e) mf_X0_dear (ob_45 hn) rfl rfl cw_RX7_193 rfl (by decide) rfl (Nat.le_of_ble_eq_true rfl) (fun r3 M3 h => ?_)
  refine aw_istore_n C [some (.ref 0), some (.int r3)] (tb_at ok_X7_stairs 18 rfl) S.2.2.2.1 (by decide) rfl ?_
  refine aw_aload_n C (tb_at ok_X7_stairs 19 rfl) rfl ?_
  refine aw_getR C (ob_0 hn) rfl (by decide) rfl p_0_2 fl_RX7_19 (tb_at ok_X7_stairs 20 rfl) ?_
  refine aw_iconst C (tb_at ok_X7_stairs 21 rfl) ki_3 ?_
  refine sw_put C (ob_27 hn) rfl (by decide) (by decide) (Or.inl (by decide)) rfl rfl rfl rfl fl_RX7_129 (tb_at ok_X7_stairs 22 rfl) ?_
  refine aw_aload_n C (tb_at ok_X7_stairs 23 rfl) rfl ?_
  refine aw_getR C (ob_0 hn) rfl (by decide) rfl p_0_7 fl_RX7_48 (tb_at ok_X7_stairs 24 rfl) ?_
  refine aw_aload_n C (tb_at ok_X7_stairs 25 rfl) rfl ?_
  refine aw_getR C (ob_0 hn) rfl (by decide) rfl p_0_2 fl_RX7_19 (tb_at ok_X7_stairs 26 rfl) ?_
  refine aw_bipush C (tb_at ok_X7_stairs 27 rfl) kb_100 ?_
  refine sw_cVv C S [.ref 27, .int 100] [] (tb_at ok_X7_stairs 28 rfl) h (fun q e => m_fD_run hn (by decide) e) mf_X0_run (ob_45 hn) rfl rfl cw_RX7_176 rfl (by decide) rfl (Nat.le_of_ble_eq_true rfl) (fun M4 h => ?_)
  refine aw_iload_n C (tb_at ok_X7_stairs 29 rfl) rfl ?_
  refine aw_aload_n C (tb_at ok_X7_stairs 30 rfl) rfl ?_
  refine aw_getR C (ob_0 hn) rfl (by decide) rfl p_0_7 fl_RX7_48 (tb_at ok_X7_stairs 31 rfl) ?_
  refine sw_cVi C S [] [.int r3] (tb_at ok_X7_stairs 32 rfl) h (fun q e => m_fD_dear hn e) mf_X0_dear (ob_45 hn) rfl rfl cw_RX7_193 rfl (by decide) rfl (Nat.le_of_ble_eq_true rfl) (fun r5 M5 h => ?_)
  refine aw_isub C (tb_at ok_X7_stairs 33 rfl) ?_
  exact sw_iret C S rfl (tb_at ok_X7_stairs 34 rfl) h
theorem m_fN_stairs {l : Launch} {w : Wd} {n : Nat} {M : Mem} {r : Int32 × Mem} (hn : 85 ≤ n) (h : fN_stairs M = some r) : CM l w yX7_stairs cX7_stairs 2 (some .int) 7 0 0 [.ref 0] n M (PD M) (Ti n r) := sm_of (loc := [some (.ref 0), none]) mf_X7_stairs (by decide) (Nat.le_of_ble_eq_true rfl) rfl (fun K _ _ C S => t_fN_stairs C S hn h)
def tb_X7_isTold : List (Nat × Instr × Nat) := [(0, .iconst 0, 1), (1, .istore_n 3, 1), (2, .iload_n 3, 1), (3, .aload_n 1, 1), (4, .getfield 222, 3), (7, .if_icmp .ge 30, 3), (10, .aload_n 0, 1), (11, .getfield 10, 3), (14, .iload_n 2, 1), (15, .iload_n 3, 1), (16, .iadd, 1), (17, .invokevirtual 167, 3), (20, .aload_n 1, 1), (21, .getfield 223, 3), (24, .iload_n 3, 1), (25, .iaload, 1), (26, .if_icmp .eq 5, 3), (29, .iconst 0, 1), (30, .ireturn, 1), (31, .iinc 3 1, 3), (34, .goto (-32), 3), (37, .iconst 1, 1), (38, .ireturn, 1)]
theorem ok_X7_isTold : TB cX7_isTold tb_X7_isTold := (by decide +kernel : tb_X7_isTold.all (fun q => tbq cX7_isTold q) = true)
set_option maxHeartbeats 4000000 in
set_option maxRecDepth 20000 in
theorem t_fN_isTold_b2 {K : Cx} {n : Nat} {q1 : Nat} {a2 : Int32} {r : Int32 × Mem} (C : Ctx K RX7 cX7_isTold) (S : SS K n 2 4 (some .boolean) (Ti n r)) (hn : 85 ≤ n) (hq1 : sOK q1) : ∀ (z : Nat) (a3 : Int32) (M : Mem), fN_isTold_b2 q1 a2 z a3 M = some r → AS K n M 2 [some (.ref 0), some (.ref q1), some (.int a2), some (.int a3)] [] := by
  intro z
  induction z with
  | zero => intro a3 M h; cases h
  | succ z ih =>
    intro a3 M h
    refine aw_iload_n C (tb_at ok_X7_isTold 2 rfl) rfl ?_
    refine aw_aload_n C (tb_at ok_X7_isTold 3 rfl) rfl ?_
    refine aw_get C (sO hn hq1) rfl (by decide) rfl fl_RX7_222 (tb_at ok_X7_isTold 4 rfl) ?_
    refine aw_icmp_ge C 37 (tb_at ok_X7_isTold 5 rfl) (by decide) h (fun h => ?_) (fun h => ?_)
    · refine aw_iconst C (tb_at ok_X7_isTold 21 rfl) ki_1 ?_
      exact sw_iret C S rfl (tb_at ok_X7_isTold 22 rfl) h
    · refine aw_aload_n C (tb_at ok_X7_isTold 6 rfl) rfl ?_
      refine aw_getR C (ob_0 hn) rfl (by decide) rfl p_0_0 fl_RX7_10 (tb_at ok_X7_isTold 7 rfl) ?_
      refine aw_iload_n C (tb_at ok_X7_isTold 8 rfl) rfl ?_
      refine aw_iload_n C (tb_at ok_X7_isTold 9 rfl) rfl ?_
      refine aw_iadd C (tb_at ok_X7_isTold 10 rfl) ?_
      refine sw_cVi C S [.int (a2 + a3)] [] (tb_at ok_X7_isTold 11 rfl) h (fun q e => m_fH_masterIn hn (by decide) e) mf_X1_masterIn (ob_1 hn) rfl rfl cw_RX7_167 rfl (by decide) rfl (Nat.le_of_ble_eq_true rfl) (fun r1 M1 h => ?_)
      refine aw_aload_n C (tb_at ok_X7_isTold 12 rfl) rfl ?_
      refine aw_getR C (sO hn hq1) rfl (by decide) rfl (sP2 hq1) fl_RX7_223 (tb_at ok_X7_isTold 13 rfl) ?_
      refine aw_iload_n C (tb_at ok_X7_isTold 14 rfl) rfl ?_
      refine aw_iald C (sO1 hn hq1) (tb_at ok_X7_isTold 15 rfl) h (fun h => ?_)
      refine aw_icmp_eq C 31 (tb_at ok_X7_isTold 16 rfl) (by decide) h (fun h => ?_) (fun h => ?_)
      · refine aw_iinc C [some (.ref 0), some (.ref q1), some (.int a2), some (.int (a3 + 1))] (tb_at ok_X7_isTold 19 rfl) rfl S.2.2.2.1 (by decide) ki_1 rfl ?_
        refine aw_goto C 2 (tb_at ok_X7_isTold 20 rfl) (by decide) ?_
        exact aw_loc [some (.ref 0), some (.ref q1), some (.int a2), some (.int (a3 + 1))] (sl_k (sl_k (sl_k (sl_k sl_0)))) (ih _ _ h)
      · refine aw_iconst C (tb_at ok_X7_isTold 17 rfl) ki_0 ?_
        exact sw_iret C S rfl (tb_at ok_X7_isTold 18 rfl) h
set_option maxHeartbeats 4000000 in
set_option maxRecDepth 20000 in
theorem t_fN_isTold {K : Cx} {n : Nat} {q1 : Nat} {a2 : Int32} {M : Mem} {r : Int32 × Mem} (C : Ctx K RX7 cX7_isTold) (S : SS K n 2 4 (some .boolean) (Ti n r)) (hn : 85 ≤ n) (hq1 : sOK q1) (h : fN_isTold q1 a2 M = some r) : AS K n M 0 [some (.ref 0), some (.ref q1), some (.int a2), none] [] := by
  refine aw_iconst C (tb_at ok_X7_isTold 0 rfl) ki_0 ?_
  refine aw_istore_n C [some (.ref 0), some (.ref q1), some (.int a2), some (.int 0)] (tb_at ok_X7_isTold 1 rfl) S.2.2.2.1 (by decide) rfl ?_
  exact aw_loc [some (.ref 0), some (.ref q1), some (.int a2), some (.int 0)] (sl_k (sl_k (sl_k (sl_k sl_0)))) (t_fN_isTold_b2 C S hn hq1 1000 _ _ h)
theorem m_fN_isTold {l : Launch} {w : Wd} {n : Nat} {q1 : Nat} {a2 : Int32} {M : Mem} {r : Int32 × Mem} (hn : 85 ≤ n) (hq1 : sOK q1) (h : fN_isTold q1 a2 M = some r) : CM l w yX7_isTold cX7_isTold 4 (some .boolean) 2 0 0 [.ref 0, .ref q1, .int a2] n M (PD M) (Ti n r) := sm_of (loc := [some (.ref 0), some (.ref q1), some (.int a2), none]) mf_X7_isTold (by decide) (Nat.le_of_ble_eq_true rfl) rfl (fun K _ _ C S => t_fN_isTold C S hn hq1 h)
def tb_X7_from : List (Nat × Instr × Nat) := [(0, .iload_n 1, 1), (1, .iconst 4, 1), (2, .invokestatic 87, 3), (5, .ifCond .eq 11, 3), (8, .iload_n 2, 1), (9, .iconst 2, 1), (10, .invokestatic 87, 3), (13, .ifCond .ne 6, 3), (16, .bipush (-2), 2), (18, .ireturn, 1), (19, .aload_n 0, 1), (20, .getfield 54, 3), (23, .iload_n 1, 1), (24, .aaload, 1), (25, .astore_n 3, 1), (26, .aload_n 3, 1), (27, .invokevirtual 214, 3), (30, .ifCond .eq 6, 3), (33, .bipush (-11), 2), (35, .ireturn, 1), (36, .iconst 0, 1), (37, .istore 4, 2), (39, .iconst (-1), 1), (40, .istore 5, 2), (42, .iconst 0, 1), (43, .istore 6, 2), (45, .iload 6, 2), (47, .bipush 100, 2), (49, .if_icmp .ge 32, 3), (52, .aload_n 0, 1), (53, .aload_n 3, 1), (54, .iload 6, 2), (56, .invokevirtual 218, 3), (59, .ifCond .eq 16, 3), (62, .iinc 4 1, 3), (65, .iload 5, 2), (67, .iconst (-1), 1), (68, .if_icmp .ne 7, 3), (71, .iload 6, 2), (73, .istore 5, 2), (75, .iinc 6 1, 3), (78, .goto (-33), 3), (81, .iload_n 2, 1), (82, .ifCond .ne 8, 3), (85, .iload 4, 2), (87, .goto 5, 3), (90, .iload 5, 2), (92, .ireturn, 1)]
theorem ok_X7_from : TB cX7_from tb_X7_from := (by decide +kernel : tb_X7_from.all (fun q => tbq cX7_from q) = true)
set_option maxHeartbeats 4000000 in
set_option maxRecDepth 20000 in
theorem t_fN_from_b75 {K : Cx} {n : Nat} {k45 : Int32 → Int32 → Int32 → Mem → Option (Int32 × Mem)} {a2 : Int32} {q3 : Nat} {a4 : Int32} {a5 : Int32} {a6 : Int32} {M : Mem} {r : Int32 × Mem} (C : Ctx K RX7 cX7_from) (S : SS K n 3 7 (some .int) (Ti n r)) (hn : 85 ≤ n) (hq3 : sOK q3) (hk45 : ∀ (va4 : Int32) (va5 : Int32) (va6 : Int32) (M1 : Mem), k45 va4 va5 va6 M1 = some r → AS K n M1 45 [some (.ref 0), none, some (.int a2), some (.ref q3), some (.int va4), some (.int va5), some (.int va6)] []) (h : fN_from_b75 k45 a2 q3 a4 a5 a6 M = some r) : AS K n M 75 [some (.ref 0), none, some (.int a2), some (.ref q3), some (.int a4), some (.int a5), some (.int a6)] [] := by
  refine aw_iinc C [some (.ref 0), none, some (.int a2), some (.ref q3), some (.int a4), some (.int a5), some (.int (a6 + 1))] (tb_at ok_X7_from 40 rfl) rfl S.2.2.2.1 (by decide) ki_1 rfl ?_
  refine aw_goto C 45 (tb_at ok_X7_from 41 rfl) (by decide) ?_
  exact aw_loc [some (.ref 0), none, some (.int a2), some (.ref q3), some (.int a4), some (.int a5), some (.int (a6 + 1))] (sl_k (sl_n (sl_k (sl_k (sl_k (sl_k (sl_k sl_0))))))) (hk45 _ _ _ _ h)
set_option maxHeartbeats 4000000 in
set_option maxRecDepth 20000 in
theorem t_fN_from_b45 {K : Cx} {n : Nat} {a2 : Int32} {q3 : Nat} {r : Int32 × Mem} (C : Ctx K RX7 cX7_from) (S : SS K n 3 7 (some .int) (Ti n r)) (hn : 85 ≤ n) (hq3 : sOK q3) : ∀ (z : Nat) (a4 : Int32) (a5 : Int32) (a6 : Int32) (M : Mem), fN_from_b45 a2 q3 z a4 a5 a6 M = some r → AS K n M 45 [some (.ref 0), none, some (.int a2), some (.ref q3), some (.int a4), some (.int a5), some (.int a6)] [] := by
  intro z
  induction z with
  | zero => intro a4 a5 a6 M h; cases h
  | succ z ih =>
    intro a4 a5 a6 M h
    refine aw_iload C (tb_at ok_X7_from 26 rfl) rfl ?_
    refine aw_bipush C (tb_at ok_X7_from 27 rfl) kb_100 ?_
    refine aw_icmp_ge C 81 (tb_at ok_X7_from 28 rfl) (by decide) h (fun h => ?_) (fun h => ?_)
    · refine aw_iload_n C (tb_at ok_X7_from 42 rfl) rfl ?_
      refine aw_if_ne C 90 (tb_at ok_X7_from 43 rfl) (by decide) h (fun h => ?_) (fun h => ?_)
      · refine aw_iload C (tb_at ok_X7_from 44 rfl) rfl ?_
        refine aw_goto C 92 (tb_at ok_X7_from 45 rfl) (by decide) ?_
        exact sw_iret C S rfl (tb_at ok_X7_from 47 rfl) h
      · refine aw_iload C (tb_at ok_X7_from 46 rfl) rfl ?_
        exact sw_iret C S rfl (tb_at ok_X7_from 47 rfl) h
    · refine aw_aload_n C (tb_at ok_X7_from 29 rfl) rfl ?_
      refine aw_aload_n C (tb_at ok_X7_from 30 rfl) rfl ?_
      refine aw_iload C (tb_at ok_X7_from 31 rfl) rfl ?_
      refine sw_cVi C S [.ref q3, .int a6] [] (tb_at ok_X7_from 32 rfl) h (fun q e => m_fN_isTold hn hq3 e) mf_X7_isTold (ob_0 hn) rfl rfl cw_RX7_218 rfl (by decide) rfl (Nat.le_of_ble_eq_true rfl) (fun r5 M5 h => ?_)
      refine aw_if_eq C 75 (tb_at ok_X7_from 33 rfl) (by decide) h (fun h => ?_) (fun h => ?_)
      · exact aw_loc [some (.ref 0), none, some (.int a2), some (.ref q3), some (.int a4), some (.int a5), some (.int a6)] (sl_k (sl_n (sl_k (sl_k (sl_k (sl_k (sl_k sl_0))))))) (t_fN_from_b75 C S hn hq3 ih h)
      · refine aw_iinc C [some (.ref 0), none, some (.int a2), some (.ref q3), some (.int (a4 + 1)), some (.int a5), some (.int a6)] (tb_at ok_X7_from 34 rfl) rfl S.2.2.2.1 (by decide) ki_1 rfl ?_
        refine aw_iload C (tb_at ok_X7_from 35 rfl) rfl ?_
        refine aw_iconst C (tb_at ok_X7_from 36 rfl) ki_m1 ?_
        refine aw_icmp_ne C 75 (tb_at ok_X7_from 37 rfl) (by decide) h (fun h => ?_) (fun h => ?_)
        · refine aw_iload C (tb_at ok_X7_from 38 rfl) rfl ?_
          refine aw_istore C [some (.ref 0), none, some (.int a2), some (.ref q3), some (.int (a4 + 1)), some (.int a6), some (.int a6)] (tb_at ok_X7_from 39 rfl) S.2.2.2.1 (by decide) rfl ?_
          exact aw_loc [some (.ref 0), none, some (.int a2), some (.ref q3), some (.int (a4 + 1)), some (.int a6), some (.int a6)] (sl_k (sl_n (sl_k (sl_k (sl_k (sl_k (sl_k sl_0))))))) (t_fN_from_b75 C S hn hq3 ih h)
        · exact aw_loc [some (.ref 0), none, some (.int a2), some (.ref q3), some (.int (a4 + 1)), some (.int a5), some (.int a6)] (sl_k (sl_n (sl_k (sl_k (sl_k (sl_k (sl_k sl_0))))))) (t_fN_from_b75 C S hn hq3 ih h)
set_option maxHeartbeats 4000000 in
set_option maxRecDepth 20000 in
theorem t_fN_from {K : Cx} {n : Nat} {a1 : Int32} {a2 : Int32} {M : Mem} {r : Int32 × Mem} (C : Ctx K RX7 cX7_from) (S : SS K n 3 7 (some .int) (Ti n r)) (hn : 85 ≤ n) (h : fN_from a1 a2 M = some r) : AS K n M 0 [some (.ref 0), some (.int a1), some (.int a2), none, none, none, none] [] := by
  refine aw_iload_n C (tb_at ok_X7_from 0 rfl) rfl ?_
  refine aw_iconst C (tb_at ok_X7_from 1 rfl) ki_4 ?_
  refine sw_cSi C S [.int a1, .int 4] [] (tb_at ok_X7_from 2 rfl) h (fun q e => m_fN_within hn e) mf_X7_within cw_RX7_87 rfl (by decide) rfl (Nat.le_of_ble_eq_true rfl) (fun r1 M1 h => ?_)
  refine aw_if_eq C 16 (tb_at ok_X7_from 3 rfl) (by decide) h (fun h => ?_) (fun h => ?_)
  · refine aw_bipush C (tb_at ok_X7_from 8 rfl) kb_m2 ?_
    exact sw_iret C S rfl (tb_at ok_X7_from 9 rfl) h
  · refine aw_iload_n C (tb_at ok_X7_from 4 rfl) rfl ?_
    refine aw_iconst C (tb_at ok_X7_from 5 rfl) ki_2 ?_
    refine sw_cSi C S [.int a2, .int 2] [] (tb_at ok_X7_from 6 rfl) h (fun q e => m_fN_within hn e) mf_X7_within cw_RX7_87 rfl (by decide) rfl (Nat.le_of_ble_eq_true rfl) (fun r2 M2 h => ?_)
    refine aw_if_ne C 19 (tb_at ok_X7_from 7 rfl) (by decide) h (fun h => ?_) (fun h => ?_)
    · refine aw_bipush C (tb_at ok_X7_from 8 rfl) kb_m2 ?_
      exact sw_iret C S rfl (tb_at ok_X7_from 9 rfl) h
    · refine aw_aload_n C (tb_at ok_X7_from 10 rfl) rfl ?_
      refine aw_getR C (ob_0 hn) rfl (by decide) rfl p_0_8 fl_RX7_54 (tb_at ok_X7_from 11 rfl) ?_
      refine aw_iload_n C (tb_at ok_X7_from 12 rfl) rfl ?_
      refine sw_aald C 3 (ob_57 hn) (by decide) rfl (tb_at ok_X7_from 13 rfl) (fun z => qPA z) h (fun hi3 h => ?_)
      refine aw_astore_n C [some (.ref 0), some (.int a1), some (.int a2), some (.ref (77 + 2 * ix a1)), none, none, none] (tb_at ok_X7_from 14 rfl) S.2.2.2.1 (by decide) rfl ?_
      refine aw_aload_n C (tb_at ok_X7_from 15 rfl) rfl ?_
      refine sw_cVi C S [] [] (tb_at ok_X7_from 16 rfl) h (fun q e => m_fS_isMissing hn (qA hi3) e) mf_X4_isMissing (sO hn (qA hi3)) rfl rfl cw_RX7_214 rfl (by decide) rfl (Nat.le_of_ble_eq_true rfl) (fun r4 M4 h => ?_)
      refine aw_if_eq C 36 (tb_at ok_X7_from 17 rfl) (by decide) h (fun h => ?_) (fun h => ?_)
      · refine aw_iconst C (tb_at ok_X7_from 20 rfl) ki_0 ?_
        refine aw_istore C [some (.ref 0), some (.int a1), some (.int a2), some (.ref (77 + 2 * ix a1)), some (.int 0), none, none] (tb_at ok_X7_from 21 rfl) S.2.2.2.1 (by decide) rfl ?_
        refine aw_iconst C (tb_at ok_X7_from 22 rfl) ki_m1 ?_
        refine aw_istore C [some (.ref 0), some (.int a1), some (.int a2), some (.ref (77 + 2 * ix a1)), some (.int 0), some (.int (-1)), none] (tb_at ok_X7_from 23 rfl) S.2.2.2.1 (by decide) rfl ?_
        refine aw_iconst C (tb_at ok_X7_from 24 rfl) ki_0 ?_
        refine aw_istore C [some (.ref 0), some (.int a1), some (.int a2), some (.ref (77 + 2 * ix a1)), some (.int 0), some (.int (-1)), some (.int 0)] (tb_at ok_X7_from 25 rfl) S.2.2.2.1 (by decide) rfl ?_
        exact aw_loc [some (.ref 0), none, some (.int a2), some (.ref (77 + 2 * ix a1)), some (.int 0), some (.int (-1)), some (.int 0)] (sl_k (sl_n (sl_k (sl_k (sl_k (sl_k (sl_k sl_0))))))) (t_fN_from_b45 C S hn (qA hi3) 1000 _ _ _ _ h)
      · refine aw_bipush C (tb_at ok_X7_from 18 rfl) kb_m11 ?_
        exact sw_iret C S rfl (tb_at ok_X7_from 19 rfl) h
theorem m_fN_from {l : Launch} {w : Wd} {n : Nat} {a1 : Int32} {a2 : Int32} {M : Mem} {r : Int32 × Mem} (hn : 85 ≤ n) (h : fN_from a1 a2 M = some r) : CM l w yX7_from cX7_from 7 (some .int) 3 0 0 [.ref 0, .int a1, .int a2] n M (PD M) (Ti n r) := sm_of (loc := [some (.ref 0), some (.int a1), some (.int a2), none, none, none, none]) mf_X7_from (by decide) (Nat.le_of_ble_eq_true rfl) rfl (fun K _ _ C S => t_fN_from C S hn h)
def tb_X7_doorChoices : List (Nat × Instr × Nat) := [(0, .iload_n 1, 1), (1, .tableswitch 45 1 4 #[31, 34, 37, 40], 31), (32, .bipush 6, 2), (34, .ireturn, 1), (35, .bipush 10, 2), (37, .ireturn, 1), (38, .bipush 8, 2), (40, .ireturn, 1), (41, .aload_n 0, 1), (42, .getfield 39, 3), (45, .ireturn, 1), (46, .iconst 1, 1), (47, .ireturn, 1)]
theorem ok_X7_doorChoices : TB cX7_doorChoices tb_X7_doorChoices := (by decide +kernel : tb_X7_doorChoices.all (fun q => tbq cX7_doorChoices q) = true)
set_option maxHeartbeats 4000000 in
set_option maxRecDepth 20000 in
theorem t_fN_doorChoices {K : Cx} {n : Nat} {a1 : Int32} {M : Mem} {r : Int32 × Mem} (C : Ctx K RX7 cX7_doorChoices) (S : SS K n 1 2 (some .int) (Ti n r)) (hn : 85 ≤ n) (h : fN_doorChoices a1 M = some r) : AS K n M 0 [some (.ref 0), some (.int a1)] [] := by
  refine aw_iload_n C (tb_at ok_X7_doorChoices 0 rfl) rfl ?_
  by_cases c1 : a1 = 1
  · refine aw_tsIn C 31 32 (tb_at ok_X7_doorChoices 1 rfl) (by rw [c1]; decide) (by rw [c1]; decide) (by rw [c1]; rfl) (by decide) ?_
    have h := (if_pos c1).symm.trans h
    refine aw_bipush C (tb_at ok_X7_doorChoices 2 rfl) kb_6 ?_
    exact sw_iret C S rfl (tb_at ok_X7_doorChoices 3 rfl) h
  have h := (if_neg c1).symm.trans h
  by_cases c2 : a1 = 2
  · refine aw_tsIn C 34 35 (tb_at ok_X7_doorChoices 1 rfl) (by rw [c2]; decide) (by rw [c2]; decide) (by rw [c2]; rfl) (by decide) ?_
    have h := (if_pos c2).symm.trans h
    refine aw_bipush C (tb_at ok_X7_doorChoices 4 rfl) kb_10 ?_
    exact sw_iret C S rfl (tb_at ok_X7_doorChoices 5 rfl) h
  have h := (if_neg c2).symm.trans h
  by_cases c3 : a1 = 3
  · refine aw_tsIn C 37 38 (tb_at ok_X7_doorChoices 1 rfl) (by rw [c3]; decide) (by rw [c3]; decide) (by rw [c3]; rfl) (by decide) ?_
    have h := (if_pos c3).symm.trans h
    refine aw_bipush C (tb_at ok_X7_doorChoices 6 rfl) kb_8 ?_
    exact sw_iret C S rfl (tb_at ok_X7_doorChoices 7 rfl) h
  have h := (if_neg c3).symm.trans h
  by_cases c4 : a1 = 4
  · refine aw_tsIn C 40 41 (tb_at ok_X7_doorChoices 1 rfl) (by rw [c4]; decide) (by rw [c4]; decide) (by rw [c4]; rfl) (by decide) ?_
    have h := (if_pos c4).symm.trans h
    refine aw_aload_n C (tb_at ok_X7_doorChoices 8 rfl) rfl ?_
    refine aw_get C (ob_0 hn) rfl (by decide) rfl fl_RX7_39 (tb_at ok_X7_doorChoices 9 rfl) ?_
    exact sw_iret C S rfl (tb_at ok_X7_doorChoices 10 rfl) h
  have h := (if_neg c4).symm.trans h
  refine aw_tsOut C 46 (tb_at ok_X7_doorChoices 1 rfl) ?_ (by decide) ?_
  · rcases Int.lt_or_le (a1).toInt 1 with q | q
    · exact Or.inl q
    · refine Or.inr (Int.lt_of_not_ge (fun q2 => ?_))
      have q3 : (a1).toInt = 1 ∨ (a1).toInt = 2 ∨ (a1).toInt = 3 ∨ (a1).toInt = 4 := by omega
      rcases q3 with e | e | e | e
      · exact c1 (Int32.toInt_inj.mp (e.trans (by decide)))
      · exact c2 (Int32.toInt_inj.mp (e.trans (by decide)))
      · exact c3 (Int32.toInt_inj.mp (e.trans (by decide)))
      · exact c4 (Int32.toInt_inj.mp (e.trans (by decide)))
  refine aw_iconst C (tb_at ok_X7_doorChoices 11 rfl) ki_1 ?_
  exact sw_iret C S rfl (tb_at ok_X7_doorChoices 12 rfl) h
theorem m_fN_doorChoices {l : Launch} {w : Wd} {n : Nat} {a1 : Int32} {M : Mem} {r : Int32 × Mem} (hn : 85 ≤ n) (h : fN_doorChoices a1 M = some r) : CM l w yX7_doorChoices cX7_doorChoices 2 (some .int) 1 0 0 [.ref 0, .int a1] n M (PD M) (Ti n r) := sm_of (loc := [some (.ref 0), some (.int a1)]) mf_X7_doorChoices (by decide) (Nat.le_of_ble_eq_true rfl) rfl (fun K _ _ C S => t_fN_doorChoices C S hn h)
