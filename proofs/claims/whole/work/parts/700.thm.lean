/-! theorems 0 -/
def tb_X0_isAllDone : List (Nat × Instr × Nat) := [(0, .iconst 0, 1), (1, .istore_n 1, 1), (2, .iload_n 1, 1), (3, .bipush 8, 2), (5, .if_icmp .ge 31, 3), (8, .aload_n 0, 1), (9, .getfield 46, 3), (12, .iload_n 1, 1), (13, .ishr, 1), (14, .iconst 1, 1), (15, .iand, 1), (16, .ifCond .eq 14, 3), (19, .aload_n 0, 1), (20, .getfield 43, 3), (23, .iload_n 1, 1), (24, .iaload, 1), (25, .ifCond .le 5, 3), (28, .iconst 0, 1), (29, .ireturn, 1), (30, .iinc 1 1, 3), (33, .goto (-31), 3), (36, .iconst 1, 1), (37, .ireturn, 1)]
theorem ok_X0_isAllDone : TB cX0_isAllDone tb_X0_isAllDone := (by decide +kernel : tb_X0_isAllDone.all (fun q => tbq cX0_isAllDone q) = true)
set_option maxHeartbeats 4000000 in
set_option maxRecDepth 20000 in
theorem t_fD_isAllDone_b30 {K : Cx} {n : Nat} {k2 : Int32 → Mem → Option (Int32 × Mem)} {a1 : Int32} {M : Mem} {r : Int32 × Mem} (C : Ctx K RX0 cX0_isAllDone) (S : SS K n 1 2 (some .boolean) (Ti n r)) (hn : 85 ≤ n) (hk2 : ∀ (va1 : Int32) (M1 : Mem), k2 va1 M1 = some r → AS K n M1 2 [some (.ref 45), some (.int va1)] []) (h : fD_isAllDone_b30 k2 a1 M = some r) : AS K n M 30 [some (.ref 45), some (.int a1)] [] := by
  refine aw_iinc C [some (.ref 45), some (.int (a1 + 1))] (tb_at ok_X0_isAllDone 19 rfl) rfl S.2.2.2.1 (by decide) ki_1 rfl ?_
  refine aw_goto C 2 (tb_at ok_X0_isAllDone 20 rfl) (by decide) ?_
  exact aw_loc [some (.ref 45), some (.int (a1 + 1))] (sl_k (sl_k sl_0)) (hk2 _ _ h)
set_option maxHeartbeats 4000000 in
set_option maxRecDepth 20000 in
theorem t_fD_isAllDone_b2 {K : Cx} {n : Nat} {r : Int32 × Mem} (C : Ctx K RX0 cX0_isAllDone) (S : SS K n 1 2 (some .boolean) (Ti n r)) (hn : 85 ≤ n) : ∀ (z : Nat) (a1 : Int32) (M : Mem), fD_isAllDone_b2 z a1 M = some r → AS K n M 2 [some (.ref 45), some (.int a1)] [] := by
  intro z
  induction z with
  | zero => intro a1 M h; cases h
  | succ z ih =>
    intro a1 M h
    refine aw_iload_n C (tb_at ok_X0_isAllDone 2 rfl) rfl ?_
    refine aw_bipush C (tb_at ok_X0_isAllDone 3 rfl) kb_8 ?_
    refine aw_icmp_ge C 36 (tb_at ok_X0_isAllDone 4 rfl) (by decide) h (fun h => ?_) (fun h => ?_)
    · refine aw_iconst C (tb_at ok_X0_isAllDone 21 rfl) ki_1 ?_
      exact sw_iret C S rfl (tb_at ok_X0_isAllDone 22 rfl) h
    · refine aw_aload_n C (tb_at ok_X0_isAllDone 5 rfl) rfl ?_
      refine aw_get C (ob_45 hn) rfl (by decide) rfl fl_RX0_46 (tb_at ok_X0_isAllDone 6 rfl) ?_
      refine aw_iload_n C (tb_at ok_X0_isAllDone 7 rfl) rfl ?_
      refine aw_ishr C (tb_at ok_X0_isAllDone 8 rfl) ?_
      refine aw_iconst C (tb_at ok_X0_isAllDone 9 rfl) ki_1 ?_
      refine aw_iand C (tb_at ok_X0_isAllDone 10 rfl) ?_
      refine aw_if_eq C 30 (tb_at ok_X0_isAllDone 11 rfl) (by decide) h (fun h => ?_) (fun h => ?_)
      · exact aw_loc [some (.ref 45), some (.int a1)] (sl_k (sl_k sl_0)) (t_fD_isAllDone_b30 C S hn ih h)
      · refine aw_aload_n C (tb_at ok_X0_isAllDone 12 rfl) rfl ?_
        refine aw_getR C (ob_45 hn) rfl (by decide) rfl p_45_11 fl_RX0_43 (tb_at ok_X0_isAllDone 13 rfl) ?_
        refine aw_iload_n C (tb_at ok_X0_isAllDone 14 rfl) rfl ?_
        refine aw_iald C (ob_56 hn) (tb_at ok_X0_isAllDone 15 rfl) h (fun h => ?_)
        refine aw_if_le C 30 (tb_at ok_X0_isAllDone 16 rfl) (by decide) h (fun h => ?_) (fun h => ?_)
        · exact aw_loc [some (.ref 45), some (.int a1)] (sl_k (sl_k sl_0)) (t_fD_isAllDone_b30 C S hn ih h)
        · refine aw_iconst C (tb_at ok_X0_isAllDone 17 rfl) ki_0 ?_
          exact sw_iret C S rfl (tb_at ok_X0_isAllDone 18 rfl) h
set_option maxHeartbeats 4000000 in
set_option maxRecDepth 20000 in
theorem t_fD_isAllDone {K : Cx} {n : Nat} {M : Mem} {r : Int32 × Mem} (C : Ctx K RX0 cX0_isAllDone) (S : SS K n 1 2 (some .boolean) (Ti n r)) (hn : 85 ≤ n) (h : fD_isAllDone M = some r) : AS K n M 0 [some (.ref 45), none] [] := by
  refine aw_iconst C (tb_at ok_X0_isAllDone 0 rfl) ki_0 ?_
  refine aw_istore_n C [some (.ref 45), some (.int 0)] (tb_at ok_X0_isAllDone 1 rfl) S.2.2.2.1 (by decide) rfl ?_
  exact aw_loc [some (.ref 45), some (.int 0)] (sl_k (sl_k sl_0)) (t_fD_isAllDone_b2 C S hn 1000 _ _ h)
theorem m_fD_isAllDone {l : Launch} {w : Wd} {n : Nat} {M : Mem} {r : Int32 × Mem} (hn : 85 ≤ n) (h : fD_isAllDone M = some r) : CM l w yX0_isAllDone cX0_isAllDone 2 (some .boolean) 1 0 0 [.ref 45] n M (PD M) (Ti n r) := sm_of (loc := [some (.ref 45), none]) mf_X0_isAllDone (by decide) (Nat.le_of_ble_eq_true rfl) rfl (fun K _ _ C S => t_fD_isAllDone C S hn h)
def tb_X0_othersWith : List (Nat × Instr × Nat) := [(0, .iconst 0, 1), (1, .istore_n 2, 1), (2, .iconst 0, 1), (3, .istore_n 3, 1), (4, .iload_n 3, 1), (5, .aload_n 0, 1), (6, .getfield 56, 3), (9, .getfield 87, 3), (12, .if_icmp .ge 41, 3), (15, .iload_n 3, 1), (16, .iload_n 1, 1), (17, .if_icmp .eq 30, 3), (20, .aload_n 0, 1), (21, .getfield 31, 3), (24, .iload_n 3, 1), (25, .iaload, 1), (26, .ifCond .ne 21, 3), (29, .aload_n 0, 1), (30, .getfield 25, 3), (33, .iload_n 3, 1), (34, .iaload, 1), (35, .aload_n 0, 1), (36, .getfield 25, 3), (39, .iload_n 1, 1), (40, .iaload, 1), (41, .if_icmp .ne 6, 3), (44, .iinc 2 1, 3), (47, .iinc 3 1, 3), (50, .goto (-46), 3), (53, .iload_n 2, 1), (54, .ireturn, 1)]
theorem ok_X0_othersWith : TB cX0_othersWith tb_X0_othersWith := (by decide +kernel : tb_X0_othersWith.all (fun q => tbq cX0_othersWith q) = true)
set_option maxHeartbeats 4000000 in
set_option maxRecDepth 20000 in
theorem t_fD_othersWith_b47 {K : Cx} {n : Nat} {k4 : Int32 → Int32 → Mem → Option (Int32 × Mem)} {a1 : Int32} {a2 : Int32} {a3 : Int32} {M : Mem} {r : Int32 × Mem} (C : Ctx K RX0 cX0_othersWith) (S : SS K n 1 4 (some .int) (Ti n r)) (hn : 85 ≤ n) (hk4 : ∀ (va2 : Int32) (va3 : Int32) (M1 : Mem), k4 va2 va3 M1 = some r → AS K n M1 4 [some (.ref 45), some (.int a1), some (.int va2), some (.int va3)] []) (h : fD_othersWith_b47 k4 a1 a2 a3 M = some r) : AS K n M 47 [some (.ref 45), some (.int a1), some (.int a2), some (.int a3)] [] := by
  refine aw_iinc C [some (.ref 45), some (.int a1), some (.int a2), some (.int (a3 + 1))] (tb_at ok_X0_othersWith 27 rfl) rfl S.2.2.2.1 (by decide) ki_1 rfl ?_
  refine aw_goto C 4 (tb_at ok_X0_othersWith 28 rfl) (by decide) ?_
  exact aw_loc [some (.ref 45), some (.int a1), some (.int a2), some (.int (a3 + 1))] (sl_k (sl_k (sl_k (sl_k sl_0)))) (hk4 _ _ _ h)
set_option maxHeartbeats 4000000 in
set_option maxRecDepth 20000 in
theorem t_fD_othersWith_b4 {K : Cx} {n : Nat} {a1 : Int32} {r : Int32 × Mem} (C : Ctx K RX0 cX0_othersWith) (S : SS K n 1 4 (some .int) (Ti n r)) (hn : 85 ≤ n) : ∀ (z : Nat) (a2 : Int32) (a3 : Int32) (M : Mem), fD_othersWith_b4 a1 z a2 a3 M = some r → AS K n M 4 [some (.ref 45), some (.int a1), some (.int a2), some (.int a3)] [] := by
  intro z
  induction z with
  | zero => intro a2 a3 M h; cases h
  | succ z ih =>
    intro a2 a3 M h
    refine aw_iload_n C (tb_at ok_X0_othersWith 4 rfl) rfl ?_
    refine aw_aload_n C (tb_at ok_X0_othersWith 5 rfl) rfl ?_
    refine sw_getH C hn fl_RX0_56 (tb_at ok_X0_othersWith 6 rfl) h (fun hi1 h => ?_)
    refine aw_get C (hO hn hi1) rfl (by decide) rfl fl_RX0_87 (tb_at ok_X0_othersWith 7 rfl) ?_
    refine aw_icmp_ge C 53 (tb_at ok_X0_othersWith 8 rfl) (by decide) h (fun h => ?_) (fun h => ?_)
    · refine aw_iload_n C (tb_at ok_X0_othersWith 29 rfl) rfl ?_
      exact sw_iret C S rfl (tb_at ok_X0_othersWith 30 rfl) h
    · refine aw_iload_n C (tb_at ok_X0_othersWith 9 rfl) rfl ?_
      refine aw_iload_n C (tb_at ok_X0_othersWith 10 rfl) rfl ?_
      refine aw_icmp_eq C 47 (tb_at ok_X0_othersWith 11 rfl) (by decide) h (fun h => ?_) (fun h => ?_)
      · exact aw_loc [some (.ref 45), some (.int a1), some (.int a2), some (.int a3)] (sl_k (sl_k (sl_k (sl_k sl_0)))) (t_fD_othersWith_b47 C S hn ih h)
      · refine aw_aload_n C (tb_at ok_X0_othersWith 12 rfl) rfl ?_
        refine aw_getR C (ob_45 hn) rfl (by decide) rfl p_45_7 fl_RX0_31 (tb_at ok_X0_othersWith 13 rfl) ?_
        refine aw_iload_n C (tb_at ok_X0_othersWith 14 rfl) rfl ?_
        refine aw_iald C (ob_52 hn) (tb_at ok_X0_othersWith 15 rfl) h (fun h => ?_)
        refine aw_if_ne C 47 (tb_at ok_X0_othersWith 16 rfl) (by decide) h (fun h => ?_) (fun h => ?_)
        · refine aw_aload_n C (tb_at ok_X0_othersWith 17 rfl) rfl ?_
          refine aw_getR C (ob_45 hn) rfl (by decide) rfl p_45_5 fl_RX0_25 (tb_at ok_X0_othersWith 18 rfl) ?_
          refine aw_iload_n C (tb_at ok_X0_othersWith 19 rfl) rfl ?_
          refine aw_iald C (ob_50 hn) (tb_at ok_X0_othersWith 20 rfl) h (fun h => ?_)
          refine aw_aload_n C (tb_at ok_X0_othersWith 21 rfl) rfl ?_
          refine aw_getR C (ob_45 hn) rfl (by decide) rfl p_45_5 fl_RX0_25 (tb_at ok_X0_othersWith 22 rfl) ?_
          refine aw_iload_n C (tb_at ok_X0_othersWith 23 rfl) rfl ?_
          refine aw_iald C (ob_50 hn) (tb_at ok_X0_othersWith 24 rfl) h (fun h => ?_)
          refine aw_icmp_ne C 47 (tb_at ok_X0_othersWith 25 rfl) (by decide) h (fun h => ?_) (fun h => ?_)
          · refine aw_iinc C [some (.ref 45), some (.int a1), some (.int (a2 + 1)), some (.int a3)] (tb_at ok_X0_othersWith 26 rfl) rfl S.2.2.2.1 (by decide) ki_1 rfl ?_
            exact aw_loc [some (.ref 45), some (.int a1), some (.int (a2 + 1)), some (.int a3)] (sl_k (sl_k (sl_k (sl_k sl_0)))) (t_fD_othersWith_b47 C S hn ih h)
          · exact aw_loc [some (.ref 45), some (.int a1), some (.int a2), some (.int a3)] (sl_k (sl_k (sl_k (sl_k sl_0)))) (t_fD_othersWith_b47 C S hn ih h)
        · exact aw_loc [some (.ref 45), some (.int a1), some (.int a2), some (.int a3)] (sl_k (sl_k (sl_k (sl_k sl_0)))) (t_fD_othersWith_b47 C S hn ih h)
set_option maxHeartbeats 4000000 in
set_option maxRecDepth 20000 in
theorem t_fD_othersWith {K : Cx} {n : Nat} {a1 : Int32} {M : Mem} {r : Int32 × Mem} (C : Ctx K RX0 cX0_othersWith) (S : SS K n 1 4 (some .int) (Ti n r)) (hn : 85 ≤ n) (h : fD_othersWith a1 M = some r) : AS K n M 0 [some (.ref 45), some (.int a1), none, none] [] := by
  refine aw_iconst C (tb_at ok_X0_othersWith 0 rfl) ki_0 ?_
  refine aw_istore_n C [some (.ref 45), some (.int a1), some (.int 0), none] (tb_at ok_X0_othersWith 1 rfl) S.2.2.2.1 (by decide) rfl ?_
  refine aw_iconst C (tb_at ok_X0_othersWith 2 rfl) ki_0 ?_
  refine aw_istore_n C [some (.ref 45), some (.int a1), some (.int 0), some (.int 0)] (tb_at ok_X0_othersWith 3 rfl) S.2.2.2.1 (by decide) rfl ?_
  exact aw_loc [some (.ref 45), some (.int a1), some (.int 0), some (.int 0)] (sl_k (sl_k (sl_k (sl_k sl_0)))) (t_fD_othersWith_b4 C S hn 1000 _ _ _ h)
theorem m_fD_othersWith {l : Launch} {w : Wd} {n : Nat} {a1 : Int32} {M : Mem} {r : Int32 × Mem} (hn : 85 ≤ n) (h : fD_othersWith a1 M = some r) : CM l w yX0_othersWith cX0_othersWith 4 (some .int) 1 0 0 [.ref 45, .int a1] n M (PD M) (Ti n r) := sm_of (loc := [some (.ref 45), some (.int a1), none, none]) mf_X0_othersWith (by decide) (Nat.le_of_ble_eq_true rfl) rfl (fun K _ _ C S => t_fD_othersWith C S hn h)
def tb_X6_joined : List (Nat × Instr × Nat) := [(0, .iload_n 0, 1), (1, .lookupswitch 107 #[(10, 93), (42, 67), (43, 59), (45, 63), (60, 71), (61, 82)], 59), (60, .iload_n 1, 1), (61, .iload_n 2, 1), (62, .iadd, 1), (63, .ireturn, 1), (64, .iload_n 1, 1), (65, .iload_n 2, 1), (66, .isub, 1), (67, .ireturn, 1), (68, .iload_n 1, 1), (69, .iload_n 2, 1), (70, .imul, 1), (71, .ireturn, 1), (72, .iload_n 1, 1), (73, .iload_n 2, 1), (74, .if_icmp .ge 7, 3), (77, .iconst 1, 1), (78, .goto 4, 3), (81, .iconst 0, 1), (82, .ireturn, 1), (83, .iload_n 1, 1), (84, .iload_n 2, 1), (85, .if_icmp .ne 7, 3), (88, .iconst 1, 1), (89, .goto 4, 3), (92, .iconst 0, 1), (93, .ireturn, 1), (94, .iload_n 1, 1), (95, .ifCond .eq 11, 3), (98, .iload_n 2, 1), (99, .ifCond .eq 7, 3), (102, .iconst 1, 1), (103, .goto 4, 3), (106, .iconst 0, 1), (107, .ireturn, 1), (108, .iload_n 1, 1), (109, .ifCond .ne 7, 3), (112, .iload_n 2, 1), (113, .ifCond .eq 7, 3), (116, .iconst 1, 1), (117, .goto 4, 3), (120, .iconst 0, 1), (121, .ireturn, 1)]
theorem ok_X6_joined : TB cX6_joined tb_X6_joined := (by decide +kernel : tb_X6_joined.all (fun q => tbq cX6_joined q) = true)
set_option maxHeartbeats 4000000 in
set_option maxRecDepth 20000 in
theorem t_fG_joined_b116 {K : Cx} {n : Nat} {M : Mem} {r : Int32 × Mem} (C : Ctx K RX6 cX6_joined) (S : SS K n 1 3 (some .int) (Ti n r)) (hn : 85 ≤ n) (h : fG_joined_b116 M = some r) : AS K n M 116 [none, none, none] [] := by
  refine aw_iconst C (tb_at ok_X6_joined 40 rfl) ki_1 ?_
  refine aw_goto C 121 (tb_at ok_X6_joined 41 rfl) (by decide) ?_
  exact sw_iret C S rfl (tb_at ok_X6_joined 43 rfl) h
set_option maxHeartbeats 4000000 in
set_option maxRecDepth 20000 in
theorem t_fG_joined {K : Cx} {n : Nat} {a0 : Int32} {a1 : Int32} {a2 : Int32} {M : Mem} {r : Int32 × Mem} (C : Ctx K RX6 cX6_joined) (S : SS K n 1 3 (some .int) (Ti n r)) (hn : 85 ≤ n) (h : fG_joined a0 a1 a2 M = some r) : AS K n M 0 [some (.int a0), some (.int a1), some (.int a2)] [] := by
  refine aw_iload_n C (tb_at ok_X6_joined 0 rfl) rfl ?_
  by_cases c1 : a0 = 10
  · refine aw_ls C 93 94 (tb_at ok_X6_joined 1 rfl) (by decide) (by rw [c1]; decide) (by decide) ?_
    have h := (if_pos c1).symm.trans h
    refine aw_iload_n C (tb_at ok_X6_joined 28 rfl) rfl ?_
    refine aw_if_eq C 106 (tb_at ok_X6_joined 29 rfl) (by decide) h (fun h => ?_) (fun h => ?_)
    · refine aw_iconst C (tb_at ok_X6_joined 34 rfl) ki_0 ?_
      exact sw_iret C S rfl (tb_at ok_X6_joined 35 rfl) h
    · refine aw_iload_n C (tb_at ok_X6_joined 30 rfl) rfl ?_
      refine aw_if_eq C 106 (tb_at ok_X6_joined 31 rfl) (by decide) h (fun h => ?_) (fun h => ?_)
      · refine aw_iconst C (tb_at ok_X6_joined 34 rfl) ki_0 ?_
        exact sw_iret C S rfl (tb_at ok_X6_joined 35 rfl) h
      · refine aw_iconst C (tb_at ok_X6_joined 32 rfl) ki_1 ?_
        refine aw_goto C 107 (tb_at ok_X6_joined 33 rfl) (by decide) ?_
        exact sw_iret C S rfl (tb_at ok_X6_joined 35 rfl) h
  have h := (if_neg c1).symm.trans h
  by_cases c2 : a0 = 42
  · refine aw_ls C 67 68 (tb_at ok_X6_joined 1 rfl) (by decide) (by rw [c2]; decide) (by decide) ?_
    have h := (if_pos c2).symm.trans h
    refine aw_iload_n C (tb_at ok_X6_joined 10 rfl) rfl ?_
    refine aw_iload_n C (tb_at ok_X6_joined 11 rfl) rfl ?_
    refine aw_imul C (tb_at ok_X6_joined 12 rfl) ?_
    exact sw_iret C S rfl (tb_at ok_X6_joined 13 rfl) h
  have h := (if_neg c2).symm.trans h
  by_cases c3 : a0 = 43
  · refine aw_ls C 59 60 (tb_at ok_X6_joined 1 rfl) (by decide) (by rw [c3]; decide) (by decide) ?_
    have h := (if_pos c3).symm.trans h
    refine aw_iload_n C (tb_at ok_X6_joined 2 rfl) rfl ?_
    refine aw_iload_n C (tb_at ok_X6_joined 3 rfl) rfl ?_
    refine aw_iadd C (tb_at ok_X6_joined 4 rfl) ?_
    exact sw_iret C S rfl (tb_at ok_X6_joined 5 rfl) h
  have h := (if_neg c3).symm.trans h
  by_cases c4 : a0 = 45
  · refine aw_ls C 63 64 (tb_at ok_X6_joined 1 rfl) (by decide) (by rw [c4]; decide) (by decide) ?_
    have h := (if_pos c4).symm.trans h
    refine aw_iload_n C (tb_at ok_X6_joined 6 rfl) rfl ?_
    refine aw_iload_n C (tb_at ok_X6_joined 7 rfl) rfl ?_
    refine aw_isub C (tb_at ok_X6_joined 8 rfl) ?_
    exact sw_iret C S rfl (tb_at ok_X6_joined 9 rfl) h
  have h := (if_neg c4).symm.trans h
  by_cases c5 : a0 = 60
  · refine aw_ls C 71 72 (tb_at ok_X6_joined 1 rfl) (by decide) (by rw [c5]; decide) (by decide) ?_
    have h := (if_pos c5).symm.trans h
    refine aw_iload_n C (tb_at ok_X6_joined 14 rfl) rfl ?_
    refine aw_iload_n C (tb_at ok_X6_joined 15 rfl) rfl ?_
    refine aw_icmp_ge C 81 (tb_at ok_X6_joined 16 rfl) (by decide) h (fun h => ?_) (fun h => ?_)
    · refine aw_iconst C (tb_at ok_X6_joined 19 rfl) ki_0 ?_
      exact sw_iret C S rfl (tb_at ok_X6_joined 20 rfl) h
    · refine aw_iconst C (tb_at ok_X6_joined 17 rfl) ki_1 ?_
      refine aw_goto C 82 (tb_at ok_X6_joined 18 rfl) (by decide) ?_
      exact sw_iret C S rfl (tb_at ok_X6_joined 20 rfl) h
  have h := (if_neg c5).symm.trans h
  by_cases c6 : a0 = 61
  · refine aw_ls C 82 83 (tb_at ok_X6_joined 1 rfl) (by decide) (by rw [c6]; decide) (by decide) ?_
    have h := (if_pos c6).symm.trans h
    refine aw_iload_n C (tb_at ok_X6_joined 21 rfl) rfl ?_
    refine aw_iload_n C (tb_at ok_X6_joined 22 rfl) rfl ?_
    refine aw_icmp_ne C 92 (tb_at ok_X6_joined 23 rfl) (by decide) h (fun h => ?_) (fun h => ?_)
    · refine aw_iconst C (tb_at ok_X6_joined 24 rfl) ki_1 ?_
      refine aw_goto C 93 (tb_at ok_X6_joined 25 rfl) (by decide) ?_
      exact sw_iret C S rfl (tb_at ok_X6_joined 27 rfl) h
    · refine aw_iconst C (tb_at ok_X6_joined 26 rfl) ki_0 ?_
      exact sw_iret C S rfl (tb_at ok_X6_joined 27 rfl) h
  have h := (if_neg c6).symm.trans h
  refine aw_ls C 107 108 (tb_at ok_X6_joined 1 rfl) (by decide) (ls_out c1 c2 c3 c4 c5 c6) (by decide) ?_
  refine aw_iload_n C (tb_at ok_X6_joined 36 rfl) rfl ?_
  refine aw_if_ne C 116 (tb_at ok_X6_joined 37 rfl) (by decide) h (fun h => ?_) (fun h => ?_)
  · refine aw_iload_n C (tb_at ok_X6_joined 38 rfl) rfl ?_
    refine aw_if_eq C 120 (tb_at ok_X6_joined 39 rfl) (by decide) h (fun h => ?_) (fun h => ?_)
    · refine aw_iconst C (tb_at ok_X6_joined 42 rfl) ki_0 ?_
      exact sw_iret C S rfl (tb_at ok_X6_joined 43 rfl) h
    · exact aw_loc [none, none, none] (sl_n (sl_n (sl_n sl_0))) (t_fG_joined_b116 C S hn h)
  · exact aw_loc [none, none, none] (sl_n (sl_n (sl_n sl_0))) (t_fG_joined_b116 C S hn h)
theorem m_fG_joined {l : Launch} {w : Wd} {n : Nat} {a0 : Int32} {a1 : Int32} {a2 : Int32} {M : Mem} {r : Int32 × Mem} (hn : 85 ≤ n) (h : fG_joined a0 a1 a2 M = some r) : CM l w yX6_joined cX6_joined 3 (some .int) 1 0 0 [.int a0, .int a1, .int a2] n M (PD M) (Ti n r) := sm_of (loc := [some (.int a0), some (.int a1), some (.int a2)]) mf_X6_joined (by decide) (Nat.le_of_ble_eq_true rfl) rfl (fun K _ _ C S => t_fG_joined C S hn h)
def tb_X6_value : List (Nat × Instr × Nat) := [(0, .iconst 0, 1), (1, .istore 4, 2), (3, .iload_n 1, 1), (4, .ifCond .ne 7, 3), (7, .iconst 0, 1), (8, .goto 11, 3), (11, .aload_n 0, 1), (12, .getfield 15, 3), (15, .iload_n 1, 1), (16, .iconst 1, 1), (17, .isub, 1), (18, .iaload, 1), (19, .istore 5, 2), (21, .iload 5, 2), (23, .aload_n 0, 1), (24, .getfield 15, 3), (27, .iload_n 1, 1), (28, .iaload, 1), (29, .if_icmp .ge 154, 3), (32, .aload_n 0, 1), (33, .getfield 9, 3), (36, .iload 5, 2), (38, .iaload, 1), (39, .istore 6, 2), (41, .iload 6, 2), (43, .bipush (-6), 2), (45, .if_icmp .lt 36, 3), (48, .iload 4, 2), (50, .aload_n 3, 1), (51, .arraylength, 1), (52, .if_icmp .ge 29, 3), (55, .aload_n 3, 1), (56, .iload 4, 2), (58, .iload 6, 2), (60, .ifCond .lt 8, 3), (63, .iload 6, 2), (65, .goto 9, 3), (68, .aload_n 2, 1), (69, .iconst (-1), 1), (70, .iload 6, 2), (72, .isub, 1), (73, .iaload, 1), (74, .iastore, 1), (75, .iinc 4 1, 3), (78, .goto 99, 3), (81, .iload 6, 2), (83, .bipush (-12), 2), (85, .if_icmp .ne 25, 3), (88, .iload 4, 2), (90, .iconst 1, 1), (91, .if_icmp .lt 19, 3), (94, .aload_n 3, 1), (95, .iload 4, 2), (97, .iconst 1, 1), (98, .isub, 1), (99, .aload_n 3, 1), (100, .iload 4, 2), (102, .iconst 1, 1), (103, .isub, 1), (104, .iaload, 1), (105, .ineg, 1), (106, .iastore, 1), (107, .goto 70, 3), (110, .iload 6, 2), (112, .bipush (-11), 2), (114, .if_icmp .ne 32, 3), (117, .iload 4, 2), (119, .iconst 1, 1), (120, .if_icmp .lt 26, 3), (123, .aload_n 3, 1), (124, .iload 4, 2), (126, .iconst 1, 1), (127, .isub, 1), (128, .aload_n 3, 1), (129, .iload 4, 2), (131, .iconst 1, 1), (132, .isub, 1), (133, .iaload, 1), (134, .ifCond .ne 7, 3), (137, .iconst 1, 1), (138, .goto 4, 3), (141, .iconst 0, 1), (142, .iastore, 1), (143, .goto 34, 3), (146, .iload 4, 2), (148, .iconst 2, 1), (149, .if_icmp .lt 28, 3), (152, .iinc 4 (-1), 3), (155, .aload_n 3, 1), (156, .iload 4, 2), (158, .iconst 1, 1), (159, .isub, 1), (160, .iload 6, 2), (162, .ineg, 1), (163, .aload_n 3, 1), (164, .iload 4, 2), (166, .iconst 1, 1), (167, .isub, 1), (168, .iaload, 1), (169, .aload_n 3, 1), (170, .iload 4, 2), (172, .iaload, 1), (173, .invokestatic 24, 3), (176, .iastore, 1), (177, .iinc 5 1, 3), (180, .goto (-159), 3), (183, .aload_n 3, 1), (184, .iconst 0, 1), (185, .iaload, 1), (186, .ireturn, 1)]
theorem ok_X6_value : TB cX6_value tb_X6_value := (by decide +kernel : tb_X6_value.all (fun q => tbq cX6_value q) = true)
set_option maxHeartbeats 4000000 in
set_option maxRecDepth 20000 in
theorem t_fG_value_b177 {K : Cx} {n : Nat} {k21 : Int32 → Int32 → Mem → Option (Int32 × Mem)} {q0 : Nat} {a1 : Int32} {a4 : Int32} {a5 : Int32} {M : Mem} {r : Int32 × Mem} (C : Ctx K RX6 cX6_value) (S : SS K n 2 7 (some .int) (Ti n r)) (hn : 85 ≤ n) (hq0 : gOK q0) (hk21 : ∀ (va4 : Int32) (va5 : Int32) (M1 : Mem), k21 va4 va5 M1 = some r → AS K n M1 21 [some (.ref q0), some (.int a1), some (.ref 48), some (.ref 49), some (.int va4), some (.int va5), none] []) (h : fG_value_b177 k21 q0 a1 a4 a5 M = some r) : AS K n M 177 [some (.ref q0), some (.int a1), some (.ref 48), some (.ref 49), some (.int a4), some (.int a5), none] [] := by
  refine aw_iinc C [some (.ref q0), some (.int a1), some (.ref 48), some (.ref 49), some (.int a4), some (.int (a5 + 1)), none] (tb_at ok_X6_value 104 rfl) rfl S.2.2.2.1 (by decide) ki_1 rfl ?_
  refine aw_goto C 21 (tb_at ok_X6_value 105 rfl) (by decide) ?_
  exact aw_loc [some (.ref q0), some (.int a1), some (.ref 48), some (.ref 49), some (.int a4), some (.int (a5 + 1)), none] (sl_k (sl_k (sl_k (sl_k (sl_k (sl_k (sl_n sl_0))))))) (hk21 _ _ _ h)
set_option maxHeartbeats 4000000 in
set_option maxRecDepth 20000 in
theorem t_fG_value_b146 {K : Cx} {n : Nat} {k21 : Int32 → Int32 → Mem → Option (Int32 × Mem)} {q0 : Nat} {a1 : Int32} {a4 : Int32} {a5 : Int32} {a6 : Int32} {M : Mem} {r : Int32 × Mem} (C : Ctx K RX6 cX6_value) (S : SS K n 2 7 (some .int) (Ti n r)) (hn : 85 ≤ n) (hq0 : gOK q0) (hk21 : ∀ (va4 : Int32) (va5 : Int32) (M1 : Mem), k21 va4 va5 M1 = some r → AS K n M1 21 [some (.ref q0), some (.int a1), some (.ref 48), some (.ref 49), some (.int va4), some (.int va5), none] []) (h : fG_value_b146 k21 q0 a1 a4 a5 a6 M = some r) : AS K n M 146 [some (.ref q0), some (.int a1), some (.ref 48), some (.ref 49), some (.int a4), some (.int a5), some (.int a6)] [] := by
  refine aw_iload C (tb_at ok_X6_value 84 rfl) rfl ?_
  refine aw_iconst C (tb_at ok_X6_value 85 rfl) ki_2 ?_
  refine aw_icmp_lt C 177 (tb_at ok_X6_value 86 rfl) (by decide) h (fun h => ?_) (fun h => ?_)
  · exact aw_loc [some (.ref q0), some (.int a1), some (.ref 48), some (.ref 49), some (.int a4), some (.int a5), none] (sl_k (sl_k (sl_k (sl_k (sl_k (sl_k (sl_n sl_0))))))) (t_fG_value_b177 C S hn hq0 hk21 h)
  · refine aw_iinc C [some (.ref q0), some (.int a1), some (.ref 48), some (.ref 49), some (.int (a4 + (-1))), some (.int a5), some (.int a6)] (tb_at ok_X6_value 87 rfl) rfl S.2.2.2.1 (by decide) ki_m1 rfl ?_
    refine aw_aload_n C (tb_at ok_X6_value 88 rfl) rfl ?_
    refine aw_iload C (tb_at ok_X6_value 89 rfl) rfl ?_
    refine aw_iconst C (tb_at ok_X6_value 90 rfl) ki_1 ?_
    refine aw_isub C (tb_at ok_X6_value 91 rfl) ?_
    refine aw_iload C (tb_at ok_X6_value 92 rfl) rfl ?_
    refine aw_ineg C (tb_at ok_X6_value 93 rfl) ?_
    refine aw_aload_n C (tb_at ok_X6_value 94 rfl) rfl ?_
    refine aw_iload C (tb_at ok_X6_value 95 rfl) rfl ?_
    refine aw_iconst C (tb_at ok_X6_value 96 rfl) ki_1 ?_
    refine aw_isub C (tb_at ok_X6_value 97 rfl) ?_
    refine aw_iald C (ob_49 hn) (tb_at ok_X6_value 98 rfl) h (fun h => ?_)
    refine aw_aload_n C (tb_at ok_X6_value 99 rfl) rfl ?_
    refine aw_iload C (tb_at ok_X6_value 100 rfl) rfl ?_
    refine aw_iald C (ob_49 hn) (tb_at ok_X6_value 101 rfl) h (fun h => ?_)
    refine sw_cSi C S [.int (-a6), .int (M 49 (ix ((a4 + (-1)) - 1))), .int (M 49 (ix (a4 + (-1))))] [.int ((a4 + (-1)) - 1), .ref 49] (tb_at ok_X6_value 102 rfl) h (fun q e => m_fG_joined hn e) mf_X6_joined cw_RX6_24 rfl (by decide) rfl (Nat.le_of_ble_eq_true rfl) (fun r1 M1 h => ?_)
    refine sw_iast C (ob_49 hn) (tb_at ok_X6_value 103 rfl) h (fun h => ?_)
    exact aw_loc [some (.ref q0), some (.int a1), some (.ref 48), some (.ref 49), some (.int (a4 + (-1))), some (.int a5), none] (sl_k (sl_k (sl_k (sl_k (sl_k (sl_k (sl_n sl_0))))))) (t_fG_value_b177 C S hn hq0 hk21 h)
set_option maxHeartbeats 4000000 in
set_option maxRecDepth 20000 in
theorem t_fG_value_b142 {K : Cx} {n : Nat} {k21 : Int32 → Int32 → Mem → Option (Int32 × Mem)} {q0 : Nat} {a1 : Int32} {a4 : Int32} {a5 : Int32} {s0 : Int32} {s1 : Int32} {M : Mem} {r : Int32 × Mem} (C : Ctx K RX6 cX6_value) (S : SS K n 2 7 (some .int) (Ti n r)) (hn : 85 ≤ n) (hq0 : gOK q0) (hk21 : ∀ (va4 : Int32) (va5 : Int32) (M1 : Mem), k21 va4 va5 M1 = some r → AS K n M1 21 [some (.ref q0), some (.int a1), some (.ref 48), some (.ref 49), some (.int va4), some (.int va5), none] []) (h : fG_value_b142 k21 q0 a1 a4 a5 s0 s1 M = some r) : AS K n M 142 [some (.ref q0), some (.int a1), some (.ref 48), some (.ref 49), some (.int a4), some (.int a5), none] [.int s0, .int s1, .ref 49] := by
  refine sw_iast C (ob_49 hn) (tb_at ok_X6_value 82 rfl) h (fun h => ?_)
  refine aw_goto C 177 (tb_at ok_X6_value 83 rfl) (by decide) ?_
  exact aw_loc [some (.ref q0), some (.int a1), some (.ref 48), some (.ref 49), some (.int a4), some (.int a5), none] (sl_k (sl_k (sl_k (sl_k (sl_k (sl_k (sl_n sl_0))))))) (t_fG_value_b177 C S hn hq0 hk21 h)
set_option maxHeartbeats 4000000 in
set_option maxRecDepth 20000 in
theorem t_fG_value_b110 {K : Cx} {n : Nat} {k21 : Int32 → Int32 → Mem → Option (Int32 × Mem)} {q0 : Nat} {a1 : Int32} {a4 : Int32} {a5 : Int32} {a6 : Int32} {M : Mem} {r : Int32 × Mem} (C : Ctx K RX6 cX6_value) (S : SS K n 2 7 (some .int) (Ti n r)) (hn : 85 ≤ n) (hq0 : gOK q0) (hk21 : ∀ (va4 : Int32) (va5 : Int32) (M1 : Mem), k21 va4 va5 M1 = some r → AS K n M1 21 [some (.ref q0), some (.int a1), some (.ref 48), some (.ref 49), some (.int va4), some (.int va5), none] []) (h : fG_value_b110 k21 q0 a1 a4 a5 a6 M = some r) : AS K n M 110 [some (.ref q0), some (.int a1), some (.ref 48), some (.ref 49), some (.int a4), some (.int a5), some (.int a6)] [] := by
  refine aw_iload C (tb_at ok_X6_value 63 rfl) rfl ?_
  refine aw_bipush C (tb_at ok_X6_value 64 rfl) kb_m11 ?_
  refine aw_icmp_ne C 146 (tb_at ok_X6_value 65 rfl) (by decide) h (fun h => ?_) (fun h => ?_)
  · refine aw_iload C (tb_at ok_X6_value 66 rfl) rfl ?_
    refine aw_iconst C (tb_at ok_X6_value 67 rfl) ki_1 ?_
    refine aw_icmp_lt C 146 (tb_at ok_X6_value 68 rfl) (by decide) h (fun h => ?_) (fun h => ?_)
    · exact aw_loc [some (.ref q0), some (.int a1), some (.ref 48), some (.ref 49), some (.int a4), some (.int a5), some (.int a6)] (sl_k (sl_k (sl_k (sl_k (sl_k (sl_k (sl_k sl_0))))))) (t_fG_value_b146 C S hn hq0 hk21 h)
    · refine aw_aload_n C (tb_at ok_X6_value 69 rfl) rfl ?_
      refine aw_iload C (tb_at ok_X6_value 70 rfl) rfl ?_
      refine aw_iconst C (tb_at ok_X6_value 71 rfl) ki_1 ?_
      refine aw_isub C (tb_at ok_X6_value 72 rfl) ?_
      refine aw_aload_n C (tb_at ok_X6_value 73 rfl) rfl ?_
      refine aw_iload C (tb_at ok_X6_value 74 rfl) rfl ?_
      refine aw_iconst C (tb_at ok_X6_value 75 rfl) ki_1 ?_
      refine aw_isub C (tb_at ok_X6_value 76 rfl) ?_
      refine aw_iald C (ob_49 hn) (tb_at ok_X6_value 77 rfl) h (fun h => ?_)
      refine aw_if_ne C 141 (tb_at ok_X6_value 78 rfl) (by decide) h (fun h => ?_) (fun h => ?_)
      · refine aw_iconst C (tb_at ok_X6_value 79 rfl) ki_1 ?_
        refine aw_goto C 142 (tb_at ok_X6_value 80 rfl) (by decide) ?_
        exact aw_loc [some (.ref q0), some (.int a1), some (.ref 48), some (.ref 49), some (.int a4), some (.int a5), none] (sl_k (sl_k (sl_k (sl_k (sl_k (sl_k (sl_n sl_0))))))) (t_fG_value_b142 C S hn hq0 hk21 h)
      · refine aw_iconst C (tb_at ok_X6_value 81 rfl) ki_0 ?_
        exact aw_loc [some (.ref q0), some (.int a1), some (.ref 48), some (.ref 49), some (.int a4), some (.int a5), none] (sl_k (sl_k (sl_k (sl_k (sl_k (sl_k (sl_n sl_0))))))) (t_fG_value_b142 C S hn hq0 hk21 h)
  · exact aw_loc [some (.ref q0), some (.int a1), some (.ref 48), some (.ref 49), some (.int a4), some (.int a5), some (.int a6)] (sl_k (sl_k (sl_k (sl_k (sl_k (sl_k (sl_k sl_0))))))) (t_fG_value_b146 C S hn hq0 hk21 h)
set_option maxHeartbeats 4000000 in
set_option maxRecDepth 20000 in
theorem t_fG_value_b81 {K : Cx} {n : Nat} {k21 : Int32 → Int32 → Mem → Option (Int32 × Mem)} {q0 : Nat} {a1 : Int32} {a4 : Int32} {a5 : Int32} {a6 : Int32} {M : Mem} {r : Int32 × Mem} (C : Ctx K RX6 cX6_value) (S : SS K n 2 7 (some .int) (Ti n r)) (hn : 85 ≤ n) (hq0 : gOK q0) (hk21 : ∀ (va4 : Int32) (va5 : Int32) (M1 : Mem), k21 va4 va5 M1 = some r → AS K n M1 21 [some (.ref q0), some (.int a1), some (.ref 48), some (.ref 49), some (.int va4), some (.int va5), none] []) (h : fG_value_b81 k21 q0 a1 a4 a5 a6 M = some r) : AS K n M 81 [some (.ref q0), some (.int a1), some (.ref 48), some (.ref 49), some (.int a4), some (.int a5), some (.int a6)] [] := by
  refine aw_iload C (tb_at ok_X6_value 45 rfl) rfl ?_
  refine aw_bipush C (tb_at ok_X6_value 46 rfl) kb_m12 ?_
  refine aw_icmp_ne C 110 (tb_at ok_X6_value 47 rfl) (by decide) h (fun h => ?_) (fun h => ?_)
  · refine aw_iload C (tb_at ok_X6_value 48 rfl) rfl ?_
    refine aw_iconst C (tb_at ok_X6_value 49 rfl) ki_1 ?_
    refine aw_icmp_lt C 110 (tb_at ok_X6_value 50 rfl) (by decide) h (fun h => ?_) (fun h => ?_)
    · exact aw_loc [some (.ref q0), some (.int a1), some (.ref 48), some (.ref 49), some (.int a4), some (.int a5), some (.int a6)] (sl_k (sl_k (sl_k (sl_k (sl_k (sl_k (sl_k sl_0))))))) (t_fG_value_b110 C S hn hq0 hk21 h)
    · refine aw_aload_n C (tb_at ok_X6_value 51 rfl) rfl ?_
      refine aw_iload C (tb_at ok_X6_value 52 rfl) rfl ?_
      refine aw_iconst C (tb_at ok_X6_value 53 rfl) ki_1 ?_
      refine aw_isub C (tb_at ok_X6_value 54 rfl) ?_
      refine aw_aload_n C (tb_at ok_X6_value 55 rfl) rfl ?_
      refine aw_iload C (tb_at ok_X6_value 56 rfl) rfl ?_
      refine aw_iconst C (tb_at ok_X6_value 57 rfl) ki_1 ?_
      refine aw_isub C (tb_at ok_X6_value 58 rfl) ?_
      refine aw_iald C (ob_49 hn) (tb_at ok_X6_value 59 rfl) h (fun h => ?_)
      refine aw_ineg C (tb_at ok_X6_value 60 rfl) ?_
      refine sw_iast C (ob_49 hn) (tb_at ok_X6_value 61 rfl) h (fun h => ?_)
      refine aw_goto C 177 (tb_at ok_X6_value 62 rfl) (by decide) ?_
      exact aw_loc [some (.ref q0), some (.int a1), some (.ref 48), some (.ref 49), some (.int a4), some (.int a5), none] (sl_k (sl_k (sl_k (sl_k (sl_k (sl_k (sl_n sl_0))))))) (t_fG_value_b177 C S hn hq0 hk21 h)
  · exact aw_loc [some (.ref q0), some (.int a1), some (.ref 48), some (.ref 49), some (.int a4), some (.int a5), some (.int a6)] (sl_k (sl_k (sl_k (sl_k (sl_k (sl_k (sl_k sl_0))))))) (t_fG_value_b110 C S hn hq0 hk21 h)
set_option maxHeartbeats 4000000 in
set_option maxRecDepth 20000 in
theorem t_fG_value_b74 {K : Cx} {n : Nat} {k21 : Int32 → Int32 → Mem → Option (Int32 × Mem)} {q0 : Nat} {a1 : Int32} {a4 : Int32} {a5 : Int32} {s0 : Int32} {s1 : Int32} {M : Mem} {r : Int32 × Mem} (C : Ctx K RX6 cX6_value) (S : SS K n 2 7 (some .int) (Ti n r)) (hn : 85 ≤ n) (hq0 : gOK q0) (hk21 : ∀ (va4 : Int32) (va5 : Int32) (M1 : Mem), k21 va4 va5 M1 = some r → AS K n M1 21 [some (.ref q0), some (.int a1), some (.ref 48), some (.ref 49), some (.int va4), some (.int va5), none] []) (h : fG_value_b74 k21 q0 a1 a4 a5 s0 s1 M = some r) : AS K n M 74 [some (.ref q0), some (.int a1), some (.ref 48), some (.ref 49), some (.int a4), some (.int a5), none] [.int s0, .int s1, .ref 49] := by
  refine sw_iast C (ob_49 hn) (tb_at ok_X6_value 42 rfl) h (fun h => ?_)
  refine aw_iinc C [some (.ref q0), some (.int a1), some (.ref 48), some (.ref 49), some (.int (a4 + 1)), some (.int a5), none] (tb_at ok_X6_value 43 rfl) rfl S.2.2.2.1 (by decide) ki_1 rfl ?_
  refine aw_goto C 177 (tb_at ok_X6_value 44 rfl) (by decide) ?_
  exact aw_loc [some (.ref q0), some (.int a1), some (.ref 48), some (.ref 49), some (.int (a4 + 1)), some (.int a5), none] (sl_k (sl_k (sl_k (sl_k (sl_k (sl_k (sl_n sl_0))))))) (t_fG_value_b177 C S hn hq0 hk21 h)
set_option maxHeartbeats 4000000 in
set_option maxRecDepth 20000 in
theorem t_fG_value_b21 {K : Cx} {n : Nat} {q0 : Nat} {a1 : Int32} {r : Int32 × Mem} (C : Ctx K RX6 cX6_value) (S : SS K n 2 7 (some .int) (Ti n r)) (hn : 85 ≤ n) (hq0 : gOK q0) : ∀ (z : Nat) (a4 : Int32) (a5 : Int32) (M : Mem), fG_value_b21 q0 a1 z a4 a5 M = some r → AS K n M 21 [some (.ref q0), some (.int a1), some (.ref 48), some (.ref 49), some (.int a4), some (.int a5), none] [] := by
  intro z
  induction z with
  | zero => intro a4 a5 M h; cases h
  | succ z ih =>
    intro a4 a5 M h
    refine aw_iload C (tb_at ok_X6_value 13 rfl) rfl ?_
    refine aw_aload_n C (tb_at ok_X6_value 14 rfl) rfl ?_
    refine aw_getR C (gO hn hq0) rfl (by decide) rfl (gP1 hq0) fl_RX6_15 (tb_at ok_X6_value 15 rfl) ?_
    refine aw_iload_n C (tb_at ok_X6_value 16 rfl) rfl ?_
    refine aw_iald C (gO2 hn hq0) (tb_at ok_X6_value 17 rfl) h (fun h => ?_)
    refine aw_icmp_ge C 183 (tb_at ok_X6_value 18 rfl) (by decide) h (fun h => ?_) (fun h => ?_)
    · refine aw_aload_n C (tb_at ok_X6_value 106 rfl) rfl ?_
      refine aw_iconst C (tb_at ok_X6_value 107 rfl) ki_0 ?_
      refine aw_iald C (ob_49 hn) (tb_at ok_X6_value 108 rfl) h (fun h => ?_)
      exact sw_iret C S rfl (tb_at ok_X6_value 109 rfl) h
    · refine aw_aload_n C (tb_at ok_X6_value 19 rfl) rfl ?_
      refine aw_getR C (gO hn hq0) rfl (by decide) rfl (gP0 hq0) fl_RX6_9 (tb_at ok_X6_value 20 rfl) ?_
      refine aw_iload C (tb_at ok_X6_value 21 rfl) rfl ?_
      refine aw_iald C (gO1 hn hq0) (tb_at ok_X6_value 22 rfl) h (fun h => ?_)
      refine aw_istore C [some (.ref q0), some (.int a1), some (.ref 48), some (.ref 49), some (.int a4), some (.int a5), some (.int (M (q0 + 1) (ix a5)))] (tb_at ok_X6_value 23 rfl) S.2.2.2.1 (by decide) rfl ?_
      refine aw_iload C (tb_at ok_X6_value 24 rfl) rfl ?_
      refine aw_bipush C (tb_at ok_X6_value 25 rfl) kb_m6 ?_
      refine aw_icmp_lt C 81 (tb_at ok_X6_value 26 rfl) (by decide) h (fun h => ?_) (fun h => ?_)
      · exact aw_loc [some (.ref q0), some (.int a1), some (.ref 48), some (.ref 49), some (.int a4), some (.int a5), some (.int (M (q0 + 1) (ix a5)))] (sl_k (sl_k (sl_k (sl_k (sl_k (sl_k (sl_k sl_0))))))) (t_fG_value_b81 C S hn hq0 ih h)
      · refine aw_iload C (tb_at ok_X6_value 27 rfl) rfl ?_
        refine aw_aload_n C (tb_at ok_X6_value 28 rfl) rfl ?_
        refine aw_alen C 0 (ob_49 hn) (by decide) rfl (tb_at ok_X6_value 29 rfl) ?_
        refine aw_icmp_ge C 81 (tb_at ok_X6_value 30 rfl) (by decide) h (fun h => ?_) (fun h => ?_)
        · exact aw_loc [some (.ref q0), some (.int a1), some (.ref 48), some (.ref 49), some (.int a4), some (.int a5), some (.int (M (q0 + 1) (ix a5)))] (sl_k (sl_k (sl_k (sl_k (sl_k (sl_k (sl_k sl_0))))))) (t_fG_value_b81 C S hn hq0 ih h)
        · refine aw_aload_n C (tb_at ok_X6_value 31 rfl) rfl ?_
          refine aw_iload C (tb_at ok_X6_value 32 rfl) rfl ?_
          refine aw_iload C (tb_at ok_X6_value 33 rfl) rfl ?_
          refine aw_if_lt C 68 (tb_at ok_X6_value 34 rfl) (by decide) h (fun h => ?_) (fun h => ?_)
          · refine aw_aload_n C (tb_at ok_X6_value 37 rfl) rfl ?_
            refine aw_iconst C (tb_at ok_X6_value 38 rfl) ki_m1 ?_
            refine aw_iload C (tb_at ok_X6_value 39 rfl) rfl ?_
            refine aw_isub C (tb_at ok_X6_value 40 rfl) ?_
            refine aw_iald C (ob_48 hn) (tb_at ok_X6_value 41 rfl) h (fun h => ?_)
            exact aw_loc [some (.ref q0), some (.int a1), some (.ref 48), some (.ref 49), some (.int a4), some (.int a5), none] (sl_k (sl_k (sl_k (sl_k (sl_k (sl_k (sl_n sl_0))))))) (t_fG_value_b74 C S hn hq0 ih h)
          · refine aw_iload C (tb_at ok_X6_value 35 rfl) rfl ?_
            refine aw_goto C 74 (tb_at ok_X6_value 36 rfl) (by decide) ?_
            exact aw_loc [some (.ref q0), some (.int a1), some (.ref 48), some (.ref 49), some (.int a4), some (.int a5), none] (sl_k (sl_k (sl_k (sl_k (sl_k (sl_k (sl_n sl_0))))))) (t_fG_value_b74 C S hn hq0 ih h)
set_option maxHeartbeats 4000000 in
set_option maxRecDepth 20000 in
theorem t_fG_value_b19 {K : Cx} {n : Nat} {q0 : Nat} {a1 : Int32} {a4 : Int32} {s0 : Int32} {M : Mem} {r : Int32 × Mem} (C : Ctx K RX6 cX6_value) (S : SS K n 2 7 (some .int) (Ti n r)) (hn : 85 ≤ n) (hq0 : gOK q0) (h : fG_value_b19 q0 a1 a4 s0 M = some r) : AS K n M 19 [some (.ref q0), some (.int a1), some (.ref 48), some (.ref 49), some (.int a4), none, none] [.int s0] := by
  refine aw_istore C [some (.ref q0), some (.int a1), some (.ref 48), some (.ref 49), some (.int a4), some (.int s0), none] (tb_at ok_X6_value 12 rfl) S.2.2.2.1 (by decide) rfl ?_
  exact aw_loc [some (.ref q0), some (.int a1), some (.ref 48), some (.ref 49), some (.int a4), some (.int s0), none] (sl_k (sl_k (sl_k (sl_k (sl_k (sl_k (sl_n sl_0))))))) (t_fG_value_b21 C S hn hq0 1000 _ _ _ h)
set_option maxHeartbeats 4000000 in
set_option maxRecDepth 20000 in
theorem t_fG_value {K : Cx} {n : Nat} {q0 : Nat} {a1 : Int32} {M : Mem} {r : Int32 × Mem} (C : Ctx K RX6 cX6_value) (S : SS K n 2 7 (some .int) (Ti n r)) (hn : 85 ≤ n) (hq0 : gOK q0) (h : fG_value q0 a1 M = some r) : AS K n M 0 [some (.ref q0), some (.int a1), some (.ref 48), some (.ref 49), none, none, none] [] := by
  refine aw_iconst C (tb_at ok_X6_value 0 rfl) ki_0 ?_
  refine aw_istore C [some (.ref q0), some (.int a1), some (.ref 48), some (.ref 49), some (.int 0), none, none] (tb_at ok_X6_value 1 rfl) S.2.2.2.1 (by decide) rfl ?_
  refine aw_iload_n C (tb_at ok_X6_value 2 rfl) rfl ?_
  refine aw_if_ne C 11 (tb_at ok_X6_value 3 rfl) (by decide) h (fun h => ?_) (fun h => ?_)
  · refine aw_iconst C (tb_at ok_X6_value 4 rfl) ki_0 ?_
    refine aw_goto C 19 (tb_at ok_X6_value 5 rfl) (by decide) ?_
    exact aw_loc [some (.ref q0), some (.int a1), some (.ref 48), some (.ref 49), some (.int 0), none, none] (sl_k (sl_k (sl_k (sl_k (sl_k (sl_n (sl_n sl_0))))))) (t_fG_value_b19 C S hn hq0 h)
  · refine aw_aload_n C (tb_at ok_X6_value 6 rfl) rfl ?_
    refine aw_getR C (gO hn hq0) rfl (by decide) rfl (gP1 hq0) fl_RX6_15 (tb_at ok_X6_value 7 rfl) ?_
    refine aw_iload_n C (tb_at ok_X6_value 8 rfl) rfl ?_
    refine aw_iconst C (tb_at ok_X6_value 9 rfl) ki_1 ?_
    refine aw_isub C (tb_at ok_X6_value 10 rfl) ?_
    refine aw_iald C (gO2 hn hq0) (tb_at ok_X6_value 11 rfl) h (fun h => ?_)
    exact aw_loc [some (.ref q0), some (.int a1), some (.ref 48), some (.ref 49), some (.int 0), none, none] (sl_k (sl_k (sl_k (sl_k (sl_k (sl_n (sl_n sl_0))))))) (t_fG_value_b19 C S hn hq0 h)
theorem m_fG_value {l : Launch} {w : Wd} {n : Nat} {q0 : Nat} {a1 : Int32} {M : Mem} {r : Int32 × Mem} (hn : 85 ≤ n) (hq0 : gOK q0) (h : fG_value q0 a1 M = some r) : CM l w yX6_value cX6_value 7 (some .int) 2 0 0 [.ref q0, .int a1, .ref 48, .ref 49] n M (PD M) (Ti n r) := sm_of (loc := [some (.ref q0), some (.int a1), some (.ref 48), some (.ref 49), none, none, none]) mf_X6_value (by decide) (Nat.le_of_ble_eq_true rfl) rfl (fun K _ _ C S => t_fG_value C S hn hq0 h)
def tb_X0_tells : List (Nat × Instr × Nat) := [(0, .aload_n 0, 1), (1, .getfield 18, 3), (4, .iconst 0, 1), (5, .iload_n 3, 1), (6, .iastore, 1), (7, .aload_n 0, 1), (8, .getfield 18, 3), (11, .iconst 1, 1), (12, .aload_n 0, 1), (13, .getfield 25, 3), (16, .iload_n 2, 1), (17, .iaload, 1), (18, .iastore, 1), (19, .aload_n 0, 1), (20, .getfield 18, 3), (23, .iconst 2, 1), (24, .aload_n 0, 1), (25, .getfield 43, 3), (28, .aload_n 0, 1), (29, .getfield 25, 3), (32, .iload_n 2, 1), (33, .iaload, 1), (34, .iaload, 1), (35, .iastore, 1), (36, .aload_n 0, 1), (37, .getfield 18, 3), (40, .iconst 3, 1), (41, .aload_n 0, 1), (42, .getfield 56, 3), (45, .getfield 90, 3), (48, .iload_n 2, 1), (49, .aaload, 1), (50, .getfield 143, 3), (53, .iastore, 1), (54, .aload_n 0, 1), (55, .getfield 18, 3), (58, .iconst 4, 1), (59, .iload 4, 2), (61, .iastore, 1), (62, .aload_n 0, 1), (63, .getfield 18, 3), (66, .iconst 5, 1), (67, .aload_n 0, 1), (68, .iload_n 2, 1), (69, .invokevirtual 146, 3), (72, .iastore, 1), (73, .aload_n 0, 1), (74, .getfield 60, 3), (77, .aload_n 0, 1), (78, .getfield 56, 3), (81, .getfield 149, 3), (84, .aaload, 1), (85, .iload_n 1, 1), (86, .aload_n 0, 1), (87, .getfield 18, 3), (90, .aload_n 0, 1), (91, .getfield 22, 3), (94, .invokevirtual 152, 3), (97, .istore 5, 2), (99, .iload_n 1, 1), (100, .iconst 2, 1), (101, .if_icmp .ne 17, 3), (104, .iconst 0, 1), (105, .bipush 99, 2), (107, .iload 5, 2), (109, .invokestatic 158, 3), (112, .invokestatic 127, 3), (115, .goto 14, 3), (118, .iconst 1, 1), (119, .bipush 9, 2), (121, .iload 5, 2), (123, .invokestatic 158, 3), (126, .invokestatic 127, 3), (129, .ireturn, 1)]
theorem ok_X0_tells : TB cX0_tells tb_X0_tells := (by decide +kernel : tb_X0_tells.all (fun q => tbq cX0_tells q) = true)
set_option maxHeartbeats 4000000 in
set_option maxRecDepth 20000 in
theorem t_fD_tells {K : Cx} {n : Nat} {a1 : Int32} {a2 : Int32} {a3 : Int32} {a4 : Int32} {M : Mem} {r : Int32 × Mem} (C : Ctx K RX0 cX0_tells) (S : SS K n 3 6 (some .int) (Ti n r)) (hn : 85 ≤ n) (h : fD_tells a1 a2 a3 a4 M = some r) : AS K n M 0 [some (.ref 45), some (.int a1), some (.int a2), some (.int a3), some (.int a4), none] [] := by
  refine aw_aload_n C (tb_at ok_X0_tells 0 rfl) rfl ?_
  refine aw_getR C (ob_45 hn) rfl (by decide) rfl p_45_3 fl_RX0_18 (tb_at ok_X0_tells 1 rfl) ?_
  refine aw_iconst C (tb_at ok_X0_tells 2 rfl) ki_0 ?_
  refine aw_iload_n C (tb_at ok_X0_tells 3 rfl) rfl ?_
  refine sw_iast C (ob_48 hn) (tb_at ok_X0_tells 4 rfl) h (fun h => ?_)
  refine aw_aload_n C (tb_at ok_X0_tells 5 rfl) rfl ?_
  refine aw_getR C (ob_45 hn) rfl (by decide) rfl p_45_3 fl_RX0_18 (tb_at ok_X0_tells 6 rfl) ?_
  refine aw_iconst C (tb_at ok_X0_tells 7 rfl) ki_1 ?_
  refine aw_aload_n C (tb_at ok_X0_tells 8 rfl) rfl ?_
  refine aw_getR C (ob_45 hn) rfl (by decide) rfl p_45_5 fl_RX0_25 (tb_at ok_X0_tells 9 rfl) ?_
  refine aw_iload_n C (tb_at ok_X0_tells 10 rfl) rfl ?_
  refine aw_iald C (ob_50 hn) (tb_at ok_X0_tells 11 rfl) h (fun h => ?_)
  refine sw_iast C (ob_48 hn) (tb_at ok_X0_tells 12 rfl) h (fun h => ?_)
  refine aw_aload_n C (tb_at ok_X0_tells 13 rfl) rfl ?_
  refine aw_getR C (ob_45 hn) rfl (by decide) rfl p_45_3 fl_RX0_18 (tb_at ok_X0_tells 14 rfl) ?_
  refine aw_iconst C (tb_at ok_X0_tells 15 rfl) ki_2 ?_
  refine aw_aload_n C (tb_at ok_X0_tells 16 rfl) rfl ?_
  refine aw_getR C (ob_45 hn) rfl (by decide) rfl p_45_11 fl_RX0_43 (tb_at ok_X0_tells 17 rfl) ?_
  refine aw_aload_n C (tb_at ok_X0_tells 18 rfl) rfl ?_
  refine aw_getR C (ob_45 hn) rfl (by decide) rfl p_45_5 fl_RX0_25 (tb_at ok_X0_tells 19 rfl) ?_
  refine aw_iload_n C (tb_at ok_X0_tells 20 rfl) rfl ?_
  refine aw_iald C (ob_50 hn) (tb_at ok_X0_tells 21 rfl) h (fun h => ?_)
  refine aw_iald C (ob_56 hn) (tb_at ok_X0_tells 22 rfl) h (fun h => ?_)
  refine sw_iast C (ob_48 hn) (tb_at ok_X0_tells 23 rfl) h (fun h => ?_)
  refine aw_aload_n C (tb_at ok_X0_tells 24 rfl) rfl ?_
  refine aw_getR C (ob_45 hn) rfl (by decide) rfl p_45_3 fl_RX0_18 (tb_at ok_X0_tells 25 rfl) ?_
  refine aw_iconst C (tb_at ok_X0_tells 26 rfl) ki_3 ?_
  refine aw_aload_n C (tb_at ok_X0_tells 27 rfl) rfl ?_
  refine sw_getH C hn fl_RX0_56 (tb_at ok_X0_tells 28 rfl) h (fun hi1 h => ?_)
  refine aw_getR C (hO hn hi1) rfl (by decide) rfl (hP7 hi1) fl_RX0_90 (tb_at ok_X0_tells 29 rfl) ?_
  refine aw_iload_n C (tb_at ok_X0_tells 30 rfl) rfl ?_
  refine sw_aald C 2 (hO4 hn hi1) (by decide) rfl (tb_at ok_X0_tells 31 rfl) (fun z => hPA hi1 z) h (fun hi2 h => ?_)
  refine aw_get C (aO hn (hA hi1 hi2)) rfl (by decide) rfl fl_RX0_143 (tb_at ok_X0_tells 32 rfl) ?_
  refine sw_iast C (ob_48 hn) (tb_at ok_X0_tells 33 rfl) h (fun h => ?_)
  refine aw_aload_n C (tb_at ok_X0_tells 34 rfl) rfl ?_
  refine aw_getR C (ob_45 hn) rfl (by decide) rfl p_45_3 fl_RX0_18 (tb_at ok_X0_tells 35 rfl) ?_
  refine aw_iconst C (tb_at ok_X0_tells 36 rfl) ki_4 ?_
  refine aw_iload C (tb_at ok_X0_tells 37 rfl) rfl ?_
  refine sw_iast C (ob_48 hn) (tb_at ok_X0_tells 38 rfl) h (fun h => ?_)
  refine aw_aload_n C (tb_at ok_X0_tells 39 rfl) rfl ?_
  refine aw_getR C (ob_45 hn) rfl (by decide) rfl p_45_3 fl_RX0_18 (tb_at ok_X0_tells 40 rfl) ?_
  refine aw_iconst C (tb_at ok_X0_tells 41 rfl) ki_5 ?_
  refine aw_aload_n C (tb_at ok_X0_tells 42 rfl) rfl ?_
  refine aw_iload_n C (tb_at ok_X0_tells 43 rfl) rfl ?_
  refine sw_cVi C S [.int a2] [.int 5, .ref 48] (tb_at ok_X0_tells 44 rfl) h (fun q e => m_fD_othersWith hn e) mf_X0_othersWith (ob_45 hn) rfl rfl cw_RX0_146 rfl (by decide) rfl (Nat.le_of_ble_eq_true rfl) (fun r3 M3 h => ?_)
  refine sw_iast C (ob_48 hn) (tb_at ok_X0_tells 45 rfl) h (fun h => ?_)
  refine aw_aload_n C (tb_at ok_X0_tells 46 rfl) rfl ?_
  refine aw_getR C (ob_45 hn) rfl (by decide) rfl p_45_1 fl_RX0_60 (tb_at ok_X0_tells 47 rfl) ?_
  refine aw_aload_n C (tb_at ok_X0_tells 48 rfl) rfl ?_
  refine sw_getH C hn fl_RX0_56 (tb_at ok_X0_tells 49 rfl) h (fun hi4 h => ?_)
  refine aw_get C (hO hn hi4) rfl (by decide) rfl fl_RX0_149 (tb_at ok_X0_tells 50 rfl) ?_
  refine sw_aald C 4 (ob_44 hn) (by decide) rfl (tb_at ok_X0_tells 51 rfl) (fun z => tPA z) h (fun hi5 h => ?_)
  refine aw_iload_n C (tb_at ok_X0_tells 52 rfl) rfl ?_
  refine aw_aload_n C (tb_at ok_X0_tells 53 rfl) rfl ?_
  refine aw_getR C (ob_45 hn) rfl (by decide) rfl p_45_3 fl_RX0_18 (tb_at ok_X0_tells 54 rfl) ?_
  refine aw_aload_n C (tb_at ok_X0_tells 55 rfl) rfl ?_
  refine aw_getR C (ob_45 hn) rfl (by decide) rfl p_45_4 fl_RX0_22 (tb_at ok_X0_tells 56 rfl) ?_
  refine sw_cVi C S [.int a1, .ref 48, .ref 49] [] (tb_at ok_X0_tells 57 rfl) h (fun q e => m_fG_value hn (tA hi5) e) mf_X6_value (gO hn (tA hi5)) rfl rfl cw_RX0_152 rfl (by decide) rfl (Nat.le_of_ble_eq_true rfl) (fun r6 M6 h => ?_)
  refine aw_istore C [some (.ref 45), some (.int a1), some (.int a2), some (.int a3), some (.int a4), some (.int r6)] (tb_at ok_X0_tells 58 rfl) S.2.2.2.1 (by decide) rfl ?_
  refine aw_iload_n C (tb_at ok_X0_tells 59 rfl) rfl ?_
  refine aw_iconst C (tb_at ok_X0_tells 60 rfl) ki_2 ?_
  refine aw_icmp_ne C 118 (tb_at ok_X0_tells 61 rfl) (by decide) h (fun h => ?_) (fun h => ?_)
  · refine aw_iconst C (tb_at ok_X0_tells 62 rfl) ki_0 ?_
    refine aw_bipush C (tb_at ok_X0_tells 63 rfl) kb_99 ?_
    refine aw_iload C (tb_at ok_X0_tells 64 rfl) rfl ?_
    refine aw_min C ml_RX0_158 w_min (Nat.le_of_ble_eq_true rfl) S.1.2 (tb_at ok_X0_tells 65 rfl) ?_
    refine aw_max C ml_RX0_127 w_max (Nat.le_of_ble_eq_true rfl) S.1.2 (tb_at ok_X0_tells 66 rfl) ?_
    refine aw_goto C 129 (tb_at ok_X0_tells 67 rfl) (by decide) ?_
    exact sw_iret C S rfl (tb_at ok_X0_tells 73 rfl) h
  · refine aw_iconst C (tb_at ok_X0_tells 68 rfl) ki_1 ?_
    refine aw_bipush C (tb_at ok_X0_tells 69 rfl) kb_9 ?_
    refine aw_iload C (tb_at ok_X0_tells 70 rfl) rfl ?_
    refine aw_min C ml_RX0_158 w_min (Nat.le_of_ble_eq_true rfl) S.1.2 (tb_at ok_X0_tells 71 rfl) ?_
    refine aw_max C ml_RX0_127 w_max (Nat.le_of_ble_eq_true rfl) S.1.2 (tb_at ok_X0_tells 72 rfl) ?_
    exact sw_iret C S rfl (tb_at ok_X0_tells 73 rfl) h
theorem m_fD_tells {l : Launch} {w : Wd} {n : Nat} {a1 : Int32} {a2 : Int32} {a3 : Int32} {a4 : Int32} {M : Mem} {r : Int32 × Mem} (hn : 85 ≤ n) (h : fD_tells a1 a2 a3 a4 M = some r) : CM l w yX0_tells cX0_tells 6 (some .int) 3 0 0 [.ref 45, .int a1, .int a2, .int a3, .int a4] n M (PD M) (Ti n r) := sm_of (loc := [some (.ref 45), some (.int a1), some (.int a2), some (.int a3), some (.int a4), none]) mf_X0_tells (by decide) (Nat.le_of_ble_eq_true rfl) rfl (fun K _ _ C S => t_fD_tells C S hn h)
def tb_X2_dares : List (Nat × Instr × Nat) := [(0, .aload_n 0, 1), (1, .getfield 9, 3), (4, .iconst 3, 1), (5, .if_icmp .ne 18, 3), (8, .iload_n 1, 1), (9, .aload_n 0, 1), (10, .getfield 15, 3), (13, .iconst 2, 1), (14, .iadd, 1), (15, .irem, 1), (16, .ifCond .ne 7, 3), (19, .iconst 1, 1), (20, .goto 4, 3), (23, .iconst 0, 1), (24, .ireturn, 1)]
theorem ok_X2_dares : TB cX2_dares tb_X2_dares := (by decide +kernel : tb_X2_dares.all (fun q => tbq cX2_dares q) = true)
set_option maxHeartbeats 4000000 in
set_option maxRecDepth 20000 in
theorem t_fA_dares {K : Cx} {n : Nat} {q0 : Nat} {a1 : Int32} {M : Mem} {r : Int32 × Mem} (C : Ctx K RX2 cX2_dares) (S : SS K n 1 2 (some .boolean) (Ti n r)) (hn : 85 ≤ n) (hq0 : aOK q0) (h : fA_dares q0 a1 M = some r) : AS K n M 0 [some (.ref q0), some (.int a1)] [] := by
  refine aw_aload_n C (tb_at ok_X2_dares 0 rfl) rfl ?_
  refine aw_get C (aO hn hq0) rfl (by decide) rfl fl_RX2_9 (tb_at ok_X2_dares 1 rfl) ?_
  refine aw_iconst C (tb_at ok_X2_dares 2 rfl) ki_3 ?_
  refine aw_icmp_ne C 23 (tb_at ok_X2_dares 3 rfl) (by decide) h (fun h => ?_) (fun h => ?_)
  · refine aw_iload_n C (tb_at ok_X2_dares 4 rfl) rfl ?_
    refine aw_aload_n C (tb_at ok_X2_dares 5 rfl) rfl ?_
    refine aw_get C (aO hn hq0) rfl (by decide) rfl fl_RX2_15 (tb_at ok_X2_dares 6 rfl) ?_
    refine aw_iconst C (tb_at ok_X2_dares 7 rfl) ki_2 ?_
    refine aw_iadd C (tb_at ok_X2_dares 8 rfl) ?_
    refine sw_irem C (tb_at ok_X2_dares 9 rfl) h (fun h => ?_)
    refine aw_if_ne C 23 (tb_at ok_X2_dares 10 rfl) (by decide) h (fun h => ?_) (fun h => ?_)
    · refine aw_iconst C (tb_at ok_X2_dares 11 rfl) ki_1 ?_
      refine aw_goto C 24 (tb_at ok_X2_dares 12 rfl) (by decide) ?_
      exact sw_iret C S rfl (tb_at ok_X2_dares 14 rfl) h
    · refine aw_iconst C (tb_at ok_X2_dares 13 rfl) ki_0 ?_
      exact sw_iret C S rfl (tb_at ok_X2_dares 14 rfl) h
  · refine aw_iconst C (tb_at ok_X2_dares 13 rfl) ki_0 ?_
    exact sw_iret C S rfl (tb_at ok_X2_dares 14 rfl) h
theorem m_fA_dares {l : Launch} {w : Wd} {n : Nat} {q0 : Nat} {a1 : Int32} {M : Mem} {r : Int32 × Mem} (hn : 85 ≤ n) (hq0 : aOK q0) (h : fA_dares q0 a1 M = some r) : CM l w yX2_dares cX2_dares 2 (some .boolean) 1 0 0 [.ref q0, .int a1] n M (PD M) (Ti n r) := sm_of (loc := [some (.ref q0), some (.int a1)]) mf_X2_dares (by decide) (Nat.le_of_ble_eq_true rfl) rfl (fun K _ _ C S => t_fA_dares C S hn hq0 h)
def tb_X7_within : List (Nat × Instr × Nat) := [(0, .iload_n 0, 1), (1, .ifCond .lt 12, 3), (4, .iload_n 0, 1), (5, .iload_n 1, 1), (6, .if_icmp .ge 7, 3), (9, .iconst 1, 1), (10, .goto 4, 3), (13, .iconst 0, 1), (14, .ireturn, 1)]
theorem ok_X7_within : TB cX7_within tb_X7_within := (by decide +kernel : tb_X7_within.all (fun q => tbq cX7_within q) = true)
set_option maxHeartbeats 4000000 in
set_option maxRecDepth 20000 in
theorem t_fN_within {K : Cx} {n : Nat} {a0 : Int32} {a1 : Int32} {M : Mem} {r : Int32 × Mem} (C : Ctx K RX7 cX7_within) (S : SS K n 1 2 (some .boolean) (Ti n r)) (hn : 85 ≤ n) (h : fN_within a0 a1 M = some r) : AS K n M 0 [some (.int a0), some (.int a1)] [] := by
  refine aw_iload_n C (tb_at ok_X7_within 0 rfl) rfl ?_
  refine aw_if_lt C 13 (tb_at ok_X7_within 1 rfl) (by decide) h (fun h => ?_) (fun h => ?_)
  · refine aw_iconst C (tb_at ok_X7_within 7 rfl) ki_0 ?_
    exact sw_iret C S rfl (tb_at ok_X7_within 8 rfl) h
  · refine aw_iload_n C (tb_at ok_X7_within 2 rfl) rfl ?_
    refine aw_iload_n C (tb_at ok_X7_within 3 rfl) rfl ?_
    refine aw_icmp_ge C 13 (tb_at ok_X7_within 4 rfl) (by decide) h (fun h => ?_) (fun h => ?_)
    · refine aw_iconst C (tb_at ok_X7_within 7 rfl) ki_0 ?_
      exact sw_iret C S rfl (tb_at ok_X7_within 8 rfl) h
    · refine aw_iconst C (tb_at ok_X7_within 5 rfl) ki_1 ?_
      refine aw_goto C 14 (tb_at ok_X7_within 6 rfl) (by decide) ?_
      exact sw_iret C S rfl (tb_at ok_X7_within 8 rfl) h
theorem m_fN_within {l : Launch} {w : Wd} {n : Nat} {a0 : Int32} {a1 : Int32} {M : Mem} {r : Int32 × Mem} (hn : 85 ≤ n) (h : fN_within a0 a1 M = some r) : CM l w yX7_within cX7_within 2 (some .boolean) 1 0 0 [.int a0, .int a1] n M (PD M) (Ti n r) := sm_of (loc := [some (.int a0), some (.int a1)]) mf_X7_within (by decide) (Nat.le_of_ble_eq_true rfl) rfl (fun K _ _ C S => t_fN_within C S hn h)
def tb_X2_roomListed : List (Nat × Instr × Nat) := [(0, .iload_n 1, 1), (1, .aload_n 0, 1), (2, .getfield 21, 3), (5, .invokestatic 34, 3), (8, .ifCond .eq 12, 3), (11, .aload_n 0, 1), (12, .getfield 24, 3), (15, .iload_n 1, 1), (16, .iaload, 1), (17, .goto 4, 3), (20, .iconst (-1), 1), (21, .ireturn, 1)]
theorem ok_X2_roomListed : TB cX2_roomListed tb_X2_roomListed := (by decide +kernel : tb_X2_roomListed.all (fun q => tbq cX2_roomListed q) = true)
set_option maxHeartbeats 4000000 in
set_option maxRecDepth 20000 in
theorem t_fA_roomListed {K : Cx} {n : Nat} {q0 : Nat} {a1 : Int32} {M : Mem} {r : Int32 × Mem} (C : Ctx K RX2 cX2_roomListed) (S : SS K n 2 2 (some .int) (Ti n r)) (hn : 85 ≤ n) (hq0 : aOK q0) (h : fA_roomListed q0 a1 M = some r) : AS K n M 0 [some (.ref q0), some (.int a1)] [] := by
  refine aw_iload_n C (tb_at ok_X2_roomListed 0 rfl) rfl ?_
  refine aw_aload_n C (tb_at ok_X2_roomListed 1 rfl) rfl ?_
  refine aw_get C (aO hn hq0) rfl (by decide) rfl fl_RX2_21 (tb_at ok_X2_roomListed 2 rfl) ?_
  refine sw_cSNi C S [.int a1, .int (M q0 3)] [] (tb_at ok_X2_roomListed 3 rfl) h (fun q e => m_fN_within hn e) mf_X7_within cw_RX2_34 rfl (by decide) rfl (Nat.le_of_ble_eq_true rfl) (fun r1 M1 h => ?_)
  refine aw_if_eq C 20 (tb_at ok_X2_roomListed 4 rfl) (by decide) h (fun h => ?_) (fun h => ?_)
  · refine aw_iconst C (tb_at ok_X2_roomListed 10 rfl) ki_m1 ?_
    exact sw_iret C S rfl (tb_at ok_X2_roomListed 11 rfl) h
  · refine aw_aload_n C (tb_at ok_X2_roomListed 5 rfl) rfl ?_
    refine aw_getR C (aO hn hq0) rfl (by decide) rfl (aP4 hq0) fl_RX2_24 (tb_at ok_X2_roomListed 6 rfl) ?_
    refine aw_iload_n C (tb_at ok_X2_roomListed 7 rfl) rfl ?_
    refine aw_iald C (aO1 hn hq0) (tb_at ok_X2_roomListed 8 rfl) h (fun h => ?_)
    refine aw_goto C 21 (tb_at ok_X2_roomListed 9 rfl) (by decide) ?_
    exact sw_iret C S rfl (tb_at ok_X2_roomListed 11 rfl) h
theorem m_fA_roomListed {l : Launch} {w : Wd} {n : Nat} {q0 : Nat} {a1 : Int32} {M : Mem} {r : Int32 × Mem} (hn : 85 ≤ n) (hq0 : aOK q0) (h : fA_roomListed q0 a1 M = some r) : CM l w yX2_roomListed cX2_roomListed 2 (some .int) 2 0 0 [.ref q0, .int a1] n M (PD M) (Ti n r) := sm_of (loc := [some (.ref q0), some (.int a1)]) mf_X2_roomListed (by decide) (Nat.le_of_ble_eq_true rfl) rfl (fun K _ _ C S => t_fA_roomListed C S hn hq0 h)
def tb_X2_takes : List (Nat × Instr × Nat) := [(0, .aload_n 0, 1), (1, .getfield 9, 3), (4, .tableswitch 63 1 5 #[36, 49, 36, 53, 59], 36), (40, .iconst 1, 1), (41, .iload_n 1, 1), (42, .aload_n 0, 1), (43, .getfield 15, 3), (46, .iconst 3, 1), (47, .idiv, 1), (48, .isub, 1), (49, .invokestatic 41, 3), (52, .ireturn, 1), (53, .iload_n 1, 1), (54, .iconst 1, 1), (55, .iadd, 1), (56, .ireturn, 1), (57, .iconst 2, 1), (58, .iload_n 1, 1), (59, .iconst 1, 1), (60, .iadd, 1), (61, .imul, 1), (62, .ireturn, 1), (63, .iconst 2, 1), (64, .iload_n 1, 1), (65, .imul, 1), (66, .ireturn, 1), (67, .iload_n 1, 1), (68, .ireturn, 1)]
theorem ok_X2_takes : TB cX2_takes tb_X2_takes := (by decide +kernel : tb_X2_takes.all (fun q => tbq cX2_takes q) = true)
set_option maxHeartbeats 4000000 in
set_option maxRecDepth 20000 in
theorem t_fA_takes_b40 {K : Cx} {n : Nat} {q0 : Nat} {a1 : Int32} {M : Mem} {r : Int32 × Mem} (C : Ctx K RX2 cX2_takes) (S : SS K n 1 2 (some .int) (Ti n r)) (hn : 85 ≤ n) (hq0 : aOK q0) (h : fA_takes_b40 q0 a1 M = some r) : AS K n M 40 [some (.ref q0), some (.int a1)] [] := by
  refine aw_iconst C (tb_at ok_X2_takes 3 rfl) ki_1 ?_
  refine aw_iload_n C (tb_at ok_X2_takes 4 rfl) rfl ?_
  refine aw_aload_n C (tb_at ok_X2_takes 5 rfl) rfl ?_
  refine aw_get C (aO hn hq0) rfl (by decide) rfl fl_RX2_15 (tb_at ok_X2_takes 6 rfl) ?_
  refine aw_iconst C (tb_at ok_X2_takes 7 rfl) ki_3 ?_
  refine aw_idiv C (by decide) (tb_at ok_X2_takes 8 rfl) ?_
  refine aw_isub C (tb_at ok_X2_takes 9 rfl) ?_
  refine aw_max C ml_RX2_41 w_max (Nat.le_of_ble_eq_true rfl) S.1.2 (tb_at ok_X2_takes 10 rfl) ?_
  exact sw_iret C S rfl (tb_at ok_X2_takes 11 rfl) h
set_option maxHeartbeats 4000000 in
set_option maxRecDepth 20000 in
theorem t_fA_takes {K : Cx} {n : Nat} {q0 : Nat} {a1 : Int32} {M : Mem} {r : Int32 × Mem} (C : Ctx K RX2 cX2_takes) (S : SS K n 1 2 (some .int) (Ti n r)) (hn : 85 ≤ n) (hq0 : aOK q0) (h : fA_takes q0 a1 M = some r) : AS K n M 0 [some (.ref q0), some (.int a1)] [] := by
  refine aw_aload_n C (tb_at ok_X2_takes 0 rfl) rfl ?_
  refine aw_get C (aO hn hq0) rfl (by decide) rfl fl_RX2_9 (tb_at ok_X2_takes 1 rfl) ?_
  by_cases c1 : (M q0 0) = 1
  · refine aw_tsIn C 36 40 (tb_at ok_X2_takes 2 rfl) (by rw [c1]; decide) (by rw [c1]; decide) (by rw [c1]; rfl) (by decide) ?_
    have h := (if_pos c1).symm.trans h
    exact aw_loc [some (.ref q0), some (.int a1)] (sl_k (sl_k sl_0)) (t_fA_takes_b40 C S hn hq0 h)
  have h := (if_neg c1).symm.trans h
  by_cases c2 : (M q0 0) = 2
  · refine aw_tsIn C 49 53 (tb_at ok_X2_takes 2 rfl) (by rw [c2]; decide) (by rw [c2]; decide) (by rw [c2]; rfl) (by decide) ?_
    have h := (if_pos c2).symm.trans h
    refine aw_iload_n C (tb_at ok_X2_takes 12 rfl) rfl ?_
    refine aw_iconst C (tb_at ok_X2_takes 13 rfl) ki_1 ?_
    refine aw_iadd C (tb_at ok_X2_takes 14 rfl) ?_
    exact sw_iret C S rfl (tb_at ok_X2_takes 15 rfl) h
  have h := (if_neg c2).symm.trans h
  by_cases c3 : (M q0 0) = 3
  · refine aw_tsIn C 36 40 (tb_at ok_X2_takes 2 rfl) (by rw [c3]; decide) (by rw [c3]; decide) (by rw [c3]; rfl) (by decide) ?_
    have h := (if_pos c3).symm.trans h
    exact aw_loc [some (.ref q0), some (.int a1)] (sl_k (sl_k sl_0)) (t_fA_takes_b40 C S hn hq0 h)
  have h := (if_neg c3).symm.trans h
  by_cases c4 : (M q0 0) = 4
  · refine aw_tsIn C 53 57 (tb_at ok_X2_takes 2 rfl) (by rw [c4]; decide) (by rw [c4]; decide) (by rw [c4]; rfl) (by decide) ?_
    have h := (if_pos c4).symm.trans h
    refine aw_iconst C (tb_at ok_X2_takes 16 rfl) ki_2 ?_
    refine aw_iload_n C (tb_at ok_X2_takes 17 rfl) rfl ?_
    refine aw_iconst C (tb_at ok_X2_takes 18 rfl) ki_1 ?_
    refine aw_iadd C (tb_at ok_X2_takes 19 rfl) ?_
    refine aw_imul C (tb_at ok_X2_takes 20 rfl) ?_
    exact sw_iret C S rfl (tb_at ok_X2_takes 21 rfl) h
  have h := (if_neg c4).symm.trans h
  by_cases c5 : (M q0 0) = 5
  · refine aw_tsIn C 59 63 (tb_at ok_X2_takes 2 rfl) (by rw [c5]; decide) (by rw [c5]; decide) (by rw [c5]; rfl) (by decide) ?_
    have h := (if_pos c5).symm.trans h
    refine aw_iconst C (tb_at ok_X2_takes 22 rfl) ki_2 ?_
    refine aw_iload_n C (tb_at ok_X2_takes 23 rfl) rfl ?_
    refine aw_imul C (tb_at ok_X2_takes 24 rfl) ?_
    exact sw_iret C S rfl (tb_at ok_X2_takes 25 rfl) h
  have h := (if_neg c5).symm.trans h
  refine aw_tsOut C 67 (tb_at ok_X2_takes 2 rfl) ?_ (by decide) ?_
  · rcases Int.lt_or_le ((M q0 0)).toInt 1 with q | q
    · exact Or.inl q
    · refine Or.inr (Int.lt_of_not_ge (fun q2 => ?_))
      have q3 : ((M q0 0)).toInt = 1 ∨ ((M q0 0)).toInt = 2 ∨ ((M q0 0)).toInt = 3 ∨ ((M q0 0)).toInt = 4 ∨ ((M q0 0)).toInt = 5 := by omega
      rcases q3 with e | e | e | e | e
      · exact c1 (Int32.toInt_inj.mp (e.trans (by decide)))
      · exact c2 (Int32.toInt_inj.mp (e.trans (by decide)))
      · exact c3 (Int32.toInt_inj.mp (e.trans (by decide)))
      · exact c4 (Int32.toInt_inj.mp (e.trans (by decide)))
      · exact c5 (Int32.toInt_inj.mp (e.trans (by decide)))
  refine aw_iload_n C (tb_at ok_X2_takes 26 rfl) rfl ?_
  exact sw_iret C S rfl (tb_at ok_X2_takes 27 rfl) h
theorem m_fA_takes {l : Launch} {w : Wd} {n : Nat} {q0 : Nat} {a1 : Int32} {M : Mem} {r : Int32 × Mem} (hn : 85 ≤ n) (hq0 : aOK q0) (h : fA_takes q0 a1 M = some r) : CM l w yX2_takes cX2_takes 2 (some .int) 1 0 0 [.ref q0, .int a1] n M (PD M) (Ti n r) := sm_of (loc := [some (.ref q0), some (.int a1)]) mf_X2_takes (by decide) (Nat.le_of_ble_eq_true rfl) rfl (fun K _ _ C S => t_fA_takes C S hn hq0 h)
def tb_X2_works : List (Nat × Instr × Nat) := [(0, .aload_n 0, 1), (1, .getfield 9, 3), (4, .tableswitch 55 1 5 #[36, 55, 36, 40, 47], 36), (40, .iload_n 1, 1), (41, .iconst 1, 1), (42, .iadd, 1), (43, .ireturn, 1), (44, .iload_n 1, 1), (45, .aload_n 0, 1), (46, .getfield 15, 3), (49, .iadd, 1), (50, .ireturn, 1), (51, .iconst 1, 1), (52, .iload_n 1, 1), (53, .iconst 2, 1), (54, .idiv, 1), (55, .invokestatic 41, 3), (58, .ireturn, 1), (59, .iload_n 1, 1), (60, .ireturn, 1)]
theorem ok_X2_works : TB cX2_works tb_X2_works := (by decide +kernel : tb_X2_works.all (fun q => tbq cX2_works q) = true)
set_option maxHeartbeats 4000000 in
set_option maxRecDepth 20000 in
theorem t_fA_works_b40 {K : Cx} {n : Nat} {a1 : Int32} {M : Mem} {r : Int32 × Mem} (C : Ctx K RX2 cX2_works) (S : SS K n 1 2 (some .int) (Ti n r)) (hn : 85 ≤ n) (h : fA_works_b40 a1 M = some r) : AS K n M 40 [none, some (.int a1)] [] := by
  refine aw_iload_n C (tb_at ok_X2_works 3 rfl) rfl ?_
  refine aw_iconst C (tb_at ok_X2_works 4 rfl) ki_1 ?_
  refine aw_iadd C (tb_at ok_X2_works 5 rfl) ?_
  exact sw_iret C S rfl (tb_at ok_X2_works 6 rfl) h
set_option maxHeartbeats 4000000 in
set_option maxRecDepth 20000 in
theorem t_fA_works_b59 {K : Cx} {n : Nat} {a1 : Int32} {M : Mem} {r : Int32 × Mem} (C : Ctx K RX2 cX2_works) (S : SS K n 1 2 (some .int) (Ti n r)) (hn : 85 ≤ n) (h : fA_works_b59 a1 M = some r) : AS K n M 59 [none, some (.int a1)] [] := by
  refine aw_iload_n C (tb_at ok_X2_works 18 rfl) rfl ?_
  exact sw_iret C S rfl (tb_at ok_X2_works 19 rfl) h
set_option maxHeartbeats 4000000 in
set_option maxRecDepth 20000 in
theorem t_fA_works {K : Cx} {n : Nat} {q0 : Nat} {a1 : Int32} {M : Mem} {r : Int32 × Mem} (C : Ctx K RX2 cX2_works) (S : SS K n 1 2 (some .int) (Ti n r)) (hn : 85 ≤ n) (hq0 : aOK q0) (h : fA_works q0 a1 M = some r) : AS K n M 0 [some (.ref q0), some (.int a1)] [] := by
  refine aw_aload_n C (tb_at ok_X2_works 0 rfl) rfl ?_
  refine aw_get C (aO hn hq0) rfl (by decide) rfl fl_RX2_9 (tb_at ok_X2_works 1 rfl) ?_
  by_cases c1 : (M q0 0) = 1
  · refine aw_tsIn C 36 40 (tb_at ok_X2_works 2 rfl) (by rw [c1]; decide) (by rw [c1]; decide) (by rw [c1]; rfl) (by decide) ?_
    have h := (if_pos c1).symm.trans h
    exact aw_loc [none, some (.int a1)] (sl_n (sl_k sl_0)) (t_fA_works_b40 C S hn h)
  have h := (if_neg c1).symm.trans h
  by_cases c2 : (M q0 0) = 2
  · refine aw_tsIn C 55 59 (tb_at ok_X2_works 2 rfl) (by rw [c2]; decide) (by rw [c2]; decide) (by rw [c2]; rfl) (by decide) ?_
    have h := (if_pos c2).symm.trans h
    exact aw_loc [none, some (.int a1)] (sl_n (sl_k sl_0)) (t_fA_works_b59 C S hn h)
  have h := (if_neg c2).symm.trans h
  by_cases c3 : (M q0 0) = 3
  · refine aw_tsIn C 36 40 (tb_at ok_X2_works 2 rfl) (by rw [c3]; decide) (by rw [c3]; decide) (by rw [c3]; rfl) (by decide) ?_
    have h := (if_pos c3).symm.trans h
    exact aw_loc [none, some (.int a1)] (sl_n (sl_k sl_0)) (t_fA_works_b40 C S hn h)
  have h := (if_neg c3).symm.trans h
  by_cases c4 : (M q0 0) = 4
  · refine aw_tsIn C 40 44 (tb_at ok_X2_works 2 rfl) (by rw [c4]; decide) (by rw [c4]; decide) (by rw [c4]; rfl) (by decide) ?_
    have h := (if_pos c4).symm.trans h
    refine aw_iload_n C (tb_at ok_X2_works 7 rfl) rfl ?_
    refine aw_aload_n C (tb_at ok_X2_works 8 rfl) rfl ?_
    refine aw_get C (aO hn hq0) rfl (by decide) rfl fl_RX2_15 (tb_at ok_X2_works 9 rfl) ?_
    refine aw_iadd C (tb_at ok_X2_works 10 rfl) ?_
    exact sw_iret C S rfl (tb_at ok_X2_works 11 rfl) h
  have h := (if_neg c4).symm.trans h
  by_cases c5 : (M q0 0) = 5
  · refine aw_tsIn C 47 51 (tb_at ok_X2_works 2 rfl) (by rw [c5]; decide) (by rw [c5]; decide) (by rw [c5]; rfl) (by decide) ?_
    have h := (if_pos c5).symm.trans h
    refine aw_iconst C (tb_at ok_X2_works 12 rfl) ki_1 ?_
    refine aw_iload_n C (tb_at ok_X2_works 13 rfl) rfl ?_
    refine aw_iconst C (tb_at ok_X2_works 14 rfl) ki_2 ?_
    refine aw_idiv C (by decide) (tb_at ok_X2_works 15 rfl) ?_
    refine aw_max C ml_RX2_41 w_max (Nat.le_of_ble_eq_true rfl) S.1.2 (tb_at ok_X2_works 16 rfl) ?_
    exact sw_iret C S rfl (tb_at ok_X2_works 17 rfl) h
  have h := (if_neg c5).symm.trans h
  refine aw_tsOut C 59 (tb_at ok_X2_works 2 rfl) ?_ (by decide) ?_
  · rcases Int.lt_or_le ((M q0 0)).toInt 1 with q | q
    · exact Or.inl q
    · refine Or.inr (Int.lt_of_not_ge (fun q2 => ?_))
      have q3 : ((M q0 0)).toInt = 1 ∨ ((M q0 0)).toInt = 2 ∨ ((M q0 0)).toInt = 3 ∨ ((M q0 0)).toInt = 4 ∨ ((M q0 0)).toInt = 5 := by omega
      rcases q3 with e | e | e | e | e
      · exact c1 (Int32.toInt_inj.mp (e.trans (by decide)))
      · exact c2 (Int32.toInt_inj.mp (e.trans (by decide)))
      · exact c3 (Int32.toInt_inj.mp (e.trans (by decide)))
      · exact c4 (Int32.toInt_inj.mp (e.trans (by decide)))
      · exact c5 (Int32.toInt_inj.mp (e.trans (by decide)))
  exact aw_loc [none, some (.int a1)] (sl_n (sl_k sl_0)) (t_fA_works_b59 C S hn h)
theorem m_fA_works {l : Launch} {w : Wd} {n : Nat} {q0 : Nat} {a1 : Int32} {M : Mem} {r : Int32 × Mem} (hn : 85 ≤ n) (hq0 : aOK q0) (h : fA_works q0 a1 M = some r) : CM l w yX2_works cX2_works 2 (some .int) 1 0 0 [.ref q0, .int a1] n M (PD M) (Ti n r) := sm_of (loc := [some (.ref q0), some (.int a1)]) mf_X2_works (by decide) (Nat.le_of_ble_eq_true rfl) rfl (fun K _ _ C S => t_fA_works C S hn hq0 h)
def tb_X5_nextLaid : List (Nat × Instr × Nat) := [(0, .iload_n 1, 1), (1, .bipush 8, 2), (3, .invokestatic 36, 3), (6, .ifCond .eq 26, 3), (9, .iload_n 2, 1), (10, .bipush 8, 2), (12, .invokestatic 36, 3), (15, .ifCond .eq 17, 3), (18, .aload_n 0, 1), (19, .getfield 9, 3), (22, .iload_n 1, 1), (23, .bipush 8, 2), (25, .imul, 1), (26, .iload_n 2, 1), (27, .iadd, 1), (28, .iaload, 1), (29, .goto 4, 3), (32, .iconst (-1), 1), (33, .ireturn, 1)]
theorem ok_X5_nextLaid : TB cX5_nextLaid tb_X5_nextLaid := (by decide +kernel : tb_X5_nextLaid.all (fun q => tbq cX5_nextLaid q) = true)
set_option maxHeartbeats 4000000 in
set_option maxRecDepth 20000 in
theorem t_fY_nextLaid {K : Cx} {n : Nat} {a1 : Int32} {a2 : Int32} {M : Mem} {r : Int32 × Mem} (C : Ctx K RX5 cX5_nextLaid) (S : SS K n 2 3 (some .int) (Ti n r)) (hn : 85 ≤ n) (h : fY_nextLaid a1 a2 M = some r) : AS K n M 0 [some (.ref 46), some (.int a1), some (.int a2)] [] := by
  refine aw_iload_n C (tb_at ok_X5_nextLaid 0 rfl) rfl ?_
  refine aw_bipush C (tb_at ok_X5_nextLaid 1 rfl) kb_8 ?_
  refine sw_cSNi C S [.int a1, .int 8] [] (tb_at ok_X5_nextLaid 2 rfl) h (fun q e => m_fN_within hn e) mf_X7_within cw_RX5_36 rfl (by decide) rfl (Nat.le_of_ble_eq_true rfl) (fun r1 M1 h => ?_)
  refine aw_if_eq C 32 (tb_at ok_X5_nextLaid 3 rfl) (by decide) h (fun h => ?_) (fun h => ?_)
  · refine aw_iconst C (tb_at ok_X5_nextLaid 17 rfl) ki_m1 ?_
    exact sw_iret C S rfl (tb_at ok_X5_nextLaid 18 rfl) h
  · refine aw_iload_n C (tb_at ok_X5_nextLaid 4 rfl) rfl ?_
    refine aw_bipush C (tb_at ok_X5_nextLaid 5 rfl) kb_8 ?_
    refine sw_cSNi C S [.int a2, .int 8] [] (tb_at ok_X5_nextLaid 6 rfl) h (fun q e => m_fN_within hn e) mf_X7_within cw_RX5_36 rfl (by decide) rfl (Nat.le_of_ble_eq_true rfl) (fun r2 M2 h => ?_)
    refine aw_if_eq C 32 (tb_at ok_X5_nextLaid 7 rfl) (by decide) h (fun h => ?_) (fun h => ?_)
    · refine aw_iconst C (tb_at ok_X5_nextLaid 17 rfl) ki_m1 ?_
      exact sw_iret C S rfl (tb_at ok_X5_nextLaid 18 rfl) h
    · refine aw_aload_n C (tb_at ok_X5_nextLaid 8 rfl) rfl ?_
      refine aw_getR C (ob_46 hn) rfl (by decide) rfl p_46_0 fl_RX5_9 (tb_at ok_X5_nextLaid 9 rfl) ?_
      refine aw_iload_n C (tb_at ok_X5_nextLaid 10 rfl) rfl ?_
      refine aw_bipush C (tb_at ok_X5_nextLaid 11 rfl) kb_8 ?_
      refine aw_imul C (tb_at ok_X5_nextLaid 12 rfl) ?_
      refine aw_iload_n C (tb_at ok_X5_nextLaid 13 rfl) rfl ?_
      refine aw_iadd C (tb_at ok_X5_nextLaid 14 rfl) ?_
      refine aw_iald C (ob_47 hn) (tb_at ok_X5_nextLaid 15 rfl) h (fun h => ?_)
      refine aw_goto C 33 (tb_at ok_X5_nextLaid 16 rfl) (by decide) ?_
      exact sw_iret C S rfl (tb_at ok_X5_nextLaid 18 rfl) h
theorem m_fY_nextLaid {l : Launch} {w : Wd} {n : Nat} {a1 : Int32} {a2 : Int32} {M : Mem} {r : Int32 × Mem} (hn : 85 ≤ n) (h : fY_nextLaid a1 a2 M = some r) : CM l w yX5_nextLaid cX5_nextLaid 3 (some .int) 2 0 0 [.ref 46, .int a1, .int a2] n M (PD M) (Ti n r) := sm_of (loc := [some (.ref 46), some (.int a1), some (.int a2)]) mf_X5_nextLaid (by decide) (Nat.le_of_ble_eq_true rfl) rfl (fun K _ _ C S => t_fY_nextLaid C S hn h)
def tb_X0_turn : List (Nat × Instr × Nat) := [(0, .aload_n 0, 1), (1, .getfield 56, 3), (4, .getfield 90, 3), (7, .iload_n 1, 1), (8, .aaload, 1), (9, .astore 4, 2), (11, .aload_n 0, 1), (12, .getfield 25, 3), (15, .iload_n 1, 1), (16, .iaload, 1), (17, .istore 5, 2), (19, .aload 4, 2), (21, .aload_n 0, 1), (22, .getfield 34, 3), (25, .iload_n 1, 1), (26, .iaload, 1), (27, .invokevirtual 117, 3), (30, .istore 6, 2), (32, .aload_n 0, 1), (33, .getfield 31, 3), (36, .iload_n 1, 1), (37, .iaload, 1), (38, .ifCond .le 37, 3), (41, .aload_n 0, 1), (42, .getfield 31, 3), (45, .iload_n 1, 1), (46, .dup2, 1), (47, .iaload, 1), (48, .iconst 1, 1), (49, .isub, 1), (50, .iastore, 1), (51, .aload_n 0, 1), (52, .getfield 31, 3), (55, .iload_n 1, 1), (56, .iaload, 1), (57, .ifCond .ne 191, 3), (60, .aload_n 0, 1), (61, .getfield 25, 3), (64, .iload_n 1, 1), (65, .aload_n 0, 1), (66, .getfield 28, 3), (69, .iload_n 1, 1), (70, .iaload, 1), (71, .iastore, 1), (72, .goto 176, 3), (75, .iload 5, 2), (77, .iload_n 3, 1), (78, .if_icmp .ne 33, 3), (81, .aload_n 0, 1), (82, .getfield 37, 3), (85, .iload_n 1, 1), (86, .dup2, 1), (87, .iaload, 1), (88, .iconst 1, 1), (89, .iadd, 1), (90, .iastore, 1), (91, .aload_n 0, 1), (92, .dup, 1), (93, .getfield 50, 3), (96, .aload_n 0, 1), (97, .iconst 2, 1), (98, .iload_n 1, 1), (99, .iload_n 2, 1), (100, .iconst 0, 1), (101, .invokevirtual 120, 3), (104, .iadd, 1), (105, .putfield 50, 3), (108, .goto 140, 3), (111, .iload 5, 2), (113, .iload 6, 2), (115, .if_icmp .ne 58, 3), (118, .aload_n 0, 1), (119, .getfield 43, 3), (122, .iload 5, 2), (124, .iconst 0, 1), (125, .aload_n 0, 1), (126, .getfield 43, 3), (129, .iload 5, 2), (131, .iaload, 1), (132, .aload 4, 2), (134, .aload_n 0, 1), (135, .iconst 1, 1), (136, .iload_n 1, 1), (137, .iload_n 2, 1), (138, .iconst 0, 1), (139, .invokevirtual 120, 3), (142, .invokevirtual 124, 3), (145, .isub, 1), (146, .invokestatic 127, 3), (149, .iastore, 1), (150, .aload_n 0, 1), (151, .getfield 43, 3), (154, .iload 5, 2), (156, .iaload, 1), (157, .ifCond .ne 91, 3), (160, .aload_n 0, 1), (161, .getfield 34, 3), (164, .iload_n 1, 1), (165, .dup2, 1), (166, .iaload, 1), (167, .iconst 1, 1), (168, .iadd, 1), (169, .iastore, 1), (170, .goto 78, 3), (173, .aload_n 0, 1), (174, .getfield 12, 3), (177, .iload 5, 2), (179, .iload 6, 2), (181, .invokevirtual 133, 3), (184, .istore 7, 2), (186, .iload 7, 2), (188, .iconst (-1), 1), (189, .if_icmp .eq 49, 3), (192, .iload 7, 2), (194, .iload_n 3, 1), (195, .if_icmp .ne 12, 3), (198, .aload 4, 2), (200, .iload_n 2, 1), (201, .invokevirtual 136, 3), (204, .ifCond .eq 34, 3), (207, .aload_n 0, 1), (208, .getfield 31, 3), (211, .iload_n 1, 1), (212, .aload 4, 2), (214, .aload_n 0, 1), (215, .iconst 0, 1), (216, .iload_n 1, 1), (217, .iload_n 2, 1), (218, .iload 7, 2), (220, .invokevirtual 120, 3), (223, .invokevirtual 140, 3), (226, .iastore, 1), (227, .aload_n 0, 1), (228, .getfield 28, 3), (231, .iload_n 1, 1), (232, .iload 7, 2), (234, .iastore, 1), (235, .goto 13, 3), (238, .aload_n 0, 1), (239, .getfield 40, 3), (242, .iload_n 1, 1), (243, .dup2, 1), (244, .iaload, 1), (245, .iconst 1, 1), (246, .iadd, 1), (247, .iastore, 1), (248, .return_, 1)]
theorem ok_X0_turn : TB cX0_turn tb_X0_turn := (by decide +kernel : tb_X0_turn.all (fun q => tbq cX0_turn q) = true)
set_option maxHeartbeats 4000000 in
set_option maxRecDepth 20000 in
theorem t_fD_turn_b238 {K : Cx} {n : Nat} {a1 : Int32} {M : Mem} {r : Mem} (C : Ctx K RX0 cX0_turn) (S : SS K n 4 8 none (Tv n r)) (hn : 85 ≤ n) (h : fD_turn_b238 a1 M = some r) : AS K n M 238 [some (.ref 45), some (.int a1), none, none, none, none, none, none] [] := by
  refine aw_aload_n C (tb_at ok_X0_turn 138 rfl) rfl ?_
  refine aw_getR C (ob_45 hn) rfl (by decide) rfl p_45_10 fl_RX0_40 (tb_at ok_X0_turn 139 rfl) ?_
  refine aw_iload_n C (tb_at ok_X0_turn 140 rfl) rfl ?_
  refine aw_dup2 C (tb_at ok_X0_turn 141 rfl) rfl rfl ?_
  refine aw_iald C (ob_55 hn) (tb_at ok_X0_turn 142 rfl) h (fun h => ?_)
  refine aw_iconst C (tb_at ok_X0_turn 143 rfl) ki_1 ?_
  refine aw_iadd C (tb_at ok_X0_turn 144 rfl) ?_
  refine sw_iast C (ob_55 hn) (tb_at ok_X0_turn 145 rfl) h (fun h => ?_)
  exact sw_vret C S (tb_at ok_X0_turn 146 rfl) h
set_option maxHeartbeats 4000000 in
set_option maxRecDepth 20000 in
theorem t_fD_turn_b207 {K : Cx} {n : Nat} {a1 : Int32} {a2 : Int32} {q4 : Nat} {a7 : Int32} {M : Mem} {r : Mem} (C : Ctx K RX0 cX0_turn) (S : SS K n 4 8 none (Tv n r)) (hn : 85 ≤ n) (hq4 : aOK q4) (h : fD_turn_b207 a1 a2 q4 a7 M = some r) : AS K n M 207 [some (.ref 45), some (.int a1), some (.int a2), none, some (.ref q4), none, none, some (.int a7)] [] := by
  refine aw_aload_n C (tb_at ok_X0_turn 120 rfl) rfl ?_
  refine aw_getR C (ob_45 hn) rfl (by decide) rfl p_45_7 fl_RX0_31 (tb_at ok_X0_turn 121 rfl) ?_
  refine aw_iload_n C (tb_at ok_X0_turn 122 rfl) rfl ?_
  refine aw_aload C (tb_at ok_X0_turn 123 rfl) rfl ?_
  refine aw_aload_n C (tb_at ok_X0_turn 124 rfl) rfl ?_
  refine aw_iconst C (tb_at ok_X0_turn 125 rfl) ki_0 ?_
  refine aw_iload_n C (tb_at ok_X0_turn 126 rfl) rfl ?_
  refine aw_iload_n C (tb_at ok_X0_turn 127 rfl) rfl ?_
  refine aw_iload C (tb_at ok_X0_turn 128 rfl) rfl ?_
  refine sw_cVi C S [.int 0, .int a1, .int a2, .int a7] [.ref q4, .int a1, .ref 52] (tb_at ok_X0_turn 129 rfl) h (fun q e => m_fD_tells hn e) mf_X0_tells (ob_45 hn) rfl rfl cw_RX0_120 rfl (by decide) rfl (Nat.le_of_ble_eq_true rfl) (fun r9 M9 h => ?_)
  refine sw_cVi C S [.int r9] [.int a1, .ref 52] (tb_at ok_X0_turn 130 rfl) h (fun q e => m_fA_takes hn hq4 e) mf_X2_takes (aO hn hq4) rfl rfl cw_RX0_140 rfl (by decide) rfl (Nat.le_of_ble_eq_true rfl) (fun r10 M10 h => ?_)
  refine sw_iast C (ob_52 hn) (tb_at ok_X0_turn 131 rfl) h (fun h => ?_)
  refine aw_aload_n C (tb_at ok_X0_turn 132 rfl) rfl ?_
  refine aw_getR C (ob_45 hn) rfl (by decide) rfl p_45_6 fl_RX0_28 (tb_at ok_X0_turn 133 rfl) ?_
  refine aw_iload_n C (tb_at ok_X0_turn 134 rfl) rfl ?_
  refine aw_iload C (tb_at ok_X0_turn 135 rfl) rfl ?_
  refine sw_iast C (ob_51 hn) (tb_at ok_X0_turn 136 rfl) h (fun h => ?_)
  refine aw_goto C 248 (tb_at ok_X0_turn 137 rfl) (by decide) ?_
  exact sw_vret C S (tb_at ok_X0_turn 146 rfl) h
set_option maxHeartbeats 4000000 in
set_option maxRecDepth 20000 in
theorem t_fD_turn {K : Cx} {n : Nat} {a1 : Int32} {a2 : Int32} {a3 : Int32} {M : Mem} {r : Mem} (C : Ctx K RX0 cX0_turn) (S : SS K n 4 8 none (Tv n r)) (hn : 85 ≤ n) (h : fD_turn a1 a2 a3 M = some r) : AS K n M 0 [some (.ref 45), some (.int a1), some (.int a2), some (.int a3), none, none, none, none] [] := by
  refine aw_aload_n C (tb_at ok_X0_turn 0 rfl) rfl ?_
  refine sw_getH C hn fl_RX0_56 (tb_at ok_X0_turn 1 rfl) h (fun hi1 h => ?_)
  refine aw_getR C (hO hn hi1) rfl (by decide) rfl (hP7 hi1) fl_RX0_90 (tb_at ok_X0_turn 2 rfl) ?_
  refine aw_iload_n C (tb_at ok_X0_turn 3 rfl) rfl ?_
  refine sw_aald C 2 (hO4 hn hi1) (by decide) rfl (tb_at ok_X0_turn 4 rfl) (fun z => hPA hi1 z) h (fun hi2 h => ?_)
  refine aw_astore C [some (.ref 45), some (.int a1), some (.int a2), some (.int a3), some (.ref ((ix (M 45 0)) + 5 + 2 * ix a1)), none, none, none] (tb_at ok_X0_turn 5 rfl) S.2.2.2.1 (by decide) rfl ?_
  refine aw_aload_n C (tb_at ok_X0_turn 6 rfl) rfl ?_
  refine aw_getR C (ob_45 hn) rfl (by decide) rfl p_45_5 fl_RX0_25 (tb_at ok_X0_turn 7 rfl) ?_
  refine aw_iload_n C (tb_at ok_X0_turn 8 rfl) rfl ?_
  refine aw_iald C (ob_50 hn) (tb_at ok_X0_turn 9 rfl) h (fun h => ?_)
  refine aw_istore C [some (.ref 45), some (.int a1), some (.int a2), some (.int a3), some (.ref ((ix (M 45 0)) + 5 + 2 * ix a1)), some (.int (M 50 (ix a1))), none, none] (tb_at ok_X0_turn 10 rfl) S.2.2.2.1 (by decide) rfl ?_
  refine aw_aload C (tb_at ok_X0_turn 11 rfl) rfl ?_
  refine aw_aload_n C (tb_at ok_X0_turn 12 rfl) rfl ?_
  refine aw_getR C (ob_45 hn) rfl (by decide) rfl p_45_8 fl_RX0_34 (tb_at ok_X0_turn 13 rfl) ?_
  refine aw_iload_n C (tb_at ok_X0_turn 14 rfl) rfl ?_
  refine aw_iald C (ob_53 hn) (tb_at ok_X0_turn 15 rfl) h (fun h => ?_)
  refine sw_cVi C S [.int (M 53 (ix a1))] [] (tb_at ok_X0_turn 16 rfl) h (fun q e => m_fA_roomListed hn (hA hi1 hi2) e) mf_X2_roomListed (aO hn (hA hi1 hi2)) rfl rfl cw_RX0_117 rfl (by decide) rfl (Nat.le_of_ble_eq_true rfl) (fun r3 M3 h => ?_)
  refine aw_istore C [some (.ref 45), some (.int a1), some (.int a2), some (.int a3), some (.ref ((ix (M 45 0)) + 5 + 2 * ix a1)), some (.int (M 50 (ix a1))), some (.int r3), none] (tb_at ok_X0_turn 17 rfl) S.2.2.2.1 (by decide) rfl ?_
  refine aw_aload_n C (tb_at ok_X0_turn 18 rfl) rfl ?_
  refine aw_getR C (ob_45 hn) rfl (by decide) rfl p_45_7 fl_RX0_31 (tb_at ok_X0_turn 19 rfl) ?_
  refine aw_iload_n C (tb_at ok_X0_turn 20 rfl) rfl ?_
  refine aw_iald C (ob_52 hn) (tb_at ok_X0_turn 21 rfl) h (fun h => ?_)
  refine aw_if_le C 75 (tb_at ok_X0_turn 22 rfl) (by decide) h (fun h => ?_) (fun h => ?_)
  · refine aw_iload C (tb_at ok_X0_turn 45 rfl) rfl ?_
    refine aw_iload_n C (tb_at ok_X0_turn 46 rfl) rfl ?_
    refine aw_icmp_ne C 111 (tb_at ok_X0_turn 47 rfl) (by decide) h (fun h => ?_) (fun h => ?_)
    · refine aw_aload_n C (tb_at ok_X0_turn 48 rfl) rfl ?_
      refine aw_getR C (ob_45 hn) rfl (by decide) rfl p_45_9 fl_RX0_37 (tb_at ok_X0_turn 49 rfl) ?_
      refine aw_iload_n C (tb_at ok_X0_turn 50 rfl) rfl ?_
      refine aw_dup2 C (tb_at ok_X0_turn 51 rfl) rfl rfl ?_
      refine aw_iald C (ob_54 hn) (tb_at ok_X0_turn 52 rfl) h (fun h => ?_)
      refine aw_iconst C (tb_at ok_X0_turn 53 rfl) ki_1 ?_
      refine aw_iadd C (tb_at ok_X0_turn 54 rfl) ?_
      refine sw_iast C (ob_54 hn) (tb_at ok_X0_turn 55 rfl) h (fun h => ?_)
      refine aw_aload_n C (tb_at ok_X0_turn 56 rfl) rfl ?_
      refine aw_dup C (tb_at ok_X0_turn 57 rfl) rfl ?_
      refine aw_get C (ob_45 hn) rfl (by decide) rfl fl_RX0_50 (tb_at ok_X0_turn 58 rfl) ?_
      refine aw_aload_n C (tb_at ok_X0_turn 59 rfl) rfl ?_
      refine aw_iconst C (tb_at ok_X0_turn 60 rfl) ki_2 ?_
      refine aw_iload_n C (tb_at ok_X0_turn 61 rfl) rfl ?_
      refine aw_iload_n C (tb_at ok_X0_turn 62 rfl) rfl ?_
      refine aw_iconst C (tb_at ok_X0_turn 63 rfl) ki_0 ?_
      refine sw_cVi C S [.int 2, .int a1, .int a2, .int 0] [.int ((wr M3 54 (ix a1) ((M3 54 (ix a1)) + 1)) 45 13), .ref 45] (tb_at ok_X0_turn 64 rfl) h (fun q e => m_fD_tells hn e) mf_X0_tells (ob_45 hn) rfl rfl cw_RX0_120 rfl (by decide) rfl (Nat.le_of_ble_eq_true rfl) (fun r4 M4 h => ?_)
      refine aw_iadd C (tb_at ok_X0_turn 65 rfl) ?_
      refine sw_put C (ob_45 hn) rfl (by decide) (by decide) (Or.inr (by decide)) rfl rfl rfl rfl fl_RX0_50 (tb_at ok_X0_turn 66 rfl) ?_
      refine aw_goto C 248 (tb_at ok_X0_turn 67 rfl) (by decide) ?_
      exact sw_vret C S (tb_at ok_X0_turn 146 rfl) h
    · refine aw_iload C (tb_at ok_X0_turn 68 rfl) rfl ?_
      refine aw_iload C (tb_at ok_X0_turn 69 rfl) rfl ?_
      refine aw_icmp_ne C 173 (tb_at ok_X0_turn 70 rfl) (by decide) h (fun h => ?_) (fun h => ?_)
      · refine aw_aload_n C (tb_at ok_X0_turn 71 rfl) rfl ?_
        refine aw_getR C (ob_45 hn) rfl (by decide) rfl p_45_11 fl_RX0_43 (tb_at ok_X0_turn 72 rfl) ?_
        refine aw_iload C (tb_at ok_X0_turn 73 rfl) rfl ?_
        refine aw_iconst C (tb_at ok_X0_turn 74 rfl) ki_0 ?_
        refine aw_aload_n C (tb_at ok_X0_turn 75 rfl) rfl ?_
        refine aw_getR C (ob_45 hn) rfl (by decide) rfl p_45_11 fl_RX0_43 (tb_at ok_X0_turn 76 rfl) ?_
        refine aw_iload C (tb_at ok_X0_turn 77 rfl) rfl ?_
        refine aw_iald C (ob_56 hn) (tb_at ok_X0_turn 78 rfl) h (fun h => ?_)
        refine aw_aload C (tb_at ok_X0_turn 79 rfl) rfl ?_
        refine aw_aload_n C (tb_at ok_X0_turn 80 rfl) rfl ?_
        refine aw_iconst C (tb_at ok_X0_turn 81 rfl) ki_1 ?_
        refine aw_iload_n C (tb_at ok_X0_turn 82 rfl) rfl ?_
        refine aw_iload_n C (tb_at ok_X0_turn 83 rfl) rfl ?_
        refine aw_iconst C (tb_at ok_X0_turn 84 rfl) ki_0 ?_
        refine sw_cVi C S [.int 1, .int a1, .int a2, .int 0] [.ref ((ix (M 45 0)) + 5 + 2 * ix a1), .int (M3 56 (ix (M 50 (ix a1)))), .int 0, .int (M 50 (ix a1)), .ref 56] (tb_at ok_X0_turn 85 rfl) h (fun q e => m_fD_tells hn e) mf_X0_tells (ob_45 hn) rfl rfl cw_RX0_120 rfl (by decide) rfl (Nat.le_of_ble_eq_true rfl) (fun r5 M5 h => ?_)
        refine sw_cVi C S [.int r5] [.int (M3 56 (ix (M 50 (ix a1)))), .int 0, .int (M 50 (ix a1)), .ref 56] (tb_at ok_X0_turn 86 rfl) h (fun q e => m_fA_works hn (hA hi1 hi2) e) mf_X2_works (aO hn (hA hi1 hi2)) rfl rfl cw_RX0_124 rfl (by decide) rfl (Nat.le_of_ble_eq_true rfl) (fun r6 M6 h => ?_)
        refine aw_isub C (tb_at ok_X0_turn 87 rfl) ?_
        refine aw_max C ml_RX0_127 w_max (Nat.le_of_ble_eq_true rfl) S.1.2 (tb_at ok_X0_turn 88 rfl) ?_
        refine sw_iast C (ob_56 hn) (tb_at ok_X0_turn 89 rfl) h (fun h => ?_)
        refine aw_aload_n C (tb_at ok_X0_turn 90 rfl) rfl ?_
        refine aw_getR C (ob_45 hn) rfl (by decide) rfl p_45_11 fl_RX0_43 (tb_at ok_X0_turn 91 rfl) ?_
        refine aw_iload C (tb_at ok_X0_turn 92 rfl) rfl ?_
        refine aw_iald C (ob_56 hn) (tb_at ok_X0_turn 93 rfl) h (fun h => ?_)
        refine aw_if_ne C 248 (tb_at ok_X0_turn 94 rfl) (by decide) h (fun h => ?_) (fun h => ?_)
        · refine aw_aload_n C (tb_at ok_X0_turn 95 rfl) rfl ?_
          refine aw_getR C (ob_45 hn) rfl (by decide) rfl p_45_8 fl_RX0_34 (tb_at ok_X0_turn 96 rfl) ?_
          refine aw_iload_n C (tb_at ok_X0_turn 97 rfl) rfl ?_
          refine aw_dup2 C (tb_at ok_X0_turn 98 rfl) rfl rfl ?_
          refine aw_iald C (ob_53 hn) (tb_at ok_X0_turn 99 rfl) h (fun h => ?_)
          refine aw_iconst C (tb_at ok_X0_turn 100 rfl) ki_1 ?_
          refine aw_iadd C (tb_at ok_X0_turn 101 rfl) ?_
          refine sw_iast C (ob_53 hn) (tb_at ok_X0_turn 102 rfl) h (fun h => ?_)
          refine aw_goto C 248 (tb_at ok_X0_turn 103 rfl) (by decide) ?_
          exact sw_vret C S (tb_at ok_X0_turn 146 rfl) h
        · exact sw_vret C S (tb_at ok_X0_turn 146 rfl) h
      · refine aw_aload_n C (tb_at ok_X0_turn 104 rfl) rfl ?_
        refine aw_getR C (ob_45 hn) rfl (by decide) rfl p_45_2 fl_RX0_12 (tb_at ok_X0_turn 105 rfl) ?_
        refine aw_iload C (tb_at ok_X0_turn 106 rfl) rfl ?_
        refine aw_iload C (tb_at ok_X0_turn 107 rfl) rfl ?_
        refine sw_cVi C S [.int (M 50 (ix a1)), .int r3] [] (tb_at ok_X0_turn 108 rfl) h (fun q e => m_fY_nextLaid hn e) mf_X5_nextLaid (ob_46 hn) rfl rfl cw_RX0_133 rfl (by decide) rfl (Nat.le_of_ble_eq_true rfl) (fun r7 M7 h => ?_)
        refine aw_istore C [some (.ref 45), some (.int a1), some (.int a2), some (.int a3), some (.ref ((ix (M 45 0)) + 5 + 2 * ix a1)), some (.int (M 50 (ix a1))), some (.int r3), some (.int r7)] (tb_at ok_X0_turn 109 rfl) S.2.2.2.1 (by decide) rfl ?_
        refine aw_iload C (tb_at ok_X0_turn 110 rfl) rfl ?_
        refine aw_iconst C (tb_at ok_X0_turn 111 rfl) ki_m1 ?_
        refine aw_icmp_eq C 238 (tb_at ok_X0_turn 112 rfl) (by decide) h (fun h => ?_) (fun h => ?_)
        · exact aw_loc [some (.ref 45), some (.int a1), none, none, none, none, none, none] (sl_k (sl_k (sl_n (sl_n (sl_n (sl_n (sl_n (sl_n sl_0)))))))) (t_fD_turn_b238 C S hn h)
        · refine aw_iload C (tb_at ok_X0_turn 113 rfl) rfl ?_
          refine aw_iload_n C (tb_at ok_X0_turn 114 rfl) rfl ?_
          refine aw_icmp_ne C 207 (tb_at ok_X0_turn 115 rfl) (by decide) h (fun h => ?_) (fun h => ?_)
          · refine aw_aload C (tb_at ok_X0_turn 116 rfl) rfl ?_
            refine aw_iload_n C (tb_at ok_X0_turn 117 rfl) rfl ?_
            refine sw_cVi C S [.int a2] [] (tb_at ok_X0_turn 118 rfl) h (fun q e => m_fA_dares hn (hA hi1 hi2) e) mf_X2_dares (aO hn (hA hi1 hi2)) rfl rfl cw_RX0_136 rfl (by decide) rfl (Nat.le_of_ble_eq_true rfl) (fun r8 M8 h => ?_)
            refine aw_if_eq C 238 (tb_at ok_X0_turn 119 rfl) (by decide) h (fun h => ?_) (fun h => ?_)
            · exact aw_loc [some (.ref 45), some (.int a1), none, none, none, none, none, none] (sl_k (sl_k (sl_n (sl_n (sl_n (sl_n (sl_n (sl_n sl_0)))))))) (t_fD_turn_b238 C S hn h)
            · exact aw_loc [some (.ref 45), some (.int a1), some (.int a2), none, some (.ref ((ix (M 45 0)) + 5 + 2 * ix a1)), none, none, some (.int r7)] (sl_k (sl_k (sl_k (sl_n (sl_k (sl_n (sl_n (sl_k sl_0)))))))) (t_fD_turn_b207 C S hn (hA hi1 hi2) h)
          · exact aw_loc [some (.ref 45), some (.int a1), some (.int a2), none, some (.ref ((ix (M 45 0)) + 5 + 2 * ix a1)), none, none, some (.int r7)] (sl_k (sl_k (sl_k (sl_n (sl_k (sl_n (sl_n (sl_k sl_0)))))))) (t_fD_turn_b207 C S hn (hA hi1 hi2) h)
  · refine aw_aload_n C (tb_at ok_X0_turn 23 rfl) rfl ?_
    refine aw_getR C (ob_45 hn) rfl (by decide) rfl p_45_7 fl_RX0_31 (tb_at ok_X0_turn 24 rfl) ?_
    refine aw_iload_n C (tb_at ok_X0_turn 25 rfl) rfl ?_
    refine aw_dup2 C (tb_at ok_X0_turn 26 rfl) rfl rfl ?_
    refine aw_iald C (ob_52 hn) (tb_at ok_X0_turn 27 rfl) h (fun h => ?_)
    refine aw_iconst C (tb_at ok_X0_turn 28 rfl) ki_1 ?_
    refine aw_isub C (tb_at ok_X0_turn 29 rfl) ?_
    refine sw_iast C (ob_52 hn) (tb_at ok_X0_turn 30 rfl) h (fun h => ?_)
    refine aw_aload_n C (tb_at ok_X0_turn 31 rfl) rfl ?_
    refine aw_getR C (ob_45 hn) rfl (by decide) rfl p_45_7 fl_RX0_31 (tb_at ok_X0_turn 32 rfl) ?_
    refine aw_iload_n C (tb_at ok_X0_turn 33 rfl) rfl ?_
    refine aw_iald C (ob_52 hn) (tb_at ok_X0_turn 34 rfl) h (fun h => ?_)
    refine aw_if_ne C 248 (tb_at ok_X0_turn 35 rfl) (by decide) h (fun h => ?_) (fun h => ?_)
    · refine aw_aload_n C (tb_at ok_X0_turn 36 rfl) rfl ?_
      refine aw_getR C (ob_45 hn) rfl (by decide) rfl p_45_5 fl_RX0_25 (tb_at ok_X0_turn 37 rfl) ?_
      refine aw_iload_n C (tb_at ok_X0_turn 38 rfl) rfl ?_
      refine aw_aload_n C (tb_at ok_X0_turn 39 rfl) rfl ?_
      refine aw_getR C (ob_45 hn) rfl (by decide) rfl p_45_6 fl_RX0_28 (tb_at ok_X0_turn 40 rfl) ?_
      refine aw_iload_n C (tb_at ok_X0_turn 41 rfl) rfl ?_
      refine aw_iald C (ob_51 hn) (tb_at ok_X0_turn 42 rfl) h (fun h => ?_)
      refine sw_iast C (ob_50 hn) (tb_at ok_X0_turn 43 rfl) h (fun h => ?_)
      refine aw_goto C 248 (tb_at ok_X0_turn 44 rfl) (by decide) ?_
      exact sw_vret C S (tb_at ok_X0_turn 146 rfl) h
    · exact sw_vret C S (tb_at ok_X0_turn 146 rfl) h
theorem m_fD_turn {l : Launch} {w : Wd} {n : Nat} {a1 : Int32} {a2 : Int32} {a3 : Int32} {M : Mem} {r : Mem} (hn : 85 ≤ n) (h : fD_turn a1 a2 a3 M = some r) : CM l w yX0_turn cX0_turn 8 none 4 0 0 [.ref 45, .int a1, .int a2, .int a3] n M (PD M) (Tv n r) := sm_of (loc := [some (.ref 45), some (.int a1), some (.int a2), some (.int a3), none, none, none, none]) mf_X0_turn (by decide) (Nat.le_of_ble_eq_true rfl) rfl (fun K _ _ C S => t_fD_turn C S hn h)
def tb_X1_masterIn : List (Nat × Instr × Nat) := [(0, .iconst 0, 1), (1, .istore_n 2, 1), (2, .iconst 0, 1), (3, .istore_n 3, 1), (4, .iload_n 3, 1), (5, .aload_n 0, 1), (6, .getfield 15, 3), (9, .if_icmp .ge 18, 3), (12, .iload_n 2, 1), (13, .aload_n 0, 1), (14, .getfield 28, 3), (17, .iload_n 3, 1), (18, .iaload, 1), (19, .iadd, 1), (20, .istore_n 2, 1), (21, .iinc 3 1, 3), (24, .goto (-20), 3), (27, .iload_n 2, 1), (28, .ifCond .gt 5, 3), (31, .iconst (-1), 1), (32, .ireturn, 1), (33, .iload_n 1, 1), (34, .iload_n 2, 1), (35, .irem, 1), (36, .istore_n 3, 1), (37, .iconst 0, 1), (38, .istore 4, 2), (40, .iload 4, 2), (42, .aload_n 0, 1), (43, .getfield 15, 3), (46, .if_icmp .ge 38, 3), (49, .iload_n 3, 1), (50, .aload_n 0, 1), (51, .getfield 28, 3), (54, .iload 4, 2), (56, .iaload, 1), (57, .if_icmp .ge 11, 3), (60, .aload_n 0, 1), (61, .getfield 24, 3), (64, .iload 4, 2), (66, .iaload, 1), (67, .ireturn, 1), (68, .iload_n 3, 1), (69, .aload_n 0, 1), (70, .getfield 28, 3), (73, .iload 4, 2), (75, .iaload, 1), (76, .isub, 1), (77, .istore_n 3, 1), (78, .iinc 4 1, 3), (81, .goto (-41), 3), (84, .iconst (-1), 1), (85, .ireturn, 1)]
theorem ok_X1_masterIn : TB cX1_masterIn tb_X1_masterIn := (by decide +kernel : tb_X1_masterIn.all (fun q => tbq cX1_masterIn q) = true)
set_option maxHeartbeats 4000000 in
set_option maxRecDepth 20000 in
theorem t_fH_masterIn_b40 {K : Cx} {n : Nat} {q0 : Nat} {r : Int32 × Mem} (C : Ctx K RX1 cX1_masterIn) (S : SS K n 1 5 (some .int) (Ti n r)) (hn : 85 ≤ n) (hq0 : hOK q0) : ∀ (z : Nat) (a3 : Int32) (a4 : Int32) (M : Mem), fH_masterIn_b40 q0 z a3 a4 M = some r → AS K n M 40 [some (.ref q0), none, none, some (.int a3), some (.int a4)] [] := by
  intro z
  induction z with
  | zero => intro a3 a4 M h; cases h
  | succ z ih =>
    intro a3 a4 M h
    refine aw_iload C (tb_at ok_X1_masterIn 27 rfl) rfl ?_
    refine aw_aload_n C (tb_at ok_X1_masterIn 28 rfl) rfl ?_
    refine aw_get C (hO hn hq0) rfl (by decide) rfl fl_RX1_15 (tb_at ok_X1_masterIn 29 rfl) ?_
    refine aw_icmp_ge C 84 (tb_at ok_X1_masterIn 30 rfl) (by decide) h (fun h => ?_) (fun h => ?_)
    · refine aw_iconst C (tb_at ok_X1_masterIn 51 rfl) ki_m1 ?_
      exact sw_iret C S rfl (tb_at ok_X1_masterIn 52 rfl) h
    · refine aw_iload_n C (tb_at ok_X1_masterIn 31 rfl) rfl ?_
      refine aw_aload_n C (tb_at ok_X1_masterIn 32 rfl) rfl ?_
      refine aw_getR C (hO hn hq0) rfl (by decide) rfl (hP5 hq0) fl_RX1_28 (tb_at ok_X1_masterIn 33 rfl) ?_
      refine aw_iload C (tb_at ok_X1_masterIn 34 rfl) rfl ?_
      refine aw_iald C (hO2 hn hq0) (tb_at ok_X1_masterIn 35 rfl) h (fun h => ?_)
      refine aw_icmp_ge C 68 (tb_at ok_X1_masterIn 36 rfl) (by decide) h (fun h => ?_) (fun h => ?_)
      · refine aw_iload_n C (tb_at ok_X1_masterIn 42 rfl) rfl ?_
        refine aw_aload_n C (tb_at ok_X1_masterIn 43 rfl) rfl ?_
        refine aw_getR C (hO hn hq0) rfl (by decide) rfl (hP5 hq0) fl_RX1_28 (tb_at ok_X1_masterIn 44 rfl) ?_
        refine aw_iload C (tb_at ok_X1_masterIn 45 rfl) rfl ?_
        refine aw_iald C (hO2 hn hq0) (tb_at ok_X1_masterIn 46 rfl) h (fun h => ?_)
        refine aw_isub C (tb_at ok_X1_masterIn 47 rfl) ?_
        refine aw_istore_n C [some (.ref q0), none, none, some (.int (a3 - (M (q0 + 2) (ix a4)))), some (.int a4)] (tb_at ok_X1_masterIn 48 rfl) S.2.2.2.1 (by decide) rfl ?_
        refine aw_iinc C [some (.ref q0), none, none, some (.int (a3 - (M (q0 + 2) (ix a4)))), some (.int (a4 + 1))] (tb_at ok_X1_masterIn 49 rfl) rfl S.2.2.2.1 (by decide) ki_1 rfl ?_
        refine aw_goto C 40 (tb_at ok_X1_masterIn 50 rfl) (by decide) ?_
        exact aw_loc [some (.ref q0), none, none, some (.int (a3 - (M (q0 + 2) (ix a4)))), some (.int (a4 + 1))] (sl_k (sl_n (sl_n (sl_k (sl_k sl_0))))) (ih _ _ _ h)
      · refine aw_aload_n C (tb_at ok_X1_masterIn 37 rfl) rfl ?_
        refine aw_getR C (hO hn hq0) rfl (by decide) rfl (hP4 hq0) fl_RX1_24 (tb_at ok_X1_masterIn 38 rfl) ?_
        refine aw_iload C (tb_at ok_X1_masterIn 39 rfl) rfl ?_
        refine aw_iald C (hO1 hn hq0) (tb_at ok_X1_masterIn 40 rfl) h (fun h => ?_)
        exact sw_iret C S rfl (tb_at ok_X1_masterIn 41 rfl) h
set_option maxHeartbeats 4000000 in
set_option maxRecDepth 20000 in
theorem t_fH_masterIn_b4 {K : Cx} {n : Nat} {q0 : Nat} {a1 : Int32} {r : Int32 × Mem} (C : Ctx K RX1 cX1_masterIn) (S : SS K n 1 5 (some .int) (Ti n r)) (hn : 85 ≤ n) (hq0 : hOK q0) : ∀ (z : Nat) (a2 : Int32) (a3 : Int32) (M : Mem), fH_masterIn_b4 q0 a1 z a2 a3 M = some r → AS K n M 4 [some (.ref q0), some (.int a1), some (.int a2), some (.int a3), none] [] := by
  intro z
  induction z with
  | zero => intro a2 a3 M h; cases h
  | succ z ih =>
    intro a2 a3 M h
    refine aw_iload_n C (tb_at ok_X1_masterIn 4 rfl) rfl ?_
    refine aw_aload_n C (tb_at ok_X1_masterIn 5 rfl) rfl ?_
    refine aw_get C (hO hn hq0) rfl (by decide) rfl fl_RX1_15 (tb_at ok_X1_masterIn 6 rfl) ?_
    refine aw_icmp_ge C 27 (tb_at ok_X1_masterIn 7 rfl) (by decide) h (fun h => ?_) (fun h => ?_)
    · refine aw_iload_n C (tb_at ok_X1_masterIn 17 rfl) rfl ?_
      refine aw_if_gt C 33 (tb_at ok_X1_masterIn 18 rfl) (by decide) h (fun h => ?_) (fun h => ?_)
      · refine aw_iload_n C (tb_at ok_X1_masterIn 21 rfl) rfl ?_
        refine aw_iload_n C (tb_at ok_X1_masterIn 22 rfl) rfl ?_
        refine sw_irem C (tb_at ok_X1_masterIn 23 rfl) h (fun h => ?_)
        refine aw_istore_n C [some (.ref q0), some (.int a1), some (.int a2), some (.int (a1 - a1 / a2 * a2)), none] (tb_at ok_X1_masterIn 24 rfl) S.2.2.2.1 (by decide) rfl ?_
        refine aw_iconst C (tb_at ok_X1_masterIn 25 rfl) ki_0 ?_
        refine aw_istore C [some (.ref q0), some (.int a1), some (.int a2), some (.int (a1 - a1 / a2 * a2)), some (.int 0)] (tb_at ok_X1_masterIn 26 rfl) S.2.2.2.1 (by decide) rfl ?_
        exact aw_loc [some (.ref q0), none, none, some (.int (a1 - a1 / a2 * a2)), some (.int 0)] (sl_k (sl_n (sl_n (sl_k (sl_k sl_0))))) (t_fH_masterIn_b40 C S hn hq0 1000 _ _ _ h)
      · refine aw_iconst C (tb_at ok_X1_masterIn 19 rfl) ki_m1 ?_
        exact sw_iret C S rfl (tb_at ok_X1_masterIn 20 rfl) h
    · refine aw_iload_n C (tb_at ok_X1_masterIn 8 rfl) rfl ?_
      refine aw_aload_n C (tb_at ok_X1_masterIn 9 rfl) rfl ?_
      refine aw_getR C (hO hn hq0) rfl (by decide) rfl (hP5 hq0) fl_RX1_28 (tb_at ok_X1_masterIn 10 rfl) ?_
      refine aw_iload_n C (tb_at ok_X1_masterIn 11 rfl) rfl ?_
      refine aw_iald C (hO2 hn hq0) (tb_at ok_X1_masterIn 12 rfl) h (fun h => ?_)
      refine aw_iadd C (tb_at ok_X1_masterIn 13 rfl) ?_
      refine aw_istore_n C [some (.ref q0), some (.int a1), some (.int (a2 + (M (q0 + 2) (ix a3)))), some (.int a3), none] (tb_at ok_X1_masterIn 14 rfl) S.2.2.2.1 (by decide) rfl ?_
      refine aw_iinc C [some (.ref q0), some (.int a1), some (.int (a2 + (M (q0 + 2) (ix a3)))), some (.int (a3 + 1)), none] (tb_at ok_X1_masterIn 15 rfl) rfl S.2.2.2.1 (by decide) ki_1 rfl ?_
      refine aw_goto C 4 (tb_at ok_X1_masterIn 16 rfl) (by decide) ?_
      exact aw_loc [some (.ref q0), some (.int a1), some (.int (a2 + (M (q0 + 2) (ix a3)))), some (.int (a3 + 1)), none] (sl_k (sl_k (sl_k (sl_k (sl_n sl_0))))) (ih _ _ _ h)
set_option maxHeartbeats 4000000 in
set_option maxRecDepth 20000 in
theorem t_fH_masterIn {K : Cx} {n : Nat} {q0 : Nat} {a1 : Int32} {M : Mem} {r : Int32 × Mem} (C : Ctx K RX1 cX1_masterIn) (S : SS K n 1 5 (some .int) (Ti n r)) (hn : 85 ≤ n) (hq0 : hOK q0) (h : fH_masterIn q0 a1 M = some r) : AS K n M 0 [some (.ref q0), some (.int a1), none, none, none] [] := by
  refine aw_iconst C (tb_at ok_X1_masterIn 0 rfl) ki_0 ?_
  refine aw_istore_n C [some (.ref q0), some (.int a1), some (.int 0), none, none] (tb_at ok_X1_masterIn 1 rfl) S.2.2.2.1 (by decide) rfl ?_
  refine aw_iconst C (tb_at ok_X1_masterIn 2 rfl) ki_0 ?_
  refine aw_istore_n C [some (.ref q0), some (.int a1), some (.int 0), some (.int 0), none] (tb_at ok_X1_masterIn 3 rfl) S.2.2.2.1 (by decide) rfl ?_
  exact aw_loc [some (.ref q0), some (.int a1), some (.int 0), some (.int 0), none] (sl_k (sl_k (sl_k (sl_k (sl_n sl_0))))) (t_fH_masterIn_b4 C S hn hq0 1000 _ _ _ h)
theorem m_fH_masterIn {l : Launch} {w : Wd} {n : Nat} {q0 : Nat} {a1 : Int32} {M : Mem} {r : Int32 × Mem} (hn : 85 ≤ n) (hq0 : hOK q0) (h : fH_masterIn q0 a1 M = some r) : CM l w yX1_masterIn cX1_masterIn 5 (some .int) 1 0 0 [.ref q0, .int a1] n M (PD M) (Ti n r) := sm_of (loc := [some (.ref q0), some (.int a1), none, none, none]) mf_X1_masterIn (by decide) (Nat.le_of_ble_eq_true rfl) rfl (fun K _ _ C S => t_fH_masterIn C S hn hq0 h)
def tb_X0_pass : List (Nat × Instr × Nat) := [(0, .aload_n 0, 1), (1, .getfield 56, 3), (4, .iload_n 1, 1), (5, .invokevirtual 105, 3), (8, .istore_n 2, 1), (9, .iconst 0, 1), (10, .istore_n 3, 1), (11, .iload_n 3, 1), (12, .aload_n 0, 1), (13, .getfield 56, 3), (16, .getfield 87, 3), (19, .if_icmp .ge 16, 3), (22, .aload_n 0, 1), (23, .iload_n 3, 1), (24, .iload_n 1, 1), (25, .iload_n 2, 1), (26, .invokevirtual 109, 3), (29, .iinc 3 1, 3), (32, .goto (-21), 3), (35, .aload_n 0, 1), (36, .getfield 53, 3), (39, .iconst (-1), 1), (40, .if_icmp .ne 15, 3), (43, .aload_n 0, 1), (44, .invokevirtual 113, 3), (47, .ifCond .eq 8, 3), (50, .aload_n 0, 1), (51, .iload_n 1, 1), (52, .putfield 53, 3), (55, .return_, 1)]
theorem ok_X0_pass : TB cX0_pass tb_X0_pass := (by decide +kernel : tb_X0_pass.all (fun q => tbq cX0_pass q) = true)
set_option maxHeartbeats 4000000 in
set_option maxRecDepth 20000 in
theorem t_fD_pass_b11 {K : Cx} {n : Nat} {a1 : Int32} {a2 : Int32} {r : Mem} (C : Ctx K RX0 cX0_pass) (S : SS K n 5 4 none (Tv n r)) (hn : 85 ≤ n) : ∀ (z : Nat) (a3 : Int32) (M : Mem), fD_pass_b11 a1 a2 z a3 M = some r → AS K n M 11 [some (.ref 45), some (.int a1), some (.int a2), some (.int a3)] [] := by
  intro z
  induction z with
  | zero => intro a3 M h; cases h
  | succ z ih =>
    intro a3 M h
    refine aw_iload_n C (tb_at ok_X0_pass 7 rfl) rfl ?_
    refine aw_aload_n C (tb_at ok_X0_pass 8 rfl) rfl ?_
    refine sw_getH C hn fl_RX0_56 (tb_at ok_X0_pass 9 rfl) h (fun hi3 h => ?_)
    refine aw_get C (hO hn hi3) rfl (by decide) rfl fl_RX0_87 (tb_at ok_X0_pass 10 rfl) ?_
    refine aw_icmp_ge C 35 (tb_at ok_X0_pass 11 rfl) (by decide) h (fun h => ?_) (fun h => ?_)
    · refine aw_aload_n C (tb_at ok_X0_pass 19 rfl) rfl ?_
      refine aw_get C (ob_45 hn) rfl (by decide) rfl fl_RX0_53 (tb_at ok_X0_pass 20 rfl) ?_
      refine aw_iconst C (tb_at ok_X0_pass 21 rfl) ki_m1 ?_
      refine aw_icmp_ne C 55 (tb_at ok_X0_pass 22 rfl) (by decide) h (fun h => ?_) (fun h => ?_)
      · refine aw_aload_n C (tb_at ok_X0_pass 23 rfl) rfl ?_
        refine sw_cVi C S [] [] (tb_at ok_X0_pass 24 rfl) h (fun q e => m_fD_isAllDone hn e) mf_X0_isAllDone (ob_45 hn) rfl rfl cw_RX0_113 rfl (by decide) rfl (Nat.le_of_ble_eq_true rfl) (fun r4 M4 h => ?_)
        refine aw_if_eq C 55 (tb_at ok_X0_pass 25 rfl) (by decide) h (fun h => ?_) (fun h => ?_)
        · exact sw_vret C S (tb_at ok_X0_pass 29 rfl) h
        · refine aw_aload_n C (tb_at ok_X0_pass 26 rfl) rfl ?_
          refine aw_iload_n C (tb_at ok_X0_pass 27 rfl) rfl ?_
          refine sw_put C (ob_45 hn) rfl (by decide) (by decide) (Or.inr (by decide)) rfl rfl rfl rfl fl_RX0_53 (tb_at ok_X0_pass 28 rfl) ?_
          exact sw_vret C S (tb_at ok_X0_pass 29 rfl) h
      · exact sw_vret C S (tb_at ok_X0_pass 29 rfl) h
    · refine aw_aload_n C (tb_at ok_X0_pass 12 rfl) rfl ?_
      refine aw_iload_n C (tb_at ok_X0_pass 13 rfl) rfl ?_
      refine aw_iload_n C (tb_at ok_X0_pass 14 rfl) rfl ?_
      refine aw_iload_n C (tb_at ok_X0_pass 15 rfl) rfl ?_
      refine sw_cVv C S [.int a3, .int a1, .int a2] [] (tb_at ok_X0_pass 16 rfl) h (fun q e => m_fD_turn hn e) mf_X0_turn (ob_45 hn) rfl rfl cw_RX0_109 rfl (by decide) rfl (Nat.le_of_ble_eq_true rfl) (fun M5 h => ?_)
      refine aw_iinc C [some (.ref 45), some (.int a1), some (.int a2), some (.int (a3 + 1))] (tb_at ok_X0_pass 17 rfl) rfl S.2.2.2.1 (by decide) ki_1 rfl ?_
      refine aw_goto C 11 (tb_at ok_X0_pass 18 rfl) (by decide) ?_
      exact aw_loc [some (.ref 45), some (.int a1), some (.int a2), some (.int (a3 + 1))] (sl_k (sl_k (sl_k (sl_k sl_0)))) (ih _ _ h)
set_option maxHeartbeats 4000000 in
set_option maxRecDepth 20000 in
theorem t_fD_pass {K : Cx} {n : Nat} {a1 : Int32} {M : Mem} {r : Mem} (C : Ctx K RX0 cX0_pass) (S : SS K n 5 4 none (Tv n r)) (hn : 85 ≤ n) (h : fD_pass a1 M = some r) : AS K n M 0 [some (.ref 45), some (.int a1), none, none] [] := by
  refine aw_aload_n C (tb_at ok_X0_pass 0 rfl) rfl ?_
  refine sw_getH C hn fl_RX0_56 (tb_at ok_X0_pass 1 rfl) h (fun hi1 h => ?_)
  refine aw_iload_n C (tb_at ok_X0_pass 2 rfl) rfl ?_
  refine sw_cVi C S [.int a1] [] (tb_at ok_X0_pass 3 rfl) h (fun q e => m_fH_masterIn hn hi1 e) mf_X1_masterIn (hO hn hi1) rfl rfl cw_RX0_105 rfl (by decide) rfl (Nat.le_of_ble_eq_true rfl) (fun r2 M2 h => ?_)
  refine aw_istore_n C [some (.ref 45), some (.int a1), some (.int r2), none] (tb_at ok_X0_pass 4 rfl) S.2.2.2.1 (by decide) rfl ?_
  refine aw_iconst C (tb_at ok_X0_pass 5 rfl) ki_0 ?_
  refine aw_istore_n C [some (.ref 45), some (.int a1), some (.int r2), some (.int 0)] (tb_at ok_X0_pass 6 rfl) S.2.2.2.1 (by decide) rfl ?_
  exact aw_loc [some (.ref 45), some (.int a1), some (.int r2), some (.int 0)] (sl_k (sl_k (sl_k (sl_k sl_0)))) (t_fD_pass_b11 C S hn 1000 _ _ h)
theorem m_fD_pass {l : Launch} {w : Wd} {n : Nat} {a1 : Int32} {M : Mem} {r : Mem} (hn : 85 ≤ n) (h : fD_pass a1 M = some r) : CM l w yX0_pass cX0_pass 4 none 5 0 0 [.ref 45, .int a1] n M (PD M) (Tv n r) := sm_of (loc := [some (.ref 45), some (.int a1), none, none]) mf_X0_pass (by decide) (Nat.le_of_ble_eq_true rfl) rfl (fun K _ _ C S => t_fD_pass C S hn h)
def tb_X5_far : List (Nat × Instr × Nat) := [(0, .iload_n 1, 1), (1, .iconst 4, 1), (2, .irem, 1), (3, .iload_n 2, 1), (4, .iconst 4, 1), (5, .irem, 1), (6, .iadd, 1), (7, .istore_n 3, 1), (8, .iload_n 1, 1), (9, .iconst 4, 1), (10, .idiv, 1), (11, .iload_n 2, 1), (12, .iconst 4, 1), (13, .idiv, 1), (14, .if_icmp .ne 14, 3), (17, .iload_n 1, 1), (18, .iconst 4, 1), (19, .irem, 1), (20, .iload_n 2, 1), (21, .iconst 4, 1), (22, .irem, 1), (23, .isub, 1), (24, .invokestatic 19, 3), (27, .ireturn, 1), (28, .bipush 8, 2), (30, .istore 4, 2), (32, .iload_n 0, 1), (33, .iconst 1, 1), (34, .iand, 1), (35, .ifCond .eq 13, 3), (38, .iload 4, 2), (40, .iload_n 3, 1), (41, .iconst 1, 1), (42, .iadd, 1), (43, .invokestatic 25, 3), (46, .istore 4, 2), (48, .iload_n 0, 1), (49, .iconst 2, 1), (50, .iand, 1), (51, .ifCond .eq 16, 3), (54, .iload 4, 2), (56, .bipush 6, 2), (58, .iload_n 3, 1), (59, .isub, 1), (60, .iconst 1, 1), (61, .iadd, 1), (62, .invokestatic 25, 3), (65, .istore 4, 2), (67, .iload 4, 2), (69, .ireturn, 1)]
theorem ok_X5_far : TB cX5_far tb_X5_far := (by decide +kernel : tb_X5_far.all (fun q => tbq cX5_far q) = true)
set_option maxHeartbeats 4000000 in
set_option maxRecDepth 20000 in
theorem t_fY_far_b67 {K : Cx} {n : Nat} {a4 : Int32} {M : Mem} {r : Int32 × Mem} (C : Ctx K RX5 cX5_far) (S : SS K n 1 5 (some .int) (Ti n r)) (hn : 85 ≤ n) (h : fY_far_b67 a4 M = some r) : AS K n M 67 [none, none, none, none, some (.int a4)] [] := by
  refine aw_iload C (tb_at ok_X5_far 48 rfl) rfl ?_
  exact sw_iret C S rfl (tb_at ok_X5_far 49 rfl) h
set_option maxHeartbeats 4000000 in
set_option maxRecDepth 20000 in
theorem t_fY_far_b48 {K : Cx} {n : Nat} {a0 : Int32} {a3 : Int32} {a4 : Int32} {M : Mem} {r : Int32 × Mem} (C : Ctx K RX5 cX5_far) (S : SS K n 1 5 (some .int) (Ti n r)) (hn : 85 ≤ n) (h : fY_far_b48 a0 a3 a4 M = some r) : AS K n M 48 [some (.int a0), none, none, some (.int a3), some (.int a4)] [] := by
  refine aw_iload_n C (tb_at ok_X5_far 36 rfl) rfl ?_
  refine aw_iconst C (tb_at ok_X5_far 37 rfl) ki_2 ?_
  refine aw_iand C (tb_at ok_X5_far 38 rfl) ?_
  refine aw_if_eq C 67 (tb_at ok_X5_far 39 rfl) (by decide) h (fun h => ?_) (fun h => ?_)
  · exact aw_loc [none, none, none, none, some (.int a4)] (sl_n (sl_n (sl_n (sl_n (sl_k sl_0))))) (t_fY_far_b67 C S hn h)
  · refine aw_iload C (tb_at ok_X5_far 40 rfl) rfl ?_
    refine aw_bipush C (tb_at ok_X5_far 41 rfl) kb_6 ?_
    refine aw_iload_n C (tb_at ok_X5_far 42 rfl) rfl ?_
    refine aw_isub C (tb_at ok_X5_far 43 rfl) ?_
    refine aw_iconst C (tb_at ok_X5_far 44 rfl) ki_1 ?_
    refine aw_iadd C (tb_at ok_X5_far 45 rfl) ?_
    refine aw_min C ml_RX5_25 w_min (Nat.le_of_ble_eq_true rfl) S.1.2 (tb_at ok_X5_far 46 rfl) ?_
    refine aw_istore C [some (.int a0), none, none, some (.int a3), some (.int (if ((6 - a3) + 1) < a4 then ((6 - a3) + 1) else a4))] (tb_at ok_X5_far 47 rfl) S.2.2.2.1 (by decide) rfl ?_
    exact aw_loc [none, none, none, none, some (.int (if ((6 - a3) + 1) < a4 then ((6 - a3) + 1) else a4))] (sl_n (sl_n (sl_n (sl_n (sl_k sl_0))))) (t_fY_far_b67 C S hn h)
set_option maxHeartbeats 4000000 in
set_option maxRecDepth 20000 in
theorem t_fY_far {K : Cx} {n : Nat} {a0 : Int32} {a1 : Int32} {a2 : Int32} {M : Mem} {r : Int32 × Mem} (C : Ctx K RX5 cX5_far) (S : SS K n 1 5 (some .int) (Ti n r)) (hn : 85 ≤ n) (h : fY_far a0 a1 a2 M = some r) : AS K n M 0 [some (.int a0), some (.int a1), some (.int a2), none, none] [] := by
  refine aw_iload_n C (tb_at ok_X5_far 0 rfl) rfl ?_
  refine aw_iconst C (tb_at ok_X5_far 1 rfl) ki_4 ?_
  refine aw_irem C (by decide) (tb_at ok_X5_far 2 rfl) ?_
  refine aw_iload_n C (tb_at ok_X5_far 3 rfl) rfl ?_
  refine aw_iconst C (tb_at ok_X5_far 4 rfl) ki_4 ?_
  refine aw_irem C (by decide) (tb_at ok_X5_far 5 rfl) ?_
  refine aw_iadd C (tb_at ok_X5_far 6 rfl) ?_
  refine aw_istore_n C [some (.int a0), some (.int a1), some (.int a2), some (.int ((a1 - a1 / 4 * 4) + (a2 - a2 / 4 * 4))), none] (tb_at ok_X5_far 7 rfl) S.2.2.2.1 (by decide) rfl ?_
  refine aw_iload_n C (tb_at ok_X5_far 8 rfl) rfl ?_
  refine aw_iconst C (tb_at ok_X5_far 9 rfl) ki_4 ?_
  refine aw_idiv C (by decide) (tb_at ok_X5_far 10 rfl) ?_
  refine aw_iload_n C (tb_at ok_X5_far 11 rfl) rfl ?_
  refine aw_iconst C (tb_at ok_X5_far 12 rfl) ki_4 ?_
  refine aw_idiv C (by decide) (tb_at ok_X5_far 13 rfl) ?_
  refine aw_icmp_ne C 28 (tb_at ok_X5_far 14 rfl) (by decide) h (fun h => ?_) (fun h => ?_)
  · refine aw_iload_n C (tb_at ok_X5_far 15 rfl) rfl ?_
    refine aw_iconst C (tb_at ok_X5_far 16 rfl) ki_4 ?_
    refine aw_irem C (by decide) (tb_at ok_X5_far 17 rfl) ?_
    refine aw_iload_n C (tb_at ok_X5_far 18 rfl) rfl ?_
    refine aw_iconst C (tb_at ok_X5_far 19 rfl) ki_4 ?_
    refine aw_irem C (by decide) (tb_at ok_X5_far 20 rfl) ?_
    refine aw_isub C (tb_at ok_X5_far 21 rfl) ?_
    refine aw_abs C ml_RX5_19 w_abs (Nat.le_of_ble_eq_true rfl) S.1.2 (tb_at ok_X5_far 22 rfl) ?_
    exact sw_iret C S rfl (tb_at ok_X5_far 23 rfl) h
  · refine aw_bipush C (tb_at ok_X5_far 24 rfl) kb_8 ?_
    refine aw_istore C [some (.int a0), some (.int a1), some (.int a2), some (.int ((a1 - a1 / 4 * 4) + (a2 - a2 / 4 * 4))), some (.int 8)] (tb_at ok_X5_far 25 rfl) S.2.2.2.1 (by decide) rfl ?_
    refine aw_iload_n C (tb_at ok_X5_far 26 rfl) rfl ?_
    refine aw_iconst C (tb_at ok_X5_far 27 rfl) ki_1 ?_
    refine aw_iand C (tb_at ok_X5_far 28 rfl) ?_
    refine aw_if_eq C 48 (tb_at ok_X5_far 29 rfl) (by decide) h (fun h => ?_) (fun h => ?_)
    · exact aw_loc [some (.int a0), none, none, some (.int ((a1 - a1 / 4 * 4) + (a2 - a2 / 4 * 4))), some (.int 8)] (sl_k (sl_n (sl_n (sl_k (sl_k sl_0))))) (t_fY_far_b48 C S hn h)
    · refine aw_iload C (tb_at ok_X5_far 30 rfl) rfl ?_
      refine aw_iload_n C (tb_at ok_X5_far 31 rfl) rfl ?_
      refine aw_iconst C (tb_at ok_X5_far 32 rfl) ki_1 ?_
      refine aw_iadd C (tb_at ok_X5_far 33 rfl) ?_
      refine aw_min C ml_RX5_25 w_min (Nat.le_of_ble_eq_true rfl) S.1.2 (tb_at ok_X5_far 34 rfl) ?_
      refine aw_istore C [some (.int a0), some (.int a1), some (.int a2), some (.int ((a1 - a1 / 4 * 4) + (a2 - a2 / 4 * 4))), some (.int (if (((a1 - a1 / 4 * 4) + (a2 - a2 / 4 * 4)) + 1) < 8 then (((a1 - a1 / 4 * 4) + (a2 - a2 / 4 * 4)) + 1) else 8))] (tb_at ok_X5_far 35 rfl) S.2.2.2.1 (by decide) rfl ?_
      exact aw_loc [some (.int a0), none, none, some (.int ((a1 - a1 / 4 * 4) + (a2 - a2 / 4 * 4))), some (.int (if (((a1 - a1 / 4 * 4) + (a2 - a2 / 4 * 4)) + 1) < 8 then (((a1 - a1 / 4 * 4) + (a2 - a2 / 4 * 4)) + 1) else 8))] (sl_k (sl_n (sl_n (sl_k (sl_k sl_0))))) (t_fY_far_b48 C S hn h)
theorem m_fY_far {l : Launch} {w : Wd} {n : Nat} {a0 : Int32} {a1 : Int32} {a2 : Int32} {M : Mem} {r : Int32 × Mem} (hn : 85 ≤ n) (h : fY_far a0 a1 a2 M = some r) : CM l w yX5_far cX5_far 5 (some .int) 1 0 0 [.int a0, .int a1, .int a2] n M (PD M) (Ti n r) := sm_of (loc := [some (.int a0), some (.int a1), some (.int a2), none, none]) mf_X5_far (by decide) (Nat.le_of_ble_eq_true rfl) rfl (fun K _ _ C S => t_fY_far C S hn h)
def tb_X5_nextRoom : List (Nat × Instr × Nat) := [(0, .iconst (-1), 1), (1, .istore_n 3, 1), (2, .bipush 8, 2), (4, .istore 4, 2), (6, .iconst 0, 1), (7, .istore 5, 2), (9, .iload 5, 2), (11, .bipush 8, 2), (13, .if_icmp .ge 49, 3), (16, .iload_n 1, 1), (17, .iload_n 2, 1), (18, .if_icmp .eq 44, 3), (21, .iload_n 0, 1), (22, .iload_n 1, 1), (23, .iload 5, 2), (25, .invokestatic 29, 3), (28, .iconst 1, 1), (29, .if_icmp .ne 27, 3), (32, .iload_n 0, 1), (33, .iload 5, 2), (35, .iload_n 2, 1), (36, .invokestatic 29, 3), (39, .iload 4, 2), (41, .if_icmp .ge 15, 3), (44, .iload_n 0, 1), (45, .iload 5, 2), (47, .iload_n 2, 1), (48, .invokestatic 29, 3), (51, .istore 4, 2), (53, .iload 5, 2), (55, .istore_n 3, 1), (56, .iinc 5 1, 3), (59, .goto (-50), 3), (62, .iload_n 3, 1), (63, .ireturn, 1)]
theorem ok_X5_nextRoom : TB cX5_nextRoom tb_X5_nextRoom := (by decide +kernel : tb_X5_nextRoom.all (fun q => tbq cX5_nextRoom q) = true)
set_option maxHeartbeats 4000000 in
set_option maxRecDepth 20000 in
theorem t_fY_nextRoom_b62 {K : Cx} {n : Nat} {a3 : Int32} {M : Mem} {r : Int32 × Mem} (C : Ctx K RX5 cX5_nextRoom) (S : SS K n 2 6 (some .int) (Ti n r)) (hn : 85 ≤ n) (h : fY_nextRoom_b62 a3 M = some r) : AS K n M 62 [none, none, none, some (.int a3), none, none] [] := by
  refine aw_iload_n C (tb_at ok_X5_nextRoom 33 rfl) rfl ?_
  exact sw_iret C S rfl (tb_at ok_X5_nextRoom 34 rfl) h
set_option maxHeartbeats 4000000 in
set_option maxRecDepth 20000 in
theorem t_fY_nextRoom_b56 {K : Cx} {n : Nat} {k9 : Int32 → Int32 → Int32 → Mem → Option (Int32 × Mem)} {a0 : Int32} {a1 : Int32} {a2 : Int32} {a3 : Int32} {a4 : Int32} {a5 : Int32} {M : Mem} {r : Int32 × Mem} (C : Ctx K RX5 cX5_nextRoom) (S : SS K n 2 6 (some .int) (Ti n r)) (hn : 85 ≤ n) (hk9 : ∀ (va3 : Int32) (va4 : Int32) (va5 : Int32) (M1 : Mem), k9 va3 va4 va5 M1 = some r → AS K n M1 9 [some (.int a0), some (.int a1), some (.int a2), some (.int va3), some (.int va4), some (.int va5)] []) (h : fY_nextRoom_b56 k9 a0 a1 a2 a3 a4 a5 M = some r) : AS K n M 56 [some (.int a0), some (.int a1), some (.int a2), some (.int a3), some (.int a4), some (.int a5)] [] := by
  refine aw_iinc C [some (.int a0), some (.int a1), some (.int a2), some (.int a3), some (.int a4), some (.int (a5 + 1))] (tb_at ok_X5_nextRoom 31 rfl) rfl S.2.2.2.1 (by decide) ki_1 rfl ?_
  refine aw_goto C 9 (tb_at ok_X5_nextRoom 32 rfl) (by decide) ?_
  exact aw_loc [some (.int a0), some (.int a1), some (.int a2), some (.int a3), some (.int a4), some (.int (a5 + 1))] (sl_k (sl_k (sl_k (sl_k (sl_k (sl_k sl_0)))))) (hk9 _ _ _ _ h)
set_option maxHeartbeats 4000000 in
set_option maxRecDepth 20000 in
theorem t_fY_nextRoom_b9 {K : Cx} {n : Nat} {a0 : Int32} {a1 : Int32} {a2 : Int32} {r : Int32 × Mem} (C : Ctx K RX5 cX5_nextRoom) (S : SS K n 2 6 (some .int) (Ti n r)) (hn : 85 ≤ n) : ∀ (z : Nat) (a3 : Int32) (a4 : Int32) (a5 : Int32) (M : Mem), fY_nextRoom_b9 a0 a1 a2 z a3 a4 a5 M = some r → AS K n M 9 [some (.int a0), some (.int a1), some (.int a2), some (.int a3), some (.int a4), some (.int a5)] [] := by
  intro z
  induction z with
  | zero => intro a3 a4 a5 M h; cases h
  | succ z ih =>
    intro a3 a4 a5 M h
    refine aw_iload C (tb_at ok_X5_nextRoom 6 rfl) rfl ?_
    refine aw_bipush C (tb_at ok_X5_nextRoom 7 rfl) kb_8 ?_
    refine aw_icmp_ge C 62 (tb_at ok_X5_nextRoom 8 rfl) (by decide) h (fun h => ?_) (fun h => ?_)
    · exact aw_loc [none, none, none, some (.int a3), none, none] (sl_n (sl_n (sl_n (sl_k (sl_n (sl_n sl_0)))))) (t_fY_nextRoom_b62 C S hn h)
    · refine aw_iload_n C (tb_at ok_X5_nextRoom 9 rfl) rfl ?_
      refine aw_iload_n C (tb_at ok_X5_nextRoom 10 rfl) rfl ?_
      refine aw_icmp_eq C 62 (tb_at ok_X5_nextRoom 11 rfl) (by decide) h (fun h => ?_) (fun h => ?_)
      · exact aw_loc [none, none, none, some (.int a3), none, none] (sl_n (sl_n (sl_n (sl_k (sl_n (sl_n sl_0)))))) (t_fY_nextRoom_b62 C S hn h)
      · refine aw_iload_n C (tb_at ok_X5_nextRoom 12 rfl) rfl ?_
        refine aw_iload_n C (tb_at ok_X5_nextRoom 13 rfl) rfl ?_
        refine aw_iload C (tb_at ok_X5_nextRoom 14 rfl) rfl ?_
        refine sw_cSi C S [.int a0, .int a1, .int a5] [] (tb_at ok_X5_nextRoom 15 rfl) h (fun q e => m_fY_far hn e) mf_X5_far cw_RX5_29 rfl (by decide) rfl (Nat.le_of_ble_eq_true rfl) (fun r1 M1 h => ?_)
        refine aw_iconst C (tb_at ok_X5_nextRoom 16 rfl) ki_1 ?_
        refine aw_icmp_ne C 56 (tb_at ok_X5_nextRoom 17 rfl) (by decide) h (fun h => ?_) (fun h => ?_)
        · refine aw_iload_n C (tb_at ok_X5_nextRoom 18 rfl) rfl ?_
          refine aw_iload C (tb_at ok_X5_nextRoom 19 rfl) rfl ?_
          refine aw_iload_n C (tb_at ok_X5_nextRoom 20 rfl) rfl ?_
          refine sw_cSi C S [.int a0, .int a5, .int a2] [] (tb_at ok_X5_nextRoom 21 rfl) h (fun q e => m_fY_far hn e) mf_X5_far cw_RX5_29 rfl (by decide) rfl (Nat.le_of_ble_eq_true rfl) (fun r2 M2 h => ?_)
          refine aw_iload C (tb_at ok_X5_nextRoom 22 rfl) rfl ?_
          refine aw_icmp_ge C 56 (tb_at ok_X5_nextRoom 23 rfl) (by decide) h (fun h => ?_) (fun h => ?_)
          · exact aw_loc [some (.int a0), some (.int a1), some (.int a2), some (.int a3), some (.int a4), some (.int a5)] (sl_k (sl_k (sl_k (sl_k (sl_k (sl_k sl_0)))))) (t_fY_nextRoom_b56 C S hn ih h)
          · refine aw_iload_n C (tb_at ok_X5_nextRoom 24 rfl) rfl ?_
            refine aw_iload C (tb_at ok_X5_nextRoom 25 rfl) rfl ?_
            refine aw_iload_n C (tb_at ok_X5_nextRoom 26 rfl) rfl ?_
            refine sw_cSi C S [.int a0, .int a5, .int a2] [] (tb_at ok_X5_nextRoom 27 rfl) h (fun q e => m_fY_far hn e) mf_X5_far cw_RX5_29 rfl (by decide) rfl (Nat.le_of_ble_eq_true rfl) (fun r3 M3 h => ?_)
            refine aw_istore C [some (.int a0), some (.int a1), some (.int a2), some (.int a3), some (.int r3), some (.int a5)] (tb_at ok_X5_nextRoom 28 rfl) S.2.2.2.1 (by decide) rfl ?_
            refine aw_iload C (tb_at ok_X5_nextRoom 29 rfl) rfl ?_
            refine aw_istore_n C [some (.int a0), some (.int a1), some (.int a2), some (.int a5), some (.int r3), some (.int a5)] (tb_at ok_X5_nextRoom 30 rfl) S.2.2.2.1 (by decide) rfl ?_
            exact aw_loc [some (.int a0), some (.int a1), some (.int a2), some (.int a5), some (.int r3), some (.int a5)] (sl_k (sl_k (sl_k (sl_k (sl_k (sl_k sl_0)))))) (t_fY_nextRoom_b56 C S hn ih h)
        · exact aw_loc [some (.int a0), some (.int a1), some (.int a2), some (.int a3), some (.int a4), some (.int a5)] (sl_k (sl_k (sl_k (sl_k (sl_k (sl_k sl_0)))))) (t_fY_nextRoom_b56 C S hn ih h)
set_option maxHeartbeats 4000000 in
set_option maxRecDepth 20000 in
theorem t_fY_nextRoom {K : Cx} {n : Nat} {a0 : Int32} {a1 : Int32} {a2 : Int32} {M : Mem} {r : Int32 × Mem} (C : Ctx K RX5 cX5_nextRoom) (S : SS K n 2 6 (some .int) (Ti n r)) (hn : 85 ≤ n) (h : fY_nextRoom a0 a1 a2 M = some r) : AS K n M 0 [some (.int a0), some (.int a1), some (.int a2), none, none, none] [] := by
  refine aw_iconst C (tb_at ok_X5_nextRoom 0 rfl) ki_m1 ?_
  refine aw_istore_n C [some (.int a0), some (.int a1), some (.int a2), some (.int (-1)), none, none] (tb_at ok_X5_nextRoom 1 rfl) S.2.2.2.1 (by decide) rfl ?_
  refine aw_bipush C (tb_at ok_X5_nextRoom 2 rfl) kb_8 ?_
  refine aw_istore C [some (.int a0), some (.int a1), some (.int a2), some (.int (-1)), some (.int 8), none] (tb_at ok_X5_nextRoom 3 rfl) S.2.2.2.1 (by decide) rfl ?_
  refine aw_iconst C (tb_at ok_X5_nextRoom 4 rfl) ki_0 ?_
  refine aw_istore C [some (.int a0), some (.int a1), some (.int a2), some (.int (-1)), some (.int 8), some (.int 0)] (tb_at ok_X5_nextRoom 5 rfl) S.2.2.2.1 (by decide) rfl ?_
  exact aw_loc [some (.int a0), some (.int a1), some (.int a2), some (.int (-1)), some (.int 8), some (.int 0)] (sl_k (sl_k (sl_k (sl_k (sl_k (sl_k sl_0)))))) (t_fY_nextRoom_b9 C S hn 1000 _ _ _ _ h)
theorem m_fY_nextRoom {l : Launch} {w : Wd} {n : Nat} {a0 : Int32} {a1 : Int32} {a2 : Int32} {M : Mem} {r : Int32 × Mem} (hn : 85 ≤ n) (h : fY_nextRoom a0 a1 a2 M = some r) : CM l w yX5_nextRoom cX5_nextRoom 6 (some .int) 2 0 0 [.int a0, .int a1, .int a2] n M (PD M) (Ti n r) := sm_of (loc := [some (.int a0), some (.int a1), some (.int a2), none, none, none]) mf_X5_nextRoom (by decide) (Nat.le_of_ble_eq_true rfl) rfl (fun K _ _ C S => t_fY_nextRoom C S hn h)
def tb_X5_lay : List (Nat × Instr × Nat) := [(0, .aload_n 0, 1), (1, .getfield 15, 3), (4, .iload_n 1, 1), (5, .if_icmp .ne 4, 3), (8, .return_, 1), (9, .iconst 0, 1), (10, .istore_n 2, 1), (11, .iload_n 2, 1), (12, .bipush 64, 2), (14, .if_icmp .ge 27, 3), (17, .aload_n 0, 1), (18, .getfield 9, 3), (21, .iload_n 2, 1), (22, .iload_n 1, 1), (23, .iload_n 2, 1), (24, .bipush 8, 2), (26, .idiv, 1), (27, .iload_n 2, 1), (28, .bipush 8, 2), (30, .irem, 1), (31, .invokestatic 33, 3), (34, .iastore, 1), (35, .iinc 2 1, 3), (38, .goto (-27), 3), (41, .aload_n 0, 1), (42, .iload_n 1, 1), (43, .putfield 15, 3), (46, .return_, 1)]
theorem ok_X5_lay : TB cX5_lay tb_X5_lay := (by decide +kernel : tb_X5_lay.all (fun q => tbq cX5_lay q) = true)
set_option maxHeartbeats 4000000 in
set_option maxRecDepth 20000 in
theorem t_fY_lay_b11 {K : Cx} {n : Nat} {a1 : Int32} {r : Mem} (C : Ctx K RX5 cX5_lay) (S : SS K n 3 3 none (Tv n r)) (hn : 85 ≤ n) : ∀ (z : Nat) (a2 : Int32) (M : Mem), fY_lay_b11 a1 z a2 M = some r → AS K n M 11 [some (.ref 46), some (.int a1), some (.int a2)] [] := by
  intro z
  induction z with
  | zero => intro a2 M h; cases h
  | succ z ih =>
    intro a2 M h
    refine aw_iload_n C (tb_at ok_X5_lay 7 rfl) rfl ?_
    refine aw_bipush C (tb_at ok_X5_lay 8 rfl) kb_64 ?_
    refine aw_icmp_ge C 41 (tb_at ok_X5_lay 9 rfl) (by decide) h (fun h => ?_) (fun h => ?_)
    · refine aw_aload_n C (tb_at ok_X5_lay 24 rfl) rfl ?_
      refine aw_iload_n C (tb_at ok_X5_lay 25 rfl) rfl ?_
      refine sw_put C (ob_46 hn) rfl (by decide) (by decide) (Or.inr (by decide)) rfl rfl rfl rfl fl_RX5_15 (tb_at ok_X5_lay 26 rfl) ?_
      exact sw_vret C S (tb_at ok_X5_lay 27 rfl) h
    · refine aw_aload_n C (tb_at ok_X5_lay 10 rfl) rfl ?_
      refine aw_getR C (ob_46 hn) rfl (by decide) rfl p_46_0 fl_RX5_9 (tb_at ok_X5_lay 11 rfl) ?_
      refine aw_iload_n C (tb_at ok_X5_lay 12 rfl) rfl ?_
      refine aw_iload_n C (tb_at ok_X5_lay 13 rfl) rfl ?_
      refine aw_iload_n C (tb_at ok_X5_lay 14 rfl) rfl ?_
      refine aw_bipush C (tb_at ok_X5_lay 15 rfl) kb_8 ?_
      refine aw_idiv C (by decide) (tb_at ok_X5_lay 16 rfl) ?_
      refine aw_iload_n C (tb_at ok_X5_lay 17 rfl) rfl ?_
      refine aw_bipush C (tb_at ok_X5_lay 18 rfl) kb_8 ?_
      refine aw_irem C (by decide) (tb_at ok_X5_lay 19 rfl) ?_
      refine sw_cSi C S [.int a1, .int (a2 / 8), .int (a2 - a2 / 8 * 8)] [.int a2, .ref 47] (tb_at ok_X5_lay 20 rfl) h (fun q e => m_fY_nextRoom hn e) mf_X5_nextRoom cw_RX5_33 rfl (by decide) rfl (Nat.le_of_ble_eq_true rfl) (fun r1 M1 h => ?_)
      refine sw_iast C (ob_47 hn) (tb_at ok_X5_lay 21 rfl) h (fun h => ?_)
      refine aw_iinc C [some (.ref 46), some (.int a1), some (.int (a2 + 1))] (tb_at ok_X5_lay 22 rfl) rfl S.2.2.2.1 (by decide) ki_1 rfl ?_
      refine aw_goto C 11 (tb_at ok_X5_lay 23 rfl) (by decide) ?_
      exact aw_loc [some (.ref 46), some (.int a1), some (.int (a2 + 1))] (sl_k (sl_k (sl_k sl_0))) (ih _ _ h)
set_option maxHeartbeats 4000000 in
set_option maxRecDepth 20000 in
theorem t_fY_lay {K : Cx} {n : Nat} {a1 : Int32} {M : Mem} {r : Mem} (C : Ctx K RX5 cX5_lay) (S : SS K n 3 3 none (Tv n r)) (hn : 85 ≤ n) (h : fY_lay a1 M = some r) : AS K n M 0 [some (.ref 46), some (.int a1), none] [] := by
  refine aw_aload_n C (tb_at ok_X5_lay 0 rfl) rfl ?_
  refine aw_get C (ob_46 hn) rfl (by decide) rfl fl_RX5_15 (tb_at ok_X5_lay 1 rfl) ?_
  refine aw_iload_n C (tb_at ok_X5_lay 2 rfl) rfl ?_
  refine aw_icmp_ne C 9 (tb_at ok_X5_lay 3 rfl) (by decide) h (fun h => ?_) (fun h => ?_)
  · exact sw_vret C S (tb_at ok_X5_lay 4 rfl) h
  · refine aw_iconst C (tb_at ok_X5_lay 5 rfl) ki_0 ?_
    refine aw_istore_n C [some (.ref 46), some (.int a1), some (.int 0)] (tb_at ok_X5_lay 6 rfl) S.2.2.2.1 (by decide) rfl ?_
    exact aw_loc [some (.ref 46), some (.int a1), some (.int 0)] (sl_k (sl_k (sl_k sl_0))) (t_fY_lay_b11 C S hn 1000 _ _ h)
theorem m_fY_lay {l : Launch} {w : Wd} {n : Nat} {a1 : Int32} {M : Mem} {r : Mem} (hn : 85 ≤ n) (h : fY_lay a1 M = some r) : CM l w yX5_lay cX5_lay 3 none 3 0 0 [.ref 46, .int a1] n M (PD M) (Tv n r) := sm_of (loc := [some (.ref 46), some (.int a1), none]) mf_X5_lay (by decide) (Nat.le_of_ble_eq_true rfl) rfl (fun K _ _ C S => t_fY_lay C S hn h)
