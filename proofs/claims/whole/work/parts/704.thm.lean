/-! theorems 4 -/
def tb_X7_isSeenFromDoor : List (Nat × Instr × Nat) := [(0, .aload_n 0, 1), (1, .getfield 48, 3), (4, .aload_n 0, 1), (5, .getfield 19, 3), (8, .invokevirtual 232, 3), (11, .iconst 0, 1), (12, .istore_n 3, 1), (13, .iload_n 3, 1), (14, .aload_n 1, 1), (15, .getfield 222, 3), (18, .if_icmp .ge 37, 3), (21, .aload_n 0, 1), (22, .getfield 48, 3), (25, .iload_n 3, 1), (26, .invokevirtual 235, 3), (29, .aload_n 0, 1), (30, .getfield 48, 3), (33, .getfield 238, 3), (36, .iload_n 2, 1), (37, .iaload, 1), (38, .aload_n 1, 1), (39, .getfield 223, 3), (42, .iload_n 3, 1), (43, .iaload, 1), (44, .if_icmp .eq 5, 3), (47, .iconst 0, 1), (48, .ireturn, 1), (49, .iinc 3 1, 3), (52, .goto (-39), 3), (55, .iconst 1, 1), (56, .ireturn, 1)]
theorem ok_X7_isSeenFromDoor : TB cX7_isSeenFromDoor tb_X7_isSeenFromDoor := (by decide +kernel : tb_X7_isSeenFromDoor.all (fun q => tbq cX7_isSeenFromDoor q) = true)
set_option maxHeartbeats 4000000 in
set_option maxRecDepth 20000 in
theorem t_fN_isSeenFromDoor_b13 {K : Cx} {n : Nat} {q1 : Nat} {a2 : Int32} {r : Int32 × Mem} (C : Ctx K RX7 cX7_isSeenFromDoor) (S : SS K n 6 4 (some .boolean) (Ti n r)) (hn : 85 ≤ n) (hq1 : sOK q1) : ∀ (z : Nat) (a3 : Int32) (M : Mem), fN_isSeenFromDoor_b13 q1 a2 z a3 M = some r → AS K n M 13 [some (.ref 0), some (.ref q1), some (.int a2), some (.int a3)] [] := by
  intro z
  induction z with
  | zero => intro a3 M h; cases h
  | succ z ih =>
    intro a3 M h
    refine aw_iload_n C (tb_at ok_X7_isSeenFromDoor 7 rfl) rfl ?_
    refine aw_aload_n C (tb_at ok_X7_isSeenFromDoor 8 rfl) rfl ?_
    refine aw_get C (sO hn hq1) rfl (by decide) rfl fl_RX7_222 (tb_at ok_X7_isSeenFromDoor 9 rfl) ?_
    refine aw_icmp_ge C 55 (tb_at ok_X7_isSeenFromDoor 10 rfl) (by decide) h (fun h => ?_) (fun h => ?_)
    · refine aw_iconst C (tb_at ok_X7_isSeenFromDoor 29 rfl) ki_1 ?_
      exact sw_iret C S rfl (tb_at ok_X7_isSeenFromDoor 30 rfl) h
    · refine aw_aload_n C (tb_at ok_X7_isSeenFromDoor 11 rfl) rfl ?_
      refine aw_getR C (ob_0 hn) rfl (by decide) rfl p_0_7 fl_RX7_48 (tb_at ok_X7_isSeenFromDoor 12 rfl) ?_
      refine aw_iload_n C (tb_at ok_X7_isSeenFromDoor 13 rfl) rfl ?_
      refine sw_cVv C S [.int a3] [] (tb_at ok_X7_isSeenFromDoor 14 rfl) h (fun q e => m_fD_pass hn e) mf_X0_pass (ob_45 hn) rfl rfl cw_RX7_235 rfl (by decide) rfl (Nat.le_of_ble_eq_true rfl) (fun M2 h => ?_)
      refine aw_aload_n C (tb_at ok_X7_isSeenFromDoor 15 rfl) rfl ?_
      refine aw_getR C (ob_0 hn) rfl (by decide) rfl p_0_7 fl_RX7_48 (tb_at ok_X7_isSeenFromDoor 16 rfl) ?_
      refine aw_getR C (ob_45 hn) rfl (by decide) rfl p_45_5 fl_RX7_238 (tb_at ok_X7_isSeenFromDoor 17 rfl) ?_
      refine aw_iload_n C (tb_at ok_X7_isSeenFromDoor 18 rfl) rfl ?_
      refine aw_iald C (ob_50 hn) (tb_at ok_X7_isSeenFromDoor 19 rfl) h (fun h => ?_)
      refine aw_aload_n C (tb_at ok_X7_isSeenFromDoor 20 rfl) rfl ?_
      refine aw_getR C (sO hn hq1) rfl (by decide) rfl (sP2 hq1) fl_RX7_223 (tb_at ok_X7_isSeenFromDoor 21 rfl) ?_
      refine aw_iload_n C (tb_at ok_X7_isSeenFromDoor 22 rfl) rfl ?_
      refine aw_iald C (sO1 hn hq1) (tb_at ok_X7_isSeenFromDoor 23 rfl) h (fun h => ?_)
      refine aw_icmp_eq C 49 (tb_at ok_X7_isSeenFromDoor 24 rfl) (by decide) h (fun h => ?_) (fun h => ?_)
      · refine aw_iinc C [some (.ref 0), some (.ref q1), some (.int a2), some (.int (a3 + 1))] (tb_at ok_X7_isSeenFromDoor 27 rfl) rfl S.2.2.2.1 (by decide) ki_1 rfl ?_
        refine aw_goto C 13 (tb_at ok_X7_isSeenFromDoor 28 rfl) (by decide) ?_
        exact aw_loc [some (.ref 0), some (.ref q1), some (.int a2), some (.int (a3 + 1))] (sl_k (sl_k (sl_k (sl_k sl_0)))) (ih _ _ h)
      · refine aw_iconst C (tb_at ok_X7_isSeenFromDoor 25 rfl) ki_0 ?_
        exact sw_iret C S rfl (tb_at ok_X7_isSeenFromDoor 26 rfl) h
set_option maxHeartbeats 4000000 in
set_option maxRecDepth 20000 in
theorem t_fN_isSeenFromDoor {K : Cx} {n : Nat} {q1 : Nat} {a2 : Int32} {M : Mem} {r : Int32 × Mem} (C : Ctx K RX7 cX7_isSeenFromDoor) (S : SS K n 6 4 (some .boolean) (Ti n r)) (hn : 85 ≤ n) (hq1 : sOK q1) (h : fN_isSeenFromDoor q1 a2 M = some r) : AS K n M 0 [some (.ref 0), some (.ref q1), some (.int a2), none] [] := by
  refine aw_aload_n C (tb_at ok_X7_isSeenFromDoor 0 rfl) rfl ?_
  refine aw_getR C (ob_0 hn) rfl (by decide) rfl p_0_7 fl_RX7_48 (tb_at ok_X7_isSeenFromDoor 1 rfl) ?_
  refine aw_aload_n C (tb_at ok_X7_isSeenFromDoor 2 rfl) rfl ?_
  refine aw_getR C (ob_0 hn) rfl (by decide) rfl p_0_2 fl_RX7_19 (tb_at ok_X7_isSeenFromDoor 3 rfl) ?_
  refine sw_cVv C S [.ref 27] [] (tb_at ok_X7_isSeenFromDoor 4 rfl) h (fun q e => m_fD_start hn (by decide) e) mf_X0_start (ob_45 hn) rfl rfl cw_RX7_232 rfl (by decide) rfl (Nat.le_of_ble_eq_true rfl) (fun M1 h => ?_)
  refine aw_iconst C (tb_at ok_X7_isSeenFromDoor 5 rfl) ki_0 ?_
  refine aw_istore_n C [some (.ref 0), some (.ref q1), some (.int a2), some (.int 0)] (tb_at ok_X7_isSeenFromDoor 6 rfl) S.2.2.2.1 (by decide) rfl ?_
  exact aw_loc [some (.ref 0), some (.ref q1), some (.int a2), some (.int 0)] (sl_k (sl_k (sl_k (sl_k sl_0)))) (t_fN_isSeenFromDoor_b13 C S hn hq1 1000 _ _ h)
theorem m_fN_isSeenFromDoor {l : Launch} {w : Wd} {n : Nat} {q1 : Nat} {a2 : Int32} {M : Mem} {r : Int32 × Mem} (hn : 85 ≤ n) (hq1 : sOK q1) (h : fN_isSeenFromDoor q1 a2 M = some r) : CM l w yX7_isSeenFromDoor cX7_isSeenFromDoor 4 (some .boolean) 6 0 0 [.ref 0, .ref q1, .int a2] n M (PD M) (Ti n r) := sm_of (loc := [some (.ref 0), some (.ref q1), some (.int a2), none]) mf_X7_isSeenFromDoor (by decide) (Nat.le_of_ble_eq_true rfl) rfl (fun K _ _ C S => t_fN_isSeenFromDoor C S hn hq1 h)
def tb_X7_door : List (Nat × Instr × Nat) := [(0, .iload_n 1, 1), (1, .iconst 4, 1), (2, .invokestatic 87, 3), (5, .ifCond .eq 25, 3), (8, .iload_n 2, 1), (9, .aload_n 0, 1), (10, .getfield 10, 3), (13, .getfield 111, 3), (16, .invokestatic 87, 3), (19, .ifCond .eq 11, 3), (22, .iload_n 3, 1), (23, .iconst 5, 1), (24, .invokestatic 87, 3), (27, .ifCond .ne 6, 3), (30, .bipush (-2), 2), (32, .ireturn, 1), (33, .aload_n 0, 1), (34, .getfield 54, 3), (37, .iload_n 1, 1), (38, .aaload, 1), (39, .astore 4, 2), (41, .aload 4, 2), (43, .invokevirtual 214, 3), (46, .ifCond .eq 6, 3), (49, .bipush (-11), 2), (51, .ireturn, 1), (52, .aload_n 0, 1), (53, .getfield 19, 3), (56, .aload_n 0, 1), (57, .getfield 10, 3), (60, .invokevirtual 199, 3), (63, .aload_n 0, 1), (64, .getfield 19, 3), (67, .getfield 114, 3), (70, .iload_n 2, 1), (71, .aaload, 1), (72, .astore 5, 2), (74, .aload_n 0, 1), (75, .iload_n 3, 1), (76, .invokevirtual 226, 3), (79, .istore 6, 2), (81, .iconst 0, 1), (82, .istore 7, 2), (84, .iconst 0, 1), (85, .istore 8, 2), (87, .iload 8, 2), (89, .iload 6, 2), (91, .if_icmp .ge 87, 3), (94, .iload_n 3, 1), (95, .iconst 1, 1), (96, .if_icmp .ne 13, 3), (99, .aload 5, 2), (101, .iload 8, 2), (103, .putfield 145, 3), (106, .goto 47, 3), (109, .iload_n 3, 1), (110, .iconst 2, 1), (111, .if_icmp .ne 13, 3), (114, .aload 5, 2), (116, .iload 8, 2), (118, .putfield 139, 3), (121, .goto 32, 3), (124, .iload_n 3, 1), (125, .iconst 3, 1), (126, .if_icmp .ne 13, 3), (129, .aload 5, 2), (131, .iload 8, 2), (133, .putfield 142, 3), (136, .goto 17, 3), (139, .iload_n 3, 1), (140, .iconst 4, 1), (141, .if_icmp .ne 12, 3), (144, .aload_n 0, 1), (145, .getfield 19, 3), (148, .iload 8, 2), (150, .putfield 164, 3), (153, .aload_n 0, 1), (154, .aload 4, 2), (156, .iload_n 2, 1), (157, .invokevirtual 229, 3), (160, .ifCond .eq 12, 3), (163, .iload 7, 2), (165, .iconst 1, 1), (166, .iload 8, 2), (168, .ishl, 1), (169, .ior, 1), (170, .istore 7, 2), (172, .iinc 8 1, 3), (175, .goto (-88), 3), (178, .iload 7, 2), (180, .ireturn, 1)]
theorem ok_X7_door : TB cX7_door tb_X7_door := (by decide +kernel : tb_X7_door.all (fun q => tbq cX7_door q) = true)
set_option maxHeartbeats 4000000 in
set_option maxRecDepth 20000 in
theorem t_fN_door_b172 {K : Cx} {n : Nat} {k87 : Int32 → Int32 → Mem → Option (Int32 × Mem)} {a2 : Int32} {a3 : Int32} {q4 : Nat} {q5 : Nat} {a6 : Int32} {a7 : Int32} {a8 : Int32} {M : Mem} {r : Int32 × Mem} (C : Ctx K RX7 cX7_door) (S : SS K n 7 9 (some .int) (Ti n r)) (hn : 85 ≤ n) (hq4 : sOK q4) (hq5 : aOK q5) (hk87 : ∀ (va7 : Int32) (va8 : Int32) (M1 : Mem), k87 va7 va8 M1 = some r → AS K n M1 87 [some (.ref 0), none, some (.int a2), some (.int a3), some (.ref q4), some (.ref q5), some (.int a6), some (.int va7), some (.int va8)] []) (h : fN_door_b172 k87 a2 a3 q4 q5 a6 a7 a8 M = some r) : AS K n M 172 [some (.ref 0), none, some (.int a2), some (.int a3), some (.ref q4), some (.ref q5), some (.int a6), some (.int a7), some (.int a8)] [] := by
  refine aw_iinc C [some (.ref 0), none, some (.int a2), some (.int a3), some (.ref q4), some (.ref q5), some (.int a6), some (.int a7), some (.int (a8 + 1))] (tb_at ok_X7_door 87 rfl) rfl S.2.2.2.1 (by decide) ki_1 rfl ?_
  refine aw_goto C 87 (tb_at ok_X7_door 88 rfl) (by decide) ?_
  exact aw_loc [some (.ref 0), none, some (.int a2), some (.int a3), some (.ref q4), some (.ref q5), some (.int a6), some (.int a7), some (.int (a8 + 1))] (sl_k (sl_n (sl_k (sl_k (sl_k (sl_k (sl_k (sl_k (sl_k sl_0))))))))) (hk87 _ _ _ h)
set_option maxHeartbeats 4000000 in
set_option maxRecDepth 20000 in
theorem t_fN_door_b153 {K : Cx} {n : Nat} {k87 : Int32 → Int32 → Mem → Option (Int32 × Mem)} {a2 : Int32} {a3 : Int32} {q4 : Nat} {q5 : Nat} {a6 : Int32} {a7 : Int32} {a8 : Int32} {M : Mem} {r : Int32 × Mem} (C : Ctx K RX7 cX7_door) (S : SS K n 7 9 (some .int) (Ti n r)) (hn : 85 ≤ n) (hq4 : sOK q4) (hq5 : aOK q5) (hk87 : ∀ (va7 : Int32) (va8 : Int32) (M1 : Mem), k87 va7 va8 M1 = some r → AS K n M1 87 [some (.ref 0), none, some (.int a2), some (.int a3), some (.ref q4), some (.ref q5), some (.int a6), some (.int va7), some (.int va8)] []) (h : fN_door_b153 k87 a2 a3 q4 q5 a6 a7 a8 M = some r) : AS K n M 153 [some (.ref 0), none, some (.int a2), some (.int a3), some (.ref q4), some (.ref q5), some (.int a6), some (.int a7), some (.int a8)] [] := by
  refine aw_aload_n C (tb_at ok_X7_door 76 rfl) rfl ?_
  refine aw_aload C (tb_at ok_X7_door 77 rfl) rfl ?_
  refine aw_iload_n C (tb_at ok_X7_door 78 rfl) rfl ?_
  refine sw_cVi C S [.ref q4, .int a2] [] (tb_at ok_X7_door 79 rfl) h (fun q e => m_fN_isSeenFromDoor hn hq4 e) mf_X7_isSeenFromDoor (ob_0 hn) rfl rfl cw_RX7_229 rfl (by decide) rfl (Nat.le_of_ble_eq_true rfl) (fun r9 M9 h => ?_)
  refine aw_if_eq C 172 (tb_at ok_X7_door 80 rfl) (by decide) h (fun h => ?_) (fun h => ?_)
  · exact aw_loc [some (.ref 0), none, some (.int a2), some (.int a3), some (.ref q4), some (.ref q5), some (.int a6), some (.int a7), some (.int a8)] (sl_k (sl_n (sl_k (sl_k (sl_k (sl_k (sl_k (sl_k (sl_k sl_0))))))))) (t_fN_door_b172 C S hn hq4 hq5 hk87 h)
  · refine aw_iload C (tb_at ok_X7_door 81 rfl) rfl ?_
    refine aw_iconst C (tb_at ok_X7_door 82 rfl) ki_1 ?_
    refine aw_iload C (tb_at ok_X7_door 83 rfl) rfl ?_
    refine aw_ishl C (tb_at ok_X7_door 84 rfl) ?_
    refine aw_ior C (tb_at ok_X7_door 85 rfl) ?_
    refine aw_istore C [some (.ref 0), none, some (.int a2), some (.int a3), some (.ref q4), some (.ref q5), some (.int a6), some (.int (a7 ||| (1 <<< (a8 &&& 31)))), some (.int a8)] (tb_at ok_X7_door 86 rfl) S.2.2.2.1 (by decide) rfl ?_
    exact aw_loc [some (.ref 0), none, some (.int a2), some (.int a3), some (.ref q4), some (.ref q5), some (.int a6), some (.int (a7 ||| (1 <<< (a8 &&& 31)))), some (.int a8)] (sl_k (sl_n (sl_k (sl_k (sl_k (sl_k (sl_k (sl_k (sl_k sl_0))))))))) (t_fN_door_b172 C S hn hq4 hq5 hk87 h)
set_option maxHeartbeats 4000000 in
set_option maxRecDepth 20000 in
theorem t_fN_door_b87 {K : Cx} {n : Nat} {a2 : Int32} {a3 : Int32} {q4 : Nat} {q5 : Nat} {a6 : Int32} {r : Int32 × Mem} (C : Ctx K RX7 cX7_door) (S : SS K n 7 9 (some .int) (Ti n r)) (hn : 85 ≤ n) (hq4 : sOK q4) (hq5 : aOK q5) : ∀ (z : Nat) (a7 : Int32) (a8 : Int32) (M : Mem), fN_door_b87 a2 a3 q4 q5 a6 z a7 a8 M = some r → AS K n M 87 [some (.ref 0), none, some (.int a2), some (.int a3), some (.ref q4), some (.ref q5), some (.int a6), some (.int a7), some (.int a8)] [] := by
  intro z
  induction z with
  | zero => intro a7 a8 M h; cases h
  | succ z ih =>
    intro a7 a8 M h
    refine aw_iload C (tb_at ok_X7_door 45 rfl) rfl ?_
    refine aw_iload C (tb_at ok_X7_door 46 rfl) rfl ?_
    refine aw_icmp_ge C 178 (tb_at ok_X7_door 47 rfl) (by decide) h (fun h => ?_) (fun h => ?_)
    · refine aw_iload C (tb_at ok_X7_door 89 rfl) rfl ?_
      exact sw_iret C S rfl (tb_at ok_X7_door 90 rfl) h
    · refine aw_iload_n C (tb_at ok_X7_door 48 rfl) rfl ?_
      refine aw_iconst C (tb_at ok_X7_door 49 rfl) ki_1 ?_
      refine aw_icmp_ne C 109 (tb_at ok_X7_door 50 rfl) (by decide) h (fun h => ?_) (fun h => ?_)
      · refine aw_aload C (tb_at ok_X7_door 51 rfl) rfl ?_
        refine aw_iload C (tb_at ok_X7_door 52 rfl) rfl ?_
        refine sw_put C (aO hn hq5) rfl (by decide) (by decide) (Or.inl (aN45 hq5)) rfl rfl rfl rfl fl_RX7_145 (tb_at ok_X7_door 53 rfl) ?_
        refine aw_goto C 153 (tb_at ok_X7_door 54 rfl) (by decide) ?_
        exact aw_loc [some (.ref 0), none, some (.int a2), some (.int a3), some (.ref q4), some (.ref q5), some (.int a6), some (.int a7), some (.int a8)] (sl_k (sl_n (sl_k (sl_k (sl_k (sl_k (sl_k (sl_k (sl_k sl_0))))))))) (t_fN_door_b153 C S hn hq4 hq5 ih h)
      · refine aw_iload_n C (tb_at ok_X7_door 55 rfl) rfl ?_
        refine aw_iconst C (tb_at ok_X7_door 56 rfl) ki_2 ?_
        refine aw_icmp_ne C 124 (tb_at ok_X7_door 57 rfl) (by decide) h (fun h => ?_) (fun h => ?_)
        · refine aw_aload C (tb_at ok_X7_door 58 rfl) rfl ?_
          refine aw_iload C (tb_at ok_X7_door 59 rfl) rfl ?_
          refine sw_put C (aO hn hq5) rfl (by decide) (by decide) (Or.inr (by decide)) rfl rfl rfl rfl fl_RX7_139 (tb_at ok_X7_door 60 rfl) ?_
          refine aw_goto C 153 (tb_at ok_X7_door 61 rfl) (by decide) ?_
          exact aw_loc [some (.ref 0), none, some (.int a2), some (.int a3), some (.ref q4), some (.ref q5), some (.int a6), some (.int a7), some (.int a8)] (sl_k (sl_n (sl_k (sl_k (sl_k (sl_k (sl_k (sl_k (sl_k sl_0))))))))) (t_fN_door_b153 C S hn hq4 hq5 ih h)
        · refine aw_iload_n C (tb_at ok_X7_door 62 rfl) rfl ?_
          refine aw_iconst C (tb_at ok_X7_door 63 rfl) ki_3 ?_
          refine aw_icmp_ne C 139 (tb_at ok_X7_door 64 rfl) (by decide) h (fun h => ?_) (fun h => ?_)
          · refine aw_aload C (tb_at ok_X7_door 65 rfl) rfl ?_
            refine aw_iload C (tb_at ok_X7_door 66 rfl) rfl ?_
            refine sw_put C (aO hn hq5) rfl (by decide) (by decide) (Or.inr (by decide)) rfl rfl rfl rfl fl_RX7_142 (tb_at ok_X7_door 67 rfl) ?_
            refine aw_goto C 153 (tb_at ok_X7_door 68 rfl) (by decide) ?_
            exact aw_loc [some (.ref 0), none, some (.int a2), some (.int a3), some (.ref q4), some (.ref q5), some (.int a6), some (.int a7), some (.int a8)] (sl_k (sl_n (sl_k (sl_k (sl_k (sl_k (sl_k (sl_k (sl_k sl_0))))))))) (t_fN_door_b153 C S hn hq4 hq5 ih h)
          · refine aw_iload_n C (tb_at ok_X7_door 69 rfl) rfl ?_
            refine aw_iconst C (tb_at ok_X7_door 70 rfl) ki_4 ?_
            refine aw_icmp_ne C 153 (tb_at ok_X7_door 71 rfl) (by decide) h (fun h => ?_) (fun h => ?_)
            · refine aw_aload_n C (tb_at ok_X7_door 72 rfl) rfl ?_
              refine aw_getR C (ob_0 hn) rfl (by decide) rfl p_0_2 fl_RX7_19 (tb_at ok_X7_door 73 rfl) ?_
              refine aw_iload C (tb_at ok_X7_door 74 rfl) rfl ?_
              refine sw_put C (ob_27 hn) rfl (by decide) (by decide) (Or.inr (by decide)) rfl rfl rfl rfl fl_RX7_164 (tb_at ok_X7_door 75 rfl) ?_
              exact aw_loc [some (.ref 0), none, some (.int a2), some (.int a3), some (.ref q4), some (.ref q5), some (.int a6), some (.int a7), some (.int a8)] (sl_k (sl_n (sl_k (sl_k (sl_k (sl_k (sl_k (sl_k (sl_k sl_0))))))))) (t_fN_door_b153 C S hn hq4 hq5 ih h)
            · exact aw_loc [some (.ref 0), none, some (.int a2), some (.int a3), some (.ref q4), some (.ref q5), some (.int a6), some (.int a7), some (.int a8)] (sl_k (sl_n (sl_k (sl_k (sl_k (sl_k (sl_k (sl_k (sl_k sl_0))))))))) (t_fN_door_b153 C S hn hq4 hq5 ih h)
set_option maxHeartbeats 4000000 in
set_option maxRecDepth 20000 in
theorem t_fN_door {K : Cx} {n : Nat} {a1 : Int32} {a2 : Int32} {a3 : Int32} {M : Mem} {r : Int32 × Mem} (C : Ctx K RX7 cX7_door) (S : SS K n 7 9 (some .int) (Ti n r)) (hn : 85 ≤ n) (h : fN_door a1 a2 a3 M = some r) : AS K n M 0 [some (.ref 0), some (.int a1), some (.int a2), some (.int a3), none, none, none, none, none] [] := by
  refine aw_iload_n C (tb_at ok_X7_door 0 rfl) rfl ?_
  refine aw_iconst C (tb_at ok_X7_door 1 rfl) ki_4 ?_
  refine sw_cSi C S [.int a1, .int 4] [] (tb_at ok_X7_door 2 rfl) h (fun q e => m_fN_within hn e) mf_X7_within cw_RX7_87 rfl (by decide) rfl (Nat.le_of_ble_eq_true rfl) (fun r1 M1 h => ?_)
  refine aw_if_eq C 30 (tb_at ok_X7_door 3 rfl) (by decide) h (fun h => ?_) (fun h => ?_)
  · refine aw_bipush C (tb_at ok_X7_door 14 rfl) kb_m2 ?_
    exact sw_iret C S rfl (tb_at ok_X7_door 15 rfl) h
  · refine aw_iload_n C (tb_at ok_X7_door 4 rfl) rfl ?_
    refine aw_aload_n C (tb_at ok_X7_door 5 rfl) rfl ?_
    refine aw_getR C (ob_0 hn) rfl (by decide) rfl p_0_0 fl_RX7_10 (tb_at ok_X7_door 6 rfl) ?_
    refine aw_get C (ob_1 hn) rfl (by decide) rfl fl_RX7_111 (tb_at ok_X7_door 7 rfl) ?_
    refine sw_cSi C S [.int a2, .int (M1 1 2)] [] (tb_at ok_X7_door 8 rfl) h (fun q e => m_fN_within hn e) mf_X7_within cw_RX7_87 rfl (by decide) rfl (Nat.le_of_ble_eq_true rfl) (fun r2 M2 h => ?_)
    refine aw_if_eq C 30 (tb_at ok_X7_door 9 rfl) (by decide) h (fun h => ?_) (fun h => ?_)
    · refine aw_bipush C (tb_at ok_X7_door 14 rfl) kb_m2 ?_
      exact sw_iret C S rfl (tb_at ok_X7_door 15 rfl) h
    · refine aw_iload_n C (tb_at ok_X7_door 10 rfl) rfl ?_
      refine aw_iconst C (tb_at ok_X7_door 11 rfl) ki_5 ?_
      refine sw_cSi C S [.int a3, .int 5] [] (tb_at ok_X7_door 12 rfl) h (fun q e => m_fN_within hn e) mf_X7_within cw_RX7_87 rfl (by decide) rfl (Nat.le_of_ble_eq_true rfl) (fun r3 M3 h => ?_)
      refine aw_if_ne C 33 (tb_at ok_X7_door 13 rfl) (by decide) h (fun h => ?_) (fun h => ?_)
      · refine aw_bipush C (tb_at ok_X7_door 14 rfl) kb_m2 ?_
        exact sw_iret C S rfl (tb_at ok_X7_door 15 rfl) h
      · refine aw_aload_n C (tb_at ok_X7_door 16 rfl) rfl ?_
        refine aw_getR C (ob_0 hn) rfl (by decide) rfl p_0_8 fl_RX7_54 (tb_at ok_X7_door 17 rfl) ?_
        refine aw_iload_n C (tb_at ok_X7_door 18 rfl) rfl ?_
        refine sw_aald C 3 (ob_57 hn) (by decide) rfl (tb_at ok_X7_door 19 rfl) (fun z => qPA z) h (fun hi4 h => ?_)
        refine aw_astore C [some (.ref 0), some (.int a1), some (.int a2), some (.int a3), some (.ref (77 + 2 * ix a1)), none, none, none, none] (tb_at ok_X7_door 20 rfl) S.2.2.2.1 (by decide) rfl ?_
        refine aw_aload C (tb_at ok_X7_door 21 rfl) rfl ?_
        refine sw_cVi C S [] [] (tb_at ok_X7_door 22 rfl) h (fun q e => m_fS_isMissing hn (qA hi4) e) mf_X4_isMissing (sO hn (qA hi4)) rfl rfl cw_RX7_214 rfl (by decide) rfl (Nat.le_of_ble_eq_true rfl) (fun r5 M5 h => ?_)
        refine aw_if_eq C 52 (tb_at ok_X7_door 23 rfl) (by decide) h (fun h => ?_) (fun h => ?_)
        · refine aw_aload_n C (tb_at ok_X7_door 26 rfl) rfl ?_
          refine aw_getR C (ob_0 hn) rfl (by decide) rfl p_0_2 fl_RX7_19 (tb_at ok_X7_door 27 rfl) ?_
          refine aw_aload_n C (tb_at ok_X7_door 28 rfl) rfl ?_
          refine aw_getR C (ob_0 hn) rfl (by decide) rfl p_0_0 fl_RX7_10 (tb_at ok_X7_door 29 rfl) ?_
          refine sw_cVv C S [.ref 1] [] (tb_at ok_X7_door 30 rfl) h (fun q e => m_fH_become hn (by decide) (by decide) e) mf_X1_become (ob_27 hn) rfl rfl cw_RX7_199 rfl (by decide) rfl (Nat.le_of_ble_eq_true rfl) (fun M6 h => ?_)
          refine aw_aload_n C (tb_at ok_X7_door 31 rfl) rfl ?_
          refine aw_getR C (ob_0 hn) rfl (by decide) rfl p_0_2 fl_RX7_19 (tb_at ok_X7_door 32 rfl) ?_
          refine aw_getR C (ob_27 hn) rfl (by decide) rfl p_27_7 fl_RX7_114 (tb_at ok_X7_door 33 rfl) ?_
          refine aw_iload_n C (tb_at ok_X7_door 34 rfl) rfl ?_
          refine sw_aald C 2 (ob_31 hn) (by decide) rfl (tb_at ok_X7_door 35 rfl) (fun z => hPA_31 z) h (fun hi7 h => ?_)
          refine aw_astore C [some (.ref 0), some (.int a1), some (.int a2), some (.int a3), some (.ref (77 + 2 * ix a1)), some (.ref (32 + 2 * ix a2)), none, none, none] (tb_at ok_X7_door 36 rfl) S.2.2.2.1 (by decide) rfl ?_
          refine aw_aload_n C (tb_at ok_X7_door 37 rfl) rfl ?_
          refine aw_iload_n C (tb_at ok_X7_door 38 rfl) rfl ?_
          refine sw_cVi C S [.int a3] [] (tb_at ok_X7_door 39 rfl) h (fun q e => m_fN_doorChoices hn e) mf_X7_doorChoices (ob_0 hn) rfl rfl cw_RX7_226 rfl (by decide) rfl (Nat.le_of_ble_eq_true rfl) (fun r8 M8 h => ?_)
          refine aw_istore C [some (.ref 0), some (.int a1), some (.int a2), some (.int a3), some (.ref (77 + 2 * ix a1)), some (.ref (32 + 2 * ix a2)), some (.int r8), none, none] (tb_at ok_X7_door 40 rfl) S.2.2.2.1 (by decide) rfl ?_
          refine aw_iconst C (tb_at ok_X7_door 41 rfl) ki_0 ?_
          refine aw_istore C [some (.ref 0), some (.int a1), some (.int a2), some (.int a3), some (.ref (77 + 2 * ix a1)), some (.ref (32 + 2 * ix a2)), some (.int r8), some (.int 0), none] (tb_at ok_X7_door 42 rfl) S.2.2.2.1 (by decide) rfl ?_
          refine aw_iconst C (tb_at ok_X7_door 43 rfl) ki_0 ?_
          refine aw_istore C [some (.ref 0), some (.int a1), some (.int a2), some (.int a3), some (.ref (77 + 2 * ix a1)), some (.ref (32 + 2 * ix a2)), some (.int r8), some (.int 0), some (.int 0)] (tb_at ok_X7_door 44 rfl) S.2.2.2.1 (by decide) rfl ?_
          exact aw_loc [some (.ref 0), none, some (.int a2), some (.int a3), some (.ref (77 + 2 * ix a1)), some (.ref (32 + 2 * ix a2)), some (.int r8), some (.int 0), some (.int 0)] (sl_k (sl_n (sl_k (sl_k (sl_k (sl_k (sl_k (sl_k (sl_k sl_0))))))))) (t_fN_door_b87 C S hn (qA hi4) (hA_31 hi7) 1000 _ _ _ h)
        · refine aw_bipush C (tb_at ok_X7_door 24 rfl) kb_m11 ?_
          exact sw_iret C S rfl (tb_at ok_X7_door 25 rfl) h
theorem m_fN_door {l : Launch} {w : Wd} {n : Nat} {a1 : Int32} {a2 : Int32} {a3 : Int32} {M : Mem} {r : Int32 × Mem} (hn : 85 ≤ n) (h : fN_door a1 a2 a3 M = some r) : CM l w yX7_door cX7_door 9 (some .int) 7 0 0 [.ref 0, .int a1, .int a2, .int a3] n M (PD M) (Ti n r) := sm_of (loc := [some (.ref 0), some (.int a1), some (.int a2), some (.int a3), none, none, none, none, none]) mf_X7_door (by decide) (Nat.le_of_ble_eq_true rfl) rfl (fun K _ _ C S => t_fN_door C S hn h)
def tb_X7_film : List (Nat × Instr × Nat) := [(0, .iload_n 1, 1), (1, .iconst 4, 1), (2, .invokestatic 87, 3), (5, .ifCond .eq 29, 3), (8, .iload_n 2, 1), (9, .iconst (-1), 1), (10, .if_icmp .lt 24, 3), (13, .iload_n 2, 1), (14, .aload_n 0, 1), (15, .getfield 10, 3), (18, .getfield 111, 3), (21, .if_icmp .ge 13, 3), (24, .iload_n 3, 1), (25, .ifCond .lt 9, 3), (28, .iload_n 3, 1), (29, .bipush 40, 2), (31, .if_icmp .le 6, 3), (34, .bipush (-2), 2), (36, .ireturn, 1), (37, .aload_n 0, 1), (38, .getfield 54, 3), (41, .iload_n 1, 1), (42, .aaload, 1), (43, .astore 4, 2), (45, .aload 4, 2), (47, .iconst 0, 1), (48, .iload_n 3, 1), (49, .invokevirtual 241, 3), (52, .aload_n 0, 1), (53, .getfield 48, 3), (56, .aload_n 0, 1), (57, .getfield 10, 3), (60, .invokevirtual 232, 3), (63, .iconst 0, 1), (64, .istore 5, 2), (66, .iload 5, 2), (68, .iload_n 3, 1), (69, .if_icmp .ge 51, 3), (72, .aload_n 0, 1), (73, .getfield 48, 3), (76, .iload 5, 2), (78, .invokevirtual 235, 3), (81, .aload 4, 2), (83, .iload 5, 2), (85, .iload_n 2, 1), (86, .iconst (-1), 1), (87, .if_icmp .ne 15, 3), (90, .aload_n 0, 1), (91, .getfield 10, 3), (94, .iload 5, 2), (96, .invokevirtual 167, 3), (99, .goto 12, 3), (102, .aload_n 0, 1), (103, .getfield 48, 3), (106, .getfield 238, 3), (109, .iload_n 2, 1), (110, .iaload, 1), (111, .invokevirtual 243, 3), (114, .iinc 5 1, 3), (117, .goto (-51), 3), (120, .iload_n 3, 1), (121, .ireturn, 1)]
theorem ok_X7_film : TB cX7_film tb_X7_film := (by decide +kernel : tb_X7_film.all (fun q => tbq cX7_film q) = true)
set_option maxHeartbeats 4000000 in
set_option maxRecDepth 20000 in
theorem t_fN_film_b111 {K : Cx} {n : Nat} {k66 : Int32 → Mem → Option (Int32 × Mem)} {a2 : Int32} {a3 : Int32} {q4 : Nat} {a5 : Int32} {s0 : Int32} {s1 : Int32} {t2 : Nat} {M : Mem} {r : Int32 × Mem} (C : Ctx K RX7 cX7_film) (S : SS K n 6 6 (some .int) (Ti n r)) (hn : 85 ≤ n) (hq4 : sOK q4) (ht2 : sOK t2) (hk66 : ∀ (va5 : Int32) (M1 : Mem), k66 va5 M1 = some r → AS K n M1 66 [some (.ref 0), none, some (.int a2), some (.int a3), some (.ref q4), some (.int va5)] []) (h : fN_film_b111 k66 a2 a3 q4 a5 s0 s1 t2 M = some r) : AS K n M 111 [some (.ref 0), none, some (.int a2), some (.int a3), some (.ref q4), some (.int a5)] [.int s0, .int s1, .ref t2] := by
  refine sw_cVv C S [.int s1, .int s0] [] (tb_at ok_X7_film 57 rfl) h (fun q e => m_fS_put hn ht2 e) mf_X4_put (sO hn ht2) rfl rfl cw_RX7_243 rfl (by decide) rfl (Nat.le_of_ble_eq_true rfl) (fun M7 h => ?_)
  refine aw_iinc C [some (.ref 0), none, some (.int a2), some (.int a3), some (.ref q4), some (.int (a5 + 1))] (tb_at ok_X7_film 58 rfl) rfl S.2.2.2.1 (by decide) ki_1 rfl ?_
  refine aw_goto C 66 (tb_at ok_X7_film 59 rfl) (by decide) ?_
  exact aw_loc [some (.ref 0), none, some (.int a2), some (.int a3), some (.ref q4), some (.int (a5 + 1))] (sl_k (sl_n (sl_k (sl_k (sl_k (sl_k sl_0)))))) (hk66 _ _ h)
set_option maxHeartbeats 4000000 in
set_option maxRecDepth 20000 in
theorem t_fN_film_b66 {K : Cx} {n : Nat} {a2 : Int32} {a3 : Int32} {q4 : Nat} {r : Int32 × Mem} (C : Ctx K RX7 cX7_film) (S : SS K n 6 6 (some .int) (Ti n r)) (hn : 85 ≤ n) (hq4 : sOK q4) : ∀ (z : Nat) (a5 : Int32) (M : Mem), fN_film_b66 a2 a3 q4 z a5 M = some r → AS K n M 66 [some (.ref 0), none, some (.int a2), some (.int a3), some (.ref q4), some (.int a5)] [] := by
  intro z
  induction z with
  | zero => intro a5 M h; cases h
  | succ z ih =>
    intro a5 M h
    refine aw_iload C (tb_at ok_X7_film 35 rfl) rfl ?_
    refine aw_iload_n C (tb_at ok_X7_film 36 rfl) rfl ?_
    refine aw_icmp_ge C 120 (tb_at ok_X7_film 37 rfl) (by decide) h (fun h => ?_) (fun h => ?_)
    · refine aw_iload_n C (tb_at ok_X7_film 60 rfl) rfl ?_
      exact sw_iret C S rfl (tb_at ok_X7_film 61 rfl) h
    · refine aw_aload_n C (tb_at ok_X7_film 38 rfl) rfl ?_
      refine aw_getR C (ob_0 hn) rfl (by decide) rfl p_0_7 fl_RX7_48 (tb_at ok_X7_film 39 rfl) ?_
      refine aw_iload C (tb_at ok_X7_film 40 rfl) rfl ?_
      refine sw_cVv C S [.int a5] [] (tb_at ok_X7_film 41 rfl) h (fun q e => m_fD_pass hn e) mf_X0_pass (ob_45 hn) rfl rfl cw_RX7_235 rfl (by decide) rfl (Nat.le_of_ble_eq_true rfl) (fun M5 h => ?_)
      refine aw_aload C (tb_at ok_X7_film 42 rfl) rfl ?_
      refine aw_iload C (tb_at ok_X7_film 43 rfl) rfl ?_
      refine aw_iload_n C (tb_at ok_X7_film 44 rfl) rfl ?_
      refine aw_iconst C (tb_at ok_X7_film 45 rfl) ki_m1 ?_
      refine aw_icmp_ne C 102 (tb_at ok_X7_film 46 rfl) (by decide) h (fun h => ?_) (fun h => ?_)
      · refine aw_aload_n C (tb_at ok_X7_film 47 rfl) rfl ?_
        refine aw_getR C (ob_0 hn) rfl (by decide) rfl p_0_0 fl_RX7_10 (tb_at ok_X7_film 48 rfl) ?_
        refine aw_iload C (tb_at ok_X7_film 49 rfl) rfl ?_
        refine sw_cVi C S [.int a5] [.int a5, .ref q4] (tb_at ok_X7_film 50 rfl) h (fun q e => m_fH_masterIn hn (by decide) e) mf_X1_masterIn (ob_1 hn) rfl rfl cw_RX7_167 rfl (by decide) rfl (Nat.le_of_ble_eq_true rfl) (fun r6 M6 h => ?_)
        refine aw_goto C 111 (tb_at ok_X7_film 51 rfl) (by decide) ?_
        exact aw_loc [some (.ref 0), none, some (.int a2), some (.int a3), some (.ref q4), some (.int a5)] (sl_k (sl_n (sl_k (sl_k (sl_k (sl_k sl_0)))))) (t_fN_film_b111 C S hn hq4 hq4 ih h)
      · refine aw_aload_n C (tb_at ok_X7_film 52 rfl) rfl ?_
        refine aw_getR C (ob_0 hn) rfl (by decide) rfl p_0_7 fl_RX7_48 (tb_at ok_X7_film 53 rfl) ?_
        refine aw_getR C (ob_45 hn) rfl (by decide) rfl p_45_5 fl_RX7_238 (tb_at ok_X7_film 54 rfl) ?_
        refine aw_iload_n C (tb_at ok_X7_film 55 rfl) rfl ?_
        refine aw_iald C (ob_50 hn) (tb_at ok_X7_film 56 rfl) h (fun h => ?_)
        exact aw_loc [some (.ref 0), none, some (.int a2), some (.int a3), some (.ref q4), some (.int a5)] (sl_k (sl_n (sl_k (sl_k (sl_k (sl_k sl_0)))))) (t_fN_film_b111 C S hn hq4 hq4 ih h)
set_option maxHeartbeats 4000000 in
set_option maxRecDepth 20000 in
theorem t_fN_film {K : Cx} {n : Nat} {a1 : Int32} {a2 : Int32} {a3 : Int32} {M : Mem} {r : Int32 × Mem} (C : Ctx K RX7 cX7_film) (S : SS K n 6 6 (some .int) (Ti n r)) (hn : 85 ≤ n) (h : fN_film a1 a2 a3 M = some r) : AS K n M 0 [some (.ref 0), some (.int a1), some (.int a2), some (.int a3), none, none] [] := by
  refine aw_iload_n C (tb_at ok_X7_film 0 rfl) rfl ?_
  refine aw_iconst C (tb_at ok_X7_film 1 rfl) ki_4 ?_
  refine sw_cSi C S [.int a1, .int 4] [] (tb_at ok_X7_film 2 rfl) h (fun q e => m_fN_within hn e) mf_X7_within cw_RX7_87 rfl (by decide) rfl (Nat.le_of_ble_eq_true rfl) (fun r1 M1 h => ?_)
  refine aw_if_eq C 34 (tb_at ok_X7_film 3 rfl) (by decide) h (fun h => ?_) (fun h => ?_)
  · refine aw_bipush C (tb_at ok_X7_film 17 rfl) kb_m2 ?_
    exact sw_iret C S rfl (tb_at ok_X7_film 18 rfl) h
  · refine aw_iload_n C (tb_at ok_X7_film 4 rfl) rfl ?_
    refine aw_iconst C (tb_at ok_X7_film 5 rfl) ki_m1 ?_
    refine aw_icmp_lt C 34 (tb_at ok_X7_film 6 rfl) (by decide) h (fun h => ?_) (fun h => ?_)
    · refine aw_bipush C (tb_at ok_X7_film 17 rfl) kb_m2 ?_
      exact sw_iret C S rfl (tb_at ok_X7_film 18 rfl) h
    · refine aw_iload_n C (tb_at ok_X7_film 7 rfl) rfl ?_
      refine aw_aload_n C (tb_at ok_X7_film 8 rfl) rfl ?_
      refine aw_getR C (ob_0 hn) rfl (by decide) rfl p_0_0 fl_RX7_10 (tb_at ok_X7_film 9 rfl) ?_
      refine aw_get C (ob_1 hn) rfl (by decide) rfl fl_RX7_111 (tb_at ok_X7_film 10 rfl) ?_
      refine aw_icmp_ge C 34 (tb_at ok_X7_film 11 rfl) (by decide) h (fun h => ?_) (fun h => ?_)
      · refine aw_bipush C (tb_at ok_X7_film 17 rfl) kb_m2 ?_
        exact sw_iret C S rfl (tb_at ok_X7_film 18 rfl) h
      · refine aw_iload_n C (tb_at ok_X7_film 12 rfl) rfl ?_
        refine aw_if_lt C 34 (tb_at ok_X7_film 13 rfl) (by decide) h (fun h => ?_) (fun h => ?_)
        · refine aw_bipush C (tb_at ok_X7_film 17 rfl) kb_m2 ?_
          exact sw_iret C S rfl (tb_at ok_X7_film 18 rfl) h
        · refine aw_iload_n C (tb_at ok_X7_film 14 rfl) rfl ?_
          refine aw_bipush C (tb_at ok_X7_film 15 rfl) kb_40 ?_
          refine aw_icmp_le C 37 (tb_at ok_X7_film 16 rfl) (by decide) h (fun h => ?_) (fun h => ?_)
          · refine aw_aload_n C (tb_at ok_X7_film 19 rfl) rfl ?_
            refine aw_getR C (ob_0 hn) rfl (by decide) rfl p_0_8 fl_RX7_54 (tb_at ok_X7_film 20 rfl) ?_
            refine aw_iload_n C (tb_at ok_X7_film 21 rfl) rfl ?_
            refine sw_aald C 3 (ob_57 hn) (by decide) rfl (tb_at ok_X7_film 22 rfl) (fun z => qPA z) h (fun hi2 h => ?_)
            refine aw_astore C [some (.ref 0), some (.int a1), some (.int a2), some (.int a3), some (.ref (77 + 2 * ix a1)), none] (tb_at ok_X7_film 23 rfl) S.2.2.2.1 (by decide) rfl ?_
            refine aw_aload C (tb_at ok_X7_film 24 rfl) rfl ?_
            refine aw_iconst C (tb_at ok_X7_film 25 rfl) ki_0 ?_
            refine aw_iload_n C (tb_at ok_X7_film 26 rfl) rfl ?_
            refine sw_cVv C S [.int 0, .int a3] [] (tb_at ok_X7_film 27 rfl) h (fun q e => m_fS_become hn (qA hi2) e) mf_X4_become (sO hn (qA hi2)) rfl rfl cw_RX7_241 rfl (by decide) rfl (Nat.le_of_ble_eq_true rfl) (fun M3 h => ?_)
            refine aw_aload_n C (tb_at ok_X7_film 28 rfl) rfl ?_
            refine aw_getR C (ob_0 hn) rfl (by decide) rfl p_0_7 fl_RX7_48 (tb_at ok_X7_film 29 rfl) ?_
            refine aw_aload_n C (tb_at ok_X7_film 30 rfl) rfl ?_
            refine aw_getR C (ob_0 hn) rfl (by decide) rfl p_0_0 fl_RX7_10 (tb_at ok_X7_film 31 rfl) ?_
            refine sw_cVv C S [.ref 1] [] (tb_at ok_X7_film 32 rfl) h (fun q e => m_fD_start hn (by decide) e) mf_X0_start (ob_45 hn) rfl rfl cw_RX7_232 rfl (by decide) rfl (Nat.le_of_ble_eq_true rfl) (fun M4 h => ?_)
            refine aw_iconst C (tb_at ok_X7_film 33 rfl) ki_0 ?_
            refine aw_istore C [some (.ref 0), some (.int a1), some (.int a2), some (.int a3), some (.ref (77 + 2 * ix a1)), some (.int 0)] (tb_at ok_X7_film 34 rfl) S.2.2.2.1 (by decide) rfl ?_
            exact aw_loc [some (.ref 0), none, some (.int a2), some (.int a3), some (.ref (77 + 2 * ix a1)), some (.int 0)] (sl_k (sl_n (sl_k (sl_k (sl_k (sl_k sl_0)))))) (t_fN_film_b66 C S hn (qA hi2) 1000 _ _ h)
          · refine aw_bipush C (tb_at ok_X7_film 17 rfl) kb_m2 ?_
            exact sw_iret C S rfl (tb_at ok_X7_film 18 rfl) h
theorem m_fN_film {l : Launch} {w : Wd} {n : Nat} {a1 : Int32} {a2 : Int32} {a3 : Int32} {M : Mem} {r : Int32 × Mem} (hn : 85 ≤ n) (h : fN_film a1 a2 a3 M = some r) : CM l w yX7_film cX7_film 6 (some .int) 6 0 0 [.ref 0, .int a1, .int a2, .int a3] n M (PD M) (Ti n r) := sm_of (loc := [some (.ref 0), some (.int a1), some (.int a2), some (.int a3), none, none]) mf_X7_film (by decide) (Nat.le_of_ble_eq_true rfl) rfl (fun K _ _ C S => t_fN_film C S hn h)
def tb_X7_drawn : List (Nat × Instr × Nat) := [(0, .aload_n 0, 1), (1, .getfield 19, 3), (4, .aload_n 0, 1), (5, .getfield 10, 3), (8, .invokevirtual 199, 3), (11, .aload_n 0, 1), (12, .getfield 19, 3), (15, .iload_n 1, 1), (16, .invokevirtual 245, 3), (19, .aload_n 0, 1), (20, .getfield 48, 3), (23, .aload_n 0, 1), (24, .getfield 19, 3), (27, .bipush 100, 2), (29, .invokevirtual 176, 3), (32, .aload_n 0, 1), (33, .getfield 48, 3), (36, .invokevirtual 193, 3), (39, .ireturn, 1)]
theorem ok_X7_drawn : TB cX7_drawn tb_X7_drawn := (by decide +kernel : tb_X7_drawn.all (fun q => tbq cX7_drawn q) = true)
set_option maxHeartbeats 4000000 in
set_option maxRecDepth 20000 in
theorem t_fN_drawn {K : Cx} {n : Nat} {a1 : Int32} {M : Mem} {r : Int32 × Mem} (C : Ctx K RX7 cX7_drawn) (S : SS K n 7 2 (some .int) (Ti n r)) (hn : 85 ≤ n) (h : fN_drawn a1 M = some r) : AS K n M 0 [some (.ref 0), some (.int a1)] [] := by
  refine aw_aload_n C (tb_at ok_X7_drawn 0 rfl) rfl ?_
  refine aw_getR C (ob_0 hn) rfl (by decide) rfl p_0_2 fl_RX7_19 (tb_at ok_X7_drawn 1 rfl) ?_
  refine aw_aload_n C (tb_at ok_X7_drawn 2 rfl) rfl ?_
  refine aw_getR C (ob_0 hn) rfl (by decide) rfl p_0_0 fl_RX7_10 (tb_at ok_X7_drawn 3 rfl) ?_
  refine sw_cVv C S [.ref 1] [] (tb_at ok_X7_drawn 4 rfl) h (fun q e => m_fH_become hn (by decide) (by decide) e) mf_X1_become (ob_27 hn) rfl rfl cw_RX7_199 rfl (by decide) rfl (Nat.le_of_ble_eq_true rfl) (fun M1 h => ?_)
  refine aw_aload_n C (tb_at ok_X7_drawn 5 rfl) rfl ?_
  refine aw_getR C (ob_0 hn) rfl (by decide) rfl p_0_2 fl_RX7_19 (tb_at ok_X7_drawn 6 rfl) ?_
  refine aw_iload_n C (tb_at ok_X7_drawn 7 rfl) rfl ?_
  refine sw_cVv C S [.int a1] [] (tb_at ok_X7_drawn 8 rfl) h (fun q e => m_fH_draw hn (by decide) e) mf_X1_draw (ob_27 hn) rfl rfl cw_RX7_245 rfl (by decide) rfl (Nat.le_of_ble_eq_true rfl) (fun M2 h => ?_)
  refine aw_aload_n C (tb_at ok_X7_drawn 9 rfl) rfl ?_
  refine aw_getR C (ob_0 hn) rfl (by decide) rfl p_0_7 fl_RX7_48 (tb_at ok_X7_drawn 10 rfl) ?_
  refine aw_aload_n C (tb_at ok_X7_drawn 11 rfl) rfl ?_
  refine aw_getR C (ob_0 hn) rfl (by decide) rfl p_0_2 fl_RX7_19 (tb_at ok_X7_drawn 12 rfl) ?_
  refine aw_bipush C (tb_at ok_X7_drawn 13 rfl) kb_100 ?_
  refine sw_cVv C S [.ref 27, .int 100] [] (tb_at ok_X7_drawn 14 rfl) h (fun q e => m_fD_run hn (by decide) e) mf_X0_run (ob_45 hn) rfl rfl cw_RX7_176 rfl (by decide) rfl (Nat.le_of_ble_eq_true rfl) (fun M3 h => ?_)
  refine aw_aload_n C (tb_at ok_X7_drawn 15 rfl) rfl ?_
  refine aw_getR C (ob_0 hn) rfl (by decide) rfl p_0_7 fl_RX7_48 (tb_at ok_X7_drawn 16 rfl) ?_
  refine sw_cVi C S [] [] (tb_at ok_X7_drawn 17 rfl) h (fun q e => m_fD_dear hn e) mf_X0_dear (ob_45 hn) rfl rfl cw_RX7_193 rfl (by decide) rfl (Nat.le_of_ble_eq_true rfl) (fun r4 M4 h => ?_)
  exact sw_iret C S rfl (tb_at ok_X7_drawn 18 rfl) h
theorem m_fN_drawn {l : Launch} {w : Wd} {n : Nat} {a1 : Int32} {M : Mem} {r : Int32 × Mem} (hn : 85 ≤ n) (h : fN_drawn a1 M = some r) : CM l w yX7_drawn cX7_drawn 2 (some .int) 7 0 0 [.ref 0, .int a1] n M (PD M) (Ti n r) := sm_of (loc := [some (.ref 0), some (.int a1)]) mf_X7_drawn (by decide) (Nat.le_of_ble_eq_true rfl) rfl (fun K _ _ C S => t_fN_drawn C S hn h)
def tb_X7_inLowestTerms : List (Nat × Instr × Nat) := [(0, .iload_n 1, 1), (1, .istore_n 3, 1), (2, .iload_n 3, 1), (3, .iconst 1, 1), (4, .if_icmp .le 33, 3), (7, .iload_n 0, 1), (8, .iload_n 3, 1), (9, .irem, 1), (10, .ifCond .ne 21, 3), (13, .iload_n 1, 1), (14, .iload_n 3, 1), (15, .irem, 1), (16, .ifCond .ne 15, 3), (19, .iload_n 2, 1), (20, .ifCond .ne 7, 3), (23, .iload_n 0, 1), (24, .goto 4, 3), (27, .iload_n 1, 1), (28, .iload_n 3, 1), (29, .idiv, 1), (30, .ireturn, 1), (31, .iinc 3 (-1), 3), (34, .goto (-32), 3), (37, .iload_n 2, 1), (38, .ifCond .ne 7, 3), (41, .iload_n 0, 1), (42, .goto 4, 3), (45, .iload_n 1, 1), (46, .ireturn, 1)]
theorem ok_X7_inLowestTerms : TB cX7_inLowestTerms tb_X7_inLowestTerms := (by decide +kernel : tb_X7_inLowestTerms.all (fun q => tbq cX7_inLowestTerms q) = true)
set_option maxHeartbeats 4000000 in
set_option maxRecDepth 20000 in
theorem t_fN_inLowestTerms_b28 {K : Cx} {n : Nat} {a3 : Int32} {s0 : Int32} {M : Mem} {r : Int32 × Mem} (C : Ctx K RX7 cX7_inLowestTerms) (S : SS K n 1 4 (some .int) (Ti n r)) (hn : 85 ≤ n) (h : fN_inLowestTerms_b28 a3 s0 M = some r) : AS K n M 28 [none, none, none, some (.int a3)] [.int s0] := by
  refine aw_iload_n C (tb_at ok_X7_inLowestTerms 18 rfl) rfl ?_
  refine sw_idiv C (tb_at ok_X7_inLowestTerms 19 rfl) h (fun h => ?_)
  exact sw_iret C S rfl (tb_at ok_X7_inLowestTerms 20 rfl) h
set_option maxHeartbeats 4000000 in
set_option maxRecDepth 20000 in
theorem t_fN_inLowestTerms_b31 {K : Cx} {n : Nat} {k2 : Int32 → Mem → Option (Int32 × Mem)} {a0 : Int32} {a1 : Int32} {a2 : Int32} {a3 : Int32} {M : Mem} {r : Int32 × Mem} (C : Ctx K RX7 cX7_inLowestTerms) (S : SS K n 1 4 (some .int) (Ti n r)) (hn : 85 ≤ n) (hk2 : ∀ (va3 : Int32) (M1 : Mem), k2 va3 M1 = some r → AS K n M1 2 [some (.int a0), some (.int a1), some (.int a2), some (.int va3)] []) (h : fN_inLowestTerms_b31 k2 a0 a1 a2 a3 M = some r) : AS K n M 31 [some (.int a0), some (.int a1), some (.int a2), some (.int a3)] [] := by
  refine aw_iinc C [some (.int a0), some (.int a1), some (.int a2), some (.int (a3 + (-1)))] (tb_at ok_X7_inLowestTerms 21 rfl) rfl S.2.2.2.1 (by decide) ki_m1 rfl ?_
  refine aw_goto C 2 (tb_at ok_X7_inLowestTerms 22 rfl) (by decide) ?_
  exact aw_loc [some (.int a0), some (.int a1), some (.int a2), some (.int (a3 + (-1)))] (sl_k (sl_k (sl_k (sl_k sl_0)))) (hk2 _ _ h)
set_option maxHeartbeats 4000000 in
set_option maxRecDepth 20000 in
theorem t_fN_inLowestTerms_b2 {K : Cx} {n : Nat} {a0 : Int32} {a1 : Int32} {a2 : Int32} {r : Int32 × Mem} (C : Ctx K RX7 cX7_inLowestTerms) (S : SS K n 1 4 (some .int) (Ti n r)) (hn : 85 ≤ n) : ∀ (z : Nat) (a3 : Int32) (M : Mem), fN_inLowestTerms_b2 a0 a1 a2 z a3 M = some r → AS K n M 2 [some (.int a0), some (.int a1), some (.int a2), some (.int a3)] [] := by
  intro z
  induction z with
  | zero => intro a3 M h; cases h
  | succ z ih =>
    intro a3 M h
    refine aw_iload_n C (tb_at ok_X7_inLowestTerms 2 rfl) rfl ?_
    refine aw_iconst C (tb_at ok_X7_inLowestTerms 3 rfl) ki_1 ?_
    refine aw_icmp_le C 37 (tb_at ok_X7_inLowestTerms 4 rfl) (by decide) h (fun h => ?_) (fun h => ?_)
    · refine aw_iload_n C (tb_at ok_X7_inLowestTerms 23 rfl) rfl ?_
      refine aw_if_ne C 45 (tb_at ok_X7_inLowestTerms 24 rfl) (by decide) h (fun h => ?_) (fun h => ?_)
      · refine aw_iload_n C (tb_at ok_X7_inLowestTerms 25 rfl) rfl ?_
        refine aw_goto C 46 (tb_at ok_X7_inLowestTerms 26 rfl) (by decide) ?_
        exact sw_iret C S rfl (tb_at ok_X7_inLowestTerms 28 rfl) h
      · refine aw_iload_n C (tb_at ok_X7_inLowestTerms 27 rfl) rfl ?_
        exact sw_iret C S rfl (tb_at ok_X7_inLowestTerms 28 rfl) h
    · refine aw_iload_n C (tb_at ok_X7_inLowestTerms 5 rfl) rfl ?_
      refine aw_iload_n C (tb_at ok_X7_inLowestTerms 6 rfl) rfl ?_
      refine sw_irem C (tb_at ok_X7_inLowestTerms 7 rfl) h (fun h => ?_)
      refine aw_if_ne C 31 (tb_at ok_X7_inLowestTerms 8 rfl) (by decide) h (fun h => ?_) (fun h => ?_)
      · refine aw_iload_n C (tb_at ok_X7_inLowestTerms 9 rfl) rfl ?_
        refine aw_iload_n C (tb_at ok_X7_inLowestTerms 10 rfl) rfl ?_
        refine sw_irem C (tb_at ok_X7_inLowestTerms 11 rfl) h (fun h => ?_)
        refine aw_if_ne C 31 (tb_at ok_X7_inLowestTerms 12 rfl) (by decide) h (fun h => ?_) (fun h => ?_)
        · refine aw_iload_n C (tb_at ok_X7_inLowestTerms 13 rfl) rfl ?_
          refine aw_if_ne C 27 (tb_at ok_X7_inLowestTerms 14 rfl) (by decide) h (fun h => ?_) (fun h => ?_)
          · refine aw_iload_n C (tb_at ok_X7_inLowestTerms 15 rfl) rfl ?_
            refine aw_goto C 28 (tb_at ok_X7_inLowestTerms 16 rfl) (by decide) ?_
            exact aw_loc [none, none, none, some (.int a3)] (sl_n (sl_n (sl_n (sl_k sl_0)))) (t_fN_inLowestTerms_b28 C S hn h)
          · refine aw_iload_n C (tb_at ok_X7_inLowestTerms 17 rfl) rfl ?_
            exact aw_loc [none, none, none, some (.int a3)] (sl_n (sl_n (sl_n (sl_k sl_0)))) (t_fN_inLowestTerms_b28 C S hn h)
        · exact aw_loc [some (.int a0), some (.int a1), some (.int a2), some (.int a3)] (sl_k (sl_k (sl_k (sl_k sl_0)))) (t_fN_inLowestTerms_b31 C S hn ih h)
      · exact aw_loc [some (.int a0), some (.int a1), some (.int a2), some (.int a3)] (sl_k (sl_k (sl_k (sl_k sl_0)))) (t_fN_inLowestTerms_b31 C S hn ih h)
set_option maxHeartbeats 4000000 in
set_option maxRecDepth 20000 in
theorem t_fN_inLowestTerms {K : Cx} {n : Nat} {a0 : Int32} {a1 : Int32} {a2 : Int32} {M : Mem} {r : Int32 × Mem} (C : Ctx K RX7 cX7_inLowestTerms) (S : SS K n 1 4 (some .int) (Ti n r)) (hn : 85 ≤ n) (h : fN_inLowestTerms a0 a1 a2 M = some r) : AS K n M 0 [some (.int a0), some (.int a1), some (.int a2), none] [] := by
  refine aw_iload_n C (tb_at ok_X7_inLowestTerms 0 rfl) rfl ?_
  refine aw_istore_n C [some (.int a0), some (.int a1), some (.int a2), some (.int a1)] (tb_at ok_X7_inLowestTerms 1 rfl) S.2.2.2.1 (by decide) rfl ?_
  exact aw_loc [some (.int a0), some (.int a1), some (.int a2), some (.int a1)] (sl_k (sl_k (sl_k (sl_k sl_0)))) (t_fN_inLowestTerms_b2 C S hn 1000 _ _ h)
theorem m_fN_inLowestTerms {l : Launch} {w : Wd} {n : Nat} {a0 : Int32} {a1 : Int32} {a2 : Int32} {M : Mem} {r : Int32 × Mem} (hn : 85 ≤ n) (h : fN_inLowestTerms a0 a1 a2 M = some r) : CM l w yX7_inLowestTerms cX7_inLowestTerms 4 (some .int) 1 0 0 [.int a0, .int a1, .int a2] n M (PD M) (Ti n r) := sm_of (loc := [some (.int a0), some (.int a1), some (.int a2), none]) mf_X7_inLowestTerms (by decide) (Nat.le_of_ble_eq_true rfl) rfl (fun K _ _ C S => t_fN_inLowestTerms C S hn h)
def tb_X7_chance : List (Nat × Instr × Nat) := [(0, .iload_n 2, 1), (1, .iconst 1, 1), (2, .if_icmp .lt 17, 3), (5, .iload_n 2, 1), (6, .bipush 20, 2), (8, .if_icmp .gt 11, 3), (11, .iload_n 3, 1), (12, .iconst 2, 1), (13, .invokestatic 87, 3), (16, .ifCond .ne 7, 3), (19, .ldc2_w 248, 3), (22, .lreturn, 1), (23, .iconst 0, 1), (24, .istore 4, 2), (26, .aload_n 0, 1), (27, .getfield 19, 3), (30, .aload_n 0, 1), (31, .getfield 10, 3), (34, .invokevirtual 199, 3), (37, .iconst 0, 1), (38, .istore 5, 2), (40, .iload 5, 2), (42, .iload_n 2, 1), (43, .if_icmp .ge 46, 3), (46, .aload_n 0, 1), (47, .getfield 19, 3), (50, .iload_n 1, 1), (51, .iload 5, 2), (53, .iadd, 1), (54, .invokevirtual 245, 3), (57, .aload_n 0, 1), (58, .getfield 48, 3), (61, .aload_n 0, 1), (62, .getfield 19, 3), (65, .bipush 100, 2), (67, .invokevirtual 176, 3), (70, .aload_n 0, 1), (71, .getfield 48, 3), (74, .invokevirtual 250, 3), (77, .ifCond .ne 6, 3), (80, .iinc 4 1, 3), (83, .iinc 5 1, 3), (86, .goto (-46), 3), (89, .iload 4, 2), (91, .iload_n 2, 1), (92, .iload_n 3, 1), (93, .invokestatic 253, 3), (96, .i2l, 1), (97, .lreturn, 1)]
theorem ok_X7_chance : TB cX7_chance tb_X7_chance := (by decide +kernel : tb_X7_chance.all (fun q => tbq cX7_chance q) = true)
set_option maxHeartbeats 4000000 in
set_option maxRecDepth 20000 in
theorem t_fN_chance_b19 {K : Cx} {n : Nat} {M : Mem} {r : Int64 × Mem} (C : Ctx K RX7 cX7_chance) (S : SS K n 7 6 (some .long) (Tl n r)) (hn : 85 ≤ n) (h : fN_chance_b19 M = some r) : AS K n M 19 [none, none, none, none, none, none] [] := by
  refine aw_ldc2 C kc_RX7_248 (tb_at ok_X7_chance 10 rfl) ?_
  exact sw_lret C S (tb_at ok_X7_chance 11 rfl) h
set_option maxHeartbeats 4000000 in
set_option maxRecDepth 20000 in
theorem t_fN_chance_b83 {K : Cx} {n : Nat} {k40 : Int32 → Int32 → Mem → Option (Int64 × Mem)} {a1 : Int32} {a2 : Int32} {a3 : Int32} {a4 : Int32} {a5 : Int32} {M : Mem} {r : Int64 × Mem} (C : Ctx K RX7 cX7_chance) (S : SS K n 7 6 (some .long) (Tl n r)) (hn : 85 ≤ n) (hk40 : ∀ (va4 : Int32) (va5 : Int32) (M1 : Mem), k40 va4 va5 M1 = some r → AS K n M1 40 [some (.ref 0), some (.int a1), some (.int a2), some (.int a3), some (.int va4), some (.int va5)] []) (h : fN_chance_b83 k40 a1 a2 a3 a4 a5 M = some r) : AS K n M 83 [some (.ref 0), some (.int a1), some (.int a2), some (.int a3), some (.int a4), some (.int a5)] [] := by
  refine aw_iinc C [some (.ref 0), some (.int a1), some (.int a2), some (.int a3), some (.int a4), some (.int (a5 + 1))] (tb_at ok_X7_chance 41 rfl) rfl S.2.2.2.1 (by decide) ki_1 rfl ?_
  refine aw_goto C 40 (tb_at ok_X7_chance 42 rfl) (by decide) ?_
  exact aw_loc [some (.ref 0), some (.int a1), some (.int a2), some (.int a3), some (.int a4), some (.int (a5 + 1))] (sl_k (sl_k (sl_k (sl_k (sl_k (sl_k sl_0)))))) (hk40 _ _ _ h)
set_option maxHeartbeats 4000000 in
set_option maxRecDepth 20000 in
theorem t_fN_chance_b40 {K : Cx} {n : Nat} {a1 : Int32} {a2 : Int32} {a3 : Int32} {r : Int64 × Mem} (C : Ctx K RX7 cX7_chance) (S : SS K n 7 6 (some .long) (Tl n r)) (hn : 85 ≤ n) : ∀ (z : Nat) (a4 : Int32) (a5 : Int32) (M : Mem), fN_chance_b40 a1 a2 a3 z a4 a5 M = some r → AS K n M 40 [some (.ref 0), some (.int a1), some (.int a2), some (.int a3), some (.int a4), some (.int a5)] [] := by
  intro z
  induction z with
  | zero => intro a4 a5 M h; cases h
  | succ z ih =>
    intro a4 a5 M h
    refine aw_iload C (tb_at ok_X7_chance 21 rfl) rfl ?_
    refine aw_iload_n C (tb_at ok_X7_chance 22 rfl) rfl ?_
    refine aw_icmp_ge C 89 (tb_at ok_X7_chance 23 rfl) (by decide) h (fun h => ?_) (fun h => ?_)
    · refine aw_iload C (tb_at ok_X7_chance 43 rfl) rfl ?_
      refine aw_iload_n C (tb_at ok_X7_chance 44 rfl) rfl ?_
      refine aw_iload_n C (tb_at ok_X7_chance 45 rfl) rfl ?_
      refine sw_cSi C S [.int a4, .int a2, .int a3] [] (tb_at ok_X7_chance 46 rfl) h (fun q e => m_fN_inLowestTerms hn e) mf_X7_inLowestTerms cw_RX7_253 rfl (by decide) rfl (Nat.le_of_ble_eq_true rfl) (fun r3 M3 h => ?_)
      refine aw_i2l C (tb_at ok_X7_chance 47 rfl) ?_
      exact sw_lret C S (tb_at ok_X7_chance 48 rfl) h
    · refine aw_aload_n C (tb_at ok_X7_chance 24 rfl) rfl ?_
      refine aw_getR C (ob_0 hn) rfl (by decide) rfl p_0_2 fl_RX7_19 (tb_at ok_X7_chance 25 rfl) ?_
      refine aw_iload_n C (tb_at ok_X7_chance 26 rfl) rfl ?_
      refine aw_iload C (tb_at ok_X7_chance 27 rfl) rfl ?_
      refine aw_iadd C (tb_at ok_X7_chance 28 rfl) ?_
      refine sw_cVv C S [.int (a1 + a5)] [] (tb_at ok_X7_chance 29 rfl) h (fun q e => m_fH_draw hn (by decide) e) mf_X1_draw (ob_27 hn) rfl rfl cw_RX7_245 rfl (by decide) rfl (Nat.le_of_ble_eq_true rfl) (fun M4 h => ?_)
      refine aw_aload_n C (tb_at ok_X7_chance 30 rfl) rfl ?_
      refine aw_getR C (ob_0 hn) rfl (by decide) rfl p_0_7 fl_RX7_48 (tb_at ok_X7_chance 31 rfl) ?_
      refine aw_aload_n C (tb_at ok_X7_chance 32 rfl) rfl ?_
      refine aw_getR C (ob_0 hn) rfl (by decide) rfl p_0_2 fl_RX7_19 (tb_at ok_X7_chance 33 rfl) ?_
      refine aw_bipush C (tb_at ok_X7_chance 34 rfl) kb_100 ?_
      refine sw_cVv C S [.ref 27, .int 100] [] (tb_at ok_X7_chance 35 rfl) h (fun q e => m_fD_run hn (by decide) e) mf_X0_run (ob_45 hn) rfl rfl cw_RX7_176 rfl (by decide) rfl (Nat.le_of_ble_eq_true rfl) (fun M5 h => ?_)
      refine aw_aload_n C (tb_at ok_X7_chance 36 rfl) rfl ?_
      refine aw_getR C (ob_0 hn) rfl (by decide) rfl p_0_7 fl_RX7_48 (tb_at ok_X7_chance 37 rfl) ?_
      refine sw_cVi C S [] [] (tb_at ok_X7_chance 38 rfl) h (fun q e => m_fD_isAnySeen hn e) mf_X0_isAnySeen (ob_45 hn) rfl rfl cw_RX7_250 rfl (by decide) rfl (Nat.le_of_ble_eq_true rfl) (fun r6 M6 h => ?_)
      refine aw_if_ne C 83 (tb_at ok_X7_chance 39 rfl) (by decide) h (fun h => ?_) (fun h => ?_)
      · refine aw_iinc C [some (.ref 0), some (.int a1), some (.int a2), some (.int a3), some (.int (a4 + 1)), some (.int a5)] (tb_at ok_X7_chance 40 rfl) rfl S.2.2.2.1 (by decide) ki_1 rfl ?_
        exact aw_loc [some (.ref 0), some (.int a1), some (.int a2), some (.int a3), some (.int (a4 + 1)), some (.int a5)] (sl_k (sl_k (sl_k (sl_k (sl_k (sl_k sl_0)))))) (t_fN_chance_b83 C S hn ih h)
      · exact aw_loc [some (.ref 0), some (.int a1), some (.int a2), some (.int a3), some (.int a4), some (.int a5)] (sl_k (sl_k (sl_k (sl_k (sl_k (sl_k sl_0)))))) (t_fN_chance_b83 C S hn ih h)
set_option maxHeartbeats 4000000 in
set_option maxRecDepth 20000 in
theorem t_fN_chance {K : Cx} {n : Nat} {a1 : Int32} {a2 : Int32} {a3 : Int32} {M : Mem} {r : Int64 × Mem} (C : Ctx K RX7 cX7_chance) (S : SS K n 7 6 (some .long) (Tl n r)) (hn : 85 ≤ n) (h : fN_chance a1 a2 a3 M = some r) : AS K n M 0 [some (.ref 0), some (.int a1), some (.int a2), some (.int a3), none, none] [] := by
  refine aw_iload_n C (tb_at ok_X7_chance 0 rfl) rfl ?_
  refine aw_iconst C (tb_at ok_X7_chance 1 rfl) ki_1 ?_
  refine aw_icmp_lt C 19 (tb_at ok_X7_chance 2 rfl) (by decide) h (fun h => ?_) (fun h => ?_)
  · exact aw_loc [none, none, none, none, none, none] (sl_n (sl_n (sl_n (sl_n (sl_n (sl_n sl_0)))))) (t_fN_chance_b19 C S hn h)
  · refine aw_iload_n C (tb_at ok_X7_chance 3 rfl) rfl ?_
    refine aw_bipush C (tb_at ok_X7_chance 4 rfl) kb_20 ?_
    refine aw_icmp_gt C 19 (tb_at ok_X7_chance 5 rfl) (by decide) h (fun h => ?_) (fun h => ?_)
    · exact aw_loc [none, none, none, none, none, none] (sl_n (sl_n (sl_n (sl_n (sl_n (sl_n sl_0)))))) (t_fN_chance_b19 C S hn h)
    · refine aw_iload_n C (tb_at ok_X7_chance 6 rfl) rfl ?_
      refine aw_iconst C (tb_at ok_X7_chance 7 rfl) ki_2 ?_
      refine sw_cSi C S [.int a3, .int 2] [] (tb_at ok_X7_chance 8 rfl) h (fun q e => m_fN_within hn e) mf_X7_within cw_RX7_87 rfl (by decide) rfl (Nat.le_of_ble_eq_true rfl) (fun r1 M1 h => ?_)
      refine aw_if_ne C 23 (tb_at ok_X7_chance 9 rfl) (by decide) h (fun h => ?_) (fun h => ?_)
      · exact aw_loc [none, none, none, none, none, none] (sl_n (sl_n (sl_n (sl_n (sl_n (sl_n sl_0)))))) (t_fN_chance_b19 C S hn h)
      · refine aw_iconst C (tb_at ok_X7_chance 12 rfl) ki_0 ?_
        refine aw_istore C [some (.ref 0), some (.int a1), some (.int a2), some (.int a3), some (.int 0), none] (tb_at ok_X7_chance 13 rfl) S.2.2.2.1 (by decide) rfl ?_
        refine aw_aload_n C (tb_at ok_X7_chance 14 rfl) rfl ?_
        refine aw_getR C (ob_0 hn) rfl (by decide) rfl p_0_2 fl_RX7_19 (tb_at ok_X7_chance 15 rfl) ?_
        refine aw_aload_n C (tb_at ok_X7_chance 16 rfl) rfl ?_
        refine aw_getR C (ob_0 hn) rfl (by decide) rfl p_0_0 fl_RX7_10 (tb_at ok_X7_chance 17 rfl) ?_
        refine sw_cVv C S [.ref 1] [] (tb_at ok_X7_chance 18 rfl) h (fun q e => m_fH_become hn (by decide) (by decide) e) mf_X1_become (ob_27 hn) rfl rfl cw_RX7_199 rfl (by decide) rfl (Nat.le_of_ble_eq_true rfl) (fun M2 h => ?_)
        refine aw_iconst C (tb_at ok_X7_chance 19 rfl) ki_0 ?_
        refine aw_istore C [some (.ref 0), some (.int a1), some (.int a2), some (.int a3), some (.int 0), some (.int 0)] (tb_at ok_X7_chance 20 rfl) S.2.2.2.1 (by decide) rfl ?_
        exact aw_loc [some (.ref 0), some (.int a1), some (.int a2), some (.int a3), some (.int 0), some (.int 0)] (sl_k (sl_k (sl_k (sl_k (sl_k (sl_k sl_0)))))) (t_fN_chance_b40 C S hn 1000 _ _ _ h)
theorem m_fN_chance {l : Launch} {w : Wd} {n : Nat} {a1 : Int32} {a2 : Int32} {a3 : Int32} {M : Mem} {r : Int64 × Mem} (hn : 85 ≤ n) (h : fN_chance a1 a2 a3 M = some r) : CM l w yX7_chance cX7_chance 6 (some .long) 7 0 0 [.ref 0, .int a1, .int a2, .int a3] n M (PD M) (Tl n r) := sm_of (loc := [some (.ref 0), some (.int a1), some (.int a2), some (.int a3), none, none]) mf_X7_chance (by decide) (Nat.le_of_ble_eq_true rfl) rfl (fun K _ _ C S => t_fN_chance C S hn h)
def tb_X7_image : List (Nat × Instr × Nat) := [(0, .aload_n 0, 1), (1, .getfield 16, 3), (4, .aload_n 0, 1), (5, .getfield 10, 3), (8, .invokevirtual 199, 3), (11, .aload_n 0, 1), (12, .iconst 1, 1), (13, .putfield 22, 3), (16, .aload_n 0, 1), (17, .getfield 16, 3), (20, .getfield 111, 3), (23, .ireturn, 1)]
theorem ok_X7_image : TB cX7_image tb_X7_image := (by decide +kernel : tb_X7_image.all (fun q => tbq cX7_image q) = true)
set_option maxHeartbeats 4000000 in
set_option maxRecDepth 20000 in
theorem t_fN_image {K : Cx} {n : Nat} {M : Mem} {r : Int32 × Mem} (C : Ctx K RX7 cX7_image) (S : SS K n 3 1 (some .int) (Ti n r)) (hn : 85 ≤ n) (h : fN_image M = some r) : AS K n M 0 [some (.ref 0)] [] := by
  refine aw_aload_n C (tb_at ok_X7_image 0 rfl) rfl ?_
  refine aw_getR C (ob_0 hn) rfl (by decide) rfl p_0_1 fl_RX7_16 (tb_at ok_X7_image 1 rfl) ?_
  refine aw_aload_n C (tb_at ok_X7_image 2 rfl) rfl ?_
  refine aw_getR C (ob_0 hn) rfl (by decide) rfl p_0_0 fl_RX7_10 (tb_at ok_X7_image 3 rfl) ?_
  refine sw_cVv C S [.ref 1] [] (tb_at ok_X7_image 4 rfl) h (fun q e => m_fH_become hn (by decide) (by decide) e) mf_X1_become (ob_14 hn) rfl rfl cw_RX7_199 rfl (by decide) rfl (Nat.le_of_ble_eq_true rfl) (fun M1 h => ?_)
  refine aw_aload_n C (tb_at ok_X7_image 5 rfl) rfl ?_
  refine aw_iconst C (tb_at ok_X7_image 6 rfl) ki_1 ?_
  refine sw_put C (ob_0 hn) rfl (by decide) (by decide) (Or.inr (by decide)) rfl rfl rfl rfl fl_RX7_22 (tb_at ok_X7_image 7 rfl) ?_
  refine aw_aload_n C (tb_at ok_X7_image 8 rfl) rfl ?_
  refine aw_getR C (ob_0 hn) rfl (by decide) rfl p_0_1 fl_RX7_16 (tb_at ok_X7_image 9 rfl) ?_
  refine aw_get C (ob_14 hn) rfl (by decide) rfl fl_RX7_111 (tb_at ok_X7_image 10 rfl) ?_
  exact sw_iret C S rfl (tb_at ok_X7_image 11 rfl) h
theorem m_fN_image {l : Launch} {w : Wd} {n : Nat} {M : Mem} {r : Int32 × Mem} (hn : 85 ≤ n) (h : fN_image M = some r) : CM l w yX7_image cX7_image 1 (some .int) 3 0 0 [.ref 0] n M (PD M) (Ti n r) := sm_of (loc := [some (.ref 0)]) mf_X7_image (by decide) (Nat.le_of_ble_eq_true rfl) rfl (fun K _ _ C S => t_fN_image C S hn h)
def tb_X7_back : List (Nat × Instr × Nat) := [(0, .aload_n 0, 1), (1, .getfield 22, 3), (4, .ifCond .ne 6, 3), (7, .bipush (-3), 2), (9, .ireturn, 1), (10, .aload_n 0, 1), (11, .getfield 10, 3), (14, .aload_n 0, 1), (15, .getfield 16, 3), (18, .invokevirtual 199, 3), (21, .aload_n 0, 1), (22, .getfield 10, 3), (25, .getfield 111, 3), (28, .ireturn, 1)]
theorem ok_X7_back : TB cX7_back tb_X7_back := (by decide +kernel : tb_X7_back.all (fun q => tbq cX7_back q) = true)
set_option maxHeartbeats 4000000 in
set_option maxRecDepth 20000 in
theorem t_fN_back {K : Cx} {n : Nat} {M : Mem} {r : Int32 × Mem} (C : Ctx K RX7 cX7_back) (S : SS K n 3 1 (some .int) (Ti n r)) (hn : 85 ≤ n) (h : fN_back M = some r) : AS K n M 0 [some (.ref 0)] [] := by
  refine aw_aload_n C (tb_at ok_X7_back 0 rfl) rfl ?_
  refine aw_get C (ob_0 hn) rfl (by decide) rfl fl_RX7_22 (tb_at ok_X7_back 1 rfl) ?_
  refine aw_if_ne C 10 (tb_at ok_X7_back 2 rfl) (by decide) h (fun h => ?_) (fun h => ?_)
  · refine aw_bipush C (tb_at ok_X7_back 3 rfl) kb_m3 ?_
    exact sw_iret C S rfl (tb_at ok_X7_back 4 rfl) h
  · refine aw_aload_n C (tb_at ok_X7_back 5 rfl) rfl ?_
    refine aw_getR C (ob_0 hn) rfl (by decide) rfl p_0_0 fl_RX7_10 (tb_at ok_X7_back 6 rfl) ?_
    refine aw_aload_n C (tb_at ok_X7_back 7 rfl) rfl ?_
    refine aw_getR C (ob_0 hn) rfl (by decide) rfl p_0_1 fl_RX7_16 (tb_at ok_X7_back 8 rfl) ?_
    refine sw_cVv C S [.ref 14] [] (tb_at ok_X7_back 9 rfl) h (fun q e => m_fH_become hn (by decide) (by decide) e) mf_X1_become (ob_1 hn) rfl rfl cw_RX7_199 rfl (by decide) rfl (Nat.le_of_ble_eq_true rfl) (fun M1 h => ?_)
    refine aw_aload_n C (tb_at ok_X7_back 10 rfl) rfl ?_
    refine aw_getR C (ob_0 hn) rfl (by decide) rfl p_0_0 fl_RX7_10 (tb_at ok_X7_back 11 rfl) ?_
    refine aw_get C (ob_1 hn) rfl (by decide) rfl fl_RX7_111 (tb_at ok_X7_back 12 rfl) ?_
    exact sw_iret C S rfl (tb_at ok_X7_back 13 rfl) h
theorem m_fN_back {l : Launch} {w : Wd} {n : Nat} {M : Mem} {r : Int32 × Mem} (hn : 85 ≤ n) (h : fN_back M = some r) : CM l w yX7_back cX7_back 1 (some .int) 3 0 0 [.ref 0] n M (PD M) (Ti n r) := sm_of (loc := [some (.ref 0)]) mf_X7_back (by decide) (Nat.le_of_ble_eq_true rfl) rfl (fun K _ _ C S => t_fN_back C S hn h)
def tb_X7_count : List (Nat × Instr × Nat) := [(0, .iload_n 1, 1), (1, .tableswitch 99 0 6 #[43, 51, 59, 67, 72, 80, 88], 43), (44, .aload_n 0, 1), (45, .getfield 10, 3), (48, .getfield 111, 3), (51, .ireturn, 1), (52, .aload_n 0, 1), (53, .getfield 10, 3), (56, .getfield 102, 3), (59, .ireturn, 1), (60, .aload_n 0, 1), (61, .getfield 10, 3), (64, .getfield 129, 3), (67, .ireturn, 1), (68, .aload_n 0, 1), (69, .getfield 39, 3), (72, .ireturn, 1), (73, .aload_n 0, 1), (74, .getfield 29, 3), (77, .getfield 161, 3), (80, .ireturn, 1), (81, .aload_n 0, 1), (82, .getfield 10, 3), (85, .getfield 164, 3), (88, .ireturn, 1), (89, .aload_n 0, 1), (90, .getfield 10, 3), (93, .getfield 132, 3), (96, .invokestatic 256, 3), (99, .ireturn, 1), (100, .bipush (-2), 2), (102, .ireturn, 1)]
theorem ok_X7_count : TB cX7_count tb_X7_count := (by decide +kernel : tb_X7_count.all (fun q => tbq cX7_count q) = true)
set_option maxHeartbeats 4000000 in
set_option maxRecDepth 20000 in
theorem t_fN_count {K : Cx} {n : Nat} {a1 : Int32} {M : Mem} {r : Int32 × Mem} (C : Ctx K RX7 cX7_count) (S : SS K n 2 2 (some .int) (Ti n r)) (hn : 85 ≤ n) (h : fN_count a1 M = some r) : AS K n M 0 [some (.ref 0), some (.int a1)] [] := by
  refine aw_iload_n C (tb_at ok_X7_count 0 rfl) rfl ?_
  by_cases c1 : a1 = 0
  · refine aw_tsIn C 43 44 (tb_at ok_X7_count 1 rfl) (by rw [c1]; decide) (by rw [c1]; decide) (by rw [c1]; rfl) (by decide) ?_
    have h := (if_pos c1).symm.trans h
    refine aw_aload_n C (tb_at ok_X7_count 2 rfl) rfl ?_
    refine aw_getR C (ob_0 hn) rfl (by decide) rfl p_0_0 fl_RX7_10 (tb_at ok_X7_count 3 rfl) ?_
    refine aw_get C (ob_1 hn) rfl (by decide) rfl fl_RX7_111 (tb_at ok_X7_count 4 rfl) ?_
    exact sw_iret C S rfl (tb_at ok_X7_count 5 rfl) h
  have h := (if_neg c1).symm.trans h
  by_cases c2 : a1 = 1
  · refine aw_tsIn C 51 52 (tb_at ok_X7_count 1 rfl) (by rw [c2]; decide) (by rw [c2]; decide) (by rw [c2]; rfl) (by decide) ?_
    have h := (if_pos c2).symm.trans h
    refine aw_aload_n C (tb_at ok_X7_count 6 rfl) rfl ?_
    refine aw_getR C (ob_0 hn) rfl (by decide) rfl p_0_0 fl_RX7_10 (tb_at ok_X7_count 7 rfl) ?_
    refine aw_get C (ob_1 hn) rfl (by decide) rfl fl_RX7_102 (tb_at ok_X7_count 8 rfl) ?_
    exact sw_iret C S rfl (tb_at ok_X7_count 9 rfl) h
  have h := (if_neg c2).symm.trans h
  by_cases c3 : a1 = 2
  · refine aw_tsIn C 59 60 (tb_at ok_X7_count 1 rfl) (by rw [c3]; decide) (by rw [c3]; decide) (by rw [c3]; rfl) (by decide) ?_
    have h := (if_pos c3).symm.trans h
    refine aw_aload_n C (tb_at ok_X7_count 10 rfl) rfl ?_
    refine aw_getR C (ob_0 hn) rfl (by decide) rfl p_0_0 fl_RX7_10 (tb_at ok_X7_count 11 rfl) ?_
    refine aw_get C (ob_1 hn) rfl (by decide) rfl fl_RX7_129 (tb_at ok_X7_count 12 rfl) ?_
    exact sw_iret C S rfl (tb_at ok_X7_count 13 rfl) h
  have h := (if_neg c3).symm.trans h
  by_cases c4 : a1 = 3
  · refine aw_tsIn C 67 68 (tb_at ok_X7_count 1 rfl) (by rw [c4]; decide) (by rw [c4]; decide) (by rw [c4]; rfl) (by decide) ?_
    have h := (if_pos c4).symm.trans h
    refine aw_aload_n C (tb_at ok_X7_count 14 rfl) rfl ?_
    refine aw_get C (ob_0 hn) rfl (by decide) rfl fl_RX7_39 (tb_at ok_X7_count 15 rfl) ?_
    exact sw_iret C S rfl (tb_at ok_X7_count 16 rfl) h
  have h := (if_neg c4).symm.trans h
  by_cases c5 : a1 = 4
  · refine aw_tsIn C 72 73 (tb_at ok_X7_count 1 rfl) (by rw [c5]; decide) (by rw [c5]; decide) (by rw [c5]; rfl) (by decide) ?_
    have h := (if_pos c5).symm.trans h
    refine aw_aload_n C (tb_at ok_X7_count 17 rfl) rfl ?_
    refine aw_getR C (ob_0 hn) rfl (by decide) rfl p_0_4 fl_RX7_29 (tb_at ok_X7_count 18 rfl) ?_
    refine aw_get C (ob_40 hn) rfl (by decide) rfl fl_RX7_161 (tb_at ok_X7_count 19 rfl) ?_
    exact sw_iret C S rfl (tb_at ok_X7_count 20 rfl) h
  have h := (if_neg c5).symm.trans h
  by_cases c6 : a1 = 5
  · refine aw_tsIn C 80 81 (tb_at ok_X7_count 1 rfl) (by rw [c6]; decide) (by rw [c6]; decide) (by rw [c6]; rfl) (by decide) ?_
    have h := (if_pos c6).symm.trans h
    refine aw_aload_n C (tb_at ok_X7_count 21 rfl) rfl ?_
    refine aw_getR C (ob_0 hn) rfl (by decide) rfl p_0_0 fl_RX7_10 (tb_at ok_X7_count 22 rfl) ?_
    refine aw_get C (ob_1 hn) rfl (by decide) rfl fl_RX7_164 (tb_at ok_X7_count 23 rfl) ?_
    exact sw_iret C S rfl (tb_at ok_X7_count 24 rfl) h
  have h := (if_neg c6).symm.trans h
  by_cases c8 : a1 = 6
  · refine aw_tsIn C 88 89 (tb_at ok_X7_count 1 rfl) (by rw [c8]; decide) (by rw [c8]; decide) (by rw [c8]; rfl) (by decide) ?_
    have h := (if_pos c8).symm.trans h
    refine aw_aload_n C (tb_at ok_X7_count 25 rfl) rfl ?_
    refine aw_getR C (ob_0 hn) rfl (by decide) rfl p_0_0 fl_RX7_10 (tb_at ok_X7_count 26 rfl) ?_
    refine aw_getR C (ob_1 hn) rfl (by decide) rfl p_1_6 fl_RX7_132 (tb_at ok_X7_count 27 rfl) ?_
    refine sw_cSi C S [.ref 4] [] (tb_at ok_X7_count 28 rfl) h (fun q e => m_fN_sum hn (ob_4 hn) e) mf_X7_sum cw_RX7_256 rfl (by decide) rfl (Nat.le_of_ble_eq_true rfl) (fun r7 M7 h => ?_)
    exact sw_iret C S rfl (tb_at ok_X7_count 29 rfl) h
  have h := (if_neg c8).symm.trans h
  refine aw_tsOut C 100 (tb_at ok_X7_count 1 rfl) ?_ (by decide) ?_
  · rcases Int.lt_or_le (a1).toInt 0 with q | q
    · exact Or.inl q
    · refine Or.inr (Int.lt_of_not_ge (fun q2 => ?_))
      have q3 : (a1).toInt = 0 ∨ (a1).toInt = 1 ∨ (a1).toInt = 2 ∨ (a1).toInt = 3 ∨ (a1).toInt = 4 ∨ (a1).toInt = 5 ∨ (a1).toInt = 6 := by omega
      rcases q3 with e | e | e | e | e | e | e
      · exact c1 (Int32.toInt_inj.mp (e.trans (by decide)))
      · exact c2 (Int32.toInt_inj.mp (e.trans (by decide)))
      · exact c3 (Int32.toInt_inj.mp (e.trans (by decide)))
      · exact c4 (Int32.toInt_inj.mp (e.trans (by decide)))
      · exact c5 (Int32.toInt_inj.mp (e.trans (by decide)))
      · exact c6 (Int32.toInt_inj.mp (e.trans (by decide)))
      · exact c8 (Int32.toInt_inj.mp (e.trans (by decide)))
  refine aw_bipush C (tb_at ok_X7_count 30 rfl) kb_m2 ?_
  exact sw_iret C S rfl (tb_at ok_X7_count 31 rfl) h
theorem m_fN_count {l : Launch} {w : Wd} {n : Nat} {a1 : Int32} {M : Mem} {r : Int32 × Mem} (hn : 85 ≤ n) (h : fN_count a1 M = some r) : CM l w yX7_count cX7_count 2 (some .int) 2 0 0 [.ref 0, .int a1] n M (PD M) (Ti n r) := sm_of (loc := [some (.ref 0), some (.int a1)]) mf_X7_count (by decide) (Nat.le_of_ble_eq_true rfl) rfl (fun K _ _ C S => t_fN_count C S hn h)
def tb_X7_sheet : List (Nat × Instr × Nat) := [(0, .iload_n 1, 1), (1, .iconst 4, 1), (2, .invokestatic 87, 3), (5, .ifCond .eq 13, 3), (8, .iload_n 2, 1), (9, .iconst (-1), 1), (10, .if_icmp .lt 8, 3), (13, .iload_n 2, 1), (14, .iconst 3, 1), (15, .if_icmp .lt 6, 3), (18, .bipush (-2), 2), (20, .ireturn, 1), (21, .iload_n 2, 1), (22, .iconst (-1), 1), (23, .if_icmp .ne 16, 3), (26, .aload_n 0, 1), (27, .getfield 54, 3), (30, .iload_n 1, 1), (31, .aaload, 1), (32, .iconst (-1), 1), (33, .iconst 0, 1), (34, .invokevirtual 241, 3), (37, .iconst 1, 1), (38, .ireturn, 1), (39, .iload_n 3, 1), (40, .bipush 40, 2), (42, .if_icmp .le 6, 3), (45, .bipush (-2), 2), (47, .ireturn, 1), (48, .iload_n 3, 1), (49, .ifCond .ge 6, 3), (52, .bipush (-14), 2), (54, .ireturn, 1), (55, .aload_n 0, 1), (56, .getfield 54, 3), (59, .iload_n 1, 1), (60, .aaload, 1), (61, .iload_n 2, 1), (62, .iload_n 3, 1), (63, .invokevirtual 241, 3), (66, .iconst 1, 1), (67, .ireturn, 1)]
theorem ok_X7_sheet : TB cX7_sheet tb_X7_sheet := (by decide +kernel : tb_X7_sheet.all (fun q => tbq cX7_sheet q) = true)
set_option maxHeartbeats 4000000 in
set_option maxRecDepth 20000 in
theorem t_fN_sheet {K : Cx} {n : Nat} {a1 : Int32} {a2 : Int32} {a3 : Int32} {M : Mem} {r : Int32 × Mem} (C : Ctx K RX7 cX7_sheet) (S : SS K n 2 4 (some .int) (Ti n r)) (hn : 85 ≤ n) (h : fN_sheet a1 a2 a3 M = some r) : AS K n M 0 [some (.ref 0), some (.int a1), some (.int a2), some (.int a3)] [] := by
  refine aw_iload_n C (tb_at ok_X7_sheet 0 rfl) rfl ?_
  refine aw_iconst C (tb_at ok_X7_sheet 1 rfl) ki_4 ?_
  refine sw_cSi C S [.int a1, .int 4] [] (tb_at ok_X7_sheet 2 rfl) h (fun q e => m_fN_within hn e) mf_X7_within cw_RX7_87 rfl (by decide) rfl (Nat.le_of_ble_eq_true rfl) (fun r1 M1 h => ?_)
  refine aw_if_eq C 18 (tb_at ok_X7_sheet 3 rfl) (by decide) h (fun h => ?_) (fun h => ?_)
  · refine aw_bipush C (tb_at ok_X7_sheet 10 rfl) kb_m2 ?_
    exact sw_iret C S rfl (tb_at ok_X7_sheet 11 rfl) h
  · refine aw_iload_n C (tb_at ok_X7_sheet 4 rfl) rfl ?_
    refine aw_iconst C (tb_at ok_X7_sheet 5 rfl) ki_m1 ?_
    refine aw_icmp_lt C 18 (tb_at ok_X7_sheet 6 rfl) (by decide) h (fun h => ?_) (fun h => ?_)
    · refine aw_bipush C (tb_at ok_X7_sheet 10 rfl) kb_m2 ?_
      exact sw_iret C S rfl (tb_at ok_X7_sheet 11 rfl) h
    · refine aw_iload_n C (tb_at ok_X7_sheet 7 rfl) rfl ?_
      refine aw_iconst C (tb_at ok_X7_sheet 8 rfl) ki_3 ?_
      refine aw_icmp_lt C 21 (tb_at ok_X7_sheet 9 rfl) (by decide) h (fun h => ?_) (fun h => ?_)
      · refine aw_iload_n C (tb_at ok_X7_sheet 12 rfl) rfl ?_
        refine aw_iconst C (tb_at ok_X7_sheet 13 rfl) ki_m1 ?_
        refine aw_icmp_ne C 39 (tb_at ok_X7_sheet 14 rfl) (by decide) h (fun h => ?_) (fun h => ?_)
        · refine aw_aload_n C (tb_at ok_X7_sheet 15 rfl) rfl ?_
          refine aw_getR C (ob_0 hn) rfl (by decide) rfl p_0_8 fl_RX7_54 (tb_at ok_X7_sheet 16 rfl) ?_
          refine aw_iload_n C (tb_at ok_X7_sheet 17 rfl) rfl ?_
          refine sw_aald C 3 (ob_57 hn) (by decide) rfl (tb_at ok_X7_sheet 18 rfl) (fun z => qPA z) h (fun hi2 h => ?_)
          refine aw_iconst C (tb_at ok_X7_sheet 19 rfl) ki_m1 ?_
          refine aw_iconst C (tb_at ok_X7_sheet 20 rfl) ki_0 ?_
          refine sw_cVv C S [.int (-1), .int 0] [] (tb_at ok_X7_sheet 21 rfl) h (fun q e => m_fS_become hn (qA hi2) e) mf_X4_become (sO hn (qA hi2)) rfl rfl cw_RX7_241 rfl (by decide) rfl (Nat.le_of_ble_eq_true rfl) (fun M3 h => ?_)
          refine aw_iconst C (tb_at ok_X7_sheet 22 rfl) ki_1 ?_
          exact sw_iret C S rfl (tb_at ok_X7_sheet 23 rfl) h
        · refine aw_iload_n C (tb_at ok_X7_sheet 24 rfl) rfl ?_
          refine aw_bipush C (tb_at ok_X7_sheet 25 rfl) kb_40 ?_
          refine aw_icmp_le C 48 (tb_at ok_X7_sheet 26 rfl) (by decide) h (fun h => ?_) (fun h => ?_)
          · refine aw_iload_n C (tb_at ok_X7_sheet 29 rfl) rfl ?_
            refine aw_if_ge C 55 (tb_at ok_X7_sheet 30 rfl) (by decide) h (fun h => ?_) (fun h => ?_)
            · refine aw_aload_n C (tb_at ok_X7_sheet 33 rfl) rfl ?_
              refine aw_getR C (ob_0 hn) rfl (by decide) rfl p_0_8 fl_RX7_54 (tb_at ok_X7_sheet 34 rfl) ?_
              refine aw_iload_n C (tb_at ok_X7_sheet 35 rfl) rfl ?_
              refine sw_aald C 3 (ob_57 hn) (by decide) rfl (tb_at ok_X7_sheet 36 rfl) (fun z => qPA z) h (fun hi4 h => ?_)
              refine aw_iload_n C (tb_at ok_X7_sheet 37 rfl) rfl ?_
              refine aw_iload_n C (tb_at ok_X7_sheet 38 rfl) rfl ?_
              refine sw_cVv C S [.int a2, .int a3] [] (tb_at ok_X7_sheet 39 rfl) h (fun q e => m_fS_become hn (qA hi4) e) mf_X4_become (sO hn (qA hi4)) rfl rfl cw_RX7_241 rfl (by decide) rfl (Nat.le_of_ble_eq_true rfl) (fun M5 h => ?_)
              refine aw_iconst C (tb_at ok_X7_sheet 40 rfl) ki_1 ?_
              exact sw_iret C S rfl (tb_at ok_X7_sheet 41 rfl) h
            · refine aw_bipush C (tb_at ok_X7_sheet 31 rfl) kb_m14 ?_
              exact sw_iret C S rfl (tb_at ok_X7_sheet 32 rfl) h
          · refine aw_bipush C (tb_at ok_X7_sheet 27 rfl) kb_m2 ?_
            exact sw_iret C S rfl (tb_at ok_X7_sheet 28 rfl) h
      · refine aw_bipush C (tb_at ok_X7_sheet 10 rfl) kb_m2 ?_
        exact sw_iret C S rfl (tb_at ok_X7_sheet 11 rfl) h
theorem m_fN_sheet {l : Launch} {w : Wd} {n : Nat} {a1 : Int32} {a2 : Int32} {a3 : Int32} {M : Mem} {r : Int32 × Mem} (hn : 85 ≤ n) (h : fN_sheet a1 a2 a3 M = some r) : CM l w yX7_sheet cX7_sheet 4 (some .int) 2 0 0 [.ref 0, .int a1, .int a2, .int a3] n M (PD M) (Ti n r) := sm_of (loc := [some (.ref 0), some (.int a1), some (.int a2), some (.int a3)]) mf_X7_sheet (by decide) (Nat.le_of_ble_eq_true rfl) rfl (fun K _ _ C S => t_fN_sheet C S hn h)
def tb_X7_cell : List (Nat × Instr × Nat) := [(0, .iload_n 1, 1), (1, .iconst 4, 1), (2, .invokestatic 87, 3), (5, .ifCond .ne 6, 3), (8, .bipush (-2), 2), (10, .ireturn, 1), (11, .aload_n 0, 1), (12, .getfield 54, 3), (15, .iload_n 1, 1), (16, .aaload, 1), (17, .astore 4, 2), (19, .aload 4, 2), (21, .invokevirtual 214, 3), (24, .ifCond .eq 6, 3), (27, .bipush (-11), 2), (29, .ireturn, 1), (30, .iload_n 2, 1), (31, .aload 4, 2), (33, .getfield 222, 3), (36, .invokestatic 87, 3), (39, .ifCond .ne 6, 3), (42, .bipush (-12), 2), (44, .ireturn, 1), (45, .aload 4, 2), (47, .iload_n 2, 1), (48, .iload_n 3, 1), (49, .invokevirtual 243, 3), (52, .iconst 1, 1), (53, .ireturn, 1)]
theorem ok_X7_cell : TB cX7_cell tb_X7_cell := (by decide +kernel : tb_X7_cell.all (fun q => tbq cX7_cell q) = true)
set_option maxHeartbeats 4000000 in
set_option maxRecDepth 20000 in
theorem t_fN_cell {K : Cx} {n : Nat} {a1 : Int32} {a2 : Int32} {a3 : Int32} {M : Mem} {r : Int32 × Mem} (C : Ctx K RX7 cX7_cell) (S : SS K n 3 5 (some .int) (Ti n r)) (hn : 85 ≤ n) (h : fN_cell a1 a2 a3 M = some r) : AS K n M 0 [some (.ref 0), some (.int a1), some (.int a2), some (.int a3), none] [] := by
  refine aw_iload_n C (tb_at ok_X7_cell 0 rfl) rfl ?_
  refine aw_iconst C (tb_at ok_X7_cell 1 rfl) ki_4 ?_
  refine sw_cSi C S [.int a1, .int 4] [] (tb_at ok_X7_cell 2 rfl) h (fun q e => m_fN_within hn e) mf_X7_within cw_RX7_87 rfl (by decide) rfl (Nat.le_of_ble_eq_true rfl) (fun r1 M1 h => ?_)
  refine aw_if_ne C 11 (tb_at ok_X7_cell 3 rfl) (by decide) h (fun h => ?_) (fun h => ?_)
  · refine aw_bipush C (tb_at ok_X7_cell 4 rfl) kb_m2 ?_
    exact sw_iret C S rfl (tb_at ok_X7_cell 5 rfl) h
  · refine aw_aload_n C (tb_at ok_X7_cell 6 rfl) rfl ?_
    refine aw_getR C (ob_0 hn) rfl (by decide) rfl p_0_8 fl_RX7_54 (tb_at ok_X7_cell 7 rfl) ?_
    refine aw_iload_n C (tb_at ok_X7_cell 8 rfl) rfl ?_
    refine sw_aald C 3 (ob_57 hn) (by decide) rfl (tb_at ok_X7_cell 9 rfl) (fun z => qPA z) h (fun hi2 h => ?_)
    refine aw_astore C [some (.ref 0), some (.int a1), some (.int a2), some (.int a3), some (.ref (77 + 2 * ix a1))] (tb_at ok_X7_cell 10 rfl) S.2.2.2.1 (by decide) rfl ?_
    refine aw_aload C (tb_at ok_X7_cell 11 rfl) rfl ?_
    refine sw_cVi C S [] [] (tb_at ok_X7_cell 12 rfl) h (fun q e => m_fS_isMissing hn (qA hi2) e) mf_X4_isMissing (sO hn (qA hi2)) rfl rfl cw_RX7_214 rfl (by decide) rfl (Nat.le_of_ble_eq_true rfl) (fun r3 M3 h => ?_)
    refine aw_if_eq C 30 (tb_at ok_X7_cell 13 rfl) (by decide) h (fun h => ?_) (fun h => ?_)
    · refine aw_iload_n C (tb_at ok_X7_cell 16 rfl) rfl ?_
      refine aw_aload C (tb_at ok_X7_cell 17 rfl) rfl ?_
      refine aw_get C (sO hn (qA hi2)) rfl (by decide) rfl fl_RX7_222 (tb_at ok_X7_cell 18 rfl) ?_
      refine sw_cSi C S [.int a2, .int (M3 (77 + 2 * ix a1) 1)] [] (tb_at ok_X7_cell 19 rfl) h (fun q e => m_fN_within hn e) mf_X7_within cw_RX7_87 rfl (by decide) rfl (Nat.le_of_ble_eq_true rfl) (fun r4 M4 h => ?_)
      refine aw_if_ne C 45 (tb_at ok_X7_cell 20 rfl) (by decide) h (fun h => ?_) (fun h => ?_)
      · refine aw_bipush C (tb_at ok_X7_cell 21 rfl) kb_m12 ?_
        exact sw_iret C S rfl (tb_at ok_X7_cell 22 rfl) h
      · refine aw_aload C (tb_at ok_X7_cell 23 rfl) rfl ?_
        refine aw_iload_n C (tb_at ok_X7_cell 24 rfl) rfl ?_
        refine aw_iload_n C (tb_at ok_X7_cell 25 rfl) rfl ?_
        refine sw_cVv C S [.int a2, .int a3] [] (tb_at ok_X7_cell 26 rfl) h (fun q e => m_fS_put hn (qA hi2) e) mf_X4_put (sO hn (qA hi2)) rfl rfl cw_RX7_243 rfl (by decide) rfl (Nat.le_of_ble_eq_true rfl) (fun M5 h => ?_)
        refine aw_iconst C (tb_at ok_X7_cell 27 rfl) ki_1 ?_
        exact sw_iret C S rfl (tb_at ok_X7_cell 28 rfl) h
    · refine aw_bipush C (tb_at ok_X7_cell 14 rfl) kb_m11 ?_
      exact sw_iret C S rfl (tb_at ok_X7_cell 15 rfl) h
theorem m_fN_cell {l : Launch} {w : Wd} {n : Nat} {a1 : Int32} {a2 : Int32} {a3 : Int32} {M : Mem} {r : Int32 × Mem} (hn : 85 ≤ n) (h : fN_cell a1 a2 a3 M = some r) : CM l w yX7_cell cX7_cell 5 (some .int) 3 0 0 [.ref 0, .int a1, .int a2, .int a3] n M (PD M) (Ti n r) := sm_of (loc := [some (.ref 0), some (.int a1), some (.int a2), some (.int a3), none]) mf_X7_cell (by decide) (Nat.le_of_ble_eq_true rfl) rfl (fun K _ _ C S => t_fN_cell C S hn h)
def tb_X7_copy : List (Nat × Instr × Nat) := [(0, .iload_n 1, 1), (1, .iconst 4, 1), (2, .invokestatic 87, 3), (5, .ifCond .eq 11, 3), (8, .iload_n 3, 1), (9, .iconst 4, 1), (10, .invokestatic 87, 3), (13, .ifCond .ne 6, 3), (16, .bipush (-2), 2), (18, .ireturn, 1), (19, .aload_n 0, 1), (20, .getfield 54, 3), (23, .iload_n 1, 1), (24, .aaload, 1), (25, .astore 6, 2), (27, .aload_n 0, 1), (28, .getfield 54, 3), (31, .iload_n 3, 1), (32, .aaload, 1), (33, .astore 7, 2), (35, .aload 6, 2), (37, .invokevirtual 214, 3), (40, .ifCond .ne 11, 3), (43, .aload 7, 2), (45, .invokevirtual 214, 3), (48, .ifCond .eq 6, 3), (51, .bipush (-11), 2), (53, .ireturn, 1), (54, .aload 6, 2), (56, .getfield 260, 3), (59, .aload 7, 2), (61, .getfield 260, 3), (64, .if_icmp .eq 6, 3), (67, .bipush (-13), 2), (69, .ireturn, 1), (70, .aload 6, 2), (72, .iload_n 2, 1), (73, .iload 5, 2), (75, .invokevirtual 263, 3), (78, .ifCond .eq 15, 3), (81, .aload 7, 2), (83, .iload 4, 2), (85, .iload 5, 2), (87, .invokevirtual 263, 3), (90, .ifCond .ne 6, 3), (93, .bipush (-12), 2), (95, .ireturn, 1), (96, .aload 6, 2), (98, .getfield 223, 3), (101, .iload_n 2, 1), (102, .aload 7, 2), (104, .getfield 223, 3), (107, .iload 4, 2), (109, .iload 5, 2), (111, .invokestatic 266, 3), (114, .iload 5, 2), (116, .ireturn, 1)]
theorem ok_X7_copy : TB cX7_copy tb_X7_copy := (by decide +kernel : tb_X7_copy.all (fun q => tbq cX7_copy q) = true)
set_option maxHeartbeats 4000000 in
set_option maxRecDepth 20000 in
theorem t_fN_copy {K : Cx} {n : Nat} {a1 : Int32} {a2 : Int32} {a3 : Int32} {a4 : Int32} {a5 : Int32} {M : Mem} {r : Int32 × Mem} (C : Ctx K RX7 cX7_copy) (S : SS K n 2 8 (some .int) (Ti n r)) (hn : 85 ≤ n) (h : fN_copy a1 a2 a3 a4 a5 M = some r) : AS K n M 0 [some (.ref 0), some (.int a1), some (.int a2), some (.int a3), some (.int a4), some (.int a5), none, none] [] := by
  refine aw_iload_n C (tb_at ok_X7_copy 0 rfl) rfl ?_
  refine aw_iconst C (tb_at ok_X7_copy 1 rfl) ki_4 ?_
  refine sw_cSi C S [.int a1, .int 4] [] (tb_at ok_X7_copy 2 rfl) h (fun q e => m_fN_within hn e) mf_X7_within cw_RX7_87 rfl (by decide) rfl (Nat.le_of_ble_eq_true rfl) (fun r1 M1 h => ?_)
  refine aw_if_eq C 16 (tb_at ok_X7_copy 3 rfl) (by decide) h (fun h => ?_) (fun h => ?_)
  · refine aw_bipush C (tb_at ok_X7_copy 8 rfl) kb_m2 ?_
    exact sw_iret C S rfl (tb_at ok_X7_copy 9 rfl) h
  · refine aw_iload_n C (tb_at ok_X7_copy 4 rfl) rfl ?_
    refine aw_iconst C (tb_at ok_X7_copy 5 rfl) ki_4 ?_
    refine sw_cSi C S [.int a3, .int 4] [] (tb_at ok_X7_copy 6 rfl) h (fun q e => m_fN_within hn e) mf_X7_within cw_RX7_87 rfl (by decide) rfl (Nat.le_of_ble_eq_true rfl) (fun r2 M2 h => ?_)
    refine aw_if_ne C 19 (tb_at ok_X7_copy 7 rfl) (by decide) h (fun h => ?_) (fun h => ?_)
    · refine aw_bipush C (tb_at ok_X7_copy 8 rfl) kb_m2 ?_
      exact sw_iret C S rfl (tb_at ok_X7_copy 9 rfl) h
    · refine aw_aload_n C (tb_at ok_X7_copy 10 rfl) rfl ?_
      refine aw_getR C (ob_0 hn) rfl (by decide) rfl p_0_8 fl_RX7_54 (tb_at ok_X7_copy 11 rfl) ?_
      refine aw_iload_n C (tb_at ok_X7_copy 12 rfl) rfl ?_
      refine sw_aald C 3 (ob_57 hn) (by decide) rfl (tb_at ok_X7_copy 13 rfl) (fun z => qPA z) h (fun hi3 h => ?_)
      refine aw_astore C [some (.ref 0), some (.int a1), some (.int a2), some (.int a3), some (.int a4), some (.int a5), some (.ref (77 + 2 * ix a1)), none] (tb_at ok_X7_copy 14 rfl) S.2.2.2.1 (by decide) rfl ?_
      refine aw_aload_n C (tb_at ok_X7_copy 15 rfl) rfl ?_
      refine aw_getR C (ob_0 hn) rfl (by decide) rfl p_0_8 fl_RX7_54 (tb_at ok_X7_copy 16 rfl) ?_
      refine aw_iload_n C (tb_at ok_X7_copy 17 rfl) rfl ?_
      refine sw_aald C 3 (ob_57 hn) (by decide) rfl (tb_at ok_X7_copy 18 rfl) (fun z => qPA z) h (fun hi4 h => ?_)
      refine aw_astore C [some (.ref 0), some (.int a1), some (.int a2), some (.int a3), some (.int a4), some (.int a5), some (.ref (77 + 2 * ix a1)), some (.ref (77 + 2 * ix a3))] (tb_at ok_X7_copy 19 rfl) S.2.2.2.1 (by decide) rfl ?_
      refine aw_aload C (tb_at ok_X7_copy 20 rfl) rfl ?_
      refine sw_cVi C S [] [] (tb_at ok_X7_copy 21 rfl) h (fun q e => m_fS_isMissing hn (qA hi3) e) mf_X4_isMissing (sO hn (qA hi3)) rfl rfl cw_RX7_214 rfl (by decide) rfl (Nat.le_of_ble_eq_true rfl) (fun r5 M5 h => ?_)
      refine aw_if_ne C 51 (tb_at ok_X7_copy 22 rfl) (by decide) h (fun h => ?_) (fun h => ?_)
      · refine aw_aload C (tb_at ok_X7_copy 23 rfl) rfl ?_
        refine sw_cVi C S [] [] (tb_at ok_X7_copy 24 rfl) h (fun q e => m_fS_isMissing hn (qA hi4) e) mf_X4_isMissing (sO hn (qA hi4)) rfl rfl cw_RX7_214 rfl (by decide) rfl (Nat.le_of_ble_eq_true rfl) (fun r6 M6 h => ?_)
        refine aw_if_eq C 54 (tb_at ok_X7_copy 25 rfl) (by decide) h (fun h => ?_) (fun h => ?_)
        · refine aw_aload C (tb_at ok_X7_copy 28 rfl) rfl ?_
          refine aw_get C (sO hn (qA hi3)) rfl (by decide) rfl fl_RX7_260 (tb_at ok_X7_copy 29 rfl) ?_
          refine aw_aload C (tb_at ok_X7_copy 30 rfl) rfl ?_
          refine aw_get C (sO hn (qA hi4)) rfl (by decide) rfl fl_RX7_260 (tb_at ok_X7_copy 31 rfl) ?_
          refine aw_icmp_eq C 70 (tb_at ok_X7_copy 32 rfl) (by decide) h (fun h => ?_) (fun h => ?_)
          · refine aw_aload C (tb_at ok_X7_copy 35 rfl) rfl ?_
            refine aw_iload_n C (tb_at ok_X7_copy 36 rfl) rfl ?_
            refine aw_iload C (tb_at ok_X7_copy 37 rfl) rfl ?_
            refine sw_cVi C S [.int a2, .int a5] [] (tb_at ok_X7_copy 38 rfl) h (fun q e => m_fS_has hn (qA hi3) e) mf_X4_has (sO hn (qA hi3)) rfl rfl cw_RX7_263 rfl (by decide) rfl (Nat.le_of_ble_eq_true rfl) (fun r7 M7 h => ?_)
            refine aw_if_eq C 93 (tb_at ok_X7_copy 39 rfl) (by decide) h (fun h => ?_) (fun h => ?_)
            · refine aw_bipush C (tb_at ok_X7_copy 45 rfl) kb_m12 ?_
              exact sw_iret C S rfl (tb_at ok_X7_copy 46 rfl) h
            · refine aw_aload C (tb_at ok_X7_copy 40 rfl) rfl ?_
              refine aw_iload C (tb_at ok_X7_copy 41 rfl) rfl ?_
              refine aw_iload C (tb_at ok_X7_copy 42 rfl) rfl ?_
              refine sw_cVi C S [.int a4, .int a5] [] (tb_at ok_X7_copy 43 rfl) h (fun q e => m_fS_has hn (qA hi4) e) mf_X4_has (sO hn (qA hi4)) rfl rfl cw_RX7_263 rfl (by decide) rfl (Nat.le_of_ble_eq_true rfl) (fun r8 M8 h => ?_)
              refine aw_if_ne C 96 (tb_at ok_X7_copy 44 rfl) (by decide) h (fun h => ?_) (fun h => ?_)
              · refine aw_bipush C (tb_at ok_X7_copy 45 rfl) kb_m12 ?_
                exact sw_iret C S rfl (tb_at ok_X7_copy 46 rfl) h
              · refine aw_aload C (tb_at ok_X7_copy 47 rfl) rfl ?_
                refine aw_getR C (sO hn (qA hi3)) rfl (by decide) rfl (sP2 (qA hi3)) fl_RX7_223 (tb_at ok_X7_copy 48 rfl) ?_
                refine aw_iload_n C (tb_at ok_X7_copy 49 rfl) rfl ?_
                refine aw_aload C (tb_at ok_X7_copy 50 rfl) rfl ?_
                refine aw_getR C (sO hn (qA hi4)) rfl (by decide) rfl (sP2 (qA hi4)) fl_RX7_223 (tb_at ok_X7_copy 51 rfl) ?_
                refine aw_iload C (tb_at ok_X7_copy 52 rfl) rfl ?_
                refine aw_iload C (tb_at ok_X7_copy 53 rfl) rfl ?_
                refine sw_copy C (sO1 hn (qA hi3)) (sO1 hn (qA hi4)) ml_RX7_266 (Nat.le_of_ble_eq_true rfl) (tb_at ok_X7_copy 54 rfl) h w_copy (fun h => ?_)
                refine aw_iload C (tb_at ok_X7_copy 55 rfl) rfl ?_
                exact sw_iret C S rfl (tb_at ok_X7_copy 56 rfl) h
          · refine aw_bipush C (tb_at ok_X7_copy 33 rfl) kb_m13 ?_
            exact sw_iret C S rfl (tb_at ok_X7_copy 34 rfl) h
        · refine aw_bipush C (tb_at ok_X7_copy 26 rfl) kb_m11 ?_
          exact sw_iret C S rfl (tb_at ok_X7_copy 27 rfl) h
      · refine aw_bipush C (tb_at ok_X7_copy 26 rfl) kb_m11 ?_
        exact sw_iret C S rfl (tb_at ok_X7_copy 27 rfl) h
theorem m_fN_copy {l : Launch} {w : Wd} {n : Nat} {a1 : Int32} {a2 : Int32} {a3 : Int32} {a4 : Int32} {a5 : Int32} {M : Mem} {r : Int32 × Mem} (hn : 85 ≤ n) (h : fN_copy a1 a2 a3 a4 a5 M = some r) : CM l w yX7_copy cX7_copy 8 (some .int) 2 0 0 [.ref 0, .int a1, .int a2, .int a3, .int a4, .int a5] n M (PD M) (Ti n r) := sm_of (loc := [some (.ref 0), some (.int a1), some (.int a2), some (.int a3), some (.int a4), some (.int a5), none, none]) mf_X7_copy (by decide) (Nat.le_of_ble_eq_true rfl) rfl (fun K _ _ C S => t_fN_copy C S hn h)
def tb_X7_maids : List (Nat × Instr × Nat) := [(0, .iload_n 1, 1), (1, .iconst 4, 1), (2, .invokestatic 87, 3), (5, .ifCond .eq 22, 3), (8, .iload_n 2, 1), (9, .iconst 3, 1), (10, .invokestatic 87, 3), (13, .ifCond .eq 14, 3), (16, .iload 4, 2), (18, .ifCond .lt 9, 3), (21, .iload 4, 2), (23, .iconst 4, 1), (24, .if_icmp .le 6, 3), (27, .bipush (-2), 2), (29, .ireturn, 1), (30, .aload_n 0, 1), (31, .getfield 54, 3), (34, .iload_n 1, 1), (35, .aaload, 1), (36, .astore 5, 2), (38, .aload 5, 2), (40, .invokevirtual 214, 3), (43, .ifCond .eq 6, 3), (46, .bipush (-11), 2), (48, .ireturn, 1), (49, .aload 5, 2), (51, .getfield 260, 3), (54, .iload_n 2, 1), (55, .if_icmp .eq 6, 3), (58, .bipush (-13), 2), (60, .ireturn, 1), (61, .iconst 0, 1), (62, .istore 6, 2), (64, .iconst 0, 1), (65, .istore 7, 2), (67, .iload 7, 2), (69, .iload 4, 2), (71, .if_icmp .ge 73, 3), (74, .aload 5, 2), (76, .iload_n 3, 1), (77, .iconst 3, 1), (78, .iload 7, 2), (80, .imul, 1), (81, .iconst 3, 1), (82, .iadd, 1), (83, .invokevirtual 263, 3), (86, .ifCond .ne 6, 3), (89, .bipush (-12), 2), (91, .ireturn, 1), (92, .iload_n 3, 1), (93, .iconst 3, 1), (94, .iload 7, 2), (96, .imul, 1), (97, .iadd, 1), (98, .istore 8, 2), (100, .aload_n 0, 1), (101, .aload 5, 2), (103, .getfield 223, 3), (106, .iload 8, 2), (108, .iaload, 1), (109, .aload 5, 2), (111, .getfield 223, 3), (114, .iload 8, 2), (116, .iconst 1, 1), (117, .iadd, 1), (118, .iaload, 1), (119, .aload 5, 2), (121, .getfield 223, 3), (124, .iload 8, 2), (126, .iconst 2, 1), (127, .iadd, 1), (128, .iaload, 1), (129, .invokevirtual 272, 3), (132, .ifCond .lt 6, 3), (135, .iinc 6 1, 3), (138, .iinc 7 1, 3), (141, .goto (-74), 3), (144, .iload 6, 2), (146, .ireturn, 1)]
theorem ok_X7_maids : TB cX7_maids tb_X7_maids := (by decide +kernel : tb_X7_maids.all (fun q => tbq cX7_maids q) = true)
set_option maxHeartbeats 4000000 in
set_option maxRecDepth 20000 in
theorem t_fN_maids_b138 {K : Cx} {n : Nat} {k67 : Int32 → Int32 → Mem → Option (Int32 × Mem)} {a3 : Int32} {a4 : Int32} {q5 : Nat} {a6 : Int32} {a7 : Int32} {M : Mem} {r : Int32 × Mem} (C : Ctx K RX7 cX7_maids) (S : SS K n 3 9 (some .int) (Ti n r)) (hn : 85 ≤ n) (hq5 : sOK q5) (hk67 : ∀ (va6 : Int32) (va7 : Int32) (M1 : Mem), k67 va6 va7 M1 = some r → AS K n M1 67 [some (.ref 0), none, none, some (.int a3), some (.int a4), some (.ref q5), some (.int va6), some (.int va7), none] []) (h : fN_maids_b138 k67 a3 a4 q5 a6 a7 M = some r) : AS K n M 138 [some (.ref 0), none, none, some (.int a3), some (.int a4), some (.ref q5), some (.int a6), some (.int a7), none] [] := by
  refine aw_iinc C [some (.ref 0), none, none, some (.int a3), some (.int a4), some (.ref q5), some (.int a6), some (.int (a7 + 1)), none] (tb_at ok_X7_maids 75 rfl) rfl S.2.2.2.1 (by decide) ki_1 rfl ?_
  refine aw_goto C 67 (tb_at ok_X7_maids 76 rfl) (by decide) ?_
  exact aw_loc [some (.ref 0), none, none, some (.int a3), some (.int a4), some (.ref q5), some (.int a6), some (.int (a7 + 1)), none] (sl_k (sl_n (sl_n (sl_k (sl_k (sl_k (sl_k (sl_k (sl_n sl_0))))))))) (hk67 _ _ _ h)
set_option maxHeartbeats 4000000 in
set_option maxRecDepth 20000 in
theorem t_fN_maids_b67 {K : Cx} {n : Nat} {a3 : Int32} {a4 : Int32} {q5 : Nat} {r : Int32 × Mem} (C : Ctx K RX7 cX7_maids) (S : SS K n 3 9 (some .int) (Ti n r)) (hn : 85 ≤ n) (hq5 : sOK q5) : ∀ (z : Nat) (a6 : Int32) (a7 : Int32) (M : Mem), fN_maids_b67 a3 a4 q5 z a6 a7 M = some r → AS K n M 67 [some (.ref 0), none, none, some (.int a3), some (.int a4), some (.ref q5), some (.int a6), some (.int a7), none] [] := by
  intro z
  induction z with
  | zero => intro a6 a7 M h; cases h
  | succ z ih =>
    intro a6 a7 M h
    refine aw_iload C (tb_at ok_X7_maids 35 rfl) rfl ?_
    refine aw_iload C (tb_at ok_X7_maids 36 rfl) rfl ?_
    refine aw_icmp_ge C 144 (tb_at ok_X7_maids 37 rfl) (by decide) h (fun h => ?_) (fun h => ?_)
    · refine aw_iload C (tb_at ok_X7_maids 77 rfl) rfl ?_
      exact sw_iret C S rfl (tb_at ok_X7_maids 78 rfl) h
    · refine aw_aload C (tb_at ok_X7_maids 38 rfl) rfl ?_
      refine aw_iload_n C (tb_at ok_X7_maids 39 rfl) rfl ?_
      refine aw_iconst C (tb_at ok_X7_maids 40 rfl) ki_3 ?_
      refine aw_iload C (tb_at ok_X7_maids 41 rfl) rfl ?_
      refine aw_imul C (tb_at ok_X7_maids 42 rfl) ?_
      refine aw_iconst C (tb_at ok_X7_maids 43 rfl) ki_3 ?_
      refine aw_iadd C (tb_at ok_X7_maids 44 rfl) ?_
      refine sw_cVi C S [.int a3, .int ((3 * a7) + 3)] [] (tb_at ok_X7_maids 45 rfl) h (fun q e => m_fS_has hn hq5 e) mf_X4_has (sO hn hq5) rfl rfl cw_RX7_263 rfl (by decide) rfl (Nat.le_of_ble_eq_true rfl) (fun r5 M5 h => ?_)
      refine aw_if_ne C 92 (tb_at ok_X7_maids 46 rfl) (by decide) h (fun h => ?_) (fun h => ?_)
      · refine aw_bipush C (tb_at ok_X7_maids 47 rfl) kb_m12 ?_
        exact sw_iret C S rfl (tb_at ok_X7_maids 48 rfl) h
      · refine aw_iload_n C (tb_at ok_X7_maids 49 rfl) rfl ?_
        refine aw_iconst C (tb_at ok_X7_maids 50 rfl) ki_3 ?_
        refine aw_iload C (tb_at ok_X7_maids 51 rfl) rfl ?_
        refine aw_imul C (tb_at ok_X7_maids 52 rfl) ?_
        refine aw_iadd C (tb_at ok_X7_maids 53 rfl) ?_
        refine aw_istore C [some (.ref 0), none, none, some (.int a3), some (.int a4), some (.ref q5), some (.int a6), some (.int a7), some (.int (a3 + (3 * a7)))] (tb_at ok_X7_maids 54 rfl) S.2.2.2.1 (by decide) rfl ?_
        refine aw_aload_n C (tb_at ok_X7_maids 55 rfl) rfl ?_
        refine aw_aload C (tb_at ok_X7_maids 56 rfl) rfl ?_
        refine aw_getR C (sO hn hq5) rfl (by decide) rfl (sP2 hq5) fl_RX7_223 (tb_at ok_X7_maids 57 rfl) ?_
        refine aw_iload C (tb_at ok_X7_maids 58 rfl) rfl ?_
        refine aw_iald C (sO1 hn hq5) (tb_at ok_X7_maids 59 rfl) h (fun h => ?_)
        refine aw_aload C (tb_at ok_X7_maids 60 rfl) rfl ?_
        refine aw_getR C (sO hn hq5) rfl (by decide) rfl (sP2 hq5) fl_RX7_223 (tb_at ok_X7_maids 61 rfl) ?_
        refine aw_iload C (tb_at ok_X7_maids 62 rfl) rfl ?_
        refine aw_iconst C (tb_at ok_X7_maids 63 rfl) ki_1 ?_
        refine aw_iadd C (tb_at ok_X7_maids 64 rfl) ?_
        refine aw_iald C (sO1 hn hq5) (tb_at ok_X7_maids 65 rfl) h (fun h => ?_)
        refine aw_aload C (tb_at ok_X7_maids 66 rfl) rfl ?_
        refine aw_getR C (sO hn hq5) rfl (by decide) rfl (sP2 hq5) fl_RX7_223 (tb_at ok_X7_maids 67 rfl) ?_
        refine aw_iload C (tb_at ok_X7_maids 68 rfl) rfl ?_
        refine aw_iconst C (tb_at ok_X7_maids 69 rfl) ki_2 ?_
        refine aw_iadd C (tb_at ok_X7_maids 70 rfl) ?_
        refine aw_iald C (sO1 hn hq5) (tb_at ok_X7_maids 71 rfl) h (fun h => ?_)
        refine sw_cVi C S [.int (M5 (q5 + 1) (ix (a3 + (3 * a7)))), .int (M5 (q5 + 1) (ix ((a3 + (3 * a7)) + 1))), .int (M5 (q5 + 1) (ix ((a3 + (3 * a7)) + 2)))] [] (tb_at ok_X7_maids 72 rfl) h (fun q e => m_fN_maid hn e) mf_X7_maid (ob_0 hn) rfl rfl cw_RX7_272 rfl (by decide) rfl (Nat.le_of_ble_eq_true rfl) (fun r6 M6 h => ?_)
        refine aw_if_lt C 138 (tb_at ok_X7_maids 73 rfl) (by decide) h (fun h => ?_) (fun h => ?_)
        · exact aw_loc [some (.ref 0), none, none, some (.int a3), some (.int a4), some (.ref q5), some (.int a6), some (.int a7), none] (sl_k (sl_n (sl_n (sl_k (sl_k (sl_k (sl_k (sl_k (sl_n sl_0))))))))) (t_fN_maids_b138 C S hn hq5 ih h)
        · refine aw_iinc C [some (.ref 0), none, none, some (.int a3), some (.int a4), some (.ref q5), some (.int (a6 + 1)), some (.int a7), some (.int (a3 + (3 * a7)))] (tb_at ok_X7_maids 74 rfl) rfl S.2.2.2.1 (by decide) ki_1 rfl ?_
          exact aw_loc [some (.ref 0), none, none, some (.int a3), some (.int a4), some (.ref q5), some (.int (a6 + 1)), some (.int a7), none] (sl_k (sl_n (sl_n (sl_k (sl_k (sl_k (sl_k (sl_k (sl_n sl_0))))))))) (t_fN_maids_b138 C S hn hq5 ih h)
set_option maxHeartbeats 4000000 in
set_option maxRecDepth 20000 in
theorem t_fN_maids {K : Cx} {n : Nat} {a1 : Int32} {a2 : Int32} {a3 : Int32} {a4 : Int32} {M : Mem} {r : Int32 × Mem} (C : Ctx K RX7 cX7_maids) (S : SS K n 3 9 (some .int) (Ti n r)) (hn : 85 ≤ n) (h : fN_maids a1 a2 a3 a4 M = some r) : AS K n M 0 [some (.ref 0), some (.int a1), some (.int a2), some (.int a3), some (.int a4), none, none, none, none] [] := by
  refine aw_iload_n C (tb_at ok_X7_maids 0 rfl) rfl ?_
  refine aw_iconst C (tb_at ok_X7_maids 1 rfl) ki_4 ?_
  refine sw_cSi C S [.int a1, .int 4] [] (tb_at ok_X7_maids 2 rfl) h (fun q e => m_fN_within hn e) mf_X7_within cw_RX7_87 rfl (by decide) rfl (Nat.le_of_ble_eq_true rfl) (fun r1 M1 h => ?_)
  refine aw_if_eq C 27 (tb_at ok_X7_maids 3 rfl) (by decide) h (fun h => ?_) (fun h => ?_)
  · refine aw_bipush C (tb_at ok_X7_maids 13 rfl) kb_m2 ?_
    exact sw_iret C S rfl (tb_at ok_X7_maids 14 rfl) h
  · refine aw_iload_n C (tb_at ok_X7_maids 4 rfl) rfl ?_
    refine aw_iconst C (tb_at ok_X7_maids 5 rfl) ki_3 ?_
    refine sw_cSi C S [.int a2, .int 3] [] (tb_at ok_X7_maids 6 rfl) h (fun q e => m_fN_within hn e) mf_X7_within cw_RX7_87 rfl (by decide) rfl (Nat.le_of_ble_eq_true rfl) (fun r2 M2 h => ?_)
    refine aw_if_eq C 27 (tb_at ok_X7_maids 7 rfl) (by decide) h (fun h => ?_) (fun h => ?_)
    · refine aw_bipush C (tb_at ok_X7_maids 13 rfl) kb_m2 ?_
      exact sw_iret C S rfl (tb_at ok_X7_maids 14 rfl) h
    · refine aw_iload C (tb_at ok_X7_maids 8 rfl) rfl ?_
      refine aw_if_lt C 27 (tb_at ok_X7_maids 9 rfl) (by decide) h (fun h => ?_) (fun h => ?_)
      · refine aw_bipush C (tb_at ok_X7_maids 13 rfl) kb_m2 ?_
        exact sw_iret C S rfl (tb_at ok_X7_maids 14 rfl) h
      · refine aw_iload C (tb_at ok_X7_maids 10 rfl) rfl ?_
        refine aw_iconst C (tb_at ok_X7_maids 11 rfl) ki_4 ?_
        refine aw_icmp_le C 30 (tb_at ok_X7_maids 12 rfl) (by decide) h (fun h => ?_) (fun h => ?_)
        · refine aw_aload_n C (tb_at ok_X7_maids 15 rfl) rfl ?_
          refine aw_getR C (ob_0 hn) rfl (by decide) rfl p_0_8 fl_RX7_54 (tb_at ok_X7_maids 16 rfl) ?_
          refine aw_iload_n C (tb_at ok_X7_maids 17 rfl) rfl ?_
          refine sw_aald C 3 (ob_57 hn) (by decide) rfl (tb_at ok_X7_maids 18 rfl) (fun z => qPA z) h (fun hi3 h => ?_)
          refine aw_astore C [some (.ref 0), some (.int a1), some (.int a2), some (.int a3), some (.int a4), some (.ref (77 + 2 * ix a1)), none, none, none] (tb_at ok_X7_maids 19 rfl) S.2.2.2.1 (by decide) rfl ?_
          refine aw_aload C (tb_at ok_X7_maids 20 rfl) rfl ?_
          refine sw_cVi C S [] [] (tb_at ok_X7_maids 21 rfl) h (fun q e => m_fS_isMissing hn (qA hi3) e) mf_X4_isMissing (sO hn (qA hi3)) rfl rfl cw_RX7_214 rfl (by decide) rfl (Nat.le_of_ble_eq_true rfl) (fun r4 M4 h => ?_)
          refine aw_if_eq C 49 (tb_at ok_X7_maids 22 rfl) (by decide) h (fun h => ?_) (fun h => ?_)
          · refine aw_aload C (tb_at ok_X7_maids 25 rfl) rfl ?_
            refine aw_get C (sO hn (qA hi3)) rfl (by decide) rfl fl_RX7_260 (tb_at ok_X7_maids 26 rfl) ?_
            refine aw_iload_n C (tb_at ok_X7_maids 27 rfl) rfl ?_
            refine aw_icmp_eq C 61 (tb_at ok_X7_maids 28 rfl) (by decide) h (fun h => ?_) (fun h => ?_)
            · refine aw_iconst C (tb_at ok_X7_maids 31 rfl) ki_0 ?_
              refine aw_istore C [some (.ref 0), some (.int a1), some (.int a2), some (.int a3), some (.int a4), some (.ref (77 + 2 * ix a1)), some (.int 0), none, none] (tb_at ok_X7_maids 32 rfl) S.2.2.2.1 (by decide) rfl ?_
              refine aw_iconst C (tb_at ok_X7_maids 33 rfl) ki_0 ?_
              refine aw_istore C [some (.ref 0), some (.int a1), some (.int a2), some (.int a3), some (.int a4), some (.ref (77 + 2 * ix a1)), some (.int 0), some (.int 0), none] (tb_at ok_X7_maids 34 rfl) S.2.2.2.1 (by decide) rfl ?_
              exact aw_loc [some (.ref 0), none, none, some (.int a3), some (.int a4), some (.ref (77 + 2 * ix a1)), some (.int 0), some (.int 0), none] (sl_k (sl_n (sl_n (sl_k (sl_k (sl_k (sl_k (sl_k (sl_n sl_0))))))))) (t_fN_maids_b67 C S hn (qA hi3) 1000 _ _ _ h)
            · refine aw_bipush C (tb_at ok_X7_maids 29 rfl) kb_m13 ?_
              exact sw_iret C S rfl (tb_at ok_X7_maids 30 rfl) h
          · refine aw_bipush C (tb_at ok_X7_maids 23 rfl) kb_m11 ?_
            exact sw_iret C S rfl (tb_at ok_X7_maids 24 rfl) h
        · refine aw_bipush C (tb_at ok_X7_maids 13 rfl) kb_m2 ?_
          exact sw_iret C S rfl (tb_at ok_X7_maids 14 rfl) h
theorem m_fN_maids {l : Launch} {w : Wd} {n : Nat} {a1 : Int32} {a2 : Int32} {a3 : Int32} {a4 : Int32} {M : Mem} {r : Int32 × Mem} (hn : 85 ≤ n) (h : fN_maids a1 a2 a3 a4 M = some r) : CM l w yX7_maids cX7_maids 9 (some .int) 3 0 0 [.ref 0, .int a1, .int a2, .int a3, .int a4] n M (PD M) (Ti n r) := sm_of (loc := [some (.ref 0), some (.int a1), some (.int a2), some (.int a3), some (.int a4), none, none, none, none]) mf_X7_maids (by decide) (Nat.le_of_ble_eq_true rfl) rfl (fun K _ _ C S => t_fN_maids C S hn h)
def tb_X7_taken : List (Nat × Instr × Nat) := [(0, .iload_n 2, 1), (1, .bipush 6, 2), (3, .invokestatic 87, 3), (6, .ifCond .ne 6, 3), (9, .bipush (-2), 2), (11, .ireturn, 1), (12, .iload_n 1, 1), (13, .aload_n 0, 1), (14, .getfield 10, 3), (17, .getfield 111, 3), (20, .invokestatic 87, 3), (23, .ifCond .ne 6, 3), (26, .bipush (-11), 2), (28, .ireturn, 1), (29, .aload_n 0, 1), (30, .getfield 10, 3), (33, .getfield 114, 3), (36, .iload_n 1, 1), (37, .aaload, 1), (38, .iload_n 2, 1), (39, .invokevirtual 274, 3), (42, .ifCond .eq 18, 3), (45, .aload_n 0, 1), (46, .getfield 10, 3), (49, .getfield 114, 3), (52, .iload_n 1, 1), (53, .aaload, 1), (54, .getfield 139, 3), (57, .goto 5, 3), (60, .bipush (-13), 2), (62, .ireturn, 1)]
theorem ok_X7_taken : TB cX7_taken tb_X7_taken := (by decide +kernel : tb_X7_taken.all (fun q => tbq cX7_taken q) = true)
set_option maxHeartbeats 4000000 in
set_option maxRecDepth 20000 in
theorem t_fN_taken {K : Cx} {n : Nat} {a1 : Int32} {a2 : Int32} {M : Mem} {r : Int32 × Mem} (C : Ctx K RX7 cX7_taken) (S : SS K n 3 3 (some .int) (Ti n r)) (hn : 85 ≤ n) (h : fN_taken a1 a2 M = some r) : AS K n M 0 [some (.ref 0), some (.int a1), some (.int a2)] [] := by
  refine aw_iload_n C (tb_at ok_X7_taken 0 rfl) rfl ?_
  refine aw_bipush C (tb_at ok_X7_taken 1 rfl) kb_6 ?_
  refine sw_cSi C S [.int a2, .int 6] [] (tb_at ok_X7_taken 2 rfl) h (fun q e => m_fN_within hn e) mf_X7_within cw_RX7_87 rfl (by decide) rfl (Nat.le_of_ble_eq_true rfl) (fun r1 M1 h => ?_)
  refine aw_if_ne C 12 (tb_at ok_X7_taken 3 rfl) (by decide) h (fun h => ?_) (fun h => ?_)
  · refine aw_bipush C (tb_at ok_X7_taken 4 rfl) kb_m2 ?_
    exact sw_iret C S rfl (tb_at ok_X7_taken 5 rfl) h
  · refine aw_iload_n C (tb_at ok_X7_taken 6 rfl) rfl ?_
    refine aw_aload_n C (tb_at ok_X7_taken 7 rfl) rfl ?_
    refine aw_getR C (ob_0 hn) rfl (by decide) rfl p_0_0 fl_RX7_10 (tb_at ok_X7_taken 8 rfl) ?_
    refine aw_get C (ob_1 hn) rfl (by decide) rfl fl_RX7_111 (tb_at ok_X7_taken 9 rfl) ?_
    refine sw_cSi C S [.int a1, .int (M1 1 2)] [] (tb_at ok_X7_taken 10 rfl) h (fun q e => m_fN_within hn e) mf_X7_within cw_RX7_87 rfl (by decide) rfl (Nat.le_of_ble_eq_true rfl) (fun r2 M2 h => ?_)
    refine aw_if_ne C 29 (tb_at ok_X7_taken 11 rfl) (by decide) h (fun h => ?_) (fun h => ?_)
    · refine aw_bipush C (tb_at ok_X7_taken 12 rfl) kb_m11 ?_
      exact sw_iret C S rfl (tb_at ok_X7_taken 13 rfl) h
    · refine aw_aload_n C (tb_at ok_X7_taken 14 rfl) rfl ?_
      refine aw_getR C (ob_0 hn) rfl (by decide) rfl p_0_0 fl_RX7_10 (tb_at ok_X7_taken 15 rfl) ?_
      refine aw_getR C (ob_1 hn) rfl (by decide) rfl p_1_7 fl_RX7_114 (tb_at ok_X7_taken 16 rfl) ?_
      refine aw_iload_n C (tb_at ok_X7_taken 17 rfl) rfl ?_
      refine sw_aald C 2 (ob_5 hn) (by decide) rfl (tb_at ok_X7_taken 18 rfl) (fun z => hPA_5 z) h (fun hi3 h => ?_)
      refine aw_iload_n C (tb_at ok_X7_taken 19 rfl) rfl ?_
      refine sw_cVi C S [.int a2] [] (tb_at ok_X7_taken 20 rfl) h (fun q e => m_fA_isOfKind hn (hA_5 hi3) e) mf_X2_isOfKind (aO hn (hA_5 hi3)) rfl rfl cw_RX7_274 rfl (by decide) rfl (Nat.le_of_ble_eq_true rfl) (fun r4 M4 h => ?_)
      refine aw_if_eq C 60 (tb_at ok_X7_taken 21 rfl) (by decide) h (fun h => ?_) (fun h => ?_)
      · refine aw_bipush C (tb_at ok_X7_taken 29 rfl) kb_m13 ?_
        exact sw_iret C S rfl (tb_at ok_X7_taken 30 rfl) h
      · refine aw_aload_n C (tb_at ok_X7_taken 22 rfl) rfl ?_
        refine aw_getR C (ob_0 hn) rfl (by decide) rfl p_0_0 fl_RX7_10 (tb_at ok_X7_taken 23 rfl) ?_
        refine aw_getR C (ob_1 hn) rfl (by decide) rfl p_1_7 fl_RX7_114 (tb_at ok_X7_taken 24 rfl) ?_
        refine aw_iload_n C (tb_at ok_X7_taken 25 rfl) rfl ?_
        refine sw_aald C 2 (ob_5 hn) (by decide) rfl (tb_at ok_X7_taken 26 rfl) (fun z => hPA_5 z) h (fun hi5 h => ?_)
        refine aw_get C (aO hn (hA_5 hi5)) rfl (by decide) rfl fl_RX7_139 (tb_at ok_X7_taken 27 rfl) ?_
        refine aw_goto C 62 (tb_at ok_X7_taken 28 rfl) (by decide) ?_
        exact sw_iret C S rfl (tb_at ok_X7_taken 30 rfl) h
theorem m_fN_taken {l : Launch} {w : Wd} {n : Nat} {a1 : Int32} {a2 : Int32} {M : Mem} {r : Int32 × Mem} (hn : 85 ≤ n) (h : fN_taken a1 a2 M = some r) : CM l w yX7_taken cX7_taken 3 (some .int) 3 0 0 [.ref 0, .int a1, .int a2] n M (PD M) (Ti n r) := sm_of (loc := [some (.ref 0), some (.int a1), some (.int a2)]) mf_X7_taken (by decide) (Nat.le_of_ble_eq_true rfl) rfl (fun K _ _ C S => t_fN_taken C S hn h)
def tb_X8_in : List (Nat × Instr × Nat) := [(0, .lload_n 0, 1), (1, .lload_n 2, 1), (2, .lcmp, 1), (3, .ifCond .lt 14, 3), (6, .lload_n 0, 1), (7, .lload 4, 2), (9, .lcmp, 1), (10, .ifCond .gt 7, 3), (13, .iconst 1, 1), (14, .goto 4, 3), (17, .iconst 0, 1), (18, .ireturn, 1)]
theorem ok_X8_in : TB cX8_in tb_X8_in := (by decide +kernel : tb_X8_in.all (fun q => tbq cX8_in q) = true)
set_option maxHeartbeats 4000000 in
set_option maxRecDepth 20000 in
theorem t_fM_in {K : Cx} {n : Nat} {a0 : Int64} {a2 : Int64} {a4 : Int64} {M : Mem} {r : Int32 × Mem} (C : Ctx K RX8 cX8_in) (S : SS K n 1 6 (some .boolean) (Ti n r)) (hn : 113 ≤ n) (h : fM_in a0 a2 a4 M = some r) : AS K n M 0 [some (.long a0), none, some (.long a2), none, some (.long a4), none] [] := by
  refine aw_lload_n C (tb_at ok_X8_in 0 rfl) rfl ?_
  refine aw_lload_n C (tb_at ok_X8_in 1 rfl) rfl ?_
  refine aw_lcmp C (tb_at ok_X8_in 2 rfl) ?_
  refine aw_if_lt C 17 (tb_at ok_X8_in 3 rfl) (by decide) h (fun h => ?_) (fun h => ?_)
  · refine aw_iconst C (tb_at ok_X8_in 10 rfl) ki_0 ?_
    exact sw_iret C S rfl (tb_at ok_X8_in 11 rfl) h
  · refine aw_lload_n C (tb_at ok_X8_in 4 rfl) rfl ?_
    refine aw_lload C (tb_at ok_X8_in 5 rfl) rfl ?_
    refine aw_lcmp C (tb_at ok_X8_in 6 rfl) ?_
    refine aw_if_gt C 17 (tb_at ok_X8_in 7 rfl) (by decide) h (fun h => ?_) (fun h => ?_)
    · refine aw_iconst C (tb_at ok_X8_in 10 rfl) ki_0 ?_
      exact sw_iret C S rfl (tb_at ok_X8_in 11 rfl) h
    · refine aw_iconst C (tb_at ok_X8_in 8 rfl) ki_1 ?_
      refine aw_goto C 18 (tb_at ok_X8_in 9 rfl) (by decide) ?_
      exact sw_iret C S rfl (tb_at ok_X8_in 11 rfl) h
theorem m_fM_in {l : Launch} {w : Wd} {n : Nat} {a0 : Int64} {a2 : Int64} {a4 : Int64} {M : Mem} {r : Int32 × Mem} (hn : 113 ≤ n) (h : fM_in a0 a2 a4 M = some r) : CM l w yX8_in cX8_in 6 (some .boolean) 1 0 0 [.long a0, .long a2, .long a4] n M (PD M) (Ti n r) := sm_of (loc := [some (.long a0), none, some (.long a2), none, some (.long a4), none]) mf_X8_in (by decide) (Nat.le_of_ble_eq_true rfl) rfl (fun K _ _ C S => t_fM_in C S hn h)
def tb_X8_within : List (Nat × Instr × Nat) := [(0, .iload_n 0, 1), (1, .iload_n 1, 1), (2, .if_icmp .ge 7, 3), (5, .iload_n 1, 1), (6, .goto 13, 3), (9, .iload_n 0, 1), (10, .iload_n 2, 1), (11, .if_icmp .le 7, 3), (14, .iload_n 2, 1), (15, .goto 4, 3), (18, .iload_n 0, 1), (19, .ireturn, 1)]
theorem ok_X8_within : TB cX8_within tb_X8_within := (by decide +kernel : tb_X8_within.all (fun q => tbq cX8_within q) = true)
set_option maxHeartbeats 4000000 in
set_option maxRecDepth 20000 in
theorem t_fM_within {K : Cx} {n : Nat} {a0 : Int32} {a1 : Int32} {a2 : Int32} {M : Mem} {r : Int32 × Mem} (C : Ctx K RX8 cX8_within) (S : SS K n 1 3 (some .int) (Ti n r)) (hn : 113 ≤ n) (h : fM_within a0 a1 a2 M = some r) : AS K n M 0 [some (.int a0), some (.int a1), some (.int a2)] [] := by
  refine aw_iload_n C (tb_at ok_X8_within 0 rfl) rfl ?_
  refine aw_iload_n C (tb_at ok_X8_within 1 rfl) rfl ?_
  refine aw_icmp_ge C 9 (tb_at ok_X8_within 2 rfl) (by decide) h (fun h => ?_) (fun h => ?_)
  · refine aw_iload_n C (tb_at ok_X8_within 5 rfl) rfl ?_
    refine aw_iload_n C (tb_at ok_X8_within 6 rfl) rfl ?_
    refine aw_icmp_le C 18 (tb_at ok_X8_within 7 rfl) (by decide) h (fun h => ?_) (fun h => ?_)
    · refine aw_iload_n C (tb_at ok_X8_within 10 rfl) rfl ?_
      exact sw_iret C S rfl (tb_at ok_X8_within 11 rfl) h
    · refine aw_iload_n C (tb_at ok_X8_within 8 rfl) rfl ?_
      refine aw_goto C 19 (tb_at ok_X8_within 9 rfl) (by decide) ?_
      exact sw_iret C S rfl (tb_at ok_X8_within 11 rfl) h
  · refine aw_iload_n C (tb_at ok_X8_within 3 rfl) rfl ?_
    refine aw_goto C 19 (tb_at ok_X8_within 4 rfl) (by decide) ?_
    exact sw_iret C S rfl (tb_at ok_X8_within 11 rfl) h
theorem m_fM_within {l : Launch} {w : Wd} {n : Nat} {a0 : Int32} {a1 : Int32} {a2 : Int32} {M : Mem} {r : Int32 × Mem} (hn : 113 ≤ n) (h : fM_within a0 a1 a2 M = some r) : CM l w yX8_within cX8_within 3 (some .int) 1 0 0 [.int a0, .int a1, .int a2] n M (PD M) (Ti n r) := sm_of (loc := [some (.int a0), some (.int a1), some (.int a2)]) mf_X8_within (by decide) (Nat.le_of_ble_eq_true rfl) rfl (fun K _ _ C S => t_fM_within C S hn h)
def tb_X8_spell : List (Nat × Instr × Nat) := [(0, .aload_n 0, 1), (1, .getfield 13, 3), (4, .iload_n 1, 1), (5, .iload_n 2, 1), (6, .iastore, 1), (7, .aload_n 0, 1), (8, .getfield 13, 3), (11, .iload_n 1, 1), (12, .iconst 1, 1), (13, .iadd, 1), (14, .iload_n 3, 1), (15, .iastore, 1), (16, .aload_n 0, 1), (17, .getfield 13, 3), (20, .iload_n 1, 1), (21, .iconst 2, 1), (22, .iadd, 1), (23, .iload 4, 2), (25, .iastore, 1), (26, .aload_n 0, 1), (27, .getfield 13, 3), (30, .iload_n 1, 1), (31, .iconst 3, 1), (32, .iadd, 1), (33, .iload 5, 2), (35, .iastore, 1), (36, .aload_n 0, 1), (37, .getfield 13, 3), (40, .iload_n 1, 1), (41, .iconst 4, 1), (42, .iadd, 1), (43, .iload 6, 2), (45, .iastore, 1), (46, .aload_n 0, 1), (47, .getfield 13, 3), (50, .iload_n 1, 1), (51, .iconst 5, 1), (52, .iadd, 1), (53, .iload 7, 2), (55, .iastore, 1), (56, .aload_n 0, 1), (57, .getfield 13, 3), (60, .iload_n 1, 1), (61, .bipush 6, 2), (63, .iadd, 1), (64, .iload 8, 2), (66, .iastore, 1), (67, .aload_n 0, 1), (68, .getfield 13, 3), (71, .iload_n 1, 1), (72, .bipush 7, 2), (74, .iadd, 1), (75, .iload 9, 2), (77, .iastore, 1), (78, .return_, 1)]
theorem ok_X8_spell : TB cX8_spell tb_X8_spell := (by decide +kernel : tb_X8_spell.all (fun q => tbq cX8_spell q) = true)
set_option maxHeartbeats 4000000 in
set_option maxRecDepth 20000 in
theorem t_fM_spell {K : Cx} {n : Nat} {a1 : Int32} {a2 : Int32} {a3 : Int32} {a4 : Int32} {a5 : Int32} {a6 : Int32} {a7 : Int32} {a8 : Int32} {a9 : Int32} {M : Mem} {r : Mem} (C : Ctx K RX8 cX8_spell) (S : SS K n 1 10 none (Tv n r)) (hn : 113 ≤ n) (h : fM_spell a1 a2 a3 a4 a5 a6 a7 a8 a9 M = some r) : AS K n M 0 [some (.ref 85), some (.int a1), some (.int a2), some (.int a3), some (.int a4), some (.int a5), some (.int a6), some (.int a7), some (.int a8), some (.int a9)] [] := by
  refine aw_aload_n C (tb_at ok_X8_spell 0 rfl) rfl ?_
  refine aw_getR C (ob_85 hn) rfl (by decide) rfl p_85_1 fl_RX8_13 (tb_at ok_X8_spell 1 rfl) ?_
  refine aw_iload_n C (tb_at ok_X8_spell 2 rfl) rfl ?_
  refine aw_iload_n C (tb_at ok_X8_spell 3 rfl) rfl ?_
  refine sw_iast C (ob_86 hn) (tb_at ok_X8_spell 4 rfl) h (fun h => ?_)
  refine aw_aload_n C (tb_at ok_X8_spell 5 rfl) rfl ?_
  refine aw_getR C (ob_85 hn) rfl (by decide) rfl p_85_1 fl_RX8_13 (tb_at ok_X8_spell 6 rfl) ?_
  refine aw_iload_n C (tb_at ok_X8_spell 7 rfl) rfl ?_
  refine aw_iconst C (tb_at ok_X8_spell 8 rfl) ki_1 ?_
  refine aw_iadd C (tb_at ok_X8_spell 9 rfl) ?_
  refine aw_iload_n C (tb_at ok_X8_spell 10 rfl) rfl ?_
  refine sw_iast C (ob_86 hn) (tb_at ok_X8_spell 11 rfl) h (fun h => ?_)
  refine aw_aload_n C (tb_at ok_X8_spell 12 rfl) rfl ?_
  refine aw_getR C (ob_85 hn) rfl (by decide) rfl p_85_1 fl_RX8_13 (tb_at ok_X8_spell 13 rfl) ?_
  refine aw_iload_n C (tb_at ok_X8_spell 14 rfl) rfl ?_
  refine aw_iconst C (tb_at ok_X8_spell 15 rfl) ki_2 ?_
  refine aw_iadd C (tb_at ok_X8_spell 16 rfl) ?_
  refine aw_iload C (tb_at ok_X8_spell 17 rfl) rfl ?_
  refine sw_iast C (ob_86 hn) (tb_at ok_X8_spell 18 rfl) h (fun h => ?_)
  refine aw_aload_n C (tb_at ok_X8_spell 19 rfl) rfl ?_
  refine aw_getR C (ob_85 hn) rfl (by decide) rfl p_85_1 fl_RX8_13 (tb_at ok_X8_spell 20 rfl) ?_
  refine aw_iload_n C (tb_at ok_X8_spell 21 rfl) rfl ?_
  refine aw_iconst C (tb_at ok_X8_spell 22 rfl) ki_3 ?_
  refine aw_iadd C (tb_at ok_X8_spell 23 rfl) ?_
  refine aw_iload C (tb_at ok_X8_spell 24 rfl) rfl ?_
  refine sw_iast C (ob_86 hn) (tb_at ok_X8_spell 25 rfl) h (fun h => ?_)
  refine aw_aload_n C (tb_at ok_X8_spell 26 rfl) rfl ?_
  refine aw_getR C (ob_85 hn) rfl (by decide) rfl p_85_1 fl_RX8_13 (tb_at ok_X8_spell 27 rfl) ?_
  refine aw_iload_n C (tb_at ok_X8_spell 28 rfl) rfl ?_
  refine aw_iconst C (tb_at ok_X8_spell 29 rfl) ki_4 ?_
  refine aw_iadd C (tb_at ok_X8_spell 30 rfl) ?_
  refine aw_iload C (tb_at ok_X8_spell 31 rfl) rfl ?_
  refine sw_iast C (ob_86 hn) (tb_at ok_X8_spell 32 rfl) h (fun h => ?_)
  refine aw_aload_n C (tb_at ok_X8_spell 33 rfl) rfl ?_
  refine aw_getR C (ob_85 hn) rfl (by decide) rfl p_85_1 fl_RX8_13 (tb_at ok_X8_spell 34 rfl) ?_
  refine aw_iload_n C (tb_at ok_X8_spell 35 rfl) rfl ?_
  refine aw_iconst C (tb_at ok_X8_spell 36 rfl) ki_5 ?_
  refine aw_iadd C (tb_at ok_X8_spell 37 rfl) ?_
  refine aw_iload C (tb_at ok_X8_spell 38 rfl) rfl ?_
  refine sw_iast C (ob_86 hn) (tb_at ok_X8_spell 39 rfl) h (fun h => ?_)
  refine aw_aload_n C (tb_at ok_X8_spell 40 rfl) rfl ?_
  refine aw_getR C (ob_85 hn) rfl (by decide) rfl p_85_1 fl_RX8_13 (tb_at ok_X8_spell 41 rfl) ?_
  refine aw_iload_n C (tb_at ok_X8_spell 42 rfl) rfl ?_
  refine aw_bipush C (tb_at ok_X8_spell 43 rfl) kb_6 ?_
  refine aw_iadd C (tb_at ok_X8_spell 44 rfl) ?_
  refine aw_iload C (tb_at ok_X8_spell 45 rfl) rfl ?_
  refine sw_iast C (ob_86 hn) (tb_at ok_X8_spell 46 rfl) h (fun h => ?_)
  refine aw_aload_n C (tb_at ok_X8_spell 47 rfl) rfl ?_
  refine aw_getR C (ob_85 hn) rfl (by decide) rfl p_85_1 fl_RX8_13 (tb_at ok_X8_spell 48 rfl) ?_
  refine aw_iload_n C (tb_at ok_X8_spell 49 rfl) rfl ?_
  refine aw_bipush C (tb_at ok_X8_spell 50 rfl) kb_7 ?_
  refine aw_iadd C (tb_at ok_X8_spell 51 rfl) ?_
  refine aw_iload C (tb_at ok_X8_spell 52 rfl) rfl ?_
  refine sw_iast C (ob_86 hn) (tb_at ok_X8_spell 53 rfl) h (fun h => ?_)
  exact sw_vret C S (tb_at ok_X8_spell 54 rfl) h
theorem m_fM_spell {l : Launch} {w : Wd} {n : Nat} {a1 : Int32} {a2 : Int32} {a3 : Int32} {a4 : Int32} {a5 : Int32} {a6 : Int32} {a7 : Int32} {a8 : Int32} {a9 : Int32} {M : Mem} {r : Mem} (hn : 113 ≤ n) (h : fM_spell a1 a2 a3 a4 a5 a6 a7 a8 a9 M = some r) : CM l w yX8_spell cX8_spell 10 none 1 0 0 [.ref 85, .int a1, .int a2, .int a3, .int a4, .int a5, .int a6, .int a7, .int a8, .int a9] n M (PD M) (Tv n r) := sm_of (loc := [some (.ref 85), some (.int a1), some (.int a2), some (.int a3), some (.int a4), some (.int a5), some (.int a6), some (.int a7), some (.int a8), some (.int a9)]) mf_X8_spell (by decide) (Nat.le_of_ble_eq_true rfl) rfl (fun K _ _ C S => t_fM_spell C S hn h)
def tb_X8_isRoom : List (Nat × Instr × Nat) := [(0, .iload_n 0, 1), (1, .i2l, 1), (2, .lconst 0, 1), (3, .ldc2_w 112, 3), (6, .invokestatic 114, 3), (9, .ireturn, 1)]
theorem ok_X8_isRoom : TB cX8_isRoom tb_X8_isRoom := (by decide +kernel : tb_X8_isRoom.all (fun q => tbq cX8_isRoom q) = true)
set_option maxHeartbeats 4000000 in
set_option maxRecDepth 20000 in
theorem t_fM_isRoom {K : Cx} {n : Nat} {a0 : Int32} {M : Mem} {r : Int32 × Mem} (C : Ctx K RX8 cX8_isRoom) (S : SS K n 2 1 (some .boolean) (Ti n r)) (hn : 113 ≤ n) (h : fM_isRoom a0 M = some r) : AS K n M 0 [some (.int a0)] [] := by
  refine aw_iload_n C (tb_at ok_X8_isRoom 0 rfl) rfl ?_
  refine aw_i2l C (tb_at ok_X8_isRoom 1 rfl) ?_
  refine aw_lconst C (tb_at ok_X8_isRoom 2 rfl) kl_0 ?_
  refine aw_ldc2 C kc_RX8_112 (tb_at ok_X8_isRoom 3 rfl) ?_
  refine sw_cSi C S [.long (a0.toInt64), .long (0 : Int64), .long (7 : Int64)] [] (tb_at ok_X8_isRoom 4 rfl) h (fun q e => m_fM_in hn e) mf_X8_in cw_RX8_114 rfl (by decide) rfl (Nat.le_of_ble_eq_true rfl) (fun r1 M1 h => ?_)
  exact sw_zret C S (tb_at ok_X8_isRoom 5 rfl) h
theorem m_fM_isRoom {l : Launch} {w : Wd} {n : Nat} {a0 : Int32} {M : Mem} {r : Int32 × Mem} (hn : 113 ≤ n) (h : fM_isRoom a0 M = some r) : CM l w yX8_isRoom cX8_isRoom 1 (some .boolean) 2 0 0 [.int a0] n M (PD M) (Ti n r) := sm_of (loc := [some (.int a0)]) mf_X8_isRoom (by decide) (Nat.le_of_ble_eq_true rfl) rfl (fun K _ _ C S => t_fM_isRoom C S hn h)
def tb_X8_isMaid : List (Nat × Instr × Nat) := [(0, .iload_n 1, 1), (1, .i2l, 1), (2, .lconst 0, 1), (3, .aload_n 0, 1), (4, .getfield 118, 3), (7, .iconst 1, 1), (8, .isub, 1), (9, .i2l, 1), (10, .invokestatic 114, 3), (13, .ireturn, 1)]
theorem ok_X8_isMaid : TB cX8_isMaid tb_X8_isMaid := (by decide +kernel : tb_X8_isMaid.all (fun q => tbq cX8_isMaid q) = true)
set_option maxHeartbeats 4000000 in
set_option maxRecDepth 20000 in
theorem t_fM_isMaid {K : Cx} {n : Nat} {a1 : Int32} {M : Mem} {r : Int32 × Mem} (C : Ctx K RX8 cX8_isMaid) (S : SS K n 2 2 (some .boolean) (Ti n r)) (hn : 113 ≤ n) (h : fM_isMaid a1 M = some r) : AS K n M 0 [some (.ref 85), some (.int a1)] [] := by
  refine aw_iload_n C (tb_at ok_X8_isMaid 0 rfl) rfl ?_
  refine aw_i2l C (tb_at ok_X8_isMaid 1 rfl) ?_
  refine aw_lconst C (tb_at ok_X8_isMaid 2 rfl) kl_0 ?_
  refine aw_aload_n C (tb_at ok_X8_isMaid 3 rfl) rfl ?_
  refine aw_get C (ob_85 hn) rfl (by decide) rfl fl_RX8_118 (tb_at ok_X8_isMaid 4 rfl) ?_
  refine aw_iconst C (tb_at ok_X8_isMaid 5 rfl) ki_1 ?_
  refine aw_isub C (tb_at ok_X8_isMaid 6 rfl) ?_
  refine aw_i2l C (tb_at ok_X8_isMaid 7 rfl) ?_
  refine sw_cSi C S [.long (a1.toInt64), .long (0 : Int64), .long (((M 85 17) - 1).toInt64)] [] (tb_at ok_X8_isMaid 8 rfl) h (fun q e => m_fM_in hn e) mf_X8_in cw_RX8_114 rfl (by decide) rfl (Nat.le_of_ble_eq_true rfl) (fun r1 M1 h => ?_)
  exact sw_zret C S (tb_at ok_X8_isMaid 9 rfl) h
theorem m_fM_isMaid {l : Launch} {w : Wd} {n : Nat} {a1 : Int32} {M : Mem} {r : Int32 × Mem} (hn : 113 ≤ n) (h : fM_isMaid a1 M = some r) : CM l w yX8_isMaid cX8_isMaid 2 (some .boolean) 2 0 0 [.ref 85, .int a1] n M (PD M) (Ti n r) := sm_of (loc := [some (.ref 85), some (.int a1)]) mf_X8_isMaid (by decide) (Nat.le_of_ble_eq_true rfl) rfl (fun K _ _ C S => t_fM_isMaid C S hn h)
def tb_X8_isStay : List (Nat × Instr × Nat) := [(0, .iload_n 1, 1), (1, .i2l, 1), (2, .lconst 0, 1), (3, .aload_n 0, 1), (4, .getfield 121, 3), (7, .iconst 1, 1), (8, .isub, 1), (9, .i2l, 1), (10, .invokestatic 114, 3), (13, .ireturn, 1)]
theorem ok_X8_isStay : TB cX8_isStay tb_X8_isStay := (by decide +kernel : tb_X8_isStay.all (fun q => tbq cX8_isStay q) = true)
set_option maxHeartbeats 4000000 in
set_option maxRecDepth 20000 in
theorem t_fM_isStay {K : Cx} {n : Nat} {a1 : Int32} {M : Mem} {r : Int32 × Mem} (C : Ctx K RX8 cX8_isStay) (S : SS K n 2 2 (some .boolean) (Ti n r)) (hn : 113 ≤ n) (h : fM_isStay a1 M = some r) : AS K n M 0 [some (.ref 85), some (.int a1)] [] := by
  refine aw_iload_n C (tb_at ok_X8_isStay 0 rfl) rfl ?_
  refine aw_i2l C (tb_at ok_X8_isStay 1 rfl) ?_
  refine aw_lconst C (tb_at ok_X8_isStay 2 rfl) kl_0 ?_
  refine aw_aload_n C (tb_at ok_X8_isStay 3 rfl) rfl ?_
  refine aw_get C (ob_85 hn) rfl (by decide) rfl fl_RX8_121 (tb_at ok_X8_isStay 4 rfl) ?_
  refine aw_iconst C (tb_at ok_X8_isStay 5 rfl) ki_1 ?_
  refine aw_isub C (tb_at ok_X8_isStay 6 rfl) ?_
  refine aw_i2l C (tb_at ok_X8_isStay 7 rfl) ?_
  refine sw_cSi C S [.long (a1.toInt64), .long (0 : Int64), .long (((M 85 11) - 1).toInt64)] [] (tb_at ok_X8_isStay 8 rfl) h (fun q e => m_fM_in hn e) mf_X8_in cw_RX8_114 rfl (by decide) rfl (Nat.le_of_ble_eq_true rfl) (fun r1 M1 h => ?_)
  exact sw_zret C S (tb_at ok_X8_isStay 9 rfl) h
theorem m_fM_isStay {l : Launch} {w : Wd} {n : Nat} {a1 : Int32} {M : Mem} {r : Int32 × Mem} (hn : 113 ≤ n) (h : fM_isStay a1 M = some r) : CM l w yX8_isStay cX8_isStay 2 (some .boolean) 2 0 0 [.ref 85, .int a1] n M (PD M) (Ti n r) := sm_of (loc := [some (.ref 85), some (.int a1)]) mf_X8_isStay (by decide) (Nat.le_of_ble_eq_true rfl) rfl (fun K _ _ C S => t_fM_isStay C S hn h)
def tb_X8_isOf : List (Nat × Instr × Nat) := [(0, .iload_n 1, 1), (1, .ifCond .eq 42, 3), (4, .iload_n 1, 1), (5, .iconst 1, 1), (6, .if_icmp .ne 13, 3), (9, .iload_n 2, 1), (10, .invokestatic 124, 3), (13, .ifCond .eq 34, 3), (16, .goto 27, 3), (19, .iload_n 1, 1), (20, .iconst 4, 1), (21, .if_icmp .ge 14, 3), (24, .aload_n 0, 1), (25, .iload_n 2, 1), (26, .invokevirtual 128, 3), (29, .ifCond .eq 18, 3), (32, .goto 11, 3), (35, .aload_n 0, 1), (36, .iload_n 2, 1), (37, .invokevirtual 131, 3), (40, .ifCond .eq 7, 3), (43, .iconst 1, 1), (44, .goto 4, 3), (47, .iconst 0, 1), (48, .ireturn, 1)]
theorem ok_X8_isOf : TB cX8_isOf tb_X8_isOf := (by decide +kernel : tb_X8_isOf.all (fun q => tbq cX8_isOf q) = true)
set_option maxHeartbeats 4000000 in
set_option maxRecDepth 20000 in
theorem t_fM_isOf_b43 {K : Cx} {n : Nat} {M : Mem} {r : Int32 × Mem} (C : Ctx K RX8 cX8_isOf) (S : SS K n 3 3 (some .boolean) (Ti n r)) (hn : 113 ≤ n) (h : fM_isOf_b43 M = some r) : AS K n M 43 [none, none, none] [] := by
  refine aw_iconst C (tb_at ok_X8_isOf 21 rfl) ki_1 ?_
  refine aw_goto C 48 (tb_at ok_X8_isOf 22 rfl) (by decide) ?_
  exact sw_iret C S rfl (tb_at ok_X8_isOf 24 rfl) h
set_option maxHeartbeats 4000000 in
set_option maxRecDepth 20000 in
theorem t_fM_isOf {K : Cx} {n : Nat} {a1 : Int32} {a2 : Int32} {M : Mem} {r : Int32 × Mem} (C : Ctx K RX8 cX8_isOf) (S : SS K n 3 3 (some .boolean) (Ti n r)) (hn : 113 ≤ n) (h : fM_isOf a1 a2 M = some r) : AS K n M 0 [some (.ref 85), some (.int a1), some (.int a2)] [] := by
  refine aw_iload_n C (tb_at ok_X8_isOf 0 rfl) rfl ?_
  refine aw_if_eq C 43 (tb_at ok_X8_isOf 1 rfl) (by decide) h (fun h => ?_) (fun h => ?_)
  · exact aw_loc [none, none, none] (sl_n (sl_n (sl_n sl_0))) (t_fM_isOf_b43 C S hn h)
  · refine aw_iload_n C (tb_at ok_X8_isOf 2 rfl) rfl ?_
    refine aw_iconst C (tb_at ok_X8_isOf 3 rfl) ki_1 ?_
    refine aw_icmp_ne C 19 (tb_at ok_X8_isOf 4 rfl) (by decide) h (fun h => ?_) (fun h => ?_)
    · refine aw_iload_n C (tb_at ok_X8_isOf 5 rfl) rfl ?_
      refine sw_cSi C S [.int a2] [] (tb_at ok_X8_isOf 6 rfl) h (fun q e => m_fM_isRoom hn e) mf_X8_isRoom cw_RX8_124 rfl (by decide) rfl (Nat.le_of_ble_eq_true rfl) (fun r1 M1 h => ?_)
      refine aw_if_eq C 47 (tb_at ok_X8_isOf 7 rfl) (by decide) h (fun h => ?_) (fun h => ?_)
      · refine aw_iconst C (tb_at ok_X8_isOf 23 rfl) ki_0 ?_
        exact sw_iret C S rfl (tb_at ok_X8_isOf 24 rfl) h
      · refine aw_goto C 43 (tb_at ok_X8_isOf 8 rfl) (by decide) ?_
        exact aw_loc [none, none, none] (sl_n (sl_n (sl_n sl_0))) (t_fM_isOf_b43 C S hn h)
    · refine aw_iload_n C (tb_at ok_X8_isOf 9 rfl) rfl ?_
      refine aw_iconst C (tb_at ok_X8_isOf 10 rfl) ki_4 ?_
      refine aw_icmp_ge C 35 (tb_at ok_X8_isOf 11 rfl) (by decide) h (fun h => ?_) (fun h => ?_)
      · refine aw_aload_n C (tb_at ok_X8_isOf 17 rfl) rfl ?_
        refine aw_iload_n C (tb_at ok_X8_isOf 18 rfl) rfl ?_
        refine sw_cVi C S [.int a2] [] (tb_at ok_X8_isOf 19 rfl) h (fun q e => m_fM_isMaid hn e) mf_X8_isMaid (ob_85 hn) rfl rfl cw_RX8_131 rfl (by decide) rfl (Nat.le_of_ble_eq_true rfl) (fun r2 M2 h => ?_)
        refine aw_if_eq C 47 (tb_at ok_X8_isOf 20 rfl) (by decide) h (fun h => ?_) (fun h => ?_)
        · refine aw_iconst C (tb_at ok_X8_isOf 23 rfl) ki_0 ?_
          exact sw_iret C S rfl (tb_at ok_X8_isOf 24 rfl) h
        · exact aw_loc [none, none, none] (sl_n (sl_n (sl_n sl_0))) (t_fM_isOf_b43 C S hn h)
      · refine aw_aload_n C (tb_at ok_X8_isOf 12 rfl) rfl ?_
        refine aw_iload_n C (tb_at ok_X8_isOf 13 rfl) rfl ?_
        refine sw_cVi C S [.int a2] [] (tb_at ok_X8_isOf 14 rfl) h (fun q e => m_fM_isStay hn e) mf_X8_isStay (ob_85 hn) rfl rfl cw_RX8_128 rfl (by decide) rfl (Nat.le_of_ble_eq_true rfl) (fun r3 M3 h => ?_)
        refine aw_if_eq C 47 (tb_at ok_X8_isOf 15 rfl) (by decide) h (fun h => ?_) (fun h => ?_)
        · refine aw_iconst C (tb_at ok_X8_isOf 23 rfl) ki_0 ?_
          exact sw_iret C S rfl (tb_at ok_X8_isOf 24 rfl) h
        · refine aw_goto C 43 (tb_at ok_X8_isOf 16 rfl) (by decide) ?_
          exact aw_loc [none, none, none] (sl_n (sl_n (sl_n sl_0))) (t_fM_isOf_b43 C S hn h)
theorem m_fM_isOf {l : Launch} {w : Wd} {n : Nat} {a1 : Int32} {a2 : Int32} {M : Mem} {r : Int32 × Mem} (hn : 113 ≤ n) (h : fM_isOf a1 a2 M = some r) : CM l w yX8_isOf cX8_isOf 3 (some .boolean) 3 0 0 [.ref 85, .int a1, .int a2] n M (PD M) (Ti n r) := sm_of (loc := [some (.ref 85), some (.int a1), some (.int a2)]) mf_X8_isOf (by decide) (Nat.le_of_ble_eq_true rfl) rfl (fun K _ _ C S => t_fM_isOf C S hn h)
