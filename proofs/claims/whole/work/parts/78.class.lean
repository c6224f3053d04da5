/-! 78: the cells of the class (laid by wip/gen/ctor.py) -/
def tb_X7_init : List (Nat × Instr × Nat) := [(0, .aload_n 0, 1), (1, .invokespecial 1, 3), (4, .aload_n 0, 1), (5, .new 7, 3), (8, .dup, 1), (9, .invokespecial 9, 3), (12, .putfield 10, 3), (15, .aload_n 0, 1), (16, .new 7, 3), (19, .dup, 1), (20, .invokespecial 9, 3), (23, .putfield 16, 3), (26, .aload_n 0, 1), (27, .new 7, 3), (30, .dup, 1), (31, .invokespecial 9, 3), (34, .putfield 19, 3), (37, .aload_n 0, 1), (38, .iconst 0, 1), (39, .putfield 22, 3), (42, .aload_n 0, 1), (43, .new 26, 3), (46, .dup, 1), (47, .invokespecial 28, 3), (50, .putfield 29, 3), (53, .aload_n 0, 1), (54, .bipush 6, 2), (56, .anewarray 33, 3), (59, .putfield 35, 3), (62, .aload_n 0, 1), (63, .iconst 1, 1), (64, .putfield 39, 3), (67, .aload_n 0, 1), (68, .new 43, 3), (71, .dup, 1), (72, .aload_n 0, 1), (73, .getfield 10, 3), (76, .aload_n 0, 1), (77, .getfield 35, 3), (80, .invokespecial 45, 3), (83, .putfield 48, 3), (86, .aload_n 0, 1), (87, .iconst 4, 1), (88, .anewarray 52, 3), (91, .putfield 54, 3), (94, .aload_n 0, 1), (95, .iconst 5, 1), (96, .newarray .int, 2), (98, .putfield 58, 3), (101, .iconst 0, 1), (102, .istore_n 1, 1), (103, .iload_n 1, 1), (104, .bipush 6, 2), (106, .if_icmp .ge 22, 3), (109, .aload_n 0, 1), (110, .getfield 35, 3), (113, .iload_n 1, 1), (114, .new 33, 3), (117, .dup, 1), (118, .invokespecial 62, 3), (121, .aastore, 1), (122, .iinc 1 1, 3), (125, .goto (-22), 3), (128, .iconst 0, 1), (129, .istore_n 1, 1), (130, .iload_n 1, 1), (131, .iconst 4, 1), (132, .if_icmp .ge 22, 3), (135, .aload_n 0, 1), (136, .getfield 54, 3), (139, .iload_n 1, 1), (140, .new 52, 3), (143, .dup, 1), (144, .invokespecial 63, 3), (147, .aastore, 1), (148, .iinc 1 1, 3), (151, .goto (-21), 3), (154, .iconst 0, 1), (155, .istore_n 1, 1), (156, .iload_n 1, 1), (157, .ldc 64, 2), (159, .invokevirtual 66, 3), (162, .if_icmp .ge 23, 3), (165, .aload_n 0, 1), (166, .getfield 29, 3), (169, .ldc 64, 2), (171, .iload_n 1, 1), (172, .invokevirtual 72, 3), (175, .invokevirtual 76, 3), (178, .pop, 1), (179, .iinc 1 1, 3), (182, .goto (-26), 3), (185, .aload_n 0, 1), (186, .getfield 29, 3), (189, .aload_n 0, 1), (190, .getfield 35, 3), (193, .iconst 0, 1), (194, .aaload, 1), (195, .invokevirtual 80, 3), (198, .pop, 1), (199, .return_, 1)]
theorem ok_X7_init : TB cX7_init tb_X7_init := (by decide +kernel : tb_X7_init.all (fun q => tbq cX7_init q) = true)
def iM_X7_init (M : Mem) : Mem := iM_X4_init 83 (iM_X4_init 81 (iM_X4_init 79 (iM_X4_init 77 (iM_X6_init 74 (iM_X6_init 71 (iM_X6_init 68 (iM_X6_init 65 (iM_X6_init 62 (iM_X6_init 59 (iM_X0_init 45 (wr (iM_X3_init 40 (iM_X1_init 27 (iM_X1_init 14 (iM_X1_init 1 M)))) 0 6 1)))))))))))
def iP_X7_init (P : Pm) : Pm := wrP (iP_X4_init 83 (wrP (iP_X4_init 81 (wrP (iP_X4_init 79 (wrP (iP_X4_init 77 (wrP (iP_X6_init 74 (wrP (iP_X6_init 71 (wrP (iP_X6_init 68 (wrP (iP_X6_init 65 (wrP (iP_X6_init 62 (wrP (iP_X6_init 59 (wrP (wrP (wrP (iP_X0_init 45 (wrP (wrP (iP_X3_init 40 (wrP (iP_X1_init 27 (wrP (iP_X1_init 14 (wrP (iP_X1_init 1 P) 0 0 (some 1))) 0 1 (some 14))) 0 2 (some 27))) 0 4 (some 40)) 0 5 (some 44)) 1 44) 0 7 (some 45)) 0 8 (some 57)) 0 9 (some 58))) 44 0 (some 59))) 44 1 (some 62))) 44 2 (some 65))) 44 3 (some 68))) 44 4 (some 71))) 44 5 (some 74))) 57 0 (some 77))) 57 1 (some 79))) 57 2 (some 81))) 57 3 (some 83)
set_option maxHeartbeats 4000000 in
set_option maxRecDepth 20000 in
theorem t_X7_init {K : Cx} {M : Mem} {P : Pm} (C : Ctx K RX7 cX7_init) (hL : kL K = 2) (hn : kn K = 1) (hR : kR K = rm 80 84 2017) (hnm : ∀ z, yX7_init.name = z → (kmt K).name = z) (f0 : Fr 0 M P) (kk : Fr 85 (iM_X7_init M) (iP_X7_init P) → AW K 85 (iM_X7_init M) (iP_X7_init P) 154 [some (.ref 0), some (.int 4)] []) : AW K 1 M P 0 [some (.ref 0), none] [] := by
  have s0 : shf 0 = (7, 10) := rfl
  have s1 : shf 1 = (1, 8) := rfl
  have s2 : shf 2 = (20, 8) := rfl
  have s3 : shf 3 = (20, 8) := rfl
  have s4 : shf 4 = (20, 8) := rfl
  have s5 : shf 5 = (22, 4) := rfl
  have s6 : shf 6 = (2, 5) := rfl
  have s7 : shf 7 = (20, 5) := rfl
  have s8 : shf 8 = (2, 5) := rfl
  have s9 : shf 9 = (20, 5) := rfl
  have s10 : shf 10 = (2, 5) := rfl
  have s11 : shf 11 = (20, 5) := rfl
  have s12 : shf 12 = (2, 5) := rfl
  have s13 : shf 13 = (20, 5) := rfl
  have s14 : shf 14 = (1, 8) := rfl
  have s15 : shf 15 = (20, 8) := rfl
  have s16 : shf 16 = (20, 8) := rfl
  have s17 : shf 17 = (20, 8) := rfl
  have s18 : shf 18 = (22, 4) := rfl
  have s19 : shf 19 = (2, 5) := rfl
  have s20 : shf 20 = (20, 5) := rfl
  have s21 : shf 21 = (2, 5) := rfl
  have s22 : shf 22 = (20, 5) := rfl
  have s23 : shf 23 = (2, 5) := rfl
  have s24 : shf 24 = (20, 5) := rfl
  have s25 : shf 25 = (2, 5) := rfl
  have s26 : shf 26 = (20, 5) := rfl
  have s27 : shf 27 = (1, 8) := rfl
  have s28 : shf 28 = (20, 8) := rfl
  have s29 : shf 29 = (20, 8) := rfl
  have s30 : shf 30 = (20, 8) := rfl
  have s31 : shf 31 = (22, 4) := rfl
  have s32 : shf 32 = (2, 5) := rfl
  have s33 : shf 33 = (20, 5) := rfl
  have s34 : shf 34 = (2, 5) := rfl
  have s35 : shf 35 = (20, 5) := rfl
  have s36 : shf 36 = (2, 5) := rfl
  have s37 : shf 37 = (20, 5) := rfl
  have s38 : shf 38 = (2, 5) := rfl
  have s39 : shf 39 = (20, 5) := rfl
  have s40 : shf 40 = (3, 10) := rfl
  have s41 : shf 41 = (20, 160) := rfl
  have s42 : shf 42 = (20, 160) := rfl
  have s43 : shf 43 = (20, 3) := rfl
  have s44 : shf 44 = (24, 6) := rfl
  have s45 : shf 45 = (0, 15) := rfl
  have s46 : shf 46 = (5, 2) := rfl
  have s47 : shf 47 = (20, 64) := rfl
  have s48 : shf 48 = (20, 6) := rfl
  have s49 : shf 49 = (20, 160) := rfl
  have s50 : shf 50 = (20, 4) := rfl
  have s51 : shf 51 = (20, 4) := rfl
  have s52 : shf 52 = (20, 4) := rfl
  have s53 : shf 53 = (20, 4) := rfl
  have s54 : shf 54 = (20, 4) := rfl
  have s55 : shf 55 = (20, 4) := rfl
  have s56 : shf 56 = (20, 8) := rfl
  have s57 : shf 57 = (23, 4) := rfl
  have s58 : shf 58 = (20, 5) := rfl
  have s59 : shf 59 = (6, 2) := rfl
  have s60 : shf 60 = (20, 160) := rfl
  have s61 : shf 61 = (20, 3) := rfl
  have s62 : shf 62 = (6, 2) := rfl
  have s63 : shf 63 = (20, 160) := rfl
  have s64 : shf 64 = (20, 3) := rfl
  have s65 : shf 65 = (6, 2) := rfl
  have s66 : shf 66 = (20, 160) := rfl
  have s67 : shf 67 = (20, 3) := rfl
  have s68 : shf 68 = (6, 2) := rfl
  have s69 : shf 69 = (20, 160) := rfl
  have s70 : shf 70 = (20, 3) := rfl
  have s71 : shf 71 = (6, 2) := rfl
  have s72 : shf 72 = (20, 160) := rfl
  have s73 : shf 73 = (20, 3) := rfl
  have s74 : shf 74 = (6, 2) := rfl
  have s75 : shf 75 = (20, 160) := rfl
  have s76 : shf 76 = (20, 3) := rfl
  have s77 : shf 77 = (4, 3) := rfl
  have s78 : shf 78 = (20, 40) := rfl
  have s79 : shf 79 = (4, 3) := rfl
  have s80 : shf 80 = (20, 40) := rfl
  have s81 : shf 81 = (4, 3) := rfl
  have s82 : shf 82 = (20, 40) := rfl
  have s83 : shf 83 = (4, 3) := rfl
  have s84 : shf 84 = (20, 40) := rfl
  have mm : ∀ i, 1 ≤ i → i < 86 → i - kn K ≤ (kR K).cells ∧ sln i - sln (kn K) ≤ (kR K).slots := by
    rw [hn, hR]
    intro i h1 h2
    have : ∀ i, i < 86 → i - 1 ≤ 84 ∧ sln i - sln 1 ≤ 2017 := by decide +kernel
    exact this i h2
  have f1 : Fr 1 M P := f0.mono
  refine aw_aload_n C (tb_at ok_X7_init 0 rfl) rfl ?_
  refine aw_objInit C oi_RX7_1 (Nat.le_of_ble_eq_true rfl) (tb_at ok_X7_init 1 rfl) ?_
  refine aw_aload_n C (tb_at ok_X7_init 2 rfl) rfl ?_
  refine aw_new C (by rw [hn]; omega) s1 (by omega) rfl (f1 _ (Nat.le_refl _)).1 (f1 _ (Nat.le_refl _)).2 nw_RX7_7 (mm 2 (by decide) (by decide)) dv_RX1 (tb_at ok_X7_init 3 rfl) ?_
  have f2 : Fr 2 M P := f1.mono
  refine aw_dup C (tb_at ok_X7_init 4 rfl) rfl ?_
  refine aw_cI C ⟨by rw [hn]; omega, (mm 2 (by decide) (by decide))⟩ (tb_at ok_X7_init 5 rfl) (m_X1_init s1 s2 s3 s4 s5 s6 s7 s8 s9 s10 s11 s12 s13 (by omega) (f1)) mf_X1_init (by omega) cw_RX7_9 rfl rfl (by rw [hR]; decide) rfl (Nat.le_of_ble_eq_true rfl) (by rw [hn, hR]; exact ⟨by decide +kernel, by decide +kernel⟩) (fun rv n1 M1 P1 z => by obtain ⟨-, rfl, -⟩ := z; exact ⟨rfl, by show sln 14 = sln 2 + 68; decide +kernel⟩) (fun rv n1 M1 P1 z => ?_)
  obtain ⟨rfl, rfl, rfl, rfl, g9_14⟩ := z
  show AW K 14 (iM_X1_init 1 M) (iP_X1_init 1 P) 12 [some (.ref 0), none] [.ref 1, .ref 0]
  refine aw_putRF C ⟨by omega, by omega, s0⟩ rfl (by decide) rfl rfl (hnm _ rfl) rfl (fun _ => rfl) (fun _ => rfl) fl_RX7_10 (tb_at ok_X7_init 6 rfl) ?_
  have f3 : Fr 14 (iM_X1_init 1 M) (wrP (iP_X1_init 1 P) 0 0 (some 1)) := g9_14.wrP (by omega)
  refine aw_aload_n C (tb_at ok_X7_init 7 rfl) rfl ?_
  refine aw_new C (by rw [hn]; omega) s14 (by omega) rfl (f3 _ (Nat.le_refl _)).1 (f3 _ (Nat.le_refl _)).2 nw_RX7_7 (mm 15 (by decide) (by decide)) dv_RX1 (tb_at ok_X7_init 8 rfl) ?_
  have f4 : Fr 15 (iM_X1_init 1 M) (wrP (iP_X1_init 1 P) 0 0 (some 1)) := f3.mono
  refine aw_dup C (tb_at ok_X7_init 9 rfl) rfl ?_
  refine aw_cI C ⟨by rw [hn]; omega, (mm 15 (by decide) (by decide))⟩ (tb_at ok_X7_init 10 rfl) (m_X1_init s14 s15 s16 s17 s18 s19 s20 s21 s22 s23 s24 s25 s26 (by omega) (f3)) mf_X1_init (by omega) cw_RX7_9 rfl rfl (by rw [hR]; decide) rfl (Nat.le_of_ble_eq_true rfl) (by rw [hn, hR]; exact ⟨by decide +kernel, by decide +kernel⟩) (fun rv n1 M1 P1 z => by obtain ⟨-, rfl, -⟩ := z; exact ⟨rfl, by show sln 27 = sln 15 + 68; decide +kernel⟩) (fun rv n1 M1 P1 z => ?_)
  obtain ⟨rfl, rfl, rfl, rfl, g20_27⟩ := z
  show AW K 27 (iM_X1_init 14 (iM_X1_init 1 M)) (iP_X1_init 14 (wrP (iP_X1_init 1 P) 0 0 (some 1))) 23 [some (.ref 0), none] [.ref 14, .ref 0]
  refine aw_putRF C ⟨by omega, by omega, s0⟩ rfl (by decide) rfl rfl (hnm _ rfl) rfl (fun _ => rfl) (fun _ => rfl) fl_RX7_16 (tb_at ok_X7_init 11 rfl) ?_
  have f5 : Fr 27 (iM_X1_init 14 (iM_X1_init 1 M)) (wrP (iP_X1_init 14 (wrP (iP_X1_init 1 P) 0 0 (some 1))) 0 1 (some 14)) := g20_27.wrP (by omega)
  refine aw_aload_n C (tb_at ok_X7_init 12 rfl) rfl ?_
  refine aw_new C (by rw [hn]; omega) s27 (by omega) rfl (f5 _ (Nat.le_refl _)).1 (f5 _ (Nat.le_refl _)).2 nw_RX7_7 (mm 28 (by decide) (by decide)) dv_RX1 (tb_at ok_X7_init 13 rfl) ?_
  have f6 : Fr 28 (iM_X1_init 14 (iM_X1_init 1 M)) (wrP (iP_X1_init 14 (wrP (iP_X1_init 1 P) 0 0 (some 1))) 0 1 (some 14)) := f5.mono
  refine aw_dup C (tb_at ok_X7_init 14 rfl) rfl ?_
  refine aw_cI C ⟨by rw [hn]; omega, (mm 28 (by decide) (by decide))⟩ (tb_at ok_X7_init 15 rfl) (m_X1_init s27 s28 s29 s30 s31 s32 s33 s34 s35 s36 s37 s38 s39 (by omega) (f5)) mf_X1_init (by omega) cw_RX7_9 rfl rfl (by rw [hR]; decide) rfl (Nat.le_of_ble_eq_true rfl) (by rw [hn, hR]; exact ⟨by decide +kernel, by decide +kernel⟩) (fun rv n1 M1 P1 z => by obtain ⟨-, rfl, -⟩ := z; exact ⟨rfl, by show sln 40 = sln 28 + 68; decide +kernel⟩) (fun rv n1 M1 P1 z => ?_)
  obtain ⟨rfl, rfl, rfl, rfl, g31_40⟩ := z
  show AW K 40 (iM_X1_init 27 (iM_X1_init 14 (iM_X1_init 1 M))) (iP_X1_init 27 (wrP (iP_X1_init 14 (wrP (iP_X1_init 1 P) 0 0 (some 1))) 0 1 (some 14))) 34 [some (.ref 0), none] [.ref 27, .ref 0]
  refine aw_putRF C ⟨by omega, by omega, s0⟩ rfl (by decide) rfl rfl (hnm _ rfl) rfl (fun _ => rfl) (fun _ => rfl) fl_RX7_19 (tb_at ok_X7_init 16 rfl) ?_
  have f7 : Fr 40 (iM_X1_init 27 (iM_X1_init 14 (iM_X1_init 1 M))) (wrP (iP_X1_init 27 (wrP (iP_X1_init 14 (wrP (iP_X1_init 1 P) 0 0 (some 1))) 0 1 (some 14))) 0 2 (some 27)) := g31_40.wrP (by omega)
  refine aw_aload_n C (tb_at ok_X7_init 17 rfl) rfl ?_
  refine aw_iconst C (tb_at ok_X7_init 18 rfl) ki_0 ?_
  refine aw_put0 C ⟨by omega, by omega, s0⟩ rfl (by decide) (by decide) rfl rfl rfl rfl fl_RX7_22 (by unfold iM_X1_init iM_X2_init; rw [wr_ne (by omega), wr_ne (by omega), wr_ne (by omega), wr_ne (by omega), wr_ne (by omega), wr_ne (by omega), wr_ne (by omega), wr_ne (by omega), wr_ne (by omega), wr_ne (by omega), wr_ne (by omega), wr_ne (by omega), wr_ne (by omega), wr_ne (by omega), wr_ne (by omega), wr_ne (by omega), wr_ne (by omega), wr_ne (by omega), wr_ne (by omega), wr_ne (by omega), wr_ne (by omega), wr_ne (by omega), wr_ne (by omega), wr_ne (by omega), wr_ne (by omega), wr_ne (by omega), wr_ne (by omega)]; exact (f0 _ (Nat.le_refl _)).1 _) (tb_at ok_X7_init 19 rfl) ?_
  refine aw_aload_n C (tb_at ok_X7_init 20 rfl) rfl ?_
  refine aw_new C (by rw [hn]; omega) s40 (by omega) rfl (f7 _ (Nat.le_refl _)).1 (f7 _ (Nat.le_refl _)).2 nw_RX7_26 (mm 41 (by decide) (by decide)) dv_RX3 (tb_at ok_X7_init 21 rfl) ?_
  have f8 : Fr 41 (iM_X1_init 27 (iM_X1_init 14 (iM_X1_init 1 M))) (wrP (iP_X1_init 27 (wrP (iP_X1_init 14 (wrP (iP_X1_init 1 P) 0 0 (some 1))) 0 1 (some 14))) 0 2 (some 27)) := f7.mono
  refine aw_dup C (tb_at ok_X7_init 22 rfl) rfl ?_
  refine aw_cIN C ⟨by rw [hn]; omega, (mm 41 (by decide) (by decide))⟩ (tb_at ok_X7_init 23 rfl) (m_X3_init s40 s41 s42 s43 (by omega) (f7)) mf_X3_init (by omega) cw_RX7_28 rfl rfl (by rw [hR]; decide) rfl (Nat.le_of_ble_eq_true rfl) (by rw [hn, hR]; exact ⟨by decide +kernel, by decide +kernel⟩) (fun rv n1 M1 P1 z => by obtain ⟨-, rfl, -⟩ := z; exact ⟨rfl, by show sln 44 = sln 41 + 323; decide +kernel⟩) (fun rv n1 M1 P1 z => ?_)
  obtain ⟨rfl, rfl, rfl, rfl, g47_44⟩ := z
  show AW K 44 (iM_X3_init 40 (iM_X1_init 27 (iM_X1_init 14 (iM_X1_init 1 M)))) (iP_X3_init 40 (wrP (iP_X1_init 27 (wrP (iP_X1_init 14 (wrP (iP_X1_init 1 P) 0 0 (some 1))) 0 1 (some 14))) 0 2 (some 27))) 50 [some (.ref 0), none] [.ref 40, .ref 0]
  refine aw_putRF C ⟨by omega, by omega, s0⟩ rfl (by decide) rfl rfl (hnm _ rfl) rfl (fun _ => rfl) (fun _ => rfl) fl_RX7_29 (tb_at ok_X7_init 24 rfl) ?_
  have f9 : Fr 44 (iM_X3_init 40 (iM_X1_init 27 (iM_X1_init 14 (iM_X1_init 1 M)))) (wrP (iP_X3_init 40 (wrP (iP_X1_init 27 (wrP (iP_X1_init 14 (wrP (iP_X1_init 1 P) 0 0 (some 1))) 0 1 (some 14))) 0 2 (some 27))) 0 4 (some 40)) := g47_44.wrP (by omega)
  refine aw_aload_n C (tb_at ok_X7_init 25 rfl) rfl ?_
  refine aw_bipush C (tb_at ok_X7_init 26 rfl) kb_6 ?_
  refine aw_anew C (by rw [hn]; omega) 4 s44 (by decide) (by omega) rfl (f9 _ (Nat.le_refl _)).2 C.2.2.2.2.2.1.2.2.2.2.2.2.1.2.2 cl_RX7_33 (by decide) (mm 45 (by decide) (by decide)) (tb_at ok_X7_init 27 rfl) ?_
  have f10 : Fr 45 (iM_X3_init 40 (iM_X1_init 27 (iM_X1_init 14 (iM_X1_init 1 M)))) (wrP (iP_X3_init 40 (wrP (iP_X1_init 27 (wrP (iP_X1_init 14 (wrP (iP_X1_init 1 P) 0 0 (some 1))) 0 1 (some 14))) 0 2 (some 27))) 0 4 (some 40)) := f9.mono
  refine aw_putRF C ⟨by omega, by omega, s0⟩ rfl (by decide) rfl rfl (hnm _ rfl) rfl (fun _ => rfl) (fun _ => rfl) fl_RX7_35 (tb_at ok_X7_init 28 rfl) ?_
  have f11 : Fr 45 (iM_X3_init 40 (iM_X1_init 27 (iM_X1_init 14 (iM_X1_init 1 M)))) (wrP (wrP (iP_X3_init 40 (wrP (iP_X1_init 27 (wrP (iP_X1_init 14 (wrP (iP_X1_init 1 P) 0 0 (some 1))) 0 1 (some 14))) 0 2 (some 27))) 0 4 (some 40)) 0 5 (some 44)) := f10.wrP (by omega)
  refine aw_aload_n C (tb_at ok_X7_init 29 rfl) rfl ?_
  refine aw_iconst C (tb_at ok_X7_init 30 rfl) ki_1 ?_
  refine aw_put C ⟨by omega, by omega, s0⟩ rfl (by decide) (by decide) rfl rfl rfl rfl fl_RX7_39 (tb_at ok_X7_init 31 rfl) ?_
  have f12 : Fr 45 (wr (iM_X3_init 40 (iM_X1_init 27 (iM_X1_init 14 (iM_X1_init 1 M)))) 0 6 1) (wrP (wrP (iP_X3_init 40 (wrP (iP_X1_init 27 (wrP (iP_X1_init 14 (wrP (iP_X1_init 1 P) 0 0 (some 1))) 0 1 (some 14))) 0 2 (some 27))) 0 4 (some 40)) 0 5 (some 44)) := f11.wr (by omega)
  refine aw_aload_n C (tb_at ok_X7_init 32 rfl) rfl ?_
  refine aw_new C (by rw [hn]; omega) s45 (by omega) rfl (f12 _ (Nat.le_refl _)).1 (f12 _ (Nat.le_refl _)).2 nw_RX7_43 (mm 46 (by decide) (by decide)) dv_RX0 (tb_at ok_X7_init 33 rfl) ?_
  have f13 : Fr 46 (wr (iM_X3_init 40 (iM_X1_init 27 (iM_X1_init 14 (iM_X1_init 1 M)))) 0 6 1) (wrP (wrP (iP_X3_init 40 (wrP (iP_X1_init 27 (wrP (iP_X1_init 14 (wrP (iP_X1_init 1 P) 0 0 (some 1))) 0 1 (some 14))) 0 2 (some 27))) 0 4 (some 40)) 0 5 (some 44)) := f12.mono
  refine aw_dup C (tb_at ok_X7_init 34 rfl) rfl ?_
  refine aw_aload_n C (tb_at ok_X7_init 35 rfl) rfl ?_
  refine aw_getR C ⟨by omega, by omega, s0⟩ rfl (by decide) rfl (r := 1) (by first | rfl | simp [wrP, iP_X1_init, iP_X2_init, iP_X3_init]) fl_RX7_10 (tb_at ok_X7_init 36 rfl) ?_
  refine aw_aload_n C (tb_at ok_X7_init 37 rfl) rfl ?_
  refine aw_getR C ⟨by omega, by omega, s0⟩ rfl (by decide) rfl (r := 44) (by first | rfl | simp [wrP, iP_X1_init, iP_X2_init, iP_X3_init]) fl_RX7_35 (tb_at ok_X7_init 38 rfl) ?_
  refine aw_cI C ⟨by rw [hn]; omega, (mm 46 (by decide) (by decide))⟩ (tb_at ok_X7_init 39 rfl) (m_X0_init s45 s46 s47 s48 s49 s50 s51 s52 s53 s54 s55 s56 (by omega) (f12) 1 44) mf_X0_init (by omega) cw_RX7_45 rfl rfl (by rw [hR]; decide) rfl (Nat.le_of_ble_eq_true rfl) (by rw [hn, hR]; exact ⟨by decide +kernel, by decide +kernel⟩) (fun rv n1 M1 P1 z => by obtain ⟨-, rfl, -⟩ := z; exact ⟨rfl, by show sln 57 = sln 46 + 264; decide +kernel⟩) (fun rv n1 M1 P1 z => ?_)
  obtain ⟨rfl, rfl, rfl, rfl, g80_57⟩ := z
  show AW K 57 (iM_X0_init 45 (wr (iM_X3_init 40 (iM_X1_init 27 (iM_X1_init 14 (iM_X1_init 1 M)))) 0 6 1)) (iP_X0_init 45 (wrP (wrP (iP_X3_init 40 (wrP (iP_X1_init 27 (wrP (iP_X1_init 14 (wrP (iP_X1_init 1 P) 0 0 (some 1))) 0 1 (some 14))) 0 2 (some 27))) 0 4 (some 40)) 0 5 (some 44)) 1 44) 83 [some (.ref 0), none] [.ref 45, .ref 0]
  refine aw_putRF C ⟨by omega, by omega, s0⟩ rfl (by decide) rfl rfl (hnm _ rfl) rfl (fun _ => rfl) (fun _ => rfl) fl_RX7_48 (tb_at ok_X7_init 40 rfl) ?_
  have f14 : Fr 57 (iM_X0_init 45 (wr (iM_X3_init 40 (iM_X1_init 27 (iM_X1_init 14 (iM_X1_init 1 M)))) 0 6 1)) (wrP (iP_X0_init 45 (wrP (wrP (iP_X3_init 40 (wrP (iP_X1_init 27 (wrP (iP_X1_init 14 (wrP (iP_X1_init 1 P) 0 0 (some 1))) 0 1 (some 14))) 0 2 (some 27))) 0 4 (some 40)) 0 5 (some 44)) 1 44) 0 7 (some 45)) := g80_57.wrP (by omega)
  refine aw_aload_n C (tb_at ok_X7_init 41 rfl) rfl ?_
  refine aw_iconst C (tb_at ok_X7_init 42 rfl) ki_4 ?_
  refine aw_anew C (by rw [hn]; omega) 3 s57 (by decide) (by omega) rfl (f14 _ (Nat.le_refl _)).2 C.2.2.2.2.2.1.2.2.2.2.2.2.1.2.1 cl_RX7_52 (by decide) (mm 58 (by decide) (by decide)) (tb_at ok_X7_init 43 rfl) ?_
  have f15 : Fr 58 (iM_X0_init 45 (wr (iM_X3_init 40 (iM_X1_init 27 (iM_X1_init 14 (iM_X1_init 1 M)))) 0 6 1)) (wrP (iP_X0_init 45 (wrP (wrP (iP_X3_init 40 (wrP (iP_X1_init 27 (wrP (iP_X1_init 14 (wrP (iP_X1_init 1 P) 0 0 (some 1))) 0 1 (some 14))) 0 2 (some 27))) 0 4 (some 40)) 0 5 (some 44)) 1 44) 0 7 (some 45)) := f14.mono
  refine aw_putRF C ⟨by omega, by omega, s0⟩ rfl (by decide) rfl rfl (hnm _ rfl) rfl (fun _ => rfl) (fun _ => rfl) fl_RX7_54 (tb_at ok_X7_init 44 rfl) ?_
  have f16 : Fr 58 (iM_X0_init 45 (wr (iM_X3_init 40 (iM_X1_init 27 (iM_X1_init 14 (iM_X1_init 1 M)))) 0 6 1)) (wrP (wrP (iP_X0_init 45 (wrP (wrP (iP_X3_init 40 (wrP (iP_X1_init 27 (wrP (iP_X1_init 14 (wrP (iP_X1_init 1 P) 0 0 (some 1))) 0 1 (some 14))) 0 2 (some 27))) 0 4 (some 40)) 0 5 (some 44)) 1 44) 0 7 (some 45)) 0 8 (some 57)) := f15.wrP (by omega)
  refine aw_aload_n C (tb_at ok_X7_init 45 rfl) rfl ?_
  refine aw_iconst C (tb_at ok_X7_init 46 rfl) ki_5 ?_
  refine aw_newa C (by rw [hn]; omega) s58 (by omega) (f16 _ (Nat.le_refl _)).1 ac_int (by decide) (mm 59 (by decide) (by decide)) (tb_at ok_X7_init 47 rfl) ?_
  have f17 : Fr 59 (iM_X0_init 45 (wr (iM_X3_init 40 (iM_X1_init 27 (iM_X1_init 14 (iM_X1_init 1 M)))) 0 6 1)) (wrP (wrP (iP_X0_init 45 (wrP (wrP (iP_X3_init 40 (wrP (iP_X1_init 27 (wrP (iP_X1_init 14 (wrP (iP_X1_init 1 P) 0 0 (some 1))) 0 1 (some 14))) 0 2 (some 27))) 0 4 (some 40)) 0 5 (some 44)) 1 44) 0 7 (some 45)) 0 8 (some 57)) := f16.mono
  refine aw_putRF C ⟨by omega, by omega, s0⟩ rfl (by decide) rfl rfl (hnm _ rfl) rfl (fun _ => rfl) (fun _ => rfl) fl_RX7_58 (tb_at ok_X7_init 48 rfl) ?_
  have f18 : Fr 59 (iM_X0_init 45 (wr (iM_X3_init 40 (iM_X1_init 27 (iM_X1_init 14 (iM_X1_init 1 M)))) 0 6 1)) (wrP (wrP (wrP (iP_X0_init 45 (wrP (wrP (iP_X3_init 40 (wrP (iP_X1_init 27 (wrP (iP_X1_init 14 (wrP (iP_X1_init 1 P) 0 0 (some 1))) 0 1 (some 14))) 0 2 (some 27))) 0 4 (some 40)) 0 5 (some 44)) 1 44) 0 7 (some 45)) 0 8 (some 57)) 0 9 (some 58)) := f17.wrP (by omega)
  refine aw_iconst C (tb_at ok_X7_init 49 rfl) ki_0 ?_
  refine aw_istore_n C [some (.ref 0), some (.int 0)] (tb_at ok_X7_init 50 rfl) hL (by decide) rfl ?_
  refine aw_iload_n C (tb_at ok_X7_init 51 rfl) rfl ?_
  refine aw_bipush C (tb_at ok_X7_init 52 rfl) kb_6 ?_
  refine aw_icmp_ge (A := none) (B := some ()) (r := ()) C 128 (tb_at ok_X7_init 53 rfl) (by decide) (by decide) (fun h => by cases h) (fun _ => ?_)
  refine aw_aload_n C (tb_at ok_X7_init 54 rfl) rfl ?_
  refine aw_getR C ⟨by omega, by omega, s0⟩ rfl (by decide) rfl (r := 44) (by first | rfl | simp [wrP, iP_X0_init, iP_X1_init, iP_X2_init, iP_X3_init, iP_X5_init]) fl_RX7_35 (tb_at ok_X7_init 55 rfl) ?_
  refine aw_iload_n C (tb_at ok_X7_init 56 rfl) rfl ?_
  refine aw_new C (by rw [hn]; omega) s59 (by omega) rfl (f18 _ (Nat.le_refl _)).1 (f18 _ (Nat.le_refl _)).2 nw_RX7_33 (mm 60 (by decide) (by decide)) dv_RX6 (tb_at ok_X7_init 57 rfl) ?_
  have f19 : Fr 60 (iM_X0_init 45 (wr (iM_X3_init 40 (iM_X1_init 27 (iM_X1_init 14 (iM_X1_init 1 M)))) 0 6 1)) (wrP (wrP (wrP (iP_X0_init 45 (wrP (wrP (iP_X3_init 40 (wrP (iP_X1_init 27 (wrP (iP_X1_init 14 (wrP (iP_X1_init 1 P) 0 0 (some 1))) 0 1 (some 14))) 0 2 (some 27))) 0 4 (some 40)) 0 5 (some 44)) 1 44) 0 7 (some 45)) 0 8 (some 57)) 0 9 (some 58)) := f18.mono
  refine aw_dup C (tb_at ok_X7_init 58 rfl) rfl ?_
  refine aw_cIN C ⟨by rw [hn]; omega, (mm 60 (by decide) (by decide))⟩ (tb_at ok_X7_init 59 rfl) (m_X6_init s59 s60 s61 (by omega) (f18)) mf_X6_init (by omega) cw_RX7_62 rfl rfl (by rw [hR]; decide) rfl (Nat.le_of_ble_eq_true rfl) (by rw [hn, hR]; exact ⟨by decide +kernel, by decide +kernel⟩) (fun rv n1 M1 P1 z => by obtain ⟨-, rfl, -⟩ := z; exact ⟨rfl, by show sln 62 = sln 60 + 163; decide +kernel⟩) (fun rv n1 M1 P1 z => ?_)
  obtain ⟨rfl, rfl, rfl, rfl, g118_62⟩ := z
  show AW K 62 (iM_X6_init 59 (iM_X0_init 45 (wr (iM_X3_init 40 (iM_X1_init 27 (iM_X1_init 14 (iM_X1_init 1 M)))) 0 6 1))) (iP_X6_init 59 (wrP (wrP (wrP (iP_X0_init 45 (wrP (wrP (iP_X3_init 40 (wrP (iP_X1_init 27 (wrP (iP_X1_init 14 (wrP (iP_X1_init 1 P) 0 0 (some 1))) 0 1 (some 14))) 0 2 (some 27))) 0 4 (some 40)) 0 5 (some 44)) 1 44) 0 7 (some 45)) 0 8 (some 57)) 0 9 (some 58))) 121 [some (.ref 0), some (.int 0)] [.ref 59, .int 0, .ref 44]
  refine aw_aast C 4 ⟨by omega, by omega, s44⟩ (by decide) rfl ⟨by omega, by omega, s59⟩ rfl (by decide) (tb_at ok_X7_init 60 rfl) ?_
  have f20 : Fr 62 (iM_X6_init 59 (iM_X0_init 45 (wr (iM_X3_init 40 (iM_X1_init 27 (iM_X1_init 14 (iM_X1_init 1 M)))) 0 6 1))) (wrP (iP_X6_init 59 (wrP (wrP (wrP (iP_X0_init 45 (wrP (wrP (iP_X3_init 40 (wrP (iP_X1_init 27 (wrP (iP_X1_init 14 (wrP (iP_X1_init 1 P) 0 0 (some 1))) 0 1 (some 14))) 0 2 (some 27))) 0 4 (some 40)) 0 5 (some 44)) 1 44) 0 7 (some 45)) 0 8 (some 57)) 0 9 (some 58))) 44 0 (some 59)) := g118_62.wrP (by omega)
  refine aw_iinc C [some (.ref 0), some (.int 1)] (tb_at ok_X7_init 61 rfl) rfl hL (by decide) ki_1 rfl ?_
  refine aw_goto C 103 (tb_at ok_X7_init 62 rfl) (by decide) ?_
  refine aw_iload_n C (tb_at ok_X7_init 51 rfl) rfl ?_
  refine aw_bipush C (tb_at ok_X7_init 52 rfl) kb_6 ?_
  refine aw_icmp_ge (A := none) (B := some ()) (r := ()) C 128 (tb_at ok_X7_init 53 rfl) (by decide) (by decide) (fun h => by cases h) (fun _ => ?_)
  refine aw_aload_n C (tb_at ok_X7_init 54 rfl) rfl ?_
  refine aw_getR C ⟨by omega, by omega, s0⟩ rfl (by decide) rfl (r := 44) (by first | rfl | simp [wrP, iP_X0_init, iP_X1_init, iP_X2_init, iP_X3_init, iP_X5_init, iP_X6_init]) fl_RX7_35 (tb_at ok_X7_init 55 rfl) ?_
  refine aw_iload_n C (tb_at ok_X7_init 56 rfl) rfl ?_
  refine aw_new C (by rw [hn]; omega) s62 (by omega) rfl (f20 _ (Nat.le_refl _)).1 (f20 _ (Nat.le_refl _)).2 nw_RX7_33 (mm 63 (by decide) (by decide)) dv_RX6 (tb_at ok_X7_init 57 rfl) ?_
  have f21 : Fr 63 (iM_X6_init 59 (iM_X0_init 45 (wr (iM_X3_init 40 (iM_X1_init 27 (iM_X1_init 14 (iM_X1_init 1 M)))) 0 6 1))) (wrP (iP_X6_init 59 (wrP (wrP (wrP (iP_X0_init 45 (wrP (wrP (iP_X3_init 40 (wrP (iP_X1_init 27 (wrP (iP_X1_init 14 (wrP (iP_X1_init 1 P) 0 0 (some 1))) 0 1 (some 14))) 0 2 (some 27))) 0 4 (some 40)) 0 5 (some 44)) 1 44) 0 7 (some 45)) 0 8 (some 57)) 0 9 (some 58))) 44 0 (some 59)) := f20.mono
  refine aw_dup C (tb_at ok_X7_init 58 rfl) rfl ?_
  refine aw_cIN C ⟨by rw [hn]; omega, (mm 63 (by decide) (by decide))⟩ (tb_at ok_X7_init 59 rfl) (m_X6_init s62 s63 s64 (by omega) (f20)) mf_X6_init (by omega) cw_RX7_62 rfl rfl (by rw [hR]; decide) rfl (Nat.le_of_ble_eq_true rfl) (by rw [hn, hR]; exact ⟨by decide +kernel, by decide +kernel⟩) (fun rv n1 M1 P1 z => by obtain ⟨-, rfl, -⟩ := z; exact ⟨rfl, by show sln 65 = sln 63 + 163; decide +kernel⟩) (fun rv n1 M1 P1 z => ?_)
  obtain ⟨rfl, rfl, rfl, rfl, g118_65⟩ := z
  show AW K 65 (iM_X6_init 62 (iM_X6_init 59 (iM_X0_init 45 (wr (iM_X3_init 40 (iM_X1_init 27 (iM_X1_init 14 (iM_X1_init 1 M)))) 0 6 1)))) (iP_X6_init 62 (wrP (iP_X6_init 59 (wrP (wrP (wrP (iP_X0_init 45 (wrP (wrP (iP_X3_init 40 (wrP (iP_X1_init 27 (wrP (iP_X1_init 14 (wrP (iP_X1_init 1 P) 0 0 (some 1))) 0 1 (some 14))) 0 2 (some 27))) 0 4 (some 40)) 0 5 (some 44)) 1 44) 0 7 (some 45)) 0 8 (some 57)) 0 9 (some 58))) 44 0 (some 59))) 121 [some (.ref 0), some (.int 1)] [.ref 62, .int 1, .ref 44]
  refine aw_aast C 4 ⟨by omega, by omega, s44⟩ (by decide) rfl ⟨by omega, by omega, s62⟩ rfl (by decide) (tb_at ok_X7_init 60 rfl) ?_
  have f22 : Fr 65 (iM_X6_init 62 (iM_X6_init 59 (iM_X0_init 45 (wr (iM_X3_init 40 (iM_X1_init 27 (iM_X1_init 14 (iM_X1_init 1 M)))) 0 6 1)))) (wrP (iP_X6_init 62 (wrP (iP_X6_init 59 (wrP (wrP (wrP (iP_X0_init 45 (wrP (wrP (iP_X3_init 40 (wrP (iP_X1_init 27 (wrP (iP_X1_init 14 (wrP (iP_X1_init 1 P) 0 0 (some 1))) 0 1 (some 14))) 0 2 (some 27))) 0 4 (some 40)) 0 5 (some 44)) 1 44) 0 7 (some 45)) 0 8 (some 57)) 0 9 (some 58))) 44 0 (some 59))) 44 1 (some 62)) := g118_65.wrP (by omega)
  refine aw_iinc C [some (.ref 0), some (.int 2)] (tb_at ok_X7_init 61 rfl) rfl hL (by decide) ki_1 rfl ?_
  refine aw_goto C 103 (tb_at ok_X7_init 62 rfl) (by decide) ?_
  refine aw_iload_n C (tb_at ok_X7_init 51 rfl) rfl ?_
  refine aw_bipush C (tb_at ok_X7_init 52 rfl) kb_6 ?_
  refine aw_icmp_ge (A := none) (B := some ()) (r := ()) C 128 (tb_at ok_X7_init 53 rfl) (by decide) (by decide) (fun h => by cases h) (fun _ => ?_)
  refine aw_aload_n C (tb_at ok_X7_init 54 rfl) rfl ?_
  refine aw_getR C ⟨by omega, by omega, s0⟩ rfl (by decide) rfl (r := 44) (by first | rfl | simp [wrP, iP_X0_init, iP_X1_init, iP_X2_init, iP_X3_init, iP_X5_init, iP_X6_init]) fl_RX7_35 (tb_at ok_X7_init 55 rfl) ?_
  refine aw_iload_n C (tb_at ok_X7_init 56 rfl) rfl ?_
  refine aw_new C (by rw [hn]; omega) s65 (by omega) rfl (f22 _ (Nat.le_refl _)).1 (f22 _ (Nat.le_refl _)).2 nw_RX7_33 (mm 66 (by decide) (by decide)) dv_RX6 (tb_at ok_X7_init 57 rfl) ?_
  have f23 : Fr 66 (iM_X6_init 62 (iM_X6_init 59 (iM_X0_init 45 (wr (iM_X3_init 40 (iM_X1_init 27 (iM_X1_init 14 (iM_X1_init 1 M)))) 0 6 1)))) (wrP (iP_X6_init 62 (wrP (iP_X6_init 59 (wrP (wrP (wrP (iP_X0_init 45 (wrP (wrP (iP_X3_init 40 (wrP (iP_X1_init 27 (wrP (iP_X1_init 14 (wrP (iP_X1_init 1 P) 0 0 (some 1))) 0 1 (some 14))) 0 2 (some 27))) 0 4 (some 40)) 0 5 (some 44)) 1 44) 0 7 (some 45)) 0 8 (some 57)) 0 9 (some 58))) 44 0 (some 59))) 44 1 (some 62)) := f22.mono
  refine aw_dup C (tb_at ok_X7_init 58 rfl) rfl ?_
  refine aw_cIN C ⟨by rw [hn]; omega, (mm 66 (by decide) (by decide))⟩ (tb_at ok_X7_init 59 rfl) (m_X6_init s65 s66 s67 (by omega) (f22)) mf_X6_init (by omega) cw_RX7_62 rfl rfl (by rw [hR]; decide) rfl (Nat.le_of_ble_eq_true rfl) (by rw [hn, hR]; exact ⟨by decide +kernel, by decide +kernel⟩) (fun rv n1 M1 P1 z => by obtain ⟨-, rfl, -⟩ := z; exact ⟨rfl, by show sln 68 = sln 66 + 163; decide +kernel⟩) (fun rv n1 M1 P1 z => ?_)
  obtain ⟨rfl, rfl, rfl, rfl, g118_68⟩ := z
  show AW K 68 (iM_X6_init 65 (iM_X6_init 62 (iM_X6_init 59 (iM_X0_init 45 (wr (iM_X3_init 40 (iM_X1_init 27 (iM_X1_init 14 (iM_X1_init 1 M)))) 0 6 1))))) (iP_X6_init 65 (wrP (iP_X6_init 62 (wrP (iP_X6_init 59 (wrP (wrP (wrP (iP_X0_init 45 (wrP (wrP (iP_X3_init 40 (wrP (iP_X1_init 27 (wrP (iP_X1_init 14 (wrP (iP_X1_init 1 P) 0 0 (some 1))) 0 1 (some 14))) 0 2 (some 27))) 0 4 (some 40)) 0 5 (some 44)) 1 44) 0 7 (some 45)) 0 8 (some 57)) 0 9 (some 58))) 44 0 (some 59))) 44 1 (some 62))) 121 [some (.ref 0), some (.int 2)] [.ref 65, .int 2, .ref 44]
  refine aw_aast C 4 ⟨by omega, by omega, s44⟩ (by decide) rfl ⟨by omega, by omega, s65⟩ rfl (by decide) (tb_at ok_X7_init 60 rfl) ?_
  have f24 : Fr 68 (iM_X6_init 65 (iM_X6_init 62 (iM_X6_init 59 (iM_X0_init 45 (wr (iM_X3_init 40 (iM_X1_init 27 (iM_X1_init 14 (iM_X1_init 1 M)))) 0 6 1))))) (wrP (iP_X6_init 65 (wrP (iP_X6_init 62 (wrP (iP_X6_init 59 (wrP (wrP (wrP (iP_X0_init 45 (wrP (wrP (iP_X3_init 40 (wrP (iP_X1_init 27 (wrP (iP_X1_init 14 (wrP (iP_X1_init 1 P) 0 0 (some 1))) 0 1 (some 14))) 0 2 (some 27))) 0 4 (some 40)) 0 5 (some 44)) 1 44) 0 7 (some 45)) 0 8 (some 57)) 0 9 (some 58))) 44 0 (some 59))) 44 1 (some 62))) 44 2 (some 65)) := g118_68.wrP (by omega)
  refine aw_iinc C [some (.ref 0), some (.int 3)] (tb_at ok_X7_init 61 rfl) rfl hL (by decide) ki_1 rfl ?_
  refine aw_goto C 103 (tb_at ok_X7_init 62 rfl) (by decide) ?_
  refine aw_iload_n C (tb_at ok_X7_init 51 rfl) rfl ?_
  refine aw_bipush C (tb_at ok_X7_init 52 rfl) kb_6 ?_
  refine aw_icmp_ge (A := none) (B := some ()) (r := ()) C 128 (tb_at ok_X7_init 53 rfl) (by decide) (by decide) (fun h => by cases h) (fun _ => ?_)
  refine aw_aload_n C (tb_at ok_X7_init 54 rfl) rfl ?_
  refine aw_getR C ⟨by omega, by omega, s0⟩ rfl (by decide) rfl (r := 44) (by first | rfl | simp [wrP, iP_X0_init, iP_X1_init, iP_X2_init, iP_X3_init, iP_X5_init, iP_X6_init]) fl_RX7_35 (tb_at ok_X7_init 55 rfl) ?_
  refine aw_iload_n C (tb_at ok_X7_init 56 rfl) rfl ?_
  refine aw_new C (by rw [hn]; omega) s68 (by omega) rfl (f24 _ (Nat.le_refl _)).1 (f24 _ (Nat.le_refl _)).2 nw_RX7_33 (mm 69 (by decide) (by decide)) dv_RX6 (tb_at ok_X7_init 57 rfl) ?_
  have f25 : Fr 69 (iM_X6_init 65 (iM_X6_init 62 (iM_X6_init 59 (iM_X0_init 45 (wr (iM_X3_init 40 (iM_X1_init 27 (iM_X1_init 14 (iM_X1_init 1 M)))) 0 6 1))))) (wrP (iP_X6_init 65 (wrP (iP_X6_init 62 (wrP (iP_X6_init 59 (wrP (wrP (wrP (iP_X0_init 45 (wrP (wrP (iP_X3_init 40 (wrP (iP_X1_init 27 (wrP (iP_X1_init 14 (wrP (iP_X1_init 1 P) 0 0 (some 1))) 0 1 (some 14))) 0 2 (some 27))) 0 4 (some 40)) 0 5 (some 44)) 1 44) 0 7 (some 45)) 0 8 (some 57)) 0 9 (some 58))) 44 0 (some 59))) 44 1 (some 62))) 44 2 (some 65)) := f24.mono
  refine aw_dup C (tb_at ok_X7_init 58 rfl) rfl ?_
  refine aw_cIN C ⟨by rw [hn]; omega, (mm 69 (by decide) (by decide))⟩ (tb_at ok_X7_init 59 rfl) (m_X6_init s68 s69 s70 (by omega) (f24)) mf_X6_init (by omega) cw_RX7_62 rfl rfl (by rw [hR]; decide) rfl (Nat.le_of_ble_eq_true rfl) (by rw [hn, hR]; exact ⟨by decide +kernel, by decide +kernel⟩) (fun rv n1 M1 P1 z => by obtain ⟨-, rfl, -⟩ := z; exact ⟨rfl, by show sln 71 = sln 69 + 163; decide +kernel⟩) (fun rv n1 M1 P1 z => ?_)
  obtain ⟨rfl, rfl, rfl, rfl, g118_71⟩ := z
  show AW K 71 (iM_X6_init 68 (iM_X6_init 65 (iM_X6_init 62 (iM_X6_init 59 (iM_X0_init 45 (wr (iM_X3_init 40 (iM_X1_init 27 (iM_X1_init 14 (iM_X1_init 1 M)))) 0 6 1)))))) (iP_X6_init 68 (wrP (iP_X6_init 65 (wrP (iP_X6_init 62 (wrP (iP_X6_init 59 (wrP (wrP (wrP (iP_X0_init 45 (wrP (wrP (iP_X3_init 40 (wrP (iP_X1_init 27 (wrP (iP_X1_init 14 (wrP (iP_X1_init 1 P) 0 0 (some 1))) 0 1 (some 14))) 0 2 (some 27))) 0 4 (some 40)) 0 5 (some 44)) 1 44) 0 7 (some 45)) 0 8 (some 57)) 0 9 (some 58))) 44 0 (some 59))) 44 1 (some 62))) 44 2 (some 65))) 121 [some (.ref 0), some (.int 3)] [.ref 68, .int 3, .ref 44]
  refine aw_aast C 4 ⟨by omega, by omega, s44⟩ (by decide) rfl ⟨by omega, by omega, s68⟩ rfl (by decide) (tb_at ok_X7_init 60 rfl) ?_
  have f26 : Fr 71 (iM_X6_init 68 (iM_X6_init 65 (iM_X6_init 62 (iM_X6_init 59 (iM_X0_init 45 (wr (iM_X3_init 40 (iM_X1_init 27 (iM_X1_init 14 (iM_X1_init 1 M)))) 0 6 1)))))) (wrP (iP_X6_init 68 (wrP (iP_X6_init 65 (wrP (iP_X6_init 62 (wrP (iP_X6_init 59 (wrP (wrP (wrP (iP_X0_init 45 (wrP (wrP (iP_X3_init 40 (wrP (iP_X1_init 27 (wrP (iP_X1_init 14 (wrP (iP_X1_init 1 P) 0 0 (some 1))) 0 1 (some 14))) 0 2 (some 27))) 0 4 (some 40)) 0 5 (some 44)) 1 44) 0 7 (some 45)) 0 8 (some 57)) 0 9 (some 58))) 44 0 (some 59))) 44 1 (some 62))) 44 2 (some 65))) 44 3 (some 68)) := g118_71.wrP (by omega)
  refine aw_iinc C [some (.ref 0), some (.int 4)] (tb_at ok_X7_init 61 rfl) rfl hL (by decide) ki_1 rfl ?_
  refine aw_goto C 103 (tb_at ok_X7_init 62 rfl) (by decide) ?_
  refine aw_iload_n C (tb_at ok_X7_init 51 rfl) rfl ?_
  refine aw_bipush C (tb_at ok_X7_init 52 rfl) kb_6 ?_
  refine aw_icmp_ge (A := none) (B := some ()) (r := ()) C 128 (tb_at ok_X7_init 53 rfl) (by decide) (by decide) (fun h => by cases h) (fun _ => ?_)
  refine aw_aload_n C (tb_at ok_X7_init 54 rfl) rfl ?_
  refine aw_getR C ⟨by omega, by omega, s0⟩ rfl (by decide) rfl (r := 44) (by first | rfl | simp [wrP, iP_X0_init, iP_X1_init, iP_X2_init, iP_X3_init, iP_X5_init, iP_X6_init]) fl_RX7_35 (tb_at ok_X7_init 55 rfl) ?_
  refine aw_iload_n C (tb_at ok_X7_init 56 rfl) rfl ?_
  refine aw_new C (by rw [hn]; omega) s71 (by omega) rfl (f26 _ (Nat.le_refl _)).1 (f26 _ (Nat.le_refl _)).2 nw_RX7_33 (mm 72 (by decide) (by decide)) dv_RX6 (tb_at ok_X7_init 57 rfl) ?_
  have f27 : Fr 72 (iM_X6_init 68 (iM_X6_init 65 (iM_X6_init 62 (iM_X6_init 59 (iM_X0_init 45 (wr (iM_X3_init 40 (iM_X1_init 27 (iM_X1_init 14 (iM_X1_init 1 M)))) 0 6 1)))))) (wrP (iP_X6_init 68 (wrP (iP_X6_init 65 (wrP (iP_X6_init 62 (wrP (iP_X6_init 59 (wrP (wrP (wrP (iP_X0_init 45 (wrP (wrP (iP_X3_init 40 (wrP (iP_X1_init 27 (wrP (iP_X1_init 14 (wrP (iP_X1_init 1 P) 0 0 (some 1))) 0 1 (some 14))) 0 2 (some 27))) 0 4 (some 40)) 0 5 (some 44)) 1 44) 0 7 (some 45)) 0 8 (some 57)) 0 9 (some 58))) 44 0 (some 59))) 44 1 (some 62))) 44 2 (some 65))) 44 3 (some 68)) := f26.mono
  refine aw_dup C (tb_at ok_X7_init 58 rfl) rfl ?_
  refine aw_cIN C ⟨by rw [hn]; omega, (mm 72 (by decide) (by decide))⟩ (tb_at ok_X7_init 59 rfl) (m_X6_init s71 s72 s73 (by omega) (f26)) mf_X6_init (by omega) cw_RX7_62 rfl rfl (by rw [hR]; decide) rfl (Nat.le_of_ble_eq_true rfl) (by rw [hn, hR]; exact ⟨by decide +kernel, by decide +kernel⟩) (fun rv n1 M1 P1 z => by obtain ⟨-, rfl, -⟩ := z; exact ⟨rfl, by show sln 74 = sln 72 + 163; decide +kernel⟩) (fun rv n1 M1 P1 z => ?_)
  obtain ⟨rfl, rfl, rfl, rfl, g118_74⟩ := z
  show AW K 74 (iM_X6_init 71 (iM_X6_init 68 (iM_X6_init 65 (iM_X6_init 62 (iM_X6_init 59 (iM_X0_init 45 (wr (iM_X3_init 40 (iM_X1_init 27 (iM_X1_init 14 (iM_X1_init 1 M)))) 0 6 1))))))) (iP_X6_init 71 (wrP (iP_X6_init 68 (wrP (iP_X6_init 65 (wrP (iP_X6_init 62 (wrP (iP_X6_init 59 (wrP (wrP (wrP (iP_X0_init 45 (wrP (wrP (iP_X3_init 40 (wrP (iP_X1_init 27 (wrP (iP_X1_init 14 (wrP (iP_X1_init 1 P) 0 0 (some 1))) 0 1 (some 14))) 0 2 (some 27))) 0 4 (some 40)) 0 5 (some 44)) 1 44) 0 7 (some 45)) 0 8 (some 57)) 0 9 (some 58))) 44 0 (some 59))) 44 1 (some 62))) 44 2 (some 65))) 44 3 (some 68))) 121 [some (.ref 0), some (.int 4)] [.ref 71, .int 4, .ref 44]
  refine aw_aast C 4 ⟨by omega, by omega, s44⟩ (by decide) rfl ⟨by omega, by omega, s71⟩ rfl (by decide) (tb_at ok_X7_init 60 rfl) ?_
  have f28 : Fr 74 (iM_X6_init 71 (iM_X6_init 68 (iM_X6_init 65 (iM_X6_init 62 (iM_X6_init 59 (iM_X0_init 45 (wr (iM_X3_init 40 (iM_X1_init 27 (iM_X1_init 14 (iM_X1_init 1 M)))) 0 6 1))))))) (wrP (iP_X6_init 71 (wrP (iP_X6_init 68 (wrP (iP_X6_init 65 (wrP (iP_X6_init 62 (wrP (iP_X6_init 59 (wrP (wrP (wrP (iP_X0_init 45 (wrP (wrP (iP_X3_init 40 (wrP (iP_X1_init 27 (wrP (iP_X1_init 14 (wrP (iP_X1_init 1 P) 0 0 (some 1))) 0 1 (some 14))) 0 2 (some 27))) 0 4 (some 40)) 0 5 (some 44)) 1 44) 0 7 (some 45)) 0 8 (some 57)) 0 9 (some 58))) 44 0 (some 59))) 44 1 (some 62))) 44 2 (some 65))) 44 3 (some 68))) 44 4 (some 71)) := g118_74.wrP (by omega)
  refine aw_iinc C [some (.ref 0), some (.int 5)] (tb_at ok_X7_init 61 rfl) rfl hL (by decide) ki_1 rfl ?_
  refine aw_goto C 103 (tb_at ok_X7_init 62 rfl) (by decide) ?_
  refine aw_iload_n C (tb_at ok_X7_init 51 rfl) rfl ?_
  refine aw_bipush C (tb_at ok_X7_init 52 rfl) kb_6 ?_
  refine aw_icmp_ge (A := none) (B := some ()) (r := ()) C 128 (tb_at ok_X7_init 53 rfl) (by decide) (by decide) (fun h => by cases h) (fun _ => ?_)
  refine aw_aload_n C (tb_at ok_X7_init 54 rfl) rfl ?_
  refine aw_getR C ⟨by omega, by omega, s0⟩ rfl (by decide) rfl (r := 44) (by first | rfl | simp [wrP, iP_X0_init, iP_X1_init, iP_X2_init, iP_X3_init, iP_X5_init, iP_X6_init]) fl_RX7_35 (tb_at ok_X7_init 55 rfl) ?_
  refine aw_iload_n C (tb_at ok_X7_init 56 rfl) rfl ?_
  refine aw_new C (by rw [hn]; omega) s74 (by omega) rfl (f28 _ (Nat.le_refl _)).1 (f28 _ (Nat.le_refl _)).2 nw_RX7_33 (mm 75 (by decide) (by decide)) dv_RX6 (tb_at ok_X7_init 57 rfl) ?_
  have f29 : Fr 75 (iM_X6_init 71 (iM_X6_init 68 (iM_X6_init 65 (iM_X6_init 62 (iM_X6_init 59 (iM_X0_init 45 (wr (iM_X3_init 40 (iM_X1_init 27 (iM_X1_init 14 (iM_X1_init 1 M)))) 0 6 1))))))) (wrP (iP_X6_init 71 (wrP (iP_X6_init 68 (wrP (iP_X6_init 65 (wrP (iP_X6_init 62 (wrP (iP_X6_init 59 (wrP (wrP (wrP (iP_X0_init 45 (wrP (wrP (iP_X3_init 40 (wrP (iP_X1_init 27 (wrP (iP_X1_init 14 (wrP (iP_X1_init 1 P) 0 0 (some 1))) 0 1 (some 14))) 0 2 (some 27))) 0 4 (some 40)) 0 5 (some 44)) 1 44) 0 7 (some 45)) 0 8 (some 57)) 0 9 (some 58))) 44 0 (some 59))) 44 1 (some 62))) 44 2 (some 65))) 44 3 (some 68))) 44 4 (some 71)) := f28.mono
  refine aw_dup C (tb_at ok_X7_init 58 rfl) rfl ?_
  refine aw_cIN C ⟨by rw [hn]; omega, (mm 75 (by decide) (by decide))⟩ (tb_at ok_X7_init 59 rfl) (m_X6_init s74 s75 s76 (by omega) (f28)) mf_X6_init (by omega) cw_RX7_62 rfl rfl (by rw [hR]; decide) rfl (Nat.le_of_ble_eq_true rfl) (by rw [hn, hR]; exact ⟨by decide +kernel, by decide +kernel⟩) (fun rv n1 M1 P1 z => by obtain ⟨-, rfl, -⟩ := z; exact ⟨rfl, by show sln 77 = sln 75 + 163; decide +kernel⟩) (fun rv n1 M1 P1 z => ?_)
  obtain ⟨rfl, rfl, rfl, rfl, g118_77⟩ := z
  show AW K 77 (iM_X6_init 74 (iM_X6_init 71 (iM_X6_init 68 (iM_X6_init 65 (iM_X6_init 62 (iM_X6_init 59 (iM_X0_init 45 (wr (iM_X3_init 40 (iM_X1_init 27 (iM_X1_init 14 (iM_X1_init 1 M)))) 0 6 1)))))))) (iP_X6_init 74 (wrP (iP_X6_init 71 (wrP (iP_X6_init 68 (wrP (iP_X6_init 65 (wrP (iP_X6_init 62 (wrP (iP_X6_init 59 (wrP (wrP (wrP (iP_X0_init 45 (wrP (wrP (iP_X3_init 40 (wrP (iP_X1_init 27 (wrP (iP_X1_init 14 (wrP (iP_X1_init 1 P) 0 0 (some 1))) 0 1 (some 14))) 0 2 (some 27))) 0 4 (some 40)) 0 5 (some 44)) 1 44) 0 7 (some 45)) 0 8 (some 57)) 0 9 (some 58))) 44 0 (some 59))) 44 1 (some 62))) 44 2 (some 65))) 44 3 (some 68))) 44 4 (some 71))) 121 [some (.ref 0), some (.int 5)] [.ref 74, .int 5, .ref 44]
  refine aw_aast C 4 ⟨by omega, by omega, s44⟩ (by decide) rfl ⟨by omega, by omega, s74⟩ rfl (by decide) (tb_at ok_X7_init 60 rfl) ?_
  have f30 : Fr 77 (iM_X6_init 74 (iM_X6_init 71 (iM_X6_init 68 (iM_X6_init 65 (iM_X6_init 62 (iM_X6_init 59 (iM_X0_init 45 (wr (iM_X3_init 40 (iM_X1_init 27 (iM_X1_init 14 (iM_X1_init 1 M)))) 0 6 1)))))))) (wrP (iP_X6_init 74 (wrP (iP_X6_init 71 (wrP (iP_X6_init 68 (wrP (iP_X6_init 65 (wrP (iP_X6_init 62 (wrP (iP_X6_init 59 (wrP (wrP (wrP (iP_X0_init 45 (wrP (wrP (iP_X3_init 40 (wrP (iP_X1_init 27 (wrP (iP_X1_init 14 (wrP (iP_X1_init 1 P) 0 0 (some 1))) 0 1 (some 14))) 0 2 (some 27))) 0 4 (some 40)) 0 5 (some 44)) 1 44) 0 7 (some 45)) 0 8 (some 57)) 0 9 (some 58))) 44 0 (some 59))) 44 1 (some 62))) 44 2 (some 65))) 44 3 (some 68))) 44 4 (some 71))) 44 5 (some 74)) := g118_77.wrP (by omega)
  refine aw_iinc C [some (.ref 0), some (.int 6)] (tb_at ok_X7_init 61 rfl) rfl hL (by decide) ki_1 rfl ?_
  refine aw_goto C 103 (tb_at ok_X7_init 62 rfl) (by decide) ?_
  refine aw_iload_n C (tb_at ok_X7_init 51 rfl) rfl ?_
  refine aw_bipush C (tb_at ok_X7_init 52 rfl) kb_6 ?_
  refine aw_icmp_ge (A := some ()) (B := none) (r := ()) C 128 (tb_at ok_X7_init 53 rfl) (by decide) (by decide) (fun _ => ?_) (fun h => by cases h)
  refine aw_iconst C (tb_at ok_X7_init 63 rfl) ki_0 ?_
  refine aw_istore_n C [some (.ref 0), some (.int 0)] (tb_at ok_X7_init 64 rfl) hL (by decide) rfl ?_
  refine aw_iload_n C (tb_at ok_X7_init 65 rfl) rfl ?_
  refine aw_iconst C (tb_at ok_X7_init 66 rfl) ki_4 ?_
  refine aw_icmp_ge (A := none) (B := some ()) (r := ()) C 154 (tb_at ok_X7_init 67 rfl) (by decide) (by decide) (fun h => by cases h) (fun _ => ?_)
  refine aw_aload_n C (tb_at ok_X7_init 68 rfl) rfl ?_
  refine aw_getR C ⟨by omega, by omega, s0⟩ rfl (by decide) rfl (r := 57) (by first | rfl | simp [wrP, iP_X0_init, iP_X1_init, iP_X2_init, iP_X3_init, iP_X5_init, iP_X6_init]) fl_RX7_54 (tb_at ok_X7_init 69 rfl) ?_
  refine aw_iload_n C (tb_at ok_X7_init 70 rfl) rfl ?_
  refine aw_new C (by rw [hn]; omega) s77 (by omega) rfl (f30 _ (Nat.le_refl _)).1 (f30 _ (Nat.le_refl _)).2 nw_RX7_52 (mm 78 (by decide) (by decide)) dv_RX4 (tb_at ok_X7_init 71 rfl) ?_
  have f31 : Fr 78 (iM_X6_init 74 (iM_X6_init 71 (iM_X6_init 68 (iM_X6_init 65 (iM_X6_init 62 (iM_X6_init 59 (iM_X0_init 45 (wr (iM_X3_init 40 (iM_X1_init 27 (iM_X1_init 14 (iM_X1_init 1 M)))) 0 6 1)))))))) (wrP (iP_X6_init 74 (wrP (iP_X6_init 71 (wrP (iP_X6_init 68 (wrP (iP_X6_init 65 (wrP (iP_X6_init 62 (wrP (iP_X6_init 59 (wrP (wrP (wrP (iP_X0_init 45 (wrP (wrP (iP_X3_init 40 (wrP (iP_X1_init 27 (wrP (iP_X1_init 14 (wrP (iP_X1_init 1 P) 0 0 (some 1))) 0 1 (some 14))) 0 2 (some 27))) 0 4 (some 40)) 0 5 (some 44)) 1 44) 0 7 (some 45)) 0 8 (some 57)) 0 9 (some 58))) 44 0 (some 59))) 44 1 (some 62))) 44 2 (some 65))) 44 3 (some 68))) 44 4 (some 71))) 44 5 (some 74)) := f30.mono
  refine aw_dup C (tb_at ok_X7_init 72 rfl) rfl ?_
  refine aw_cIN C ⟨by rw [hn]; omega, (mm 78 (by decide) (by decide))⟩ (tb_at ok_X7_init 73 rfl) (m_X4_init s77 s78 (by omega) (f30)) mf_X4_init (by omega) cw_RX7_63 rfl rfl (by rw [hR]; decide) rfl (Nat.le_of_ble_eq_true rfl) (by rw [hn, hR]; exact ⟨by decide +kernel, by decide +kernel⟩) (fun rv n1 M1 P1 z => by obtain ⟨-, rfl, -⟩ := z; exact ⟨rfl, by show sln 79 = sln 78 + 40; decide +kernel⟩) (fun rv n1 M1 P1 z => ?_)
  obtain ⟨rfl, rfl, rfl, rfl, g144_79⟩ := z
  show AW K 79 (iM_X4_init 77 (iM_X6_init 74 (iM_X6_init 71 (iM_X6_init 68 (iM_X6_init 65 (iM_X6_init 62 (iM_X6_init 59 (iM_X0_init 45 (wr (iM_X3_init 40 (iM_X1_init 27 (iM_X1_init 14 (iM_X1_init 1 M)))) 0 6 1))))))))) (iP_X4_init 77 (wrP (iP_X6_init 74 (wrP (iP_X6_init 71 (wrP (iP_X6_init 68 (wrP (iP_X6_init 65 (wrP (iP_X6_init 62 (wrP (iP_X6_init 59 (wrP (wrP (wrP (iP_X0_init 45 (wrP (wrP (iP_X3_init 40 (wrP (iP_X1_init 27 (wrP (iP_X1_init 14 (wrP (iP_X1_init 1 P) 0 0 (some 1))) 0 1 (some 14))) 0 2 (some 27))) 0 4 (some 40)) 0 5 (some 44)) 1 44) 0 7 (some 45)) 0 8 (some 57)) 0 9 (some 58))) 44 0 (some 59))) 44 1 (some 62))) 44 2 (some 65))) 44 3 (some 68))) 44 4 (some 71))) 44 5 (some 74))) 147 [some (.ref 0), some (.int 0)] [.ref 77, .int 0, .ref 57]
  refine aw_aast C 3 ⟨by omega, by omega, s57⟩ (by decide) rfl ⟨by omega, by omega, s77⟩ rfl (by decide) (tb_at ok_X7_init 74 rfl) ?_
  have f32 : Fr 79 (iM_X4_init 77 (iM_X6_init 74 (iM_X6_init 71 (iM_X6_init 68 (iM_X6_init 65 (iM_X6_init 62 (iM_X6_init 59 (iM_X0_init 45 (wr (iM_X3_init 40 (iM_X1_init 27 (iM_X1_init 14 (iM_X1_init 1 M)))) 0 6 1))))))))) (wrP (iP_X4_init 77 (wrP (iP_X6_init 74 (wrP (iP_X6_init 71 (wrP (iP_X6_init 68 (wrP (iP_X6_init 65 (wrP (iP_X6_init 62 (wrP (iP_X6_init 59 (wrP (wrP (wrP (iP_X0_init 45 (wrP (wrP (iP_X3_init 40 (wrP (iP_X1_init 27 (wrP (iP_X1_init 14 (wrP (iP_X1_init 1 P) 0 0 (some 1))) 0 1 (some 14))) 0 2 (some 27))) 0 4 (some 40)) 0 5 (some 44)) 1 44) 0 7 (some 45)) 0 8 (some 57)) 0 9 (some 58))) 44 0 (some 59))) 44 1 (some 62))) 44 2 (some 65))) 44 3 (some 68))) 44 4 (some 71))) 44 5 (some 74))) 57 0 (some 77)) := g144_79.wrP (by omega)
  refine aw_iinc C [some (.ref 0), some (.int 1)] (tb_at ok_X7_init 75 rfl) rfl hL (by decide) ki_1 rfl ?_
  refine aw_goto C 130 (tb_at ok_X7_init 76 rfl) (by decide) ?_
  refine aw_iload_n C (tb_at ok_X7_init 65 rfl) rfl ?_
  refine aw_iconst C (tb_at ok_X7_init 66 rfl) ki_4 ?_
  refine aw_icmp_ge (A := none) (B := some ()) (r := ()) C 154 (tb_at ok_X7_init 67 rfl) (by decide) (by decide) (fun h => by cases h) (fun _ => ?_)
  refine aw_aload_n C (tb_at ok_X7_init 68 rfl) rfl ?_
  refine aw_getR C ⟨by omega, by omega, s0⟩ rfl (by decide) rfl (r := 57) (by first | rfl | simp [wrP, iP_X0_init, iP_X1_init, iP_X2_init, iP_X3_init, iP_X4_init, iP_X5_init, iP_X6_init]) fl_RX7_54 (tb_at ok_X7_init 69 rfl) ?_
  refine aw_iload_n C (tb_at ok_X7_init 70 rfl) rfl ?_
  refine aw_new C (by rw [hn]; omega) s79 (by omega) rfl (f32 _ (Nat.le_refl _)).1 (f32 _ (Nat.le_refl _)).2 nw_RX7_52 (mm 80 (by decide) (by decide)) dv_RX4 (tb_at ok_X7_init 71 rfl) ?_
  have f33 : Fr 80 (iM_X4_init 77 (iM_X6_init 74 (iM_X6_init 71 (iM_X6_init 68 (iM_X6_init 65 (iM_X6_init 62 (iM_X6_init 59 (iM_X0_init 45 (wr (iM_X3_init 40 (iM_X1_init 27 (iM_X1_init 14 (iM_X1_init 1 M)))) 0 6 1))))))))) (wrP (iP_X4_init 77 (wrP (iP_X6_init 74 (wrP (iP_X6_init 71 (wrP (iP_X6_init 68 (wrP (iP_X6_init 65 (wrP (iP_X6_init 62 (wrP (iP_X6_init 59 (wrP (wrP (wrP (iP_X0_init 45 (wrP (wrP (iP_X3_init 40 (wrP (iP_X1_init 27 (wrP (iP_X1_init 14 (wrP (iP_X1_init 1 P) 0 0 (some 1))) 0 1 (some 14))) 0 2 (some 27))) 0 4 (some 40)) 0 5 (some 44)) 1 44) 0 7 (some 45)) 0 8 (some 57)) 0 9 (some 58))) 44 0 (some 59))) 44 1 (some 62))) 44 2 (some 65))) 44 3 (some 68))) 44 4 (some 71))) 44 5 (some 74))) 57 0 (some 77)) := f32.mono
  refine aw_dup C (tb_at ok_X7_init 72 rfl) rfl ?_
  refine aw_cIN C ⟨by rw [hn]; omega, (mm 80 (by decide) (by decide))⟩ (tb_at ok_X7_init 73 rfl) (m_X4_init s79 s80 (by omega) (f32)) mf_X4_init (by omega) cw_RX7_63 rfl rfl (by rw [hR]; decide) rfl (Nat.le_of_ble_eq_true rfl) (by rw [hn, hR]; exact ⟨by decide +kernel, by decide +kernel⟩) (fun rv n1 M1 P1 z => by obtain ⟨-, rfl, -⟩ := z; exact ⟨rfl, by show sln 81 = sln 80 + 40; decide +kernel⟩) (fun rv n1 M1 P1 z => ?_)
  obtain ⟨rfl, rfl, rfl, rfl, g144_81⟩ := z
  show AW K 81 (iM_X4_init 79 (iM_X4_init 77 (iM_X6_init 74 (iM_X6_init 71 (iM_X6_init 68 (iM_X6_init 65 (iM_X6_init 62 (iM_X6_init 59 (iM_X0_init 45 (wr (iM_X3_init 40 (iM_X1_init 27 (iM_X1_init 14 (iM_X1_init 1 M)))) 0 6 1)))))))))) (iP_X4_init 79 (wrP (iP_X4_init 77 (wrP (iP_X6_init 74 (wrP (iP_X6_init 71 (wrP (iP_X6_init 68 (wrP (iP_X6_init 65 (wrP (iP_X6_init 62 (wrP (iP_X6_init 59 (wrP (wrP (wrP (iP_X0_init 45 (wrP (wrP (iP_X3_init 40 (wrP (iP_X1_init 27 (wrP (iP_X1_init 14 (wrP (iP_X1_init 1 P) 0 0 (some 1))) 0 1 (some 14))) 0 2 (some 27))) 0 4 (some 40)) 0 5 (some 44)) 1 44) 0 7 (some 45)) 0 8 (some 57)) 0 9 (some 58))) 44 0 (some 59))) 44 1 (some 62))) 44 2 (some 65))) 44 3 (some 68))) 44 4 (some 71))) 44 5 (some 74))) 57 0 (some 77))) 147 [some (.ref 0), some (.int 1)] [.ref 79, .int 1, .ref 57]
  refine aw_aast C 3 ⟨by omega, by omega, s57⟩ (by decide) rfl ⟨by omega, by omega, s79⟩ rfl (by decide) (tb_at ok_X7_init 74 rfl) ?_
  have f34 : Fr 81 (iM_X4_init 79 (iM_X4_init 77 (iM_X6_init 74 (iM_X6_init 71 (iM_X6_init 68 (iM_X6_init 65 (iM_X6_init 62 (iM_X6_init 59 (iM_X0_init 45 (wr (iM_X3_init 40 (iM_X1_init 27 (iM_X1_init 14 (iM_X1_init 1 M)))) 0 6 1)))))))))) (wrP (iP_X4_init 79 (wrP (iP_X4_init 77 (wrP (iP_X6_init 74 (wrP (iP_X6_init 71 (wrP (iP_X6_init 68 (wrP (iP_X6_init 65 (wrP (iP_X6_init 62 (wrP (iP_X6_init 59 (wrP (wrP (wrP (iP_X0_init 45 (wrP (wrP (iP_X3_init 40 (wrP (iP_X1_init 27 (wrP (iP_X1_init 14 (wrP (iP_X1_init 1 P) 0 0 (some 1))) 0 1 (some 14))) 0 2 (some 27))) 0 4 (some 40)) 0 5 (some 44)) 1 44) 0 7 (some 45)) 0 8 (some 57)) 0 9 (some 58))) 44 0 (some 59))) 44 1 (some 62))) 44 2 (some 65))) 44 3 (some 68))) 44 4 (some 71))) 44 5 (some 74))) 57 0 (some 77))) 57 1 (some 79)) := g144_81.wrP (by omega)
  refine aw_iinc C [some (.ref 0), some (.int 2)] (tb_at ok_X7_init 75 rfl) rfl hL (by decide) ki_1 rfl ?_
  refine aw_goto C 130 (tb_at ok_X7_init 76 rfl) (by decide) ?_
  refine aw_iload_n C (tb_at ok_X7_init 65 rfl) rfl ?_
  refine aw_iconst C (tb_at ok_X7_init 66 rfl) ki_4 ?_
  refine aw_icmp_ge (A := none) (B := some ()) (r := ()) C 154 (tb_at ok_X7_init 67 rfl) (by decide) (by decide) (fun h => by cases h) (fun _ => ?_)
  refine aw_aload_n C (tb_at ok_X7_init 68 rfl) rfl ?_
  refine aw_getR C ⟨by omega, by omega, s0⟩ rfl (by decide) rfl (r := 57) (by first | rfl | simp [wrP, iP_X0_init, iP_X1_init, iP_X2_init, iP_X3_init, iP_X4_init, iP_X5_init, iP_X6_init]) fl_RX7_54 (tb_at ok_X7_init 69 rfl) ?_
  refine aw_iload_n C (tb_at ok_X7_init 70 rfl) rfl ?_
  refine aw_new C (by rw [hn]; omega) s81 (by omega) rfl (f34 _ (Nat.le_refl _)).1 (f34 _ (Nat.le_refl _)).2 nw_RX7_52 (mm 82 (by decide) (by decide)) dv_RX4 (tb_at ok_X7_init 71 rfl) ?_
  have f35 : Fr 82 (iM_X4_init 79 (iM_X4_init 77 (iM_X6_init 74 (iM_X6_init 71 (iM_X6_init 68 (iM_X6_init 65 (iM_X6_init 62 (iM_X6_init 59 (iM_X0_init 45 (wr (iM_X3_init 40 (iM_X1_init 27 (iM_X1_init 14 (iM_X1_init 1 M)))) 0 6 1)))))))))) (wrP (iP_X4_init 79 (wrP (iP_X4_init 77 (wrP (iP_X6_init 74 (wrP (iP_X6_init 71 (wrP (iP_X6_init 68 (wrP (iP_X6_init 65 (wrP (iP_X6_init 62 (wrP (iP_X6_init 59 (wrP (wrP (wrP (iP_X0_init 45 (wrP (wrP (iP_X3_init 40 (wrP (iP_X1_init 27 (wrP (iP_X1_init 14 (wrP (iP_X1_init 1 P) 0 0 (some 1))) 0 1 (some 14))) 0 2 (some 27))) 0 4 (some 40)) 0 5 (some 44)) 1 44) 0 7 (some 45)) 0 8 (some 57)) 0 9 (some 58))) 44 0 (some 59))) 44 1 (some 62))) 44 2 (some 65))) 44 3 (some 68))) 44 4 (some 71))) 44 5 (some 74))) 57 0 (some 77))) 57 1 (some 79)) := f34.mono
  refine aw_dup C (tb_at ok_X7_init 72 rfl) rfl ?_
  refine aw_cIN C ⟨by rw [hn]; omega, (mm 82 (by decide) (by decide))⟩ (tb_at ok_X7_init 73 rfl) (m_X4_init s81 s82 (by omega) (f34)) mf_X4_init (by omega) cw_RX7_63 rfl rfl (by rw [hR]; decide) rfl (Nat.le_of_ble_eq_true rfl) (by rw [hn, hR]; exact ⟨by decide +kernel, by decide +kernel⟩) (fun rv n1 M1 P1 z => by obtain ⟨-, rfl, -⟩ := z; exact ⟨rfl, by show sln 83 = sln 82 + 40; decide +kernel⟩) (fun rv n1 M1 P1 z => ?_)
  obtain ⟨rfl, rfl, rfl, rfl, g144_83⟩ := z
  show AW K 83 (iM_X4_init 81 (iM_X4_init 79 (iM_X4_init 77 (iM_X6_init 74 (iM_X6_init 71 (iM_X6_init 68 (iM_X6_init 65 (iM_X6_init 62 (iM_X6_init 59 (iM_X0_init 45 (wr (iM_X3_init 40 (iM_X1_init 27 (iM_X1_init 14 (iM_X1_init 1 M)))) 0 6 1))))))))))) (iP_X4_init 81 (wrP (iP_X4_init 79 (wrP (iP_X4_init 77 (wrP (iP_X6_init 74 (wrP (iP_X6_init 71 (wrP (iP_X6_init 68 (wrP (iP_X6_init 65 (wrP (iP_X6_init 62 (wrP (iP_X6_init 59 (wrP (wrP (wrP (iP_X0_init 45 (wrP (wrP (iP_X3_init 40 (wrP (iP_X1_init 27 (wrP (iP_X1_init 14 (wrP (iP_X1_init 1 P) 0 0 (some 1))) 0 1 (some 14))) 0 2 (some 27))) 0 4 (some 40)) 0 5 (some 44)) 1 44) 0 7 (some 45)) 0 8 (some 57)) 0 9 (some 58))) 44 0 (some 59))) 44 1 (some 62))) 44 2 (some 65))) 44 3 (some 68))) 44 4 (some 71))) 44 5 (some 74))) 57 0 (some 77))) 57 1 (some 79))) 147 [some (.ref 0), some (.int 2)] [.ref 81, .int 2, .ref 57]
  refine aw_aast C 3 ⟨by omega, by omega, s57⟩ (by decide) rfl ⟨by omega, by omega, s81⟩ rfl (by decide) (tb_at ok_X7_init 74 rfl) ?_
  have f36 : Fr 83 (iM_X4_init 81 (iM_X4_init 79 (iM_X4_init 77 (iM_X6_init 74 (iM_X6_init 71 (iM_X6_init 68 (iM_X6_init 65 (iM_X6_init 62 (iM_X6_init 59 (iM_X0_init 45 (wr (iM_X3_init 40 (iM_X1_init 27 (iM_X1_init 14 (iM_X1_init 1 M)))) 0 6 1))))))))))) (wrP (iP_X4_init 81 (wrP (iP_X4_init 79 (wrP (iP_X4_init 77 (wrP (iP_X6_init 74 (wrP (iP_X6_init 71 (wrP (iP_X6_init 68 (wrP (iP_X6_init 65 (wrP (iP_X6_init 62 (wrP (iP_X6_init 59 (wrP (wrP (wrP (iP_X0_init 45 (wrP (wrP (iP_X3_init 40 (wrP (iP_X1_init 27 (wrP (iP_X1_init 14 (wrP (iP_X1_init 1 P) 0 0 (some 1))) 0 1 (some 14))) 0 2 (some 27))) 0 4 (some 40)) 0 5 (some 44)) 1 44) 0 7 (some 45)) 0 8 (some 57)) 0 9 (some 58))) 44 0 (some 59))) 44 1 (some 62))) 44 2 (some 65))) 44 3 (some 68))) 44 4 (some 71))) 44 5 (some 74))) 57 0 (some 77))) 57 1 (some 79))) 57 2 (some 81)) := g144_83.wrP (by omega)
  refine aw_iinc C [some (.ref 0), some (.int 3)] (tb_at ok_X7_init 75 rfl) rfl hL (by decide) ki_1 rfl ?_
  refine aw_goto C 130 (tb_at ok_X7_init 76 rfl) (by decide) ?_
  refine aw_iload_n C (tb_at ok_X7_init 65 rfl) rfl ?_
  refine aw_iconst C (tb_at ok_X7_init 66 rfl) ki_4 ?_
  refine aw_icmp_ge (A := none) (B := some ()) (r := ()) C 154 (tb_at ok_X7_init 67 rfl) (by decide) (by decide) (fun h => by cases h) (fun _ => ?_)
  refine aw_aload_n C (tb_at ok_X7_init 68 rfl) rfl ?_
  refine aw_getR C ⟨by omega, by omega, s0⟩ rfl (by decide) rfl (r := 57) (by first | rfl | simp [wrP, iP_X0_init, iP_X1_init, iP_X2_init, iP_X3_init, iP_X4_init, iP_X5_init, iP_X6_init]) fl_RX7_54 (tb_at ok_X7_init 69 rfl) ?_
  refine aw_iload_n C (tb_at ok_X7_init 70 rfl) rfl ?_
  refine aw_new C (by rw [hn]; omega) s83 (by omega) rfl (f36 _ (Nat.le_refl _)).1 (f36 _ (Nat.le_refl _)).2 nw_RX7_52 (mm 84 (by decide) (by decide)) dv_RX4 (tb_at ok_X7_init 71 rfl) ?_
  have f37 : Fr 84 (iM_X4_init 81 (iM_X4_init 79 (iM_X4_init 77 (iM_X6_init 74 (iM_X6_init 71 (iM_X6_init 68 (iM_X6_init 65 (iM_X6_init 62 (iM_X6_init 59 (iM_X0_init 45 (wr (iM_X3_init 40 (iM_X1_init 27 (iM_X1_init 14 (iM_X1_init 1 M)))) 0 6 1))))))))))) (wrP (iP_X4_init 81 (wrP (iP_X4_init 79 (wrP (iP_X4_init 77 (wrP (iP_X6_init 74 (wrP (iP_X6_init 71 (wrP (iP_X6_init 68 (wrP (iP_X6_init 65 (wrP (iP_X6_init 62 (wrP (iP_X6_init 59 (wrP (wrP (wrP (iP_X0_init 45 (wrP (wrP (iP_X3_init 40 (wrP (iP_X1_init 27 (wrP (iP_X1_init 14 (wrP (iP_X1_init 1 P) 0 0 (some 1))) 0 1 (some 14))) 0 2 (some 27))) 0 4 (some 40)) 0 5 (some 44)) 1 44) 0 7 (some 45)) 0 8 (some 57)) 0 9 (some 58))) 44 0 (some 59))) 44 1 (some 62))) 44 2 (some 65))) 44 3 (some 68))) 44 4 (some 71))) 44 5 (some 74))) 57 0 (some 77))) 57 1 (some 79))) 57 2 (some 81)) := f36.mono
  refine aw_dup C (tb_at ok_X7_init 72 rfl) rfl ?_
  refine aw_cIN C ⟨by rw [hn]; omega, (mm 84 (by decide) (by decide))⟩ (tb_at ok_X7_init 73 rfl) (m_X4_init s83 s84 (by omega) (f36)) mf_X4_init (by omega) cw_RX7_63 rfl rfl (by rw [hR]; decide) rfl (Nat.le_of_ble_eq_true rfl) (by rw [hn, hR]; exact ⟨by decide +kernel, by decide +kernel⟩) (fun rv n1 M1 P1 z => by obtain ⟨-, rfl, -⟩ := z; exact ⟨rfl, by show sln 85 = sln 84 + 40; decide +kernel⟩) (fun rv n1 M1 P1 z => ?_)
  obtain ⟨rfl, rfl, rfl, rfl, g144_85⟩ := z
  show AW K 85 (iM_X4_init 83 (iM_X4_init 81 (iM_X4_init 79 (iM_X4_init 77 (iM_X6_init 74 (iM_X6_init 71 (iM_X6_init 68 (iM_X6_init 65 (iM_X6_init 62 (iM_X6_init 59 (iM_X0_init 45 (wr (iM_X3_init 40 (iM_X1_init 27 (iM_X1_init 14 (iM_X1_init 1 M)))) 0 6 1)))))))))))) (iP_X4_init 83 (wrP (iP_X4_init 81 (wrP (iP_X4_init 79 (wrP (iP_X4_init 77 (wrP (iP_X6_init 74 (wrP (iP_X6_init 71 (wrP (iP_X6_init 68 (wrP (iP_X6_init 65 (wrP (iP_X6_init 62 (wrP (iP_X6_init 59 (wrP (wrP (wrP (iP_X0_init 45 (wrP (wrP (iP_X3_init 40 (wrP (iP_X1_init 27 (wrP (iP_X1_init 14 (wrP (iP_X1_init 1 P) 0 0 (some 1))) 0 1 (some 14))) 0 2 (some 27))) 0 4 (some 40)) 0 5 (some 44)) 1 44) 0 7 (some 45)) 0 8 (some 57)) 0 9 (some 58))) 44 0 (some 59))) 44 1 (some 62))) 44 2 (some 65))) 44 3 (some 68))) 44 4 (some 71))) 44 5 (some 74))) 57 0 (some 77))) 57 1 (some 79))) 57 2 (some 81))) 147 [some (.ref 0), some (.int 3)] [.ref 83, .int 3, .ref 57]
  refine aw_aast C 3 ⟨by omega, by omega, s57⟩ (by decide) rfl ⟨by omega, by omega, s83⟩ rfl (by decide) (tb_at ok_X7_init 74 rfl) ?_
  have f38 : Fr 85 (iM_X4_init 83 (iM_X4_init 81 (iM_X4_init 79 (iM_X4_init 77 (iM_X6_init 74 (iM_X6_init 71 (iM_X6_init 68 (iM_X6_init 65 (iM_X6_init 62 (iM_X6_init 59 (iM_X0_init 45 (wr (iM_X3_init 40 (iM_X1_init 27 (iM_X1_init 14 (iM_X1_init 1 M)))) 0 6 1)))))))))))) (wrP (iP_X4_init 83 (wrP (iP_X4_init 81 (wrP (iP_X4_init 79 (wrP (iP_X4_init 77 (wrP (iP_X6_init 74 (wrP (iP_X6_init 71 (wrP (iP_X6_init 68 (wrP (iP_X6_init 65 (wrP (iP_X6_init 62 (wrP (iP_X6_init 59 (wrP (wrP (wrP (iP_X0_init 45 (wrP (wrP (iP_X3_init 40 (wrP (iP_X1_init 27 (wrP (iP_X1_init 14 (wrP (iP_X1_init 1 P) 0 0 (some 1))) 0 1 (some 14))) 0 2 (some 27))) 0 4 (some 40)) 0 5 (some 44)) 1 44) 0 7 (some 45)) 0 8 (some 57)) 0 9 (some 58))) 44 0 (some 59))) 44 1 (some 62))) 44 2 (some 65))) 44 3 (some 68))) 44 4 (some 71))) 44 5 (some 74))) 57 0 (some 77))) 57 1 (some 79))) 57 2 (some 81))) 57 3 (some 83)) := g144_85.wrP (by omega)
  refine aw_iinc C [some (.ref 0), some (.int 4)] (tb_at ok_X7_init 75 rfl) rfl hL (by decide) ki_1 rfl ?_
  refine aw_goto C 130 (tb_at ok_X7_init 76 rfl) (by decide) ?_
  refine aw_iload_n C (tb_at ok_X7_init 65 rfl) rfl ?_
  refine aw_iconst C (tb_at ok_X7_init 66 rfl) ki_4 ?_
  refine aw_icmp_ge (A := some ()) (B := none) (r := ()) C 154 (tb_at ok_X7_init 67 rfl) (by decide) (by decide) (fun _ => ?_) (fun h => by cases h)
  exact kk f38
