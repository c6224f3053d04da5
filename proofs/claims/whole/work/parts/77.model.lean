/-! 77: the cells of the model (laid by wip/gen/ctor.py) -/
def tb_X8_init : List (Nat × Instr × Nat) := [(0, .aload_n 0, 1), (1, .invokespecial 7, 3), (4, .aload_n 0, 1), (5, .sipush 960, 3), (8, .newarray .int, 2), (10, .putfield 13, 3), (13, .aload_n 0, 1), (14, .bipush 6, 2), (16, .newarray .int, 2), (18, .putfield 17, 3), (21, .aload_n 0, 1), (22, .sipush 160, 3), (25, .newarray .int, 2), (27, .putfield 20, 3), (30, .aload_n 0, 1), (31, .iconst 3, 1), (32, .putfield 23, 3), (35, .aload_n 0, 1), (36, .bipush 8, 2), (38, .newarray .int, 2), (40, .putfield 26, 3), (43, .aload_n 0, 1), (44, .bipush 8, 2), (46, .newarray .int, 2), (48, .putfield 29, 3), (51, .aload_n 0, 1), (52, .bipush 8, 2), (54, .newarray .int, 2), (56, .putfield 32, 3), (59, .aload_n 0, 1), (60, .iconst 4, 1), (61, .newarray .int, 2), (63, .putfield 35, 3), (66, .aload_n 0, 1), (67, .iconst 4, 1), (68, .newarray .int, 2), (70, .putfield 38, 3), (73, .aload_n 0, 1), (74, .iconst 4, 1), (75, .newarray .int, 2), (77, .putfield 41, 3), (80, .aload_n 0, 1), (81, .bipush 20, 2), (83, .newarray .int, 2), (85, .putfield 44, 3), (88, .aload_n 0, 1), (89, .iconst 4, 1), (90, .newarray .int, 2), (92, .putfield 47, 3), (95, .aload_n 0, 1), (96, .iconst (-1), 1), (97, .putfield 50, 3), (100, .aload_n 0, 1), (101, .bipush 64, 2), (103, .newarray .int, 2), (105, .putfield 53, 3), (108, .aload_n 0, 1), (109, .iconst 4, 1), (110, .newarray .int, 2), (112, .putfield 56, 3), (115, .aload_n 0, 1), (116, .iconst 4, 1), (117, .newarray .int, 2), (119, .putfield 59, 3), (122, .aload_n 0, 1), (123, .iconst 4, 1), (124, .newarray .int, 2), (126, .putfield 62, 3), (129, .aload_n 0, 1), (130, .iconst 4, 1), (131, .newarray .int, 2), (133, .putfield 65, 3), (136, .aload_n 0, 1), (137, .iconst 4, 1), (138, .newarray .int, 2), (140, .putfield 68, 3), (143, .aload_n 0, 1), (144, .iconst 4, 1), (145, .newarray .int, 2), (147, .putfield 71, 3), (150, .aload_n 0, 1), (151, .bipush 8, 2), (153, .newarray .int, 2), (155, .putfield 74, 3), (158, .aload_n 0, 1), (159, .iconst 5, 1), (160, .newarray .int, 2), (162, .putfield 77, 3), (165, .aload_n 0, 1), (166, .bipush 8, 2), (168, .newarray .int, 2), (170, .putfield 80, 3), (173, .aload_n 0, 1), (174, .bipush 24, 2), (176, .newarray .int, 2), (178, .putfield 83, 3), (181, .aload_n 0, 1), (182, .bipush 32, 2), (184, .newarray .int, 2), (186, .putfield 86, 3), (189, .aload_n 0, 1), (190, .iconst (-1), 1), (191, .putfield 89, 3), (194, .aload_n 0, 1), (195, .iconst 4, 1), (196, .newarray .boolean, 2), (198, .putfield 92, 3), (201, .aload_n 0, 1), (202, .iconst 4, 1), (203, .newarray .int, 2), (205, .putfield 96, 3), (208, .aload_n 0, 1), (209, .iconst 4, 1), (210, .newarray .int, 2), (212, .putfield 99, 3), (215, .aload_n 0, 1), (216, .sipush 160, 3), (219, .newarray .int, 2), (221, .putfield 102, 3), (224, .iconst 0, 1), (225, .istore_n 1, 1), (226, .iload_n 1, 1), (227, .bipush 8, 2), (229, .if_icmp .ge 17, 3), (232, .aload_n 0, 1), (233, .getfield 26, 3), (236, .iload_n 1, 1), (237, .bipush 9, 2), (239, .iastore, 1), (240, .iinc 1 1, 3), (243, .goto (-17), 3), (246, .aload_n 0, 1), (247, .iconst 0, 1), (248, .bipush 115, 2), (250, .bipush 116, 2), (252, .bipush 101, 2), (254, .bipush 112, 2), (256, .bipush 115, 2), (258, .bipush 32, 2), (260, .bipush 49, 2), (262, .bipush 32, 2), (264, .invokevirtual 105, 3), (267, .aload_n 0, 1), (268, .bipush 8, 2), (270, .bipush 59, 2), (272, .bipush 32, 2), (274, .bipush 100, 2), (276, .bipush 111, 2), (278, .bipush 101, 2), (280, .bipush 115, 2), (282, .bipush 32, 2), (284, .bipush 49, 2), (286, .invokevirtual 105, 3), (289, .aload_n 0, 1), (290, .bipush 16, 2), (292, .bipush 32, 2), (294, .bipush 43, 2), (296, .bipush 32, 2), (298, .bipush 109, 2), (300, .bipush 97, 2), (302, .bipush 105, 2), (304, .bipush 100, 2), (306, .bipush 115, 2), (308, .invokevirtual 105, 3), (311, .aload_n 0, 1), (312, .bipush 24, 2), (314, .bipush 32, 2), (316, .bipush 59, 2), (318, .bipush 32, 2), (320, .bipush 99, 2), (322, .bipush 111, 2), (324, .bipush 115, 2), (326, .bipush 116, 2), (328, .bipush 115, 2), (330, .invokevirtual 105, 3), (333, .aload_n 0, 1), (334, .bipush 32, 2), (336, .bipush 32, 2), (338, .bipush 49, 2), (340, .bipush 32, 2), (342, .bipush 59, 2), (344, .bipush 32, 2), (346, .bipush 32, 2), (348, .bipush 32, 2), (350, .bipush 32, 2), (352, .invokevirtual 105, 3), (355, .aload_n 0, 1), (356, .getfield 17, 3), (359, .iconst 0, 1), (360, .bipush 40, 2), (362, .iastore, 1), (363, .aload_n 0, 1), (364, .iconst 1, 1), (365, .putfield 109, 3), (368, .return_, 1)]
theorem ok_X8_init : TB cX8_init tb_X8_init := (by decide +kernel : tb_X8_init.all (fun q => tbq cX8_init q) = true)
def iM_X8_init (M : Mem) : Mem := wr (wr (wr M 85 7 3) 85 18 (-1)) 85 51 (-1)
def iP_X8_init (P : Pm) : Pm := wrP (wrP (wrP (wrP (wrP (wrP (wrP (wrP (wrP (wrP (wrP (wrP (wrP (wrP (wrP (wrP (wrP (wrP (wrP (wrP (wrP (wrP (wrP (wrP (wrP (wrP (wrP P 85 1 (some 86)) 85 2 (some 87)) 85 5 (some 88)) 85 8 (some 89)) 85 9 (some 90)) 85 10 (some 91)) 85 12 (some 92)) 85 13 (some 93)) 85 14 (some 94)) 85 15 (some 95)) 85 16 (some 96)) 85 19 (some 97)) 85 36 (some 98)) 85 37 (some 99)) 85 38 (some 100)) 85 39 (some 101)) 85 40 (some 102)) 85 41 (some 103)) 85 42 (some 104)) 85 45 (some 105)) 85 48 (some 106)) 85 49 (some 107)) 85 50 (some 108)) 85 55 (some 109)) 85 56 (some 110)) 85 57 (some 111)) 85 58 (some 112)
set_option maxHeartbeats 4000000 in
set_option maxRecDepth 20000 in
theorem t_X8_init {K : Cx} {M : Mem} {P : Pm} (C : Ctx K RX8 cX8_init) (hL : kL K = 2) (hn : kn K = 86) (hR : kR K = rm 2 27 1523) (hnm : ∀ z, yX8_init.name = z → (kmt K).name = z) (f0 : Fr 85 M P) (kk : Fr 113 (iM_X8_init M) (iP_X8_init P) → AW K 113 (iM_X8_init M) (iP_X8_init P) 224 [some (.ref 85), none] []) : AW K 86 M P 0 [some (.ref 85), none] [] := by
  have s0 : shf 85 = (8, 59) := rfl
  have s1 : shf 86 = (20, 960) := rfl
  have s2 : shf 87 = (20, 6) := rfl
  have s3 : shf 88 = (20, 160) := rfl
  have s4 : shf 89 = (20, 8) := rfl
  have s5 : shf 90 = (20, 8) := rfl
  have s6 : shf 91 = (20, 8) := rfl
  have s7 : shf 92 = (20, 4) := rfl
  have s8 : shf 93 = (20, 4) := rfl
  have s9 : shf 94 = (20, 4) := rfl
  have s10 : shf 95 = (20, 20) := rfl
  have s11 : shf 96 = (20, 4) := rfl
  have s12 : shf 97 = (20, 64) := rfl
  have s13 : shf 98 = (20, 4) := rfl
  have s14 : shf 99 = (20, 4) := rfl
  have s15 : shf 100 = (20, 4) := rfl
  have s16 : shf 101 = (20, 4) := rfl
  have s17 : shf 102 = (20, 4) := rfl
  have s18 : shf 103 = (20, 4) := rfl
  have s19 : shf 104 = (20, 8) := rfl
  have s20 : shf 105 = (20, 5) := rfl
  have s21 : shf 106 = (20, 8) := rfl
  have s22 : shf 107 = (20, 24) := rfl
  have s23 : shf 108 = (20, 32) := rfl
  have s24 : shf 109 = (21, 4) := rfl
  have s25 : shf 110 = (20, 4) := rfl
  have s26 : shf 111 = (20, 4) := rfl
  have s27 : shf 112 = (20, 160) := rfl
  have e1 : sln 87 = sln 86 + 960 := by rw [sln_succ, s1]
  have e2 : sln 88 = sln 87 + 6 := by rw [sln_succ, s2]
  have e3 : sln 89 = sln 88 + 160 := by rw [sln_succ, s3]
  have e4 : sln 90 = sln 89 + 8 := by rw [sln_succ, s4]
  have e5 : sln 91 = sln 90 + 8 := by rw [sln_succ, s5]
  have e6 : sln 92 = sln 91 + 8 := by rw [sln_succ, s6]
  have e7 : sln 93 = sln 92 + 4 := by rw [sln_succ, s7]
  have e8 : sln 94 = sln 93 + 4 := by rw [sln_succ, s8]
  have e9 : sln 95 = sln 94 + 4 := by rw [sln_succ, s9]
  have e10 : sln 96 = sln 95 + 20 := by rw [sln_succ, s10]
  have e11 : sln 97 = sln 96 + 4 := by rw [sln_succ, s11]
  have e12 : sln 98 = sln 97 + 64 := by rw [sln_succ, s12]
  have e13 : sln 99 = sln 98 + 4 := by rw [sln_succ, s13]
  have e14 : sln 100 = sln 99 + 4 := by rw [sln_succ, s14]
  have e15 : sln 101 = sln 100 + 4 := by rw [sln_succ, s15]
  have e16 : sln 102 = sln 101 + 4 := by rw [sln_succ, s16]
  have e17 : sln 103 = sln 102 + 4 := by rw [sln_succ, s17]
  have e18 : sln 104 = sln 103 + 4 := by rw [sln_succ, s18]
  have e19 : sln 105 = sln 104 + 8 := by rw [sln_succ, s19]
  have e20 : sln 106 = sln 105 + 5 := by rw [sln_succ, s20]
  have e21 : sln 107 = sln 106 + 8 := by rw [sln_succ, s21]
  have e22 : sln 108 = sln 107 + 24 := by rw [sln_succ, s22]
  have e23 : sln 109 = sln 108 + 32 := by rw [sln_succ, s23]
  have e24 : sln 110 = sln 109 + 4 := by rw [sln_succ, s24]
  have e25 : sln 111 = sln 110 + 4 := by rw [sln_succ, s25]
  have e26 : sln 112 = sln 111 + 4 := by rw [sln_succ, s26]
  have e27 : sln 113 = sln 112 + 160 := by rw [sln_succ, s27]
  have m1 : 86 - kn K ≤ (kR K).cells ∧ sln 86 - sln (kn K) ≤ (kR K).slots := ⟨by rw [hn, hR]; show 86 - 86 ≤ 27; omega, by rw [hn, hR]; show sln 86 - sln 86 ≤ 1523; omega⟩
  have m2 : 87 - kn K ≤ (kR K).cells ∧ sln 87 - sln (kn K) ≤ (kR K).slots := ⟨by rw [hn, hR]; show 87 - 86 ≤ 27; omega, by rw [hn, hR]; show sln 87 - sln 86 ≤ 1523; omega⟩
  have m3 : 88 - kn K ≤ (kR K).cells ∧ sln 88 - sln (kn K) ≤ (kR K).slots := ⟨by rw [hn, hR]; show 88 - 86 ≤ 27; omega, by rw [hn, hR]; show sln 88 - sln 86 ≤ 1523; omega⟩
  have m4 : 89 - kn K ≤ (kR K).cells ∧ sln 89 - sln (kn K) ≤ (kR K).slots := ⟨by rw [hn, hR]; show 89 - 86 ≤ 27; omega, by rw [hn, hR]; show sln 89 - sln 86 ≤ 1523; omega⟩
  have m5 : 90 - kn K ≤ (kR K).cells ∧ sln 90 - sln (kn K) ≤ (kR K).slots := ⟨by rw [hn, hR]; show 90 - 86 ≤ 27; omega, by rw [hn, hR]; show sln 90 - sln 86 ≤ 1523; omega⟩
  have m6 : 91 - kn K ≤ (kR K).cells ∧ sln 91 - sln (kn K) ≤ (kR K).slots := ⟨by rw [hn, hR]; show 91 - 86 ≤ 27; omega, by rw [hn, hR]; show sln 91 - sln 86 ≤ 1523; omega⟩
  have m7 : 92 - kn K ≤ (kR K).cells ∧ sln 92 - sln (kn K) ≤ (kR K).slots := ⟨by rw [hn, hR]; show 92 - 86 ≤ 27; omega, by rw [hn, hR]; show sln 92 - sln 86 ≤ 1523; omega⟩
  have m8 : 93 - kn K ≤ (kR K).cells ∧ sln 93 - sln (kn K) ≤ (kR K).slots := ⟨by rw [hn, hR]; show 93 - 86 ≤ 27; omega, by rw [hn, hR]; show sln 93 - sln 86 ≤ 1523; omega⟩
  have m9 : 94 - kn K ≤ (kR K).cells ∧ sln 94 - sln (kn K) ≤ (kR K).slots := ⟨by rw [hn, hR]; show 94 - 86 ≤ 27; omega, by rw [hn, hR]; show sln 94 - sln 86 ≤ 1523; omega⟩
  have m10 : 95 - kn K ≤ (kR K).cells ∧ sln 95 - sln (kn K) ≤ (kR K).slots := ⟨by rw [hn, hR]; show 95 - 86 ≤ 27; omega, by rw [hn, hR]; show sln 95 - sln 86 ≤ 1523; omega⟩
  have m11 : 96 - kn K ≤ (kR K).cells ∧ sln 96 - sln (kn K) ≤ (kR K).slots := ⟨by rw [hn, hR]; show 96 - 86 ≤ 27; omega, by rw [hn, hR]; show sln 96 - sln 86 ≤ 1523; omega⟩
  have m12 : 97 - kn K ≤ (kR K).cells ∧ sln 97 - sln (kn K) ≤ (kR K).slots := ⟨by rw [hn, hR]; show 97 - 86 ≤ 27; omega, by rw [hn, hR]; show sln 97 - sln 86 ≤ 1523; omega⟩
  have m13 : 98 - kn K ≤ (kR K).cells ∧ sln 98 - sln (kn K) ≤ (kR K).slots := ⟨by rw [hn, hR]; show 98 - 86 ≤ 27; omega, by rw [hn, hR]; show sln 98 - sln 86 ≤ 1523; omega⟩
  have m14 : 99 - kn K ≤ (kR K).cells ∧ sln 99 - sln (kn K) ≤ (kR K).slots := ⟨by rw [hn, hR]; show 99 - 86 ≤ 27; omega, by rw [hn, hR]; show sln 99 - sln 86 ≤ 1523; omega⟩
  have m15 : 100 - kn K ≤ (kR K).cells ∧ sln 100 - sln (kn K) ≤ (kR K).slots := ⟨by rw [hn, hR]; show 100 - 86 ≤ 27; omega, by rw [hn, hR]; show sln 100 - sln 86 ≤ 1523; omega⟩
  have m16 : 101 - kn K ≤ (kR K).cells ∧ sln 101 - sln (kn K) ≤ (kR K).slots := ⟨by rw [hn, hR]; show 101 - 86 ≤ 27; omega, by rw [hn, hR]; show sln 101 - sln 86 ≤ 1523; omega⟩
  have m17 : 102 - kn K ≤ (kR K).cells ∧ sln 102 - sln (kn K) ≤ (kR K).slots := ⟨by rw [hn, hR]; show 102 - 86 ≤ 27; omega, by rw [hn, hR]; show sln 102 - sln 86 ≤ 1523; omega⟩
  have m18 : 103 - kn K ≤ (kR K).cells ∧ sln 103 - sln (kn K) ≤ (kR K).slots := ⟨by rw [hn, hR]; show 103 - 86 ≤ 27; omega, by rw [hn, hR]; show sln 103 - sln 86 ≤ 1523; omega⟩
  have m19 : 104 - kn K ≤ (kR K).cells ∧ sln 104 - sln (kn K) ≤ (kR K).slots := ⟨by rw [hn, hR]; show 104 - 86 ≤ 27; omega, by rw [hn, hR]; show sln 104 - sln 86 ≤ 1523; omega⟩
  have m20 : 105 - kn K ≤ (kR K).cells ∧ sln 105 - sln (kn K) ≤ (kR K).slots := ⟨by rw [hn, hR]; show 105 - 86 ≤ 27; omega, by rw [hn, hR]; show sln 105 - sln 86 ≤ 1523; omega⟩
  have m21 : 106 - kn K ≤ (kR K).cells ∧ sln 106 - sln (kn K) ≤ (kR K).slots := ⟨by rw [hn, hR]; show 106 - 86 ≤ 27; omega, by rw [hn, hR]; show sln 106 - sln 86 ≤ 1523; omega⟩
  have m22 : 107 - kn K ≤ (kR K).cells ∧ sln 107 - sln (kn K) ≤ (kR K).slots := ⟨by rw [hn, hR]; show 107 - 86 ≤ 27; omega, by rw [hn, hR]; show sln 107 - sln 86 ≤ 1523; omega⟩
  have m23 : 108 - kn K ≤ (kR K).cells ∧ sln 108 - sln (kn K) ≤ (kR K).slots := ⟨by rw [hn, hR]; show 108 - 86 ≤ 27; omega, by rw [hn, hR]; show sln 108 - sln 86 ≤ 1523; omega⟩
  have m24 : 109 - kn K ≤ (kR K).cells ∧ sln 109 - sln (kn K) ≤ (kR K).slots := ⟨by rw [hn, hR]; show 109 - 86 ≤ 27; omega, by rw [hn, hR]; show sln 109 - sln 86 ≤ 1523; omega⟩
  have m25 : 110 - kn K ≤ (kR K).cells ∧ sln 110 - sln (kn K) ≤ (kR K).slots := ⟨by rw [hn, hR]; show 110 - 86 ≤ 27; omega, by rw [hn, hR]; show sln 110 - sln 86 ≤ 1523; omega⟩
  have m26 : 111 - kn K ≤ (kR K).cells ∧ sln 111 - sln (kn K) ≤ (kR K).slots := ⟨by rw [hn, hR]; show 111 - 86 ≤ 27; omega, by rw [hn, hR]; show sln 111 - sln 86 ≤ 1523; omega⟩
  have m27 : 112 - kn K ≤ (kR K).cells ∧ sln 112 - sln (kn K) ≤ (kR K).slots := ⟨by rw [hn, hR]; show 112 - 86 ≤ 27; omega, by rw [hn, hR]; show sln 112 - sln 86 ≤ 1523; omega⟩
  have m28 : 113 - kn K ≤ (kR K).cells ∧ sln 113 - sln (kn K) ≤ (kR K).slots := ⟨by rw [hn, hR]; show 113 - 86 ≤ 27; omega, by rw [hn, hR]; show sln 113 - sln 86 ≤ 1523; omega⟩
  have f1 : Fr 86 M P := f0.mono
  refine aw_aload_n C (tb_at ok_X8_init 0 rfl) rfl ?_
  refine aw_objInit C oi_RX8_7 (Nat.le_of_ble_eq_true rfl) (tb_at ok_X8_init 1 rfl) ?_
  refine aw_aload_n C (tb_at ok_X8_init 2 rfl) rfl ?_
  refine aw_sipush C (tb_at ok_X8_init 3 rfl) ks_960 ?_
  refine aw_newa C (by rw [hn]; omega) s1 (by omega) (f1 _ (Nat.le_refl _)).1 ac_int (by decide) m2 (tb_at ok_X8_init 4 rfl) ?_
  have f2 : Fr 87 M P := f1.mono
  refine aw_putRF C ⟨by omega, by omega, s0⟩ rfl (by decide) rfl rfl (hnm _ rfl) rfl (fun _ => rfl) (fun _ => rfl) fl_RX8_13 (tb_at ok_X8_init 5 rfl) ?_
  have f3 : Fr 87 M (wrP P 85 1 (some 86)) := f2.wrP (by omega)
  refine aw_aload_n C (tb_at ok_X8_init 6 rfl) rfl ?_
  refine aw_bipush C (tb_at ok_X8_init 7 rfl) kb_6 ?_
  refine aw_newa C (by rw [hn]; omega) s2 (by omega) (f3 _ (Nat.le_refl _)).1 ac_int (by decide) m3 (tb_at ok_X8_init 8 rfl) ?_
  have f4 : Fr 88 M (wrP P 85 1 (some 86)) := f3.mono
  refine aw_putRF C ⟨by omega, by omega, s0⟩ rfl (by decide) rfl rfl (hnm _ rfl) rfl (fun _ => rfl) (fun _ => rfl) fl_RX8_17 (tb_at ok_X8_init 9 rfl) ?_
  have f5 : Fr 88 M (wrP (wrP P 85 1 (some 86)) 85 2 (some 87)) := f4.wrP (by omega)
  refine aw_aload_n C (tb_at ok_X8_init 10 rfl) rfl ?_
  refine aw_sipush C (tb_at ok_X8_init 11 rfl) ks_160 ?_
  refine aw_newa C (by rw [hn]; omega) s3 (by omega) (f5 _ (Nat.le_refl _)).1 ac_int (by decide) m4 (tb_at ok_X8_init 12 rfl) ?_
  have f6 : Fr 89 M (wrP (wrP P 85 1 (some 86)) 85 2 (some 87)) := f5.mono
  refine aw_putRF C ⟨by omega, by omega, s0⟩ rfl (by decide) rfl rfl (hnm _ rfl) rfl (fun _ => rfl) (fun _ => rfl) fl_RX8_20 (tb_at ok_X8_init 13 rfl) ?_
  have f7 : Fr 89 M (wrP (wrP (wrP P 85 1 (some 86)) 85 2 (some 87)) 85 5 (some 88)) := f6.wrP (by omega)
  refine aw_aload_n C (tb_at ok_X8_init 14 rfl) rfl ?_
  refine aw_iconst C (tb_at ok_X8_init 15 rfl) ki_3 ?_
  refine aw_put C ⟨by omega, by omega, s0⟩ rfl (by decide) (by decide) rfl rfl rfl rfl fl_RX8_23 (tb_at ok_X8_init 16 rfl) ?_
  have f8 : Fr 89 (wr M 85 7 3) (wrP (wrP (wrP P 85 1 (some 86)) 85 2 (some 87)) 85 5 (some 88)) := f7.wr (by omega)
  refine aw_aload_n C (tb_at ok_X8_init 17 rfl) rfl ?_
  refine aw_bipush C (tb_at ok_X8_init 18 rfl) kb_8 ?_
  refine aw_newa C (by rw [hn]; omega) s4 (by omega) (f8 _ (Nat.le_refl _)).1 ac_int (by decide) m5 (tb_at ok_X8_init 19 rfl) ?_
  have f9 : Fr 90 (wr M 85 7 3) (wrP (wrP (wrP P 85 1 (some 86)) 85 2 (some 87)) 85 5 (some 88)) := f8.mono
  refine aw_putRF C ⟨by omega, by omega, s0⟩ rfl (by decide) rfl rfl (hnm _ rfl) rfl (fun _ => rfl) (fun _ => rfl) fl_RX8_26 (tb_at ok_X8_init 20 rfl) ?_
  have f10 : Fr 90 (wr M 85 7 3) (wrP (wrP (wrP (wrP P 85 1 (some 86)) 85 2 (some 87)) 85 5 (some 88)) 85 8 (some 89)) := f9.wrP (by omega)
  refine aw_aload_n C (tb_at ok_X8_init 21 rfl) rfl ?_
  refine aw_bipush C (tb_at ok_X8_init 22 rfl) kb_8 ?_
  refine aw_newa C (by rw [hn]; omega) s5 (by omega) (f10 _ (Nat.le_refl _)).1 ac_int (by decide) m6 (tb_at ok_X8_init 23 rfl) ?_
  have f11 : Fr 91 (wr M 85 7 3) (wrP (wrP (wrP (wrP P 85 1 (some 86)) 85 2 (some 87)) 85 5 (some 88)) 85 8 (some 89)) := f10.mono
  refine aw_putRF C ⟨by omega, by omega, s0⟩ rfl (by decide) rfl rfl (hnm _ rfl) rfl (fun _ => rfl) (fun _ => rfl) fl_RX8_29 (tb_at ok_X8_init 24 rfl) ?_
  have f12 : Fr 91 (wr M 85 7 3) (wrP (wrP (wrP (wrP (wrP P 85 1 (some 86)) 85 2 (some 87)) 85 5 (some 88)) 85 8 (some 89)) 85 9 (some 90)) := f11.wrP (by omega)
  refine aw_aload_n C (tb_at ok_X8_init 25 rfl) rfl ?_
  refine aw_bipush C (tb_at ok_X8_init 26 rfl) kb_8 ?_
  refine aw_newa C (by rw [hn]; omega) s6 (by omega) (f12 _ (Nat.le_refl _)).1 ac_int (by decide) m7 (tb_at ok_X8_init 27 rfl) ?_
  have f13 : Fr 92 (wr M 85 7 3) (wrP (wrP (wrP (wrP (wrP P 85 1 (some 86)) 85 2 (some 87)) 85 5 (some 88)) 85 8 (some 89)) 85 9 (some 90)) := f12.mono
  refine aw_putRF C ⟨by omega, by omega, s0⟩ rfl (by decide) rfl rfl (hnm _ rfl) rfl (fun _ => rfl) (fun _ => rfl) fl_RX8_32 (tb_at ok_X8_init 28 rfl) ?_
  have f14 : Fr 92 (wr M 85 7 3) (wrP (wrP (wrP (wrP (wrP (wrP P 85 1 (some 86)) 85 2 (some 87)) 85 5 (some 88)) 85 8 (some 89)) 85 9 (some 90)) 85 10 (some 91)) := f13.wrP (by omega)
  refine aw_aload_n C (tb_at ok_X8_init 29 rfl) rfl ?_
  refine aw_iconst C (tb_at ok_X8_init 30 rfl) ki_4 ?_
  refine aw_newa C (by rw [hn]; omega) s7 (by omega) (f14 _ (Nat.le_refl _)).1 ac_int (by decide) m8 (tb_at ok_X8_init 31 rfl) ?_
  have f15 : Fr 93 (wr M 85 7 3) (wrP (wrP (wrP (wrP (wrP (wrP P 85 1 (some 86)) 85 2 (some 87)) 85 5 (some 88)) 85 8 (some 89)) 85 9 (some 90)) 85 10 (some 91)) := f14.mono
  refine aw_putRF C ⟨by omega, by omega, s0⟩ rfl (by decide) rfl rfl (hnm _ rfl) rfl (fun _ => rfl) (fun _ => rfl) fl_RX8_35 (tb_at ok_X8_init 32 rfl) ?_
  have f16 : Fr 93 (wr M 85 7 3) (wrP (wrP (wrP (wrP (wrP (wrP (wrP P 85 1 (some 86)) 85 2 (some 87)) 85 5 (some 88)) 85 8 (some 89)) 85 9 (some 90)) 85 10 (some 91)) 85 12 (some 92)) := f15.wrP (by omega)
  refine aw_aload_n C (tb_at ok_X8_init 33 rfl) rfl ?_
  refine aw_iconst C (tb_at ok_X8_init 34 rfl) ki_4 ?_
  refine aw_newa C (by rw [hn]; omega) s8 (by omega) (f16 _ (Nat.le_refl _)).1 ac_int (by decide) m9 (tb_at ok_X8_init 35 rfl) ?_
  have f17 : Fr 94 (wr M 85 7 3) (wrP (wrP (wrP (wrP (wrP (wrP (wrP P 85 1 (some 86)) 85 2 (some 87)) 85 5 (some 88)) 85 8 (some 89)) 85 9 (some 90)) 85 10 (some 91)) 85 12 (some 92)) := f16.mono
  refine aw_putRF C ⟨by omega, by omega, s0⟩ rfl (by decide) rfl rfl (hnm _ rfl) rfl (fun _ => rfl) (fun _ => rfl) fl_RX8_38 (tb_at ok_X8_init 36 rfl) ?_
  have f18 : Fr 94 (wr M 85 7 3) (wrP (wrP (wrP (wrP (wrP (wrP (wrP (wrP P 85 1 (some 86)) 85 2 (some 87)) 85 5 (some 88)) 85 8 (some 89)) 85 9 (some 90)) 85 10 (some 91)) 85 12 (some 92)) 85 13 (some 93)) := f17.wrP (by omega)
  refine aw_aload_n C (tb_at ok_X8_init 37 rfl) rfl ?_
  refine aw_iconst C (tb_at ok_X8_init 38 rfl) ki_4 ?_
  refine aw_newa C (by rw [hn]; omega) s9 (by omega) (f18 _ (Nat.le_refl _)).1 ac_int (by decide) m10 (tb_at ok_X8_init 39 rfl) ?_
  have f19 : Fr 95 (wr M 85 7 3) (wrP (wrP (wrP (wrP (wrP (wrP (wrP (wrP P 85 1 (some 86)) 85 2 (some 87)) 85 5 (some 88)) 85 8 (some 89)) 85 9 (some 90)) 85 10 (some 91)) 85 12 (some 92)) 85 13 (some 93)) := f18.mono
  refine aw_putRF C ⟨by omega, by omega, s0⟩ rfl (by decide) rfl rfl (hnm _ rfl) rfl (fun _ => rfl) (fun _ => rfl) fl_RX8_41 (tb_at ok_X8_init 40 rfl) ?_
  have f20 : Fr 95 (wr M 85 7 3) (wrP (wrP (wrP (wrP (wrP (wrP (wrP (wrP (wrP P 85 1 (some 86)) 85 2 (some 87)) 85 5 (some 88)) 85 8 (some 89)) 85 9 (some 90)) 85 10 (some 91)) 85 12 (some 92)) 85 13 (some 93)) 85 14 (some 94)) := f19.wrP (by omega)
  refine aw_aload_n C (tb_at ok_X8_init 41 rfl) rfl ?_
  refine aw_bipush C (tb_at ok_X8_init 42 rfl) kb_20 ?_
  refine aw_newa C (by rw [hn]; omega) s10 (by omega) (f20 _ (Nat.le_refl _)).1 ac_int (by decide) m11 (tb_at ok_X8_init 43 rfl) ?_
  have f21 : Fr 96 (wr M 85 7 3) (wrP (wrP (wrP (wrP (wrP (wrP (wrP (wrP (wrP P 85 1 (some 86)) 85 2 (some 87)) 85 5 (some 88)) 85 8 (some 89)) 85 9 (some 90)) 85 10 (some 91)) 85 12 (some 92)) 85 13 (some 93)) 85 14 (some 94)) := f20.mono
  refine aw_putRF C ⟨by omega, by omega, s0⟩ rfl (by decide) rfl rfl (hnm _ rfl) rfl (fun _ => rfl) (fun _ => rfl) fl_RX8_44 (tb_at ok_X8_init 44 rfl) ?_
  have f22 : Fr 96 (wr M 85 7 3) (wrP (wrP (wrP (wrP (wrP (wrP (wrP (wrP (wrP (wrP P 85 1 (some 86)) 85 2 (some 87)) 85 5 (some 88)) 85 8 (some 89)) 85 9 (some 90)) 85 10 (some 91)) 85 12 (some 92)) 85 13 (some 93)) 85 14 (some 94)) 85 15 (some 95)) := f21.wrP (by omega)
  refine aw_aload_n C (tb_at ok_X8_init 45 rfl) rfl ?_
  refine aw_iconst C (tb_at ok_X8_init 46 rfl) ki_4 ?_
  refine aw_newa C (by rw [hn]; omega) s11 (by omega) (f22 _ (Nat.le_refl _)).1 ac_int (by decide) m12 (tb_at ok_X8_init 47 rfl) ?_
  have f23 : Fr 97 (wr M 85 7 3) (wrP (wrP (wrP (wrP (wrP (wrP (wrP (wrP (wrP (wrP P 85 1 (some 86)) 85 2 (some 87)) 85 5 (some 88)) 85 8 (some 89)) 85 9 (some 90)) 85 10 (some 91)) 85 12 (some 92)) 85 13 (some 93)) 85 14 (some 94)) 85 15 (some 95)) := f22.mono
  refine aw_putRF C ⟨by omega, by omega, s0⟩ rfl (by decide) rfl rfl (hnm _ rfl) rfl (fun _ => rfl) (fun _ => rfl) fl_RX8_47 (tb_at ok_X8_init 48 rfl) ?_
  have f24 : Fr 97 (wr M 85 7 3) (wrP (wrP (wrP (wrP (wrP (wrP (wrP (wrP (wrP (wrP (wrP P 85 1 (some 86)) 85 2 (some 87)) 85 5 (some 88)) 85 8 (some 89)) 85 9 (some 90)) 85 10 (some 91)) 85 12 (some 92)) 85 13 (some 93)) 85 14 (some 94)) 85 15 (some 95)) 85 16 (some 96)) := f23.wrP (by omega)
  refine aw_aload_n C (tb_at ok_X8_init 49 rfl) rfl ?_
  refine aw_iconst C (tb_at ok_X8_init 50 rfl) ki_m1 ?_
  refine aw_put C ⟨by omega, by omega, s0⟩ rfl (by decide) (by decide) rfl rfl rfl rfl fl_RX8_50 (tb_at ok_X8_init 51 rfl) ?_
  have f25 : Fr 97 (wr (wr M 85 7 3) 85 18 (-1)) (wrP (wrP (wrP (wrP (wrP (wrP (wrP (wrP (wrP (wrP (wrP P 85 1 (some 86)) 85 2 (some 87)) 85 5 (some 88)) 85 8 (some 89)) 85 9 (some 90)) 85 10 (some 91)) 85 12 (some 92)) 85 13 (some 93)) 85 14 (some 94)) 85 15 (some 95)) 85 16 (some 96)) := f24.wr (by omega)
  refine aw_aload_n C (tb_at ok_X8_init 52 rfl) rfl ?_
  refine aw_bipush C (tb_at ok_X8_init 53 rfl) kb_64 ?_
  refine aw_newa C (by rw [hn]; omega) s12 (by omega) (f25 _ (Nat.le_refl _)).1 ac_int (by decide) m13 (tb_at ok_X8_init 54 rfl) ?_
  have f26 : Fr 98 (wr (wr M 85 7 3) 85 18 (-1)) (wrP (wrP (wrP (wrP (wrP (wrP (wrP (wrP (wrP (wrP (wrP P 85 1 (some 86)) 85 2 (some 87)) 85 5 (some 88)) 85 8 (some 89)) 85 9 (some 90)) 85 10 (some 91)) 85 12 (some 92)) 85 13 (some 93)) 85 14 (some 94)) 85 15 (some 95)) 85 16 (some 96)) := f25.mono
  refine aw_putRF C ⟨by omega, by omega, s0⟩ rfl (by decide) rfl rfl (hnm _ rfl) rfl (fun _ => rfl) (fun _ => rfl) fl_RX8_53 (tb_at ok_X8_init 55 rfl) ?_
  have f27 : Fr 98 (wr (wr M 85 7 3) 85 18 (-1)) (wrP (wrP (wrP (wrP (wrP (wrP (wrP (wrP (wrP (wrP (wrP (wrP P 85 1 (some 86)) 85 2 (some 87)) 85 5 (some 88)) 85 8 (some 89)) 85 9 (some 90)) 85 10 (some 91)) 85 12 (some 92)) 85 13 (some 93)) 85 14 (some 94)) 85 15 (some 95)) 85 16 (some 96)) 85 19 (some 97)) := f26.wrP (by omega)
  refine aw_aload_n C (tb_at ok_X8_init 56 rfl) rfl ?_
  refine aw_iconst C (tb_at ok_X8_init 57 rfl) ki_4 ?_
  refine aw_newa C (by rw [hn]; omega) s13 (by omega) (f27 _ (Nat.le_refl _)).1 ac_int (by decide) m14 (tb_at ok_X8_init 58 rfl) ?_
  have f28 : Fr 99 (wr (wr M 85 7 3) 85 18 (-1)) (wrP (wrP (wrP (wrP (wrP (wrP (wrP (wrP (wrP (wrP (wrP (wrP P 85 1 (some 86)) 85 2 (some 87)) 85 5 (some 88)) 85 8 (some 89)) 85 9 (some 90)) 85 10 (some 91)) 85 12 (some 92)) 85 13 (some 93)) 85 14 (some 94)) 85 15 (some 95)) 85 16 (some 96)) 85 19 (some 97)) := f27.mono
  refine aw_putRF C ⟨by omega, by omega, s0⟩ rfl (by decide) rfl rfl (hnm _ rfl) rfl (fun _ => rfl) (fun _ => rfl) fl_RX8_56 (tb_at ok_X8_init 59 rfl) ?_
  have f29 : Fr 99 (wr (wr M 85 7 3) 85 18 (-1)) (wrP (wrP (wrP (wrP (wrP (wrP (wrP (wrP (wrP (wrP (wrP (wrP (wrP P 85 1 (some 86)) 85 2 (some 87)) 85 5 (some 88)) 85 8 (some 89)) 85 9 (some 90)) 85 10 (some 91)) 85 12 (some 92)) 85 13 (some 93)) 85 14 (some 94)) 85 15 (some 95)) 85 16 (some 96)) 85 19 (some 97)) 85 36 (some 98)) := f28.wrP (by omega)
  refine aw_aload_n C (tb_at ok_X8_init 60 rfl) rfl ?_
  refine aw_iconst C (tb_at ok_X8_init 61 rfl) ki_4 ?_
  refine aw_newa C (by rw [hn]; omega) s14 (by omega) (f29 _ (Nat.le_refl _)).1 ac_int (by decide) m15 (tb_at ok_X8_init 62 rfl) ?_
  have f30 : Fr 100 (wr (wr M 85 7 3) 85 18 (-1)) (wrP (wrP (wrP (wrP (wrP (wrP (wrP (wrP (wrP (wrP (wrP (wrP (wrP P 85 1 (some 86)) 85 2 (some 87)) 85 5 (some 88)) 85 8 (some 89)) 85 9 (some 90)) 85 10 (some 91)) 85 12 (some 92)) 85 13 (some 93)) 85 14 (some 94)) 85 15 (some 95)) 85 16 (some 96)) 85 19 (some 97)) 85 36 (some 98)) := f29.mono
  refine aw_putRF C ⟨by omega, by omega, s0⟩ rfl (by decide) rfl rfl (hnm _ rfl) rfl (fun _ => rfl) (fun _ => rfl) fl_RX8_59 (tb_at ok_X8_init 63 rfl) ?_
  have f31 : Fr 100 (wr (wr M 85 7 3) 85 18 (-1)) (wrP (wrP (wrP (wrP (wrP (wrP (wrP (wrP (wrP (wrP (wrP (wrP (wrP (wrP P 85 1 (some 86)) 85 2 (some 87)) 85 5 (some 88)) 85 8 (some 89)) 85 9 (some 90)) 85 10 (some 91)) 85 12 (some 92)) 85 13 (some 93)) 85 14 (some 94)) 85 15 (some 95)) 85 16 (some 96)) 85 19 (some 97)) 85 36 (some 98)) 85 37 (some 99)) := f30.wrP (by omega)
  refine aw_aload_n C (tb_at ok_X8_init 64 rfl) rfl ?_
  refine aw_iconst C (tb_at ok_X8_init 65 rfl) ki_4 ?_
  refine aw_newa C (by rw [hn]; omega) s15 (by omega) (f31 _ (Nat.le_refl _)).1 ac_int (by decide) m16 (tb_at ok_X8_init 66 rfl) ?_
  have f32 : Fr 101 (wr (wr M 85 7 3) 85 18 (-1)) (wrP (wrP (wrP (wrP (wrP (wrP (wrP (wrP (wrP (wrP (wrP (wrP (wrP (wrP P 85 1 (some 86)) 85 2 (some 87)) 85 5 (some 88)) 85 8 (some 89)) 85 9 (some 90)) 85 10 (some 91)) 85 12 (some 92)) 85 13 (some 93)) 85 14 (some 94)) 85 15 (some 95)) 85 16 (some 96)) 85 19 (some 97)) 85 36 (some 98)) 85 37 (some 99)) := f31.mono
  refine aw_putRF C ⟨by omega, by omega, s0⟩ rfl (by decide) rfl rfl (hnm _ rfl) rfl (fun _ => rfl) (fun _ => rfl) fl_RX8_62 (tb_at ok_X8_init 67 rfl) ?_
  have f33 : Fr 101 (wr (wr M 85 7 3) 85 18 (-1)) (wrP (wrP (wrP (wrP (wrP (wrP (wrP (wrP (wrP (wrP (wrP (wrP (wrP (wrP (wrP P 85 1 (some 86)) 85 2 (some 87)) 85 5 (some 88)) 85 8 (some 89)) 85 9 (some 90)) 85 10 (some 91)) 85 12 (some 92)) 85 13 (some 93)) 85 14 (some 94)) 85 15 (some 95)) 85 16 (some 96)) 85 19 (some 97)) 85 36 (some 98)) 85 37 (some 99)) 85 38 (some 100)) := f32.wrP (by omega)
  refine aw_aload_n C (tb_at ok_X8_init 68 rfl) rfl ?_
  refine aw_iconst C (tb_at ok_X8_init 69 rfl) ki_4 ?_
  refine aw_newa C (by rw [hn]; omega) s16 (by omega) (f33 _ (Nat.le_refl _)).1 ac_int (by decide) m17 (tb_at ok_X8_init 70 rfl) ?_
  have f34 : Fr 102 (wr (wr M 85 7 3) 85 18 (-1)) (wrP (wrP (wrP (wrP (wrP (wrP (wrP (wrP (wrP (wrP (wrP (wrP (wrP (wrP (wrP P 85 1 (some 86)) 85 2 (some 87)) 85 5 (some 88)) 85 8 (some 89)) 85 9 (some 90)) 85 10 (some 91)) 85 12 (some 92)) 85 13 (some 93)) 85 14 (some 94)) 85 15 (some 95)) 85 16 (some 96)) 85 19 (some 97)) 85 36 (some 98)) 85 37 (some 99)) 85 38 (some 100)) := f33.mono
  refine aw_putRF C ⟨by omega, by omega, s0⟩ rfl (by decide) rfl rfl (hnm _ rfl) rfl (fun _ => rfl) (fun _ => rfl) fl_RX8_65 (tb_at ok_X8_init 71 rfl) ?_
  have f35 : Fr 102 (wr (wr M 85 7 3) 85 18 (-1)) (wrP (wrP (wrP (wrP (wrP (wrP (wrP (wrP (wrP (wrP (wrP (wrP (wrP (wrP (wrP (wrP P 85 1 (some 86)) 85 2 (some 87)) 85 5 (some 88)) 85 8 (some 89)) 85 9 (some 90)) 85 10 (some 91)) 85 12 (some 92)) 85 13 (some 93)) 85 14 (some 94)) 85 15 (some 95)) 85 16 (some 96)) 85 19 (some 97)) 85 36 (some 98)) 85 37 (some 99)) 85 38 (some 100)) 85 39 (some 101)) := f34.wrP (by omega)
  refine aw_aload_n C (tb_at ok_X8_init 72 rfl) rfl ?_
  refine aw_iconst C (tb_at ok_X8_init 73 rfl) ki_4 ?_
  refine aw_newa C (by rw [hn]; omega) s17 (by omega) (f35 _ (Nat.le_refl _)).1 ac_int (by decide) m18 (tb_at ok_X8_init 74 rfl) ?_
  have f36 : Fr 103 (wr (wr M 85 7 3) 85 18 (-1)) (wrP (wrP (wrP (wrP (wrP (wrP (wrP (wrP (wrP (wrP (wrP (wrP (wrP (wrP (wrP (wrP P 85 1 (some 86)) 85 2 (some 87)) 85 5 (some 88)) 85 8 (some 89)) 85 9 (some 90)) 85 10 (some 91)) 85 12 (some 92)) 85 13 (some 93)) 85 14 (some 94)) 85 15 (some 95)) 85 16 (some 96)) 85 19 (some 97)) 85 36 (some 98)) 85 37 (some 99)) 85 38 (some 100)) 85 39 (some 101)) := f35.mono
  refine aw_putRF C ⟨by omega, by omega, s0⟩ rfl (by decide) rfl rfl (hnm _ rfl) rfl (fun _ => rfl) (fun _ => rfl) fl_RX8_68 (tb_at ok_X8_init 75 rfl) ?_
  have f37 : Fr 103 (wr (wr M 85 7 3) 85 18 (-1)) (wrP (wrP (wrP (wrP (wrP (wrP (wrP (wrP (wrP (wrP (wrP (wrP (wrP (wrP (wrP (wrP (wrP P 85 1 (some 86)) 85 2 (some 87)) 85 5 (some 88)) 85 8 (some 89)) 85 9 (some 90)) 85 10 (some 91)) 85 12 (some 92)) 85 13 (some 93)) 85 14 (some 94)) 85 15 (some 95)) 85 16 (some 96)) 85 19 (some 97)) 85 36 (some 98)) 85 37 (some 99)) 85 38 (some 100)) 85 39 (some 101)) 85 40 (some 102)) := f36.wrP (by omega)
  refine aw_aload_n C (tb_at ok_X8_init 76 rfl) rfl ?_
  refine aw_iconst C (tb_at ok_X8_init 77 rfl) ki_4 ?_
  refine aw_newa C (by rw [hn]; omega) s18 (by omega) (f37 _ (Nat.le_refl _)).1 ac_int (by decide) m19 (tb_at ok_X8_init 78 rfl) ?_
  have f38 : Fr 104 (wr (wr M 85 7 3) 85 18 (-1)) (wrP (wrP (wrP (wrP (wrP (wrP (wrP (wrP (wrP (wrP (wrP (wrP (wrP (wrP (wrP (wrP (wrP P 85 1 (some 86)) 85 2 (some 87)) 85 5 (some 88)) 85 8 (some 89)) 85 9 (some 90)) 85 10 (some 91)) 85 12 (some 92)) 85 13 (some 93)) 85 14 (some 94)) 85 15 (some 95)) 85 16 (some 96)) 85 19 (some 97)) 85 36 (some 98)) 85 37 (some 99)) 85 38 (some 100)) 85 39 (some 101)) 85 40 (some 102)) := f37.mono
  refine aw_putRF C ⟨by omega, by omega, s0⟩ rfl (by decide) rfl rfl (hnm _ rfl) rfl (fun _ => rfl) (fun _ => rfl) fl_RX8_71 (tb_at ok_X8_init 79 rfl) ?_
  have f39 : Fr 104 (wr (wr M 85 7 3) 85 18 (-1)) (wrP (wrP (wrP (wrP (wrP (wrP (wrP (wrP (wrP (wrP (wrP (wrP (wrP (wrP (wrP (wrP (wrP (wrP P 85 1 (some 86)) 85 2 (some 87)) 85 5 (some 88)) 85 8 (some 89)) 85 9 (some 90)) 85 10 (some 91)) 85 12 (some 92)) 85 13 (some 93)) 85 14 (some 94)) 85 15 (some 95)) 85 16 (some 96)) 85 19 (some 97)) 85 36 (some 98)) 85 37 (some 99)) 85 38 (some 100)) 85 39 (some 101)) 85 40 (some 102)) 85 41 (some 103)) := f38.wrP (by omega)
  refine aw_aload_n C (tb_at ok_X8_init 80 rfl) rfl ?_
  refine aw_bipush C (tb_at ok_X8_init 81 rfl) kb_8 ?_
  refine aw_newa C (by rw [hn]; omega) s19 (by omega) (f39 _ (Nat.le_refl _)).1 ac_int (by decide) m20 (tb_at ok_X8_init 82 rfl) ?_
  have f40 : Fr 105 (wr (wr M 85 7 3) 85 18 (-1)) (wrP (wrP (wrP (wrP (wrP (wrP (wrP (wrP (wrP (wrP (wrP (wrP (wrP (wrP (wrP (wrP (wrP (wrP P 85 1 (some 86)) 85 2 (some 87)) 85 5 (some 88)) 85 8 (some 89)) 85 9 (some 90)) 85 10 (some 91)) 85 12 (some 92)) 85 13 (some 93)) 85 14 (some 94)) 85 15 (some 95)) 85 16 (some 96)) 85 19 (some 97)) 85 36 (some 98)) 85 37 (some 99)) 85 38 (some 100)) 85 39 (some 101)) 85 40 (some 102)) 85 41 (some 103)) := f39.mono
  refine aw_putRF C ⟨by omega, by omega, s0⟩ rfl (by decide) rfl rfl (hnm _ rfl) rfl (fun _ => rfl) (fun _ => rfl) fl_RX8_74 (tb_at ok_X8_init 83 rfl) ?_
  have f41 : Fr 105 (wr (wr M 85 7 3) 85 18 (-1)) (wrP (wrP (wrP (wrP (wrP (wrP (wrP (wrP (wrP (wrP (wrP (wrP (wrP (wrP (wrP (wrP (wrP (wrP (wrP P 85 1 (some 86)) 85 2 (some 87)) 85 5 (some 88)) 85 8 (some 89)) 85 9 (some 90)) 85 10 (some 91)) 85 12 (some 92)) 85 13 (some 93)) 85 14 (some 94)) 85 15 (some 95)) 85 16 (some 96)) 85 19 (some 97)) 85 36 (some 98)) 85 37 (some 99)) 85 38 (some 100)) 85 39 (some 101)) 85 40 (some 102)) 85 41 (some 103)) 85 42 (some 104)) := f40.wrP (by omega)
  refine aw_aload_n C (tb_at ok_X8_init 84 rfl) rfl ?_
  refine aw_iconst C (tb_at ok_X8_init 85 rfl) ki_5 ?_
  refine aw_newa C (by rw [hn]; omega) s20 (by omega) (f41 _ (Nat.le_refl _)).1 ac_int (by decide) m21 (tb_at ok_X8_init 86 rfl) ?_
  have f42 : Fr 106 (wr (wr M 85 7 3) 85 18 (-1)) (wrP (wrP (wrP (wrP (wrP (wrP (wrP (wrP (wrP (wrP (wrP (wrP (wrP (wrP (wrP (wrP (wrP (wrP (wrP P 85 1 (some 86)) 85 2 (some 87)) 85 5 (some 88)) 85 8 (some 89)) 85 9 (some 90)) 85 10 (some 91)) 85 12 (some 92)) 85 13 (some 93)) 85 14 (some 94)) 85 15 (some 95)) 85 16 (some 96)) 85 19 (some 97)) 85 36 (some 98)) 85 37 (some 99)) 85 38 (some 100)) 85 39 (some 101)) 85 40 (some 102)) 85 41 (some 103)) 85 42 (some 104)) := f41.mono
  refine aw_putRF C ⟨by omega, by omega, s0⟩ rfl (by decide) rfl rfl (hnm _ rfl) rfl (fun _ => rfl) (fun _ => rfl) fl_RX8_77 (tb_at ok_X8_init 87 rfl) ?_
  have f43 : Fr 106 (wr (wr M 85 7 3) 85 18 (-1)) (wrP (wrP (wrP (wrP (wrP (wrP (wrP (wrP (wrP (wrP (wrP (wrP (wrP (wrP (wrP (wrP (wrP (wrP (wrP (wrP P 85 1 (some 86)) 85 2 (some 87)) 85 5 (some 88)) 85 8 (some 89)) 85 9 (some 90)) 85 10 (some 91)) 85 12 (some 92)) 85 13 (some 93)) 85 14 (some 94)) 85 15 (some 95)) 85 16 (some 96)) 85 19 (some 97)) 85 36 (some 98)) 85 37 (some 99)) 85 38 (some 100)) 85 39 (some 101)) 85 40 (some 102)) 85 41 (some 103)) 85 42 (some 104)) 85 45 (some 105)) := f42.wrP (by omega)
  refine aw_aload_n C (tb_at ok_X8_init 88 rfl) rfl ?_
  refine aw_bipush C (tb_at ok_X8_init 89 rfl) kb_8 ?_
  refine aw_newa C (by rw [hn]; omega) s21 (by omega) (f43 _ (Nat.le_refl _)).1 ac_int (by decide) m22 (tb_at ok_X8_init 90 rfl) ?_
  have f44 : Fr 107 (wr (wr M 85 7 3) 85 18 (-1)) (wrP (wrP (wrP (wrP (wrP (wrP (wrP (wrP (wrP (wrP (wrP (wrP (wrP (wrP (wrP (wrP (wrP (wrP (wrP (wrP P 85 1 (some 86)) 85 2 (some 87)) 85 5 (some 88)) 85 8 (some 89)) 85 9 (some 90)) 85 10 (some 91)) 85 12 (some 92)) 85 13 (some 93)) 85 14 (some 94)) 85 15 (some 95)) 85 16 (some 96)) 85 19 (some 97)) 85 36 (some 98)) 85 37 (some 99)) 85 38 (some 100)) 85 39 (some 101)) 85 40 (some 102)) 85 41 (some 103)) 85 42 (some 104)) 85 45 (some 105)) := f43.mono
  refine aw_putRF C ⟨by omega, by omega, s0⟩ rfl (by decide) rfl rfl (hnm _ rfl) rfl (fun _ => rfl) (fun _ => rfl) fl_RX8_80 (tb_at ok_X8_init 91 rfl) ?_
  have f45 : Fr 107 (wr (wr M 85 7 3) 85 18 (-1)) (wrP (wrP (wrP (wrP (wrP (wrP (wrP (wrP (wrP (wrP (wrP (wrP (wrP (wrP (wrP (wrP (wrP (wrP (wrP (wrP (wrP P 85 1 (some 86)) 85 2 (some 87)) 85 5 (some 88)) 85 8 (some 89)) 85 9 (some 90)) 85 10 (some 91)) 85 12 (some 92)) 85 13 (some 93)) 85 14 (some 94)) 85 15 (some 95)) 85 16 (some 96)) 85 19 (some 97)) 85 36 (some 98)) 85 37 (some 99)) 85 38 (some 100)) 85 39 (some 101)) 85 40 (some 102)) 85 41 (some 103)) 85 42 (some 104)) 85 45 (some 105)) 85 48 (some 106)) := f44.wrP (by omega)
  refine aw_aload_n C (tb_at ok_X8_init 92 rfl) rfl ?_
  refine aw_bipush C (tb_at ok_X8_init 93 rfl) kb_24 ?_
  refine aw_newa C (by rw [hn]; omega) s22 (by omega) (f45 _ (Nat.le_refl _)).1 ac_int (by decide) m23 (tb_at ok_X8_init 94 rfl) ?_
  have f46 : Fr 108 (wr (wr M 85 7 3) 85 18 (-1)) (wrP (wrP (wrP (wrP (wrP (wrP (wrP (wrP (wrP (wrP (wrP (wrP (wrP (wrP (wrP (wrP (wrP (wrP (wrP (wrP (wrP P 85 1 (some 86)) 85 2 (some 87)) 85 5 (some 88)) 85 8 (some 89)) 85 9 (some 90)) 85 10 (some 91)) 85 12 (some 92)) 85 13 (some 93)) 85 14 (some 94)) 85 15 (some 95)) 85 16 (some 96)) 85 19 (some 97)) 85 36 (some 98)) 85 37 (some 99)) 85 38 (some 100)) 85 39 (some 101)) 85 40 (some 102)) 85 41 (some 103)) 85 42 (some 104)) 85 45 (some 105)) 85 48 (some 106)) := f45.mono
  refine aw_putRF C ⟨by omega, by omega, s0⟩ rfl (by decide) rfl rfl (hnm _ rfl) rfl (fun _ => rfl) (fun _ => rfl) fl_RX8_83 (tb_at ok_X8_init 95 rfl) ?_
  have f47 : Fr 108 (wr (wr M 85 7 3) 85 18 (-1)) (wrP (wrP (wrP (wrP (wrP (wrP (wrP (wrP (wrP (wrP (wrP (wrP (wrP (wrP (wrP (wrP (wrP (wrP (wrP (wrP (wrP (wrP P 85 1 (some 86)) 85 2 (some 87)) 85 5 (some 88)) 85 8 (some 89)) 85 9 (some 90)) 85 10 (some 91)) 85 12 (some 92)) 85 13 (some 93)) 85 14 (some 94)) 85 15 (some 95)) 85 16 (some 96)) 85 19 (some 97)) 85 36 (some 98)) 85 37 (some 99)) 85 38 (some 100)) 85 39 (some 101)) 85 40 (some 102)) 85 41 (some 103)) 85 42 (some 104)) 85 45 (some 105)) 85 48 (some 106)) 85 49 (some 107)) := f46.wrP (by omega)
  refine aw_aload_n C (tb_at ok_X8_init 96 rfl) rfl ?_
  refine aw_bipush C (tb_at ok_X8_init 97 rfl) kb_32 ?_
  refine aw_newa C (by rw [hn]; omega) s23 (by omega) (f47 _ (Nat.le_refl _)).1 ac_int (by decide) m24 (tb_at ok_X8_init 98 rfl) ?_
  have f48 : Fr 109 (wr (wr M 85 7 3) 85 18 (-1)) (wrP (wrP (wrP (wrP (wrP (wrP (wrP (wrP (wrP (wrP (wrP (wrP (wrP (wrP (wrP (wrP (wrP (wrP (wrP (wrP (wrP (wrP P 85 1 (some 86)) 85 2 (some 87)) 85 5 (some 88)) 85 8 (some 89)) 85 9 (some 90)) 85 10 (some 91)) 85 12 (some 92)) 85 13 (some 93)) 85 14 (some 94)) 85 15 (some 95)) 85 16 (some 96)) 85 19 (some 97)) 85 36 (some 98)) 85 37 (some 99)) 85 38 (some 100)) 85 39 (some 101)) 85 40 (some 102)) 85 41 (some 103)) 85 42 (some 104)) 85 45 (some 105)) 85 48 (some 106)) 85 49 (some 107)) := f47.mono
  refine aw_putRF C ⟨by omega, by omega, s0⟩ rfl (by decide) rfl rfl (hnm _ rfl) rfl (fun _ => rfl) (fun _ => rfl) fl_RX8_86 (tb_at ok_X8_init 99 rfl) ?_
  have f49 : Fr 109 (wr (wr M 85 7 3) 85 18 (-1)) (wrP (wrP (wrP (wrP (wrP (wrP (wrP (wrP (wrP (wrP (wrP (wrP (wrP (wrP (wrP (wrP (wrP (wrP (wrP (wrP (wrP (wrP (wrP P 85 1 (some 86)) 85 2 (some 87)) 85 5 (some 88)) 85 8 (some 89)) 85 9 (some 90)) 85 10 (some 91)) 85 12 (some 92)) 85 13 (some 93)) 85 14 (some 94)) 85 15 (some 95)) 85 16 (some 96)) 85 19 (some 97)) 85 36 (some 98)) 85 37 (some 99)) 85 38 (some 100)) 85 39 (some 101)) 85 40 (some 102)) 85 41 (some 103)) 85 42 (some 104)) 85 45 (some 105)) 85 48 (some 106)) 85 49 (some 107)) 85 50 (some 108)) := f48.wrP (by omega)
  refine aw_aload_n C (tb_at ok_X8_init 100 rfl) rfl ?_
  refine aw_iconst C (tb_at ok_X8_init 101 rfl) ki_m1 ?_
  refine aw_put C ⟨by omega, by omega, s0⟩ rfl (by decide) (by decide) rfl rfl rfl rfl fl_RX8_89 (tb_at ok_X8_init 102 rfl) ?_
  have f50 : Fr 109 (wr (wr (wr M 85 7 3) 85 18 (-1)) 85 51 (-1)) (wrP (wrP (wrP (wrP (wrP (wrP (wrP (wrP (wrP (wrP (wrP (wrP (wrP (wrP (wrP (wrP (wrP (wrP (wrP (wrP (wrP (wrP (wrP P 85 1 (some 86)) 85 2 (some 87)) 85 5 (some 88)) 85 8 (some 89)) 85 9 (some 90)) 85 10 (some 91)) 85 12 (some 92)) 85 13 (some 93)) 85 14 (some 94)) 85 15 (some 95)) 85 16 (some 96)) 85 19 (some 97)) 85 36 (some 98)) 85 37 (some 99)) 85 38 (some 100)) 85 39 (some 101)) 85 40 (some 102)) 85 41 (some 103)) 85 42 (some 104)) 85 45 (some 105)) 85 48 (some 106)) 85 49 (some 107)) 85 50 (some 108)) := f49.wr (by omega)
  refine aw_aload_n C (tb_at ok_X8_init 103 rfl) rfl ?_
  refine aw_iconst C (tb_at ok_X8_init 104 rfl) ki_4 ?_
  refine aw_newz C (by rw [hn]; omega) s24 (by omega) (f50 _ (Nat.le_refl _)).1 ac_boolean (by decide) m25 (tb_at ok_X8_init 105 rfl) ?_
  have f51 : Fr 110 (wr (wr (wr M 85 7 3) 85 18 (-1)) 85 51 (-1)) (wrP (wrP (wrP (wrP (wrP (wrP (wrP (wrP (wrP (wrP (wrP (wrP (wrP (wrP (wrP (wrP (wrP (wrP (wrP (wrP (wrP (wrP (wrP P 85 1 (some 86)) 85 2 (some 87)) 85 5 (some 88)) 85 8 (some 89)) 85 9 (some 90)) 85 10 (some 91)) 85 12 (some 92)) 85 13 (some 93)) 85 14 (some 94)) 85 15 (some 95)) 85 16 (some 96)) 85 19 (some 97)) 85 36 (some 98)) 85 37 (some 99)) 85 38 (some 100)) 85 39 (some 101)) 85 40 (some 102)) 85 41 (some 103)) 85 42 (some 104)) 85 45 (some 105)) 85 48 (some 106)) 85 49 (some 107)) 85 50 (some 108)) := f50.mono
  refine aw_putRF C ⟨by omega, by omega, s0⟩ rfl (by decide) rfl rfl (hnm _ rfl) rfl (fun _ => rfl) (fun _ => rfl) fl_RX8_92 (tb_at ok_X8_init 106 rfl) ?_
  have f52 : Fr 110 (wr (wr (wr M 85 7 3) 85 18 (-1)) 85 51 (-1)) (wrP (wrP (wrP (wrP (wrP (wrP (wrP (wrP (wrP (wrP (wrP (wrP (wrP (wrP (wrP (wrP (wrP (wrP (wrP (wrP (wrP (wrP (wrP (wrP P 85 1 (some 86)) 85 2 (some 87)) 85 5 (some 88)) 85 8 (some 89)) 85 9 (some 90)) 85 10 (some 91)) 85 12 (some 92)) 85 13 (some 93)) 85 14 (some 94)) 85 15 (some 95)) 85 16 (some 96)) 85 19 (some 97)) 85 36 (some 98)) 85 37 (some 99)) 85 38 (some 100)) 85 39 (some 101)) 85 40 (some 102)) 85 41 (some 103)) 85 42 (some 104)) 85 45 (some 105)) 85 48 (some 106)) 85 49 (some 107)) 85 50 (some 108)) 85 55 (some 109)) := f51.wrP (by omega)
  refine aw_aload_n C (tb_at ok_X8_init 107 rfl) rfl ?_
  refine aw_iconst C (tb_at ok_X8_init 108 rfl) ki_4 ?_
  refine aw_newa C (by rw [hn]; omega) s25 (by omega) (f52 _ (Nat.le_refl _)).1 ac_int (by decide) m26 (tb_at ok_X8_init 109 rfl) ?_
  have f53 : Fr 111 (wr (wr (wr M 85 7 3) 85 18 (-1)) 85 51 (-1)) (wrP (wrP (wrP (wrP (wrP (wrP (wrP (wrP (wrP (wrP (wrP (wrP (wrP (wrP (wrP (wrP (wrP (wrP (wrP (wrP (wrP (wrP (wrP (wrP P 85 1 (some 86)) 85 2 (some 87)) 85 5 (some 88)) 85 8 (some 89)) 85 9 (some 90)) 85 10 (some 91)) 85 12 (some 92)) 85 13 (some 93)) 85 14 (some 94)) 85 15 (some 95)) 85 16 (some 96)) 85 19 (some 97)) 85 36 (some 98)) 85 37 (some 99)) 85 38 (some 100)) 85 39 (some 101)) 85 40 (some 102)) 85 41 (some 103)) 85 42 (some 104)) 85 45 (some 105)) 85 48 (some 106)) 85 49 (some 107)) 85 50 (some 108)) 85 55 (some 109)) := f52.mono
  refine aw_putRF C ⟨by omega, by omega, s0⟩ rfl (by decide) rfl rfl (hnm _ rfl) rfl (fun _ => rfl) (fun _ => rfl) fl_RX8_96 (tb_at ok_X8_init 110 rfl) ?_
  have f54 : Fr 111 (wr (wr (wr M 85 7 3) 85 18 (-1)) 85 51 (-1)) (wrP (wrP (wrP (wrP (wrP (wrP (wrP (wrP (wrP (wrP (wrP (wrP (wrP (wrP (wrP (wrP (wrP (wrP (wrP (wrP (wrP (wrP (wrP (wrP (wrP P 85 1 (some 86)) 85 2 (some 87)) 85 5 (some 88)) 85 8 (some 89)) 85 9 (some 90)) 85 10 (some 91)) 85 12 (some 92)) 85 13 (some 93)) 85 14 (some 94)) 85 15 (some 95)) 85 16 (some 96)) 85 19 (some 97)) 85 36 (some 98)) 85 37 (some 99)) 85 38 (some 100)) 85 39 (some 101)) 85 40 (some 102)) 85 41 (some 103)) 85 42 (some 104)) 85 45 (some 105)) 85 48 (some 106)) 85 49 (some 107)) 85 50 (some 108)) 85 55 (some 109)) 85 56 (some 110)) := f53.wrP (by omega)
  refine aw_aload_n C (tb_at ok_X8_init 111 rfl) rfl ?_
  refine aw_iconst C (tb_at ok_X8_init 112 rfl) ki_4 ?_
  refine aw_newa C (by rw [hn]; omega) s26 (by omega) (f54 _ (Nat.le_refl _)).1 ac_int (by decide) m27 (tb_at ok_X8_init 113 rfl) ?_
  have f55 : Fr 112 (wr (wr (wr M 85 7 3) 85 18 (-1)) 85 51 (-1)) (wrP (wrP (wrP (wrP (wrP (wrP (wrP (wrP (wrP (wrP (wrP (wrP (wrP (wrP (wrP (wrP (wrP (wrP (wrP (wrP (wrP (wrP (wrP (wrP (wrP P 85 1 (some 86)) 85 2 (some 87)) 85 5 (some 88)) 85 8 (some 89)) 85 9 (some 90)) 85 10 (some 91)) 85 12 (some 92)) 85 13 (some 93)) 85 14 (some 94)) 85 15 (some 95)) 85 16 (some 96)) 85 19 (some 97)) 85 36 (some 98)) 85 37 (some 99)) 85 38 (some 100)) 85 39 (some 101)) 85 40 (some 102)) 85 41 (some 103)) 85 42 (some 104)) 85 45 (some 105)) 85 48 (some 106)) 85 49 (some 107)) 85 50 (some 108)) 85 55 (some 109)) 85 56 (some 110)) := f54.mono
  refine aw_putRF C ⟨by omega, by omega, s0⟩ rfl (by decide) rfl rfl (hnm _ rfl) rfl (fun _ => rfl) (fun _ => rfl) fl_RX8_99 (tb_at ok_X8_init 114 rfl) ?_
  have f56 : Fr 112 (wr (wr (wr M 85 7 3) 85 18 (-1)) 85 51 (-1)) (wrP (wrP (wrP (wrP (wrP (wrP (wrP (wrP (wrP (wrP (wrP (wrP (wrP (wrP (wrP (wrP (wrP (wrP (wrP (wrP (wrP (wrP (wrP (wrP (wrP (wrP P 85 1 (some 86)) 85 2 (some 87)) 85 5 (some 88)) 85 8 (some 89)) 85 9 (some 90)) 85 10 (some 91)) 85 12 (some 92)) 85 13 (some 93)) 85 14 (some 94)) 85 15 (some 95)) 85 16 (some 96)) 85 19 (some 97)) 85 36 (some 98)) 85 37 (some 99)) 85 38 (some 100)) 85 39 (some 101)) 85 40 (some 102)) 85 41 (some 103)) 85 42 (some 104)) 85 45 (some 105)) 85 48 (some 106)) 85 49 (some 107)) 85 50 (some 108)) 85 55 (some 109)) 85 56 (some 110)) 85 57 (some 111)) := f55.wrP (by omega)
  refine aw_aload_n C (tb_at ok_X8_init 115 rfl) rfl ?_
  refine aw_sipush C (tb_at ok_X8_init 116 rfl) ks_160 ?_
  refine aw_newa C (by rw [hn]; omega) s27 (by omega) (f56 _ (Nat.le_refl _)).1 ac_int (by decide) m28 (tb_at ok_X8_init 117 rfl) ?_
  have f57 : Fr 113 (wr (wr (wr M 85 7 3) 85 18 (-1)) 85 51 (-1)) (wrP (wrP (wrP (wrP (wrP (wrP (wrP (wrP (wrP (wrP (wrP (wrP (wrP (wrP (wrP (wrP (wrP (wrP (wrP (wrP (wrP (wrP (wrP (wrP (wrP (wrP P 85 1 (some 86)) 85 2 (some 87)) 85 5 (some 88)) 85 8 (some 89)) 85 9 (some 90)) 85 10 (some 91)) 85 12 (some 92)) 85 13 (some 93)) 85 14 (some 94)) 85 15 (some 95)) 85 16 (some 96)) 85 19 (some 97)) 85 36 (some 98)) 85 37 (some 99)) 85 38 (some 100)) 85 39 (some 101)) 85 40 (some 102)) 85 41 (some 103)) 85 42 (some 104)) 85 45 (some 105)) 85 48 (some 106)) 85 49 (some 107)) 85 50 (some 108)) 85 55 (some 109)) 85 56 (some 110)) 85 57 (some 111)) := f56.mono
  refine aw_putRF C ⟨by omega, by omega, s0⟩ rfl (by decide) rfl rfl (hnm _ rfl) rfl (fun _ => rfl) (fun _ => rfl) fl_RX8_102 (tb_at ok_X8_init 118 rfl) ?_
  have f58 : Fr 113 (wr (wr (wr M 85 7 3) 85 18 (-1)) 85 51 (-1)) (wrP (wrP (wrP (wrP (wrP (wrP (wrP (wrP (wrP (wrP (wrP (wrP (wrP (wrP (wrP (wrP (wrP (wrP (wrP (wrP (wrP (wrP (wrP (wrP (wrP (wrP (wrP P 85 1 (some 86)) 85 2 (some 87)) 85 5 (some 88)) 85 8 (some 89)) 85 9 (some 90)) 85 10 (some 91)) 85 12 (some 92)) 85 13 (some 93)) 85 14 (some 94)) 85 15 (some 95)) 85 16 (some 96)) 85 19 (some 97)) 85 36 (some 98)) 85 37 (some 99)) 85 38 (some 100)) 85 39 (some 101)) 85 40 (some 102)) 85 41 (some 103)) 85 42 (some 104)) 85 45 (some 105)) 85 48 (some 106)) 85 49 (some 107)) 85 50 (some 108)) 85 55 (some 109)) 85 56 (some 110)) 85 57 (some 111)) 85 58 (some 112)) := f57.wrP (by omega)
  exact kk f58
