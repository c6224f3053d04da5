/-! 76: Day and House (laid by wip/gen/ctor.py) -/
def tb_X0_init : List (Nat × Instr × Nat) := [(0, .aload_n 0, 1), (1, .invokespecial 3, 3), (4, .aload_n 0, 1), (5, .new 9, 3), (8, .dup, 1), (9, .invokespecial 11, 3), (12, .putfield 12, 3), (15, .aload_n 0, 1), (16, .bipush 6, 2), (18, .newarray .int, 2), (20, .putfield 18, 3), (23, .aload_n 0, 1), (24, .sipush 160, 3), (27, .newarray .int, 2), (29, .putfield 22, 3), (32, .aload_n 0, 1), (33, .iconst 4, 1), (34, .newarray .int, 2), (36, .putfield 25, 3), (39, .aload_n 0, 1), (40, .iconst 4, 1), (41, .newarray .int, 2), (43, .putfield 28, 3), (46, .aload_n 0, 1), (47, .iconst 4, 1), (48, .newarray .int, 2), (50, .putfield 31, 3), (53, .aload_n 0, 1), (54, .iconst 4, 1), (55, .newarray .int, 2), (57, .putfield 34, 3), (60, .aload_n 0, 1), (61, .iconst 4, 1), (62, .newarray .int, 2), (64, .putfield 37, 3), (67, .aload_n 0, 1), (68, .iconst 4, 1), (69, .newarray .int, 2), (71, .putfield 40, 3), (74, .aload_n 0, 1), (75, .bipush 8, 2), (77, .newarray .int, 2), (79, .putfield 43, 3), (82, .aload_n 0, 1), (83, .iconst 0, 1), (84, .putfield 46, 3), (87, .aload_n 0, 1), (88, .iconst 0, 1), (89, .putfield 50, 3), (92, .aload_n 0, 1), (93, .iconst (-1), 1), (94, .putfield 53, 3), (97, .aload_n 0, 1), (98, .aload_n 1, 1), (99, .putfield 56, 3), (102, .aload_n 0, 1), (103, .aload_n 2, 1), (104, .putfield 60, 3), (107, .return_, 1)]
theorem ok_X0_init : TB cX0_init tb_X0_init := (by decide +kernel : tb_X0_init.all (fun q => tbq cX0_init q) = true)
def iM_X0_init (k : Nat) (M : Mem) : Mem := wr (iM_X5_init (k + 1) M) k 14 (-1)
def iP_X0_init (k : Nat) (P : Pm) (r0 : Nat) (r1 : Nat) : Pm := wrP (wrP (wrP (wrP (wrP (wrP (wrP (wrP (wrP (wrP (wrP (wrP (iP_X5_init (k + 1) P) k 2 (some (k + 1))) k 3 (some (k + 3))) k 4 (some (k + 4))) k 5 (some (k + 5))) k 6 (some (k + 6))) k 7 (some (k + 7))) k 8 (some (k + 8))) k 9 (some (k + 9))) k 10 (some (k + 10))) k 11 (some (k + 11))) k 0 (some r0)) k 1 (some r1)
set_option maxHeartbeats 4000000 in
set_option maxRecDepth 20000 in
theorem m_X0_init {l : Launch} {w : Wd} {k : Nat} {M : Mem} {P : Pm} (s0 : shf k = (0, 15)) (s1 : shf (k + 1) = (5, 2)) (s2 : shf (k + 2) = (20, 64)) (s3 : shf (k + 3) = (20, 6)) (s4 : shf (k + 4) = (20, 160)) (s5 : shf (k + 5) = (20, 4)) (s6 : shf (k + 6) = (20, 4)) (s7 : shf (k + 7) = (20, 4)) (s8 : shf (k + 8) = (20, 4)) (s9 : shf (k + 9) = (20, 4)) (s10 : shf (k + 10) = (20, 4)) (s11 : shf (k + 11) = (20, 8)) (hk : k + 12 ≤ 113) (f0 : Fr k M P) (r0 : Nat) (r1 : Nat) : CM l w yX0_init cX0_init 3 none 2 11 264 [.ref k, .ref r0, .ref r1] (k + 1) M P (fun rv n1 M1 P1 => rv = none ∧ n1 = k + 12 ∧ M1 = iM_X0_init k M ∧ P1 = iP_X0_init k P r0 r1 ∧ Fr (k + 12) M1 P1) := by
  refine cm_of (loc := [some (.ref k), some (.ref r0), some (.ref r1)]) mf_X0_init (by decide) (Nat.le_of_ble_eq_true rfl) rfl (fun K C rt hl hw hL hn hR hnm => ?_)
  have e1 : sln (k + 2) = sln (k + 1) + 2 := by rw [sln_succ, s1]
  have e2 : sln (k + 3) = sln (k + 2) + 64 := by rw [sln_succ, s2]
  have e3 : sln (k + 4) = sln (k + 3) + 6 := by rw [sln_succ, s3]
  have e4 : sln (k + 5) = sln (k + 4) + 160 := by rw [sln_succ, s4]
  have e5 : sln (k + 6) = sln (k + 5) + 4 := by rw [sln_succ, s5]
  have e6 : sln (k + 7) = sln (k + 6) + 4 := by rw [sln_succ, s6]
  have e7 : sln (k + 8) = sln (k + 7) + 4 := by rw [sln_succ, s7]
  have e8 : sln (k + 9) = sln (k + 8) + 4 := by rw [sln_succ, s8]
  have e9 : sln (k + 10) = sln (k + 9) + 4 := by rw [sln_succ, s9]
  have e10 : sln (k + 11) = sln (k + 10) + 4 := by rw [sln_succ, s10]
  have e11 : sln (k + 12) = sln (k + 11) + 8 := by rw [sln_succ, s11]
  have m1 : (k + 1) - kn K ≤ (kR K).cells ∧ sln (k + 1) - sln (kn K) ≤ (kR K).slots := ⟨by rw [hn, hR]; show (k + 1) - (k + 1) ≤ 11; omega, by rw [hn, hR]; show sln (k + 1) - sln (k + 1) ≤ 264; omega⟩
  have m2 : (k + 2) - kn K ≤ (kR K).cells ∧ sln (k + 2) - sln (kn K) ≤ (kR K).slots := ⟨by rw [hn, hR]; show (k + 2) - (k + 1) ≤ 11; omega, by rw [hn, hR]; show sln (k + 2) - sln (k + 1) ≤ 264; omega⟩
  have m3 : (k + 3) - kn K ≤ (kR K).cells ∧ sln (k + 3) - sln (kn K) ≤ (kR K).slots := ⟨by rw [hn, hR]; show (k + 3) - (k + 1) ≤ 11; omega, by rw [hn, hR]; show sln (k + 3) - sln (k + 1) ≤ 264; omega⟩
  have m4 : (k + 4) - kn K ≤ (kR K).cells ∧ sln (k + 4) - sln (kn K) ≤ (kR K).slots := ⟨by rw [hn, hR]; show (k + 4) - (k + 1) ≤ 11; omega, by rw [hn, hR]; show sln (k + 4) - sln (k + 1) ≤ 264; omega⟩
  have m5 : (k + 5) - kn K ≤ (kR K).cells ∧ sln (k + 5) - sln (kn K) ≤ (kR K).slots := ⟨by rw [hn, hR]; show (k + 5) - (k + 1) ≤ 11; omega, by rw [hn, hR]; show sln (k + 5) - sln (k + 1) ≤ 264; omega⟩
  have m6 : (k + 6) - kn K ≤ (kR K).cells ∧ sln (k + 6) - sln (kn K) ≤ (kR K).slots := ⟨by rw [hn, hR]; show (k + 6) - (k + 1) ≤ 11; omega, by rw [hn, hR]; show sln (k + 6) - sln (k + 1) ≤ 264; omega⟩
  have m7 : (k + 7) - kn K ≤ (kR K).cells ∧ sln (k + 7) - sln (kn K) ≤ (kR K).slots := ⟨by rw [hn, hR]; show (k + 7) - (k + 1) ≤ 11; omega, by rw [hn, hR]; show sln (k + 7) - sln (k + 1) ≤ 264; omega⟩
  have m8 : (k + 8) - kn K ≤ (kR K).cells ∧ sln (k + 8) - sln (kn K) ≤ (kR K).slots := ⟨by rw [hn, hR]; show (k + 8) - (k + 1) ≤ 11; omega, by rw [hn, hR]; show sln (k + 8) - sln (k + 1) ≤ 264; omega⟩
  have m9 : (k + 9) - kn K ≤ (kR K).cells ∧ sln (k + 9) - sln (kn K) ≤ (kR K).slots := ⟨by rw [hn, hR]; show (k + 9) - (k + 1) ≤ 11; omega, by rw [hn, hR]; show sln (k + 9) - sln (k + 1) ≤ 264; omega⟩
  have m10 : (k + 10) - kn K ≤ (kR K).cells ∧ sln (k + 10) - sln (kn K) ≤ (kR K).slots := ⟨by rw [hn, hR]; show (k + 10) - (k + 1) ≤ 11; omega, by rw [hn, hR]; show sln (k + 10) - sln (k + 1) ≤ 264; omega⟩
  have m11 : (k + 11) - kn K ≤ (kR K).cells ∧ sln (k + 11) - sln (kn K) ≤ (kR K).slots := ⟨by rw [hn, hR]; show (k + 11) - (k + 1) ≤ 11; omega, by rw [hn, hR]; show sln (k + 11) - sln (k + 1) ≤ 264; omega⟩
  have m12 : (k + 12) - kn K ≤ (kR K).cells ∧ sln (k + 12) - sln (kn K) ≤ (kR K).slots := ⟨by rw [hn, hR]; show (k + 12) - (k + 1) ≤ 11; omega, by rw [hn, hR]; show sln (k + 12) - sln (k + 1) ≤ 264; omega⟩
  have f1 : Fr (k + 1) M P := f0.mono
  refine aw_aload_n C (tb_at ok_X0_init 0 rfl) rfl ?_
  refine aw_objInit C oi_RX0_3 (Nat.le_of_ble_eq_true rfl) (tb_at ok_X0_init 1 rfl) ?_
  refine aw_aload_n C (tb_at ok_X0_init 2 rfl) rfl ?_
  refine aw_new C (by rw [hn]; omega) s1 (by omega) rfl (f1 _ (Nat.le_refl _)).1 (f1 _ (Nat.le_refl _)).2 nw_RX0_9 m2 dv_RX5 (tb_at ok_X0_init 3 rfl) ?_
  have f2 : Fr (k + 2) M P := f1.mono
  refine aw_dup C (tb_at ok_X0_init 4 rfl) rfl ?_
  refine aw_cIN C ⟨by rw [hn]; omega, m2⟩ (tb_at ok_X0_init 5 rfl) (m_X5_init s1 s2 (by omega) (f1)) mf_X5_init (by omega) cw_RX0_11 rfl rfl (by rw [hR]; decide) rfl (Nat.le_of_ble_eq_true rfl) ⟨by rw [hn, hR]; show (k + 2) - (k + 1) + 1 ≤ 11; omega, by rw [hn, hR]; show sln (k + 2) - sln (k + 1) + 64 ≤ 264; omega⟩ (fun rv n1 M1 P1 z => by obtain ⟨-, rfl, -⟩ := z; exact ⟨rfl, by show sln (k + 3) = sln (k + 2) + 64; omega⟩) (fun rv n1 M1 P1 z => ?_)
  obtain ⟨rfl, rfl, rfl, rfl, g9_3⟩ := z
  show AW K (k + 3) (iM_X5_init (k + 1) M) (iP_X5_init (k + 1) P) 12 [some (.ref k), some (.ref r0), some (.ref r1)] [.ref (k + 1), .ref k]
  refine aw_putRF C ⟨by omega, by omega, s0⟩ rfl (by decide) rfl rfl (hnm _ rfl) rfl (fun _ => rfl) (fun _ => rfl) fl_RX0_12 (tb_at ok_X0_init 6 rfl) ?_
  have f3 : Fr (k + 3) (iM_X5_init (k + 1) M) (wrP (iP_X5_init (k + 1) P) k 2 (some (k + 1))) := g9_3.wrP (by omega)
  refine aw_aload_n C (tb_at ok_X0_init 7 rfl) rfl ?_
  refine aw_bipush C (tb_at ok_X0_init 8 rfl) kb_6 ?_
  refine aw_newa C (by rw [hn]; omega) s3 (by omega) (f3 _ (Nat.le_refl _)).1 ac_int (by decide) m4 (tb_at ok_X0_init 9 rfl) ?_
  have f4 : Fr (k + 4) (iM_X5_init (k + 1) M) (wrP (iP_X5_init (k + 1) P) k 2 (some (k + 1))) := f3.mono
  refine aw_putRF C ⟨by omega, by omega, s0⟩ rfl (by decide) rfl rfl (hnm _ rfl) rfl (fun _ => rfl) (fun _ => rfl) fl_RX0_18 (tb_at ok_X0_init 10 rfl) ?_
  have f5 : Fr (k + 4) (iM_X5_init (k + 1) M) (wrP (wrP (iP_X5_init (k + 1) P) k 2 (some (k + 1))) k 3 (some (k + 3))) := f4.wrP (by omega)
  refine aw_aload_n C (tb_at ok_X0_init 11 rfl) rfl ?_
  refine aw_sipush C (tb_at ok_X0_init 12 rfl) ks_160 ?_
  refine aw_newa C (by rw [hn]; omega) s4 (by omega) (f5 _ (Nat.le_refl _)).1 ac_int (by decide) m5 (tb_at ok_X0_init 13 rfl) ?_
  have f6 : Fr (k + 5) (iM_X5_init (k + 1) M) (wrP (wrP (iP_X5_init (k + 1) P) k 2 (some (k + 1))) k 3 (some (k + 3))) := f5.mono
  refine aw_putRF C ⟨by omega, by omega, s0⟩ rfl (by decide) rfl rfl (hnm _ rfl) rfl (fun _ => rfl) (fun _ => rfl) fl_RX0_22 (tb_at ok_X0_init 14 rfl) ?_
  have f7 : Fr (k + 5) (iM_X5_init (k + 1) M) (wrP (wrP (wrP (iP_X5_init (k + 1) P) k 2 (some (k + 1))) k 3 (some (k + 3))) k 4 (some (k + 4))) := f6.wrP (by omega)
  refine aw_aload_n C (tb_at ok_X0_init 15 rfl) rfl ?_
  refine aw_iconst C (tb_at ok_X0_init 16 rfl) ki_4 ?_
  refine aw_newa C (by rw [hn]; omega) s5 (by omega) (f7 _ (Nat.le_refl _)).1 ac_int (by decide) m6 (tb_at ok_X0_init 17 rfl) ?_
  have f8 : Fr (k + 6) (iM_X5_init (k + 1) M) (wrP (wrP (wrP (iP_X5_init (k + 1) P) k 2 (some (k + 1))) k 3 (some (k + 3))) k 4 (some (k + 4))) := f7.mono
  refine aw_putRF C ⟨by omega, by omega, s0⟩ rfl (by decide) rfl rfl (hnm _ rfl) rfl (fun _ => rfl) (fun _ => rfl) fl_RX0_25 (tb_at ok_X0_init 18 rfl) ?_
  have f9 : Fr (k + 6) (iM_X5_init (k + 1) M) (wrP (wrP (wrP (wrP (iP_X5_init (k + 1) P) k 2 (some (k + 1))) k 3 (some (k + 3))) k 4 (some (k + 4))) k 5 (some (k + 5))) := f8.wrP (by omega)
  refine aw_aload_n C (tb_at ok_X0_init 19 rfl) rfl ?_
  refine aw_iconst C (tb_at ok_X0_init 20 rfl) ki_4 ?_
  refine aw_newa C (by rw [hn]; omega) s6 (by omega) (f9 _ (Nat.le_refl _)).1 ac_int (by decide) m7 (tb_at ok_X0_init 21 rfl) ?_
  have f10 : Fr (k + 7) (iM_X5_init (k + 1) M) (wrP (wrP (wrP (wrP (iP_X5_init (k + 1) P) k 2 (some (k + 1))) k 3 (some (k + 3))) k 4 (some (k + 4))) k 5 (some (k + 5))) := f9.mono
  refine aw_putRF C ⟨by omega, by omega, s0⟩ rfl (by decide) rfl rfl (hnm _ rfl) rfl (fun _ => rfl) (fun _ => rfl) fl_RX0_28 (tb_at ok_X0_init 22 rfl) ?_
  have f11 : Fr (k + 7) (iM_X5_init (k + 1) M) (wrP (wrP (wrP (wrP (wrP (iP_X5_init (k + 1) P) k 2 (some (k + 1))) k 3 (some (k + 3))) k 4 (some (k + 4))) k 5 (some (k + 5))) k 6 (some (k + 6))) := f10.wrP (by omega)
  refine aw_aload_n C (tb_at ok_X0_init 23 rfl) rfl ?_
  refine aw_iconst C (tb_at ok_X0_init 24 rfl) ki_4 ?_
  refine aw_newa C (by rw [hn]; omega) s7 (by omega) (f11 _ (Nat.le_refl _)).1 ac_int (by decide) m8 (tb_at ok_X0_init 25 rfl) ?_
  have f12 : Fr (k + 8) (iM_X5_init (k + 1) M) (wrP (wrP (wrP (wrP (wrP (iP_X5_init (k + 1) P) k 2 (some (k + 1))) k 3 (some (k + 3))) k 4 (some (k + 4))) k 5 (some (k + 5))) k 6 (some (k + 6))) := f11.mono
  refine aw_putRF C ⟨by omega, by omega, s0⟩ rfl (by decide) rfl rfl (hnm _ rfl) rfl (fun _ => rfl) (fun _ => rfl) fl_RX0_31 (tb_at ok_X0_init 26 rfl) ?_
  have f13 : Fr (k + 8) (iM_X5_init (k + 1) M) (wrP (wrP (wrP (wrP (wrP (wrP (iP_X5_init (k + 1) P) k 2 (some (k + 1))) k 3 (some (k + 3))) k 4 (some (k + 4))) k 5 (some (k + 5))) k 6 (some (k + 6))) k 7 (some (k + 7))) := f12.wrP (by omega)
  refine aw_aload_n C (tb_at ok_X0_init 27 rfl) rfl ?_
  refine aw_iconst C (tb_at ok_X0_init 28 rfl) ki_4 ?_
  refine aw_newa C (by rw [hn]; omega) s8 (by omega) (f13 _ (Nat.le_refl _)).1 ac_int (by decide) m9 (tb_at ok_X0_init 29 rfl) ?_
  have f14 : Fr (k + 9) (iM_X5_init (k + 1) M) (wrP (wrP (wrP (wrP (wrP (wrP (iP_X5_init (k + 1) P) k 2 (some (k + 1))) k 3 (some (k + 3))) k 4 (some (k + 4))) k 5 (some (k + 5))) k 6 (some (k + 6))) k 7 (some (k + 7))) := f13.mono
  refine aw_putRF C ⟨by omega, by omega, s0⟩ rfl (by decide) rfl rfl (hnm _ rfl) rfl (fun _ => rfl) (fun _ => rfl) fl_RX0_34 (tb_at ok_X0_init 30 rfl) ?_
  have f15 : Fr (k + 9) (iM_X5_init (k + 1) M) (wrP (wrP (wrP (wrP (wrP (wrP (wrP (iP_X5_init (k + 1) P) k 2 (some (k + 1))) k 3 (some (k + 3))) k 4 (some (k + 4))) k 5 (some (k + 5))) k 6 (some (k + 6))) k 7 (some (k + 7))) k 8 (some (k + 8))) := f14.wrP (by omega)
  refine aw_aload_n C (tb_at ok_X0_init 31 rfl) rfl ?_
  refine aw_iconst C (tb_at ok_X0_init 32 rfl) ki_4 ?_
  refine aw_newa C (by rw [hn]; omega) s9 (by omega) (f15 _ (Nat.le_refl _)).1 ac_int (by decide) m10 (tb_at ok_X0_init 33 rfl) ?_
  have f16 : Fr (k + 10) (iM_X5_init (k + 1) M) (wrP (wrP (wrP (wrP (wrP (wrP (wrP (iP_X5_init (k + 1) P) k 2 (some (k + 1))) k 3 (some (k + 3))) k 4 (some (k + 4))) k 5 (some (k + 5))) k 6 (some (k + 6))) k 7 (some (k + 7))) k 8 (some (k + 8))) := f15.mono
  refine aw_putRF C ⟨by omega, by omega, s0⟩ rfl (by decide) rfl rfl (hnm _ rfl) rfl (fun _ => rfl) (fun _ => rfl) fl_RX0_37 (tb_at ok_X0_init 34 rfl) ?_
  have f17 : Fr (k + 10) (iM_X5_init (k + 1) M) (wrP (wrP (wrP (wrP (wrP (wrP (wrP (wrP (iP_X5_init (k + 1) P) k 2 (some (k + 1))) k 3 (some (k + 3))) k 4 (some (k + 4))) k 5 (some (k + 5))) k 6 (some (k + 6))) k 7 (some (k + 7))) k 8 (some (k + 8))) k 9 (some (k + 9))) := f16.wrP (by omega)
  refine aw_aload_n C (tb_at ok_X0_init 35 rfl) rfl ?_
  refine aw_iconst C (tb_at ok_X0_init 36 rfl) ki_4 ?_
  refine aw_newa C (by rw [hn]; omega) s10 (by omega) (f17 _ (Nat.le_refl _)).1 ac_int (by decide) m11 (tb_at ok_X0_init 37 rfl) ?_
  have f18 : Fr (k + 11) (iM_X5_init (k + 1) M) (wrP (wrP (wrP (wrP (wrP (wrP (wrP (wrP (iP_X5_init (k + 1) P) k 2 (some (k + 1))) k 3 (some (k + 3))) k 4 (some (k + 4))) k 5 (some (k + 5))) k 6 (some (k + 6))) k 7 (some (k + 7))) k 8 (some (k + 8))) k 9 (some (k + 9))) := f17.mono
  refine aw_putRF C ⟨by omega, by omega, s0⟩ rfl (by decide) rfl rfl (hnm _ rfl) rfl (fun _ => rfl) (fun _ => rfl) fl_RX0_40 (tb_at ok_X0_init 38 rfl) ?_
  have f19 : Fr (k + 11) (iM_X5_init (k + 1) M) (wrP (wrP (wrP (wrP (wrP (wrP (wrP (wrP (wrP (iP_X5_init (k + 1) P) k 2 (some (k + 1))) k 3 (some (k + 3))) k 4 (some (k + 4))) k 5 (some (k + 5))) k 6 (some (k + 6))) k 7 (some (k + 7))) k 8 (some (k + 8))) k 9 (some (k + 9))) k 10 (some (k + 10))) := f18.wrP (by omega)
  refine aw_aload_n C (tb_at ok_X0_init 39 rfl) rfl ?_
  refine aw_bipush C (tb_at ok_X0_init 40 rfl) kb_8 ?_
  refine aw_newa C (by rw [hn]; omega) s11 (by omega) (f19 _ (Nat.le_refl _)).1 ac_int (by decide) m12 (tb_at ok_X0_init 41 rfl) ?_
  have f20 : Fr (k + 12) (iM_X5_init (k + 1) M) (wrP (wrP (wrP (wrP (wrP (wrP (wrP (wrP (wrP (iP_X5_init (k + 1) P) k 2 (some (k + 1))) k 3 (some (k + 3))) k 4 (some (k + 4))) k 5 (some (k + 5))) k 6 (some (k + 6))) k 7 (some (k + 7))) k 8 (some (k + 8))) k 9 (some (k + 9))) k 10 (some (k + 10))) := f19.mono
  refine aw_putRF C ⟨by omega, by omega, s0⟩ rfl (by decide) rfl rfl (hnm _ rfl) rfl (fun _ => rfl) (fun _ => rfl) fl_RX0_43 (tb_at ok_X0_init 42 rfl) ?_
  have f21 : Fr (k + 12) (iM_X5_init (k + 1) M) (wrP (wrP (wrP (wrP (wrP (wrP (wrP (wrP (wrP (wrP (iP_X5_init (k + 1) P) k 2 (some (k + 1))) k 3 (some (k + 3))) k 4 (some (k + 4))) k 5 (some (k + 5))) k 6 (some (k + 6))) k 7 (some (k + 7))) k 8 (some (k + 8))) k 9 (some (k + 9))) k 10 (some (k + 10))) k 11 (some (k + 11))) := f20.wrP (by omega)
  refine aw_aload_n C (tb_at ok_X0_init 43 rfl) rfl ?_
  refine aw_iconst C (tb_at ok_X0_init 44 rfl) ki_0 ?_
  refine aw_put0 C ⟨by omega, by omega, s0⟩ rfl (by decide) (by decide) rfl rfl rfl rfl fl_RX0_46 (by unfold iM_X5_init; rw [wr_ne (by omega)]; exact (f0 _ (Nat.le_refl _)).1 _) (tb_at ok_X0_init 45 rfl) ?_
  refine aw_aload_n C (tb_at ok_X0_init 46 rfl) rfl ?_
  refine aw_iconst C (tb_at ok_X0_init 47 rfl) ki_0 ?_
  refine aw_put0 C ⟨by omega, by omega, s0⟩ rfl (by decide) (by decide) rfl rfl rfl rfl fl_RX0_50 (by unfold iM_X5_init; rw [wr_ne (by omega)]; exact (f0 _ (Nat.le_refl _)).1 _) (tb_at ok_X0_init 48 rfl) ?_
  refine aw_aload_n C (tb_at ok_X0_init 49 rfl) rfl ?_
  refine aw_iconst C (tb_at ok_X0_init 50 rfl) ki_m1 ?_
  refine aw_put C ⟨by omega, by omega, s0⟩ rfl (by decide) (by decide) rfl rfl rfl rfl fl_RX0_53 (tb_at ok_X0_init 51 rfl) ?_
  have f22 : Fr (k + 12) (wr (iM_X5_init (k + 1) M) k 14 (-1)) (wrP (wrP (wrP (wrP (wrP (wrP (wrP (wrP (wrP (wrP (iP_X5_init (k + 1) P) k 2 (some (k + 1))) k 3 (some (k + 3))) k 4 (some (k + 4))) k 5 (some (k + 5))) k 6 (some (k + 6))) k 7 (some (k + 7))) k 8 (some (k + 8))) k 9 (some (k + 9))) k 10 (some (k + 10))) k 11 (some (k + 11))) := f21.wr (by omega)
  refine aw_aload_n C (tb_at ok_X0_init 52 rfl) rfl ?_
  refine aw_aload_n C (tb_at ok_X0_init 53 rfl) rfl ?_
  refine aw_putR C ⟨by omega, by omega, s0⟩ rfl (by decide) rfl rfl (fun _ => rfl) (fun _ => rfl) fl_RX0_56 (tb_at ok_X0_init 54 rfl) ?_
  have f23 : Fr (k + 12) (wr (iM_X5_init (k + 1) M) k 14 (-1)) (wrP (wrP (wrP (wrP (wrP (wrP (wrP (wrP (wrP (wrP (wrP (iP_X5_init (k + 1) P) k 2 (some (k + 1))) k 3 (some (k + 3))) k 4 (some (k + 4))) k 5 (some (k + 5))) k 6 (some (k + 6))) k 7 (some (k + 7))) k 8 (some (k + 8))) k 9 (some (k + 9))) k 10 (some (k + 10))) k 11 (some (k + 11))) k 0 (some r0)) := f22.wrP (by omega)
  refine aw_aload_n C (tb_at ok_X0_init 55 rfl) rfl ?_
  refine aw_aload_n C (tb_at ok_X0_init 56 rfl) rfl ?_
  refine aw_putRF C ⟨by omega, by omega, s0⟩ rfl (by decide) rfl rfl (hnm _ rfl) rfl (fun _ => rfl) (fun _ => rfl) fl_RX0_60 (tb_at ok_X0_init 57 rfl) ?_
  have f24 : Fr (k + 12) (wr (iM_X5_init (k + 1) M) k 14 (-1)) (wrP (wrP (wrP (wrP (wrP (wrP (wrP (wrP (wrP (wrP (wrP (wrP (iP_X5_init (k + 1) P) k 2 (some (k + 1))) k 3 (some (k + 3))) k 4 (some (k + 4))) k 5 (some (k + 5))) k 6 (some (k + 6))) k 7 (some (k + 7))) k 8 (some (k + 8))) k 9 (some (k + 9))) k 10 (some (k + 10))) k 11 (some (k + 11))) k 0 (some r0)) k 1 (some r1)) := f23.wrP (by omega)
  have mz := m12
  rw [hR] at mz
  exact aw_vret C rt mz (tb_at ok_X0_init 58 rfl) ⟨rfl, rfl, rfl, rfl, f24⟩
def tb_X1_init : List (Nat × Instr × Nat) := [(0, .aload_n 0, 1), (1, .invokespecial 3, 3), (4, .aload_n 0, 1), (5, .iconst 3, 1), (6, .putfield 9, 3), (9, .aload_n 0, 1), (10, .iconst 0, 1), (11, .putfield 15, 3), (14, .aload_n 0, 1), (15, .iconst 0, 1), (16, .putfield 18, 3), (19, .aload_n 0, 1), (20, .iconst 0, 1), (21, .putfield 21, 3), (24, .aload_n 0, 1), (25, .bipush 8, 2), (27, .newarray .int, 2), (29, .putfield 24, 3), (32, .aload_n 0, 1), (33, .bipush 8, 2), (35, .newarray .int, 2), (37, .putfield 28, 3), (40, .aload_n 0, 1), (41, .bipush 8, 2), (43, .newarray .int, 2), (45, .putfield 31, 3), (48, .aload_n 0, 1), (49, .iconst 4, 1), (50, .anewarray 34, 3), (53, .putfield 36, 3), (56, .iconst 0, 1), (57, .istore_n 1, 1), (58, .iload_n 1, 1), (59, .bipush 8, 2), (61, .if_icmp .ge 17, 3), (64, .aload_n 0, 1), (65, .getfield 31, 3), (68, .iload_n 1, 1), (69, .bipush 9, 2), (71, .iastore, 1), (72, .iinc 1 1, 3), (75, .goto (-17), 3), (78, .iconst 0, 1), (79, .istore_n 1, 1), (80, .iload_n 1, 1), (81, .iconst 4, 1), (82, .if_icmp .ge 22, 3), (85, .aload_n 0, 1), (86, .getfield 36, 3), (89, .iload_n 1, 1), (90, .new 34, 3), (93, .dup, 1), (94, .invokespecial 40, 3), (97, .aastore, 1), (98, .iinc 1 1, 3), (101, .goto (-21), 3), (104, .return_, 1)]
theorem ok_X1_init : TB cX1_init tb_X1_init := (by decide +kernel : tb_X1_init.all (fun q => tbq cX1_init q) = true)
def iM_X1_init (k : Nat) (M : Mem) : Mem := iM_X2_init (k + 11) (iM_X2_init (k + 9) (iM_X2_init (k + 7) (iM_X2_init (k + 5) (wr (wr (wr (wr (wr (wr (wr (wr (wr M k 0 3) (k + 3) 0 9) (k + 3) 1 9) (k + 3) 2 9) (k + 3) 3 9) (k + 3) 4 9) (k + 3) 5 9) (k + 3) 6 9) (k + 3) 7 9))))
def iP_X1_init (k : Nat) (P : Pm) : Pm := wrP (iP_X2_init (k + 11) (wrP (iP_X2_init (k + 9) (wrP (iP_X2_init (k + 7) (wrP (iP_X2_init (k + 5) (wrP (wrP (wrP (wrP P k 4 (some (k + 1))) k 5 (some (k + 2))) k 6 (some (k + 3))) k 7 (some (k + 4)))) (k + 4) 0 (some (k + 5)))) (k + 4) 1 (some (k + 7)))) (k + 4) 2 (some (k + 9)))) (k + 4) 3 (some (k + 11))
set_option maxHeartbeats 4000000 in
set_option maxRecDepth 20000 in
theorem m_X1_init {l : Launch} {w : Wd} {k : Nat} {M : Mem} {P : Pm} (s0 : shf k = (1, 8)) (s1 : shf (k + 1) = (20, 8)) (s2 : shf (k + 2) = (20, 8)) (s3 : shf (k + 3) = (20, 8)) (s4 : shf (k + 4) = (22, 4)) (s5 : shf (k + 5) = (2, 5)) (s6 : shf (k + 6) = (20, 5)) (s7 : shf (k + 7) = (2, 5)) (s8 : shf (k + 8) = (20, 5)) (s9 : shf (k + 9) = (2, 5)) (s10 : shf (k + 10) = (20, 5)) (s11 : shf (k + 11) = (2, 5)) (s12 : shf (k + 12) = (20, 5)) (hk : k + 13 ≤ 113) (f0 : Fr k M P) : CM l w yX1_init cX1_init 2 none 2 12 68 [.ref k] (k + 1) M P (fun rv n1 M1 P1 => rv = none ∧ n1 = k + 13 ∧ M1 = iM_X1_init k M ∧ P1 = iP_X1_init k P ∧ Fr (k + 13) M1 P1) := by
  refine cm_of (loc := [some (.ref k), none]) mf_X1_init (by decide) (Nat.le_of_ble_eq_true rfl) rfl (fun K C rt hl hw hL hn hR hnm => ?_)
  have e1 : sln (k + 2) = sln (k + 1) + 8 := by rw [sln_succ, s1]
  have e2 : sln (k + 3) = sln (k + 2) + 8 := by rw [sln_succ, s2]
  have e3 : sln (k + 4) = sln (k + 3) + 8 := by rw [sln_succ, s3]
  have e4 : sln (k + 5) = sln (k + 4) + 4 := by rw [sln_succ, s4]
  have e5 : sln (k + 6) = sln (k + 5) + 5 := by rw [sln_succ, s5]
  have e6 : sln (k + 7) = sln (k + 6) + 5 := by rw [sln_succ, s6]
  have e7 : sln (k + 8) = sln (k + 7) + 5 := by rw [sln_succ, s7]
  have e8 : sln (k + 9) = sln (k + 8) + 5 := by rw [sln_succ, s8]
  have e9 : sln (k + 10) = sln (k + 9) + 5 := by rw [sln_succ, s9]
  have e10 : sln (k + 11) = sln (k + 10) + 5 := by rw [sln_succ, s10]
  have e11 : sln (k + 12) = sln (k + 11) + 5 := by rw [sln_succ, s11]
  have e12 : sln (k + 13) = sln (k + 12) + 5 := by rw [sln_succ, s12]
  have m1 : (k + 1) - kn K ≤ (kR K).cells ∧ sln (k + 1) - sln (kn K) ≤ (kR K).slots := ⟨by rw [hn, hR]; show (k + 1) - (k + 1) ≤ 12; omega, by rw [hn, hR]; show sln (k + 1) - sln (k + 1) ≤ 68; omega⟩
  have m2 : (k + 2) - kn K ≤ (kR K).cells ∧ sln (k + 2) - sln (kn K) ≤ (kR K).slots := ⟨by rw [hn, hR]; show (k + 2) - (k + 1) ≤ 12; omega, by rw [hn, hR]; show sln (k + 2) - sln (k + 1) ≤ 68; omega⟩
  have m3 : (k + 3) - kn K ≤ (kR K).cells ∧ sln (k + 3) - sln (kn K) ≤ (kR K).slots := ⟨by rw [hn, hR]; show (k + 3) - (k + 1) ≤ 12; omega, by rw [hn, hR]; show sln (k + 3) - sln (k + 1) ≤ 68; omega⟩
  have m4 : (k + 4) - kn K ≤ (kR K).cells ∧ sln (k + 4) - sln (kn K) ≤ (kR K).slots := ⟨by rw [hn, hR]; show (k + 4) - (k + 1) ≤ 12; omega, by rw [hn, hR]; show sln (k + 4) - sln (k + 1) ≤ 68; omega⟩
  have m5 : (k + 5) - kn K ≤ (kR K).cells ∧ sln (k + 5) - sln (kn K) ≤ (kR K).slots := ⟨by rw [hn, hR]; show (k + 5) - (k + 1) ≤ 12; omega, by rw [hn, hR]; show sln (k + 5) - sln (k + 1) ≤ 68; omega⟩
  have m6 : (k + 6) - kn K ≤ (kR K).cells ∧ sln (k + 6) - sln (kn K) ≤ (kR K).slots := ⟨by rw [hn, hR]; show (k + 6) - (k + 1) ≤ 12; omega, by rw [hn, hR]; show sln (k + 6) - sln (k + 1) ≤ 68; omega⟩
  have m7 : (k + 7) - kn K ≤ (kR K).cells ∧ sln (k + 7) - sln (kn K) ≤ (kR K).slots := ⟨by rw [hn, hR]; show (k + 7) - (k + 1) ≤ 12; omega, by rw [hn, hR]; show sln (k + 7) - sln (k + 1) ≤ 68; omega⟩
  have m8 : (k + 8) - kn K ≤ (kR K).cells ∧ sln (k + 8) - sln (kn K) ≤ (kR K).slots := ⟨by rw [hn, hR]; show (k + 8) - (k + 1) ≤ 12; omega, by rw [hn, hR]; show sln (k + 8) - sln (k + 1) ≤ 68; omega⟩
  have m9 : (k + 9) - kn K ≤ (kR K).cells ∧ sln (k + 9) - sln (kn K) ≤ (kR K).slots := ⟨by rw [hn, hR]; show (k + 9) - (k + 1) ≤ 12; omega, by rw [hn, hR]; show sln (k + 9) - sln (k + 1) ≤ 68; omega⟩
  have m10 : (k + 10) - kn K ≤ (kR K).cells ∧ sln (k + 10) - sln (kn K) ≤ (kR K).slots := ⟨by rw [hn, hR]; show (k + 10) - (k + 1) ≤ 12; omega, by rw [hn, hR]; show sln (k + 10) - sln (k + 1) ≤ 68; omega⟩
  have m11 : (k + 11) - kn K ≤ (kR K).cells ∧ sln (k + 11) - sln (kn K) ≤ (kR K).slots := ⟨by rw [hn, hR]; show (k + 11) - (k + 1) ≤ 12; omega, by rw [hn, hR]; show sln (k + 11) - sln (k + 1) ≤ 68; omega⟩
  have m12 : (k + 12) - kn K ≤ (kR K).cells ∧ sln (k + 12) - sln (kn K) ≤ (kR K).slots := ⟨by rw [hn, hR]; show (k + 12) - (k + 1) ≤ 12; omega, by rw [hn, hR]; show sln (k + 12) - sln (k + 1) ≤ 68; omega⟩
  have m13 : (k + 13) - kn K ≤ (kR K).cells ∧ sln (k + 13) - sln (kn K) ≤ (kR K).slots := ⟨by rw [hn, hR]; show (k + 13) - (k + 1) ≤ 12; omega, by rw [hn, hR]; show sln (k + 13) - sln (k + 1) ≤ 68; omega⟩
  have f1 : Fr (k + 1) M P := f0.mono
  refine aw_aload_n C (tb_at ok_X1_init 0 rfl) rfl ?_
  refine aw_objInit C oi_RX1_3 (Nat.le_of_ble_eq_true rfl) (tb_at ok_X1_init 1 rfl) ?_
  refine aw_aload_n C (tb_at ok_X1_init 2 rfl) rfl ?_
  refine aw_iconst C (tb_at ok_X1_init 3 rfl) ki_3 ?_
  refine aw_put C ⟨by omega, by omega, s0⟩ rfl (by decide) (by decide) rfl rfl rfl rfl fl_RX1_9 (tb_at ok_X1_init 4 rfl) ?_
  have f2 : Fr (k + 1) (wr M k 0 3) P := f1.wr (by omega)
  refine aw_aload_n C (tb_at ok_X1_init 5 rfl) rfl ?_
  refine aw_iconst C (tb_at ok_X1_init 6 rfl) ki_0 ?_
  refine aw_put0 C ⟨by omega, by omega, s0⟩ rfl (by decide) (by decide) rfl rfl rfl rfl fl_RX1_15 (by rw [wr_at (by decide)]; exact (f0 _ (Nat.le_refl _)).1 _) (tb_at ok_X1_init 7 rfl) ?_
  refine aw_aload_n C (tb_at ok_X1_init 8 rfl) rfl ?_
  refine aw_iconst C (tb_at ok_X1_init 9 rfl) ki_0 ?_
  refine aw_put0 C ⟨by omega, by omega, s0⟩ rfl (by decide) (by decide) rfl rfl rfl rfl fl_RX1_18 (by rw [wr_at (by decide)]; exact (f0 _ (Nat.le_refl _)).1 _) (tb_at ok_X1_init 10 rfl) ?_
  refine aw_aload_n C (tb_at ok_X1_init 11 rfl) rfl ?_
  refine aw_iconst C (tb_at ok_X1_init 12 rfl) ki_0 ?_
  refine aw_put0 C ⟨by omega, by omega, s0⟩ rfl (by decide) (by decide) rfl rfl rfl rfl fl_RX1_21 (by rw [wr_at (by decide)]; exact (f0 _ (Nat.le_refl _)).1 _) (tb_at ok_X1_init 13 rfl) ?_
  refine aw_aload_n C (tb_at ok_X1_init 14 rfl) rfl ?_
  refine aw_bipush C (tb_at ok_X1_init 15 rfl) kb_8 ?_
  refine aw_newa C (by rw [hn]; omega) s1 (by omega) (f2 _ (Nat.le_refl _)).1 ac_int (by decide) m2 (tb_at ok_X1_init 16 rfl) ?_
  have f3 : Fr (k + 2) (wr M k 0 3) P := f2.mono
  refine aw_putRF C ⟨by omega, by omega, s0⟩ rfl (by decide) rfl rfl (hnm _ rfl) rfl (fun _ => rfl) (fun _ => rfl) fl_RX1_24 (tb_at ok_X1_init 17 rfl) ?_
  have f4 : Fr (k + 2) (wr M k 0 3) (wrP P k 4 (some (k + 1))) := f3.wrP (by omega)
  refine aw_aload_n C (tb_at ok_X1_init 18 rfl) rfl ?_
  refine aw_bipush C (tb_at ok_X1_init 19 rfl) kb_8 ?_
  refine aw_newa C (by rw [hn]; omega) s2 (by omega) (f4 _ (Nat.le_refl _)).1 ac_int (by decide) m3 (tb_at ok_X1_init 20 rfl) ?_
  have f5 : Fr (k + 3) (wr M k 0 3) (wrP P k 4 (some (k + 1))) := f4.mono
  refine aw_putRF C ⟨by omega, by omega, s0⟩ rfl (by decide) rfl rfl (hnm _ rfl) rfl (fun _ => rfl) (fun _ => rfl) fl_RX1_28 (tb_at ok_X1_init 21 rfl) ?_
  have f6 : Fr (k + 3) (wr M k 0 3) (wrP (wrP P k 4 (some (k + 1))) k 5 (some (k + 2))) := f5.wrP (by omega)
  refine aw_aload_n C (tb_at ok_X1_init 22 rfl) rfl ?_
  refine aw_bipush C (tb_at ok_X1_init 23 rfl) kb_8 ?_
  refine aw_newa C (by rw [hn]; omega) s3 (by omega) (f6 _ (Nat.le_refl _)).1 ac_int (by decide) m4 (tb_at ok_X1_init 24 rfl) ?_
  have f7 : Fr (k + 4) (wr M k 0 3) (wrP (wrP P k 4 (some (k + 1))) k 5 (some (k + 2))) := f6.mono
  refine aw_putRF C ⟨by omega, by omega, s0⟩ rfl (by decide) rfl rfl (hnm _ rfl) rfl (fun _ => rfl) (fun _ => rfl) fl_RX1_31 (tb_at ok_X1_init 25 rfl) ?_
  have f8 : Fr (k + 4) (wr M k 0 3) (wrP (wrP (wrP P k 4 (some (k + 1))) k 5 (some (k + 2))) k 6 (some (k + 3))) := f7.wrP (by omega)
  refine aw_aload_n C (tb_at ok_X1_init 26 rfl) rfl ?_
  refine aw_iconst C (tb_at ok_X1_init 27 rfl) ki_4 ?_
  refine aw_anew C (by rw [hn]; omega) 2 s4 (by decide) (by omega) rfl (f8 _ (Nat.le_refl _)).2 C.2.2.2.2.2.1.2.2.2.2.2.2.1.1 cl_RX1_34 (by decide) m5 (tb_at ok_X1_init 28 rfl) ?_
  have f9 : Fr (k + 5) (wr M k 0 3) (wrP (wrP (wrP P k 4 (some (k + 1))) k 5 (some (k + 2))) k 6 (some (k + 3))) := f8.mono
  refine aw_putRF C ⟨by omega, by omega, s0⟩ rfl (by decide) rfl rfl (hnm _ rfl) rfl (fun _ => rfl) (fun _ => rfl) fl_RX1_36 (tb_at ok_X1_init 29 rfl) ?_
  have f10 : Fr (k + 5) (wr M k 0 3) (wrP (wrP (wrP (wrP P k 4 (some (k + 1))) k 5 (some (k + 2))) k 6 (some (k + 3))) k 7 (some (k + 4))) := f9.wrP (by omega)
  refine aw_iconst C (tb_at ok_X1_init 30 rfl) ki_0 ?_
  refine aw_istore_n C [some (.ref k), some (.int 0)] (tb_at ok_X1_init 31 rfl) hL (by decide) rfl ?_
  refine aw_iload_n C (tb_at ok_X1_init 32 rfl) rfl ?_
  refine aw_bipush C (tb_at ok_X1_init 33 rfl) kb_8 ?_
  refine aw_icmp_ge (A := none) (B := some ()) (r := ()) C 78 (tb_at ok_X1_init 34 rfl) (by decide) (by decide) (fun h => by cases h) (fun _ => ?_)
  refine aw_aload_n C (tb_at ok_X1_init 35 rfl) rfl ?_
  refine aw_getR C ⟨by omega, by omega, s0⟩ rfl (by decide) rfl (r := (k + 3)) (by first | rfl | simp [wrP]) fl_RX1_31 (tb_at ok_X1_init 36 rfl) ?_
  refine aw_iload_n C (tb_at ok_X1_init 37 rfl) rfl ?_
  refine aw_bipush C (tb_at ok_X1_init 38 rfl) kb_9 ?_
  refine aw_iast (A := some ()) (r := ()) C ⟨by omega, by omega, s3⟩ (tb_at ok_X1_init 39 rfl) (by decide) (fun _ => ?_)
  have f11 : Fr (k + 5) (wr (wr M k 0 3) (k + 3) 0 9) (wrP (wrP (wrP (wrP P k 4 (some (k + 1))) k 5 (some (k + 2))) k 6 (some (k + 3))) k 7 (some (k + 4))) := f10.wr (by omega)
  refine aw_iinc C [some (.ref k), some (.int 1)] (tb_at ok_X1_init 40 rfl) rfl hL (by decide) ki_1 rfl ?_
  refine aw_goto C 58 (tb_at ok_X1_init 41 rfl) (by decide) ?_
  refine aw_iload_n C (tb_at ok_X1_init 32 rfl) rfl ?_
  refine aw_bipush C (tb_at ok_X1_init 33 rfl) kb_8 ?_
  refine aw_icmp_ge (A := none) (B := some ()) (r := ()) C 78 (tb_at ok_X1_init 34 rfl) (by decide) (by decide) (fun h => by cases h) (fun _ => ?_)
  refine aw_aload_n C (tb_at ok_X1_init 35 rfl) rfl ?_
  refine aw_getR C ⟨by omega, by omega, s0⟩ rfl (by decide) rfl (r := (k + 3)) (by first | rfl | simp [wrP]) fl_RX1_31 (tb_at ok_X1_init 36 rfl) ?_
  refine aw_iload_n C (tb_at ok_X1_init 37 rfl) rfl ?_
  refine aw_bipush C (tb_at ok_X1_init 38 rfl) kb_9 ?_
  refine aw_iast (A := some ()) (r := ()) C ⟨by omega, by omega, s3⟩ (tb_at ok_X1_init 39 rfl) (by decide) (fun _ => ?_)
  have f12 : Fr (k + 5) (wr (wr (wr M k 0 3) (k + 3) 0 9) (k + 3) 1 9) (wrP (wrP (wrP (wrP P k 4 (some (k + 1))) k 5 (some (k + 2))) k 6 (some (k + 3))) k 7 (some (k + 4))) := f11.wr (by omega)
  refine aw_iinc C [some (.ref k), some (.int 2)] (tb_at ok_X1_init 40 rfl) rfl hL (by decide) ki_1 rfl ?_
  refine aw_goto C 58 (tb_at ok_X1_init 41 rfl) (by decide) ?_
  refine aw_iload_n C (tb_at ok_X1_init 32 rfl) rfl ?_
  refine aw_bipush C (tb_at ok_X1_init 33 rfl) kb_8 ?_
  refine aw_icmp_ge (A := none) (B := some ()) (r := ()) C 78 (tb_at ok_X1_init 34 rfl) (by decide) (by decide) (fun h => by cases h) (fun _ => ?_)
  refine aw_aload_n C (tb_at ok_X1_init 35 rfl) rfl ?_
  refine aw_getR C ⟨by omega, by omega, s0⟩ rfl (by decide) rfl (r := (k + 3)) (by first | rfl | simp [wrP]) fl_RX1_31 (tb_at ok_X1_init 36 rfl) ?_
  refine aw_iload_n C (tb_at ok_X1_init 37 rfl) rfl ?_
  refine aw_bipush C (tb_at ok_X1_init 38 rfl) kb_9 ?_
  refine aw_iast (A := some ()) (r := ()) C ⟨by omega, by omega, s3⟩ (tb_at ok_X1_init 39 rfl) (by decide) (fun _ => ?_)
  have f13 : Fr (k + 5) (wr (wr (wr (wr M k 0 3) (k + 3) 0 9) (k + 3) 1 9) (k + 3) 2 9) (wrP (wrP (wrP (wrP P k 4 (some (k + 1))) k 5 (some (k + 2))) k 6 (some (k + 3))) k 7 (some (k + 4))) := f12.wr (by omega)
  refine aw_iinc C [some (.ref k), some (.int 3)] (tb_at ok_X1_init 40 rfl) rfl hL (by decide) ki_1 rfl ?_
  refine aw_goto C 58 (tb_at ok_X1_init 41 rfl) (by decide) ?_
  refine aw_iload_n C (tb_at ok_X1_init 32 rfl) rfl ?_
  refine aw_bipush C (tb_at ok_X1_init 33 rfl) kb_8 ?_
  refine aw_icmp_ge (A := none) (B := some ()) (r := ()) C 78 (tb_at ok_X1_init 34 rfl) (by decide) (by decide) (fun h => by cases h) (fun _ => ?_)
  refine aw_aload_n C (tb_at ok_X1_init 35 rfl) rfl ?_
  refine aw_getR C ⟨by omega, by omega, s0⟩ rfl (by decide) rfl (r := (k + 3)) (by first | rfl | simp [wrP]) fl_RX1_31 (tb_at ok_X1_init 36 rfl) ?_
  refine aw_iload_n C (tb_at ok_X1_init 37 rfl) rfl ?_
  refine aw_bipush C (tb_at ok_X1_init 38 rfl) kb_9 ?_
  refine aw_iast (A := some ()) (r := ()) C ⟨by omega, by omega, s3⟩ (tb_at ok_X1_init 39 rfl) (by decide) (fun _ => ?_)
  have f14 : Fr (k + 5) (wr (wr (wr (wr (wr M k 0 3) (k + 3) 0 9) (k + 3) 1 9) (k + 3) 2 9) (k + 3) 3 9) (wrP (wrP (wrP (wrP P k 4 (some (k + 1))) k 5 (some (k + 2))) k 6 (some (k + 3))) k 7 (some (k + 4))) := f13.wr (by omega)
  refine aw_iinc C [some (.ref k), some (.int 4)] (tb_at ok_X1_init 40 rfl) rfl hL (by decide) ki_1 rfl ?_
  refine aw_goto C 58 (tb_at ok_X1_init 41 rfl) (by decide) ?_
  refine aw_iload_n C (tb_at ok_X1_init 32 rfl) rfl ?_
  refine aw_bipush C (tb_at ok_X1_init 33 rfl) kb_8 ?_
  refine aw_icmp_ge (A := none) (B := some ()) (r := ()) C 78 (tb_at ok_X1_init 34 rfl) (by decide) (by decide) (fun h => by cases h) (fun _ => ?_)
  refine aw_aload_n C (tb_at ok_X1_init 35 rfl) rfl ?_
  refine aw_getR C ⟨by omega, by omega, s0⟩ rfl (by decide) rfl (r := (k + 3)) (by first | rfl | simp [wrP]) fl_RX1_31 (tb_at ok_X1_init 36 rfl) ?_
  refine aw_iload_n C (tb_at ok_X1_init 37 rfl) rfl ?_
  refine aw_bipush C (tb_at ok_X1_init 38 rfl) kb_9 ?_
  refine aw_iast (A := some ()) (r := ()) C ⟨by omega, by omega, s3⟩ (tb_at ok_X1_init 39 rfl) (by decide) (fun _ => ?_)
  have f15 : Fr (k + 5) (wr (wr (wr (wr (wr (wr M k 0 3) (k + 3) 0 9) (k + 3) 1 9) (k + 3) 2 9) (k + 3) 3 9) (k + 3) 4 9) (wrP (wrP (wrP (wrP P k 4 (some (k + 1))) k 5 (some (k + 2))) k 6 (some (k + 3))) k 7 (some (k + 4))) := f14.wr (by omega)
  refine aw_iinc C [some (.ref k), some (.int 5)] (tb_at ok_X1_init 40 rfl) rfl hL (by decide) ki_1 rfl ?_
  refine aw_goto C 58 (tb_at ok_X1_init 41 rfl) (by decide) ?_
  refine aw_iload_n C (tb_at ok_X1_init 32 rfl) rfl ?_
  refine aw_bipush C (tb_at ok_X1_init 33 rfl) kb_8 ?_
  refine aw_icmp_ge (A := none) (B := some ()) (r := ()) C 78 (tb_at ok_X1_init 34 rfl) (by decide) (by decide) (fun h => by cases h) (fun _ => ?_)
  refine aw_aload_n C (tb_at ok_X1_init 35 rfl) rfl ?_
  refine aw_getR C ⟨by omega, by omega, s0⟩ rfl (by decide) rfl (r := (k + 3)) (by first | rfl | simp [wrP]) fl_RX1_31 (tb_at ok_X1_init 36 rfl) ?_
  refine aw_iload_n C (tb_at ok_X1_init 37 rfl) rfl ?_
  refine aw_bipush C (tb_at ok_X1_init 38 rfl) kb_9 ?_
  refine aw_iast (A := some ()) (r := ()) C ⟨by omega, by omega, s3⟩ (tb_at ok_X1_init 39 rfl) (by decide) (fun _ => ?_)
  have f16 : Fr (k + 5) (wr (wr (wr (wr (wr (wr (wr M k 0 3) (k + 3) 0 9) (k + 3) 1 9) (k + 3) 2 9) (k + 3) 3 9) (k + 3) 4 9) (k + 3) 5 9) (wrP (wrP (wrP (wrP P k 4 (some (k + 1))) k 5 (some (k + 2))) k 6 (some (k + 3))) k 7 (some (k + 4))) := f15.wr (by omega)
  refine aw_iinc C [some (.ref k), some (.int 6)] (tb_at ok_X1_init 40 rfl) rfl hL (by decide) ki_1 rfl ?_
  refine aw_goto C 58 (tb_at ok_X1_init 41 rfl) (by decide) ?_
  refine aw_iload_n C (tb_at ok_X1_init 32 rfl) rfl ?_
  refine aw_bipush C (tb_at ok_X1_init 33 rfl) kb_8 ?_
  refine aw_icmp_ge (A := none) (B := some ()) (r := ()) C 78 (tb_at ok_X1_init 34 rfl) (by decide) (by decide) (fun h => by cases h) (fun _ => ?_)
  refine aw_aload_n C (tb_at ok_X1_init 35 rfl) rfl ?_
  refine aw_getR C ⟨by omega, by omega, s0⟩ rfl (by decide) rfl (r := (k + 3)) (by first | rfl | simp [wrP]) fl_RX1_31 (tb_at ok_X1_init 36 rfl) ?_
  refine aw_iload_n C (tb_at ok_X1_init 37 rfl) rfl ?_
  refine aw_bipush C (tb_at ok_X1_init 38 rfl) kb_9 ?_
  refine aw_iast (A := some ()) (r := ()) C ⟨by omega, by omega, s3⟩ (tb_at ok_X1_init 39 rfl) (by decide) (fun _ => ?_)
  have f17 : Fr (k + 5) (wr (wr (wr (wr (wr (wr (wr (wr M k 0 3) (k + 3) 0 9) (k + 3) 1 9) (k + 3) 2 9) (k + 3) 3 9) (k + 3) 4 9) (k + 3) 5 9) (k + 3) 6 9) (wrP (wrP (wrP (wrP P k 4 (some (k + 1))) k 5 (some (k + 2))) k 6 (some (k + 3))) k 7 (some (k + 4))) := f16.wr (by omega)
  refine aw_iinc C [some (.ref k), some (.int 7)] (tb_at ok_X1_init 40 rfl) rfl hL (by decide) ki_1 rfl ?_
  refine aw_goto C 58 (tb_at ok_X1_init 41 rfl) (by decide) ?_
  refine aw_iload_n C (tb_at ok_X1_init 32 rfl) rfl ?_
  refine aw_bipush C (tb_at ok_X1_init 33 rfl) kb_8 ?_
  refine aw_icmp_ge (A := none) (B := some ()) (r := ()) C 78 (tb_at ok_X1_init 34 rfl) (by decide) (by decide) (fun h => by cases h) (fun _ => ?_)
  refine aw_aload_n C (tb_at ok_X1_init 35 rfl) rfl ?_
  refine aw_getR C ⟨by omega, by omega, s0⟩ rfl (by decide) rfl (r := (k + 3)) (by first | rfl | simp [wrP]) fl_RX1_31 (tb_at ok_X1_init 36 rfl) ?_
  refine aw_iload_n C (tb_at ok_X1_init 37 rfl) rfl ?_
  refine aw_bipush C (tb_at ok_X1_init 38 rfl) kb_9 ?_
  refine aw_iast (A := some ()) (r := ()) C ⟨by omega, by omega, s3⟩ (tb_at ok_X1_init 39 rfl) (by decide) (fun _ => ?_)
  have f18 : Fr (k + 5) (wr (wr (wr (wr (wr (wr (wr (wr (wr M k 0 3) (k + 3) 0 9) (k + 3) 1 9) (k + 3) 2 9) (k + 3) 3 9) (k + 3) 4 9) (k + 3) 5 9) (k + 3) 6 9) (k + 3) 7 9) (wrP (wrP (wrP (wrP P k 4 (some (k + 1))) k 5 (some (k + 2))) k 6 (some (k + 3))) k 7 (some (k + 4))) := f17.wr (by omega)
  refine aw_iinc C [some (.ref k), some (.int 8)] (tb_at ok_X1_init 40 rfl) rfl hL (by decide) ki_1 rfl ?_
  refine aw_goto C 58 (tb_at ok_X1_init 41 rfl) (by decide) ?_
  refine aw_iload_n C (tb_at ok_X1_init 32 rfl) rfl ?_
  refine aw_bipush C (tb_at ok_X1_init 33 rfl) kb_8 ?_
  refine aw_icmp_ge (A := some ()) (B := none) (r := ()) C 78 (tb_at ok_X1_init 34 rfl) (by decide) (by decide) (fun _ => ?_) (fun h => by cases h)
  refine aw_iconst C (tb_at ok_X1_init 42 rfl) ki_0 ?_
  refine aw_istore_n C [some (.ref k), some (.int 0)] (tb_at ok_X1_init 43 rfl) hL (by decide) rfl ?_
  refine aw_iload_n C (tb_at ok_X1_init 44 rfl) rfl ?_
  refine aw_iconst C (tb_at ok_X1_init 45 rfl) ki_4 ?_
  refine aw_icmp_ge (A := none) (B := some ()) (r := ()) C 104 (tb_at ok_X1_init 46 rfl) (by decide) (by decide) (fun h => by cases h) (fun _ => ?_)
  refine aw_aload_n C (tb_at ok_X1_init 47 rfl) rfl ?_
  refine aw_getR C ⟨by omega, by omega, s0⟩ rfl (by decide) rfl (r := (k + 4)) (by first | rfl | simp [wrP]) fl_RX1_36 (tb_at ok_X1_init 48 rfl) ?_
  refine aw_iload_n C (tb_at ok_X1_init 49 rfl) rfl ?_
  refine aw_new C (by rw [hn]; omega) s5 (by omega) rfl (f18 _ (Nat.le_refl _)).1 (f18 _ (Nat.le_refl _)).2 nw_RX1_34 m6 dv_RX2 (tb_at ok_X1_init 50 rfl) ?_
  have f19 : Fr (k + 6) (wr (wr (wr (wr (wr (wr (wr (wr (wr M k 0 3) (k + 3) 0 9) (k + 3) 1 9) (k + 3) 2 9) (k + 3) 3 9) (k + 3) 4 9) (k + 3) 5 9) (k + 3) 6 9) (k + 3) 7 9) (wrP (wrP (wrP (wrP P k 4 (some (k + 1))) k 5 (some (k + 2))) k 6 (some (k + 3))) k 7 (some (k + 4))) := f18.mono
  refine aw_dup C (tb_at ok_X1_init 51 rfl) rfl ?_
  refine aw_cIN C ⟨by rw [hn]; omega, m6⟩ (tb_at ok_X1_init 52 rfl) (m_X2_init s5 s6 (by omega) (f18)) mf_X2_init (by omega) cw_RX1_40 rfl rfl (by rw [hR]; decide) rfl (Nat.le_of_ble_eq_true rfl) ⟨by rw [hn, hR]; show (k + 6) - (k + 1) + 1 ≤ 12; omega, by rw [hn, hR]; show sln (k + 6) - sln (k + 1) + 5 ≤ 68; omega⟩ (fun rv n1 M1 P1 z => by obtain ⟨-, rfl, -⟩ := z; exact ⟨rfl, by show sln (k + 7) = sln (k + 6) + 5; omega⟩) (fun rv n1 M1 P1 z => ?_)
  obtain ⟨rfl, rfl, rfl, rfl, g94_7⟩ := z
  show AW K (k + 7) (iM_X2_init (k + 5) (wr (wr (wr (wr (wr (wr (wr (wr (wr M k 0 3) (k + 3) 0 9) (k + 3) 1 9) (k + 3) 2 9) (k + 3) 3 9) (k + 3) 4 9) (k + 3) 5 9) (k + 3) 6 9) (k + 3) 7 9)) (iP_X2_init (k + 5) (wrP (wrP (wrP (wrP P k 4 (some (k + 1))) k 5 (some (k + 2))) k 6 (some (k + 3))) k 7 (some (k + 4)))) 97 [some (.ref k), some (.int 0)] [.ref (k + 5), .int 0, .ref (k + 4)]
  refine aw_aast C 2 ⟨by omega, by omega, s4⟩ (by decide) rfl ⟨by omega, by omega, s5⟩ rfl (by decide) (tb_at ok_X1_init 53 rfl) ?_
  have f20 : Fr (k + 7) (iM_X2_init (k + 5) (wr (wr (wr (wr (wr (wr (wr (wr (wr M k 0 3) (k + 3) 0 9) (k + 3) 1 9) (k + 3) 2 9) (k + 3) 3 9) (k + 3) 4 9) (k + 3) 5 9) (k + 3) 6 9) (k + 3) 7 9)) (wrP (iP_X2_init (k + 5) (wrP (wrP (wrP (wrP P k 4 (some (k + 1))) k 5 (some (k + 2))) k 6 (some (k + 3))) k 7 (some (k + 4)))) (k + 4) 0 (some (k + 5))) := g94_7.wrP (by omega)
  refine aw_iinc C [some (.ref k), some (.int 1)] (tb_at ok_X1_init 54 rfl) rfl hL (by decide) ki_1 rfl ?_
  refine aw_goto C 80 (tb_at ok_X1_init 55 rfl) (by decide) ?_
  refine aw_iload_n C (tb_at ok_X1_init 44 rfl) rfl ?_
  refine aw_iconst C (tb_at ok_X1_init 45 rfl) ki_4 ?_
  refine aw_icmp_ge (A := none) (B := some ()) (r := ()) C 104 (tb_at ok_X1_init 46 rfl) (by decide) (by decide) (fun h => by cases h) (fun _ => ?_)
  refine aw_aload_n C (tb_at ok_X1_init 47 rfl) rfl ?_
  refine aw_getR C ⟨by omega, by omega, s0⟩ rfl (by decide) rfl (r := (k + 4)) (by first | rfl | simp [wrP, iP_X2_init]) fl_RX1_36 (tb_at ok_X1_init 48 rfl) ?_
  refine aw_iload_n C (tb_at ok_X1_init 49 rfl) rfl ?_
  refine aw_new C (by rw [hn]; omega) s7 (by omega) rfl (f20 _ (Nat.le_refl _)).1 (f20 _ (Nat.le_refl _)).2 nw_RX1_34 m8 dv_RX2 (tb_at ok_X1_init 50 rfl) ?_
  have f21 : Fr (k + 8) (iM_X2_init (k + 5) (wr (wr (wr (wr (wr (wr (wr (wr (wr M k 0 3) (k + 3) 0 9) (k + 3) 1 9) (k + 3) 2 9) (k + 3) 3 9) (k + 3) 4 9) (k + 3) 5 9) (k + 3) 6 9) (k + 3) 7 9)) (wrP (iP_X2_init (k + 5) (wrP (wrP (wrP (wrP P k 4 (some (k + 1))) k 5 (some (k + 2))) k 6 (some (k + 3))) k 7 (some (k + 4)))) (k + 4) 0 (some (k + 5))) := f20.mono
  refine aw_dup C (tb_at ok_X1_init 51 rfl) rfl ?_
  refine aw_cIN C ⟨by rw [hn]; omega, m8⟩ (tb_at ok_X1_init 52 rfl) (m_X2_init s7 s8 (by omega) (f20)) mf_X2_init (by omega) cw_RX1_40 rfl rfl (by rw [hR]; decide) rfl (Nat.le_of_ble_eq_true rfl) ⟨by rw [hn, hR]; show (k + 8) - (k + 1) + 1 ≤ 12; omega, by rw [hn, hR]; show sln (k + 8) - sln (k + 1) + 5 ≤ 68; omega⟩ (fun rv n1 M1 P1 z => by obtain ⟨-, rfl, -⟩ := z; exact ⟨rfl, by show sln (k + 9) = sln (k + 8) + 5; omega⟩) (fun rv n1 M1 P1 z => ?_)
  obtain ⟨rfl, rfl, rfl, rfl, g94_9⟩ := z
  show AW K (k + 9) (iM_X2_init (k + 7) (iM_X2_init (k + 5) (wr (wr (wr (wr (wr (wr (wr (wr (wr M k 0 3) (k + 3) 0 9) (k + 3) 1 9) (k + 3) 2 9) (k + 3) 3 9) (k + 3) 4 9) (k + 3) 5 9) (k + 3) 6 9) (k + 3) 7 9))) (iP_X2_init (k + 7) (wrP (iP_X2_init (k + 5) (wrP (wrP (wrP (wrP P k 4 (some (k + 1))) k 5 (some (k + 2))) k 6 (some (k + 3))) k 7 (some (k + 4)))) (k + 4) 0 (some (k + 5)))) 97 [some (.ref k), some (.int 1)] [.ref (k + 7), .int 1, .ref (k + 4)]
  refine aw_aast C 2 ⟨by omega, by omega, s4⟩ (by decide) rfl ⟨by omega, by omega, s7⟩ rfl (by decide) (tb_at ok_X1_init 53 rfl) ?_
  have f22 : Fr (k + 9) (iM_X2_init (k + 7) (iM_X2_init (k + 5) (wr (wr (wr (wr (wr (wr (wr (wr (wr M k 0 3) (k + 3) 0 9) (k + 3) 1 9) (k + 3) 2 9) (k + 3) 3 9) (k + 3) 4 9) (k + 3) 5 9) (k + 3) 6 9) (k + 3) 7 9))) (wrP (iP_X2_init (k + 7) (wrP (iP_X2_init (k + 5) (wrP (wrP (wrP (wrP P k 4 (some (k + 1))) k 5 (some (k + 2))) k 6 (some (k + 3))) k 7 (some (k + 4)))) (k + 4) 0 (some (k + 5)))) (k + 4) 1 (some (k + 7))) := g94_9.wrP (by omega)
  refine aw_iinc C [some (.ref k), some (.int 2)] (tb_at ok_X1_init 54 rfl) rfl hL (by decide) ki_1 rfl ?_
  refine aw_goto C 80 (tb_at ok_X1_init 55 rfl) (by decide) ?_
  refine aw_iload_n C (tb_at ok_X1_init 44 rfl) rfl ?_
  refine aw_iconst C (tb_at ok_X1_init 45 rfl) ki_4 ?_
  refine aw_icmp_ge (A := none) (B := some ()) (r := ()) C 104 (tb_at ok_X1_init 46 rfl) (by decide) (by decide) (fun h => by cases h) (fun _ => ?_)
  refine aw_aload_n C (tb_at ok_X1_init 47 rfl) rfl ?_
  refine aw_getR C ⟨by omega, by omega, s0⟩ rfl (by decide) rfl (r := (k + 4)) (by first | rfl | simp [wrP, iP_X2_init]) fl_RX1_36 (tb_at ok_X1_init 48 rfl) ?_
  refine aw_iload_n C (tb_at ok_X1_init 49 rfl) rfl ?_
  refine aw_new C (by rw [hn]; omega) s9 (by omega) rfl (f22 _ (Nat.le_refl _)).1 (f22 _ (Nat.le_refl _)).2 nw_RX1_34 m10 dv_RX2 (tb_at ok_X1_init 50 rfl) ?_
  have f23 : Fr (k + 10) (iM_X2_init (k + 7) (iM_X2_init (k + 5) (wr (wr (wr (wr (wr (wr (wr (wr (wr M k 0 3) (k + 3) 0 9) (k + 3) 1 9) (k + 3) 2 9) (k + 3) 3 9) (k + 3) 4 9) (k + 3) 5 9) (k + 3) 6 9) (k + 3) 7 9))) (wrP (iP_X2_init (k + 7) (wrP (iP_X2_init (k + 5) (wrP (wrP (wrP (wrP P k 4 (some (k + 1))) k 5 (some (k + 2))) k 6 (some (k + 3))) k 7 (some (k + 4)))) (k + 4) 0 (some (k + 5)))) (k + 4) 1 (some (k + 7))) := f22.mono
  refine aw_dup C (tb_at ok_X1_init 51 rfl) rfl ?_
  refine aw_cIN C ⟨by rw [hn]; omega, m10⟩ (tb_at ok_X1_init 52 rfl) (m_X2_init s9 s10 (by omega) (f22)) mf_X2_init (by omega) cw_RX1_40 rfl rfl (by rw [hR]; decide) rfl (Nat.le_of_ble_eq_true rfl) ⟨by rw [hn, hR]; show (k + 10) - (k + 1) + 1 ≤ 12; omega, by rw [hn, hR]; show sln (k + 10) - sln (k + 1) + 5 ≤ 68; omega⟩ (fun rv n1 M1 P1 z => by obtain ⟨-, rfl, -⟩ := z; exact ⟨rfl, by show sln (k + 11) = sln (k + 10) + 5; omega⟩) (fun rv n1 M1 P1 z => ?_)
  obtain ⟨rfl, rfl, rfl, rfl, g94_11⟩ := z
  show AW K (k + 11) (iM_X2_init (k + 9) (iM_X2_init (k + 7) (iM_X2_init (k + 5) (wr (wr (wr (wr (wr (wr (wr (wr (wr M k 0 3) (k + 3) 0 9) (k + 3) 1 9) (k + 3) 2 9) (k + 3) 3 9) (k + 3) 4 9) (k + 3) 5 9) (k + 3) 6 9) (k + 3) 7 9)))) (iP_X2_init (k + 9) (wrP (iP_X2_init (k + 7) (wrP (iP_X2_init (k + 5) (wrP (wrP (wrP (wrP P k 4 (some (k + 1))) k 5 (some (k + 2))) k 6 (some (k + 3))) k 7 (some (k + 4)))) (k + 4) 0 (some (k + 5)))) (k + 4) 1 (some (k + 7)))) 97 [some (.ref k), some (.int 2)] [.ref (k + 9), .int 2, .ref (k + 4)]
  refine aw_aast C 2 ⟨by omega, by omega, s4⟩ (by decide) rfl ⟨by omega, by omega, s9⟩ rfl (by decide) (tb_at ok_X1_init 53 rfl) ?_
  have f24 : Fr (k + 11) (iM_X2_init (k + 9) (iM_X2_init (k + 7) (iM_X2_init (k + 5) (wr (wr (wr (wr (wr (wr (wr (wr (wr M k 0 3) (k + 3) 0 9) (k + 3) 1 9) (k + 3) 2 9) (k + 3) 3 9) (k + 3) 4 9) (k + 3) 5 9) (k + 3) 6 9) (k + 3) 7 9)))) (wrP (iP_X2_init (k + 9) (wrP (iP_X2_init (k + 7) (wrP (iP_X2_init (k + 5) (wrP (wrP (wrP (wrP P k 4 (some (k + 1))) k 5 (some (k + 2))) k 6 (some (k + 3))) k 7 (some (k + 4)))) (k + 4) 0 (some (k + 5)))) (k + 4) 1 (some (k + 7)))) (k + 4) 2 (some (k + 9))) := g94_11.wrP (by omega)
  refine aw_iinc C [some (.ref k), some (.int 3)] (tb_at ok_X1_init 54 rfl) rfl hL (by decide) ki_1 rfl ?_
  refine aw_goto C 80 (tb_at ok_X1_init 55 rfl) (by decide) ?_
  refine aw_iload_n C (tb_at ok_X1_init 44 rfl) rfl ?_
  refine aw_iconst C (tb_at ok_X1_init 45 rfl) ki_4 ?_
  refine aw_icmp_ge (A := none) (B := some ()) (r := ()) C 104 (tb_at ok_X1_init 46 rfl) (by decide) (by decide) (fun h => by cases h) (fun _ => ?_)
  refine aw_aload_n C (tb_at ok_X1_init 47 rfl) rfl ?_
  refine aw_getR C ⟨by omega, by omega, s0⟩ rfl (by decide) rfl (r := (k + 4)) (by first | rfl | simp [wrP, iP_X2_init]) fl_RX1_36 (tb_at ok_X1_init 48 rfl) ?_
  refine aw_iload_n C (tb_at ok_X1_init 49 rfl) rfl ?_
  refine aw_new C (by rw [hn]; omega) s11 (by omega) rfl (f24 _ (Nat.le_refl _)).1 (f24 _ (Nat.le_refl _)).2 nw_RX1_34 m12 dv_RX2 (tb_at ok_X1_init 50 rfl) ?_
  have f25 : Fr (k + 12) (iM_X2_init (k + 9) (iM_X2_init (k + 7) (iM_X2_init (k + 5) (wr (wr (wr (wr (wr (wr (wr (wr (wr M k 0 3) (k + 3) 0 9) (k + 3) 1 9) (k + 3) 2 9) (k + 3) 3 9) (k + 3) 4 9) (k + 3) 5 9) (k + 3) 6 9) (k + 3) 7 9)))) (wrP (iP_X2_init (k + 9) (wrP (iP_X2_init (k + 7) (wrP (iP_X2_init (k + 5) (wrP (wrP (wrP (wrP P k 4 (some (k + 1))) k 5 (some (k + 2))) k 6 (some (k + 3))) k 7 (some (k + 4)))) (k + 4) 0 (some (k + 5)))) (k + 4) 1 (some (k + 7)))) (k + 4) 2 (some (k + 9))) := f24.mono
  refine aw_dup C (tb_at ok_X1_init 51 rfl) rfl ?_
  refine aw_cIN C ⟨by rw [hn]; omega, m12⟩ (tb_at ok_X1_init 52 rfl) (m_X2_init s11 s12 (by omega) (f24)) mf_X2_init (by omega) cw_RX1_40 rfl rfl (by rw [hR]; decide) rfl (Nat.le_of_ble_eq_true rfl) ⟨by rw [hn, hR]; show (k + 12) - (k + 1) + 1 ≤ 12; omega, by rw [hn, hR]; show sln (k + 12) - sln (k + 1) + 5 ≤ 68; omega⟩ (fun rv n1 M1 P1 z => by obtain ⟨-, rfl, -⟩ := z; exact ⟨rfl, by show sln (k + 13) = sln (k + 12) + 5; omega⟩) (fun rv n1 M1 P1 z => ?_)
  obtain ⟨rfl, rfl, rfl, rfl, g94_13⟩ := z
  show AW K (k + 13) (iM_X2_init (k + 11) (iM_X2_init (k + 9) (iM_X2_init (k + 7) (iM_X2_init (k + 5) (wr (wr (wr (wr (wr (wr (wr (wr (wr M k 0 3) (k + 3) 0 9) (k + 3) 1 9) (k + 3) 2 9) (k + 3) 3 9) (k + 3) 4 9) (k + 3) 5 9) (k + 3) 6 9) (k + 3) 7 9))))) (iP_X2_init (k + 11) (wrP (iP_X2_init (k + 9) (wrP (iP_X2_init (k + 7) (wrP (iP_X2_init (k + 5) (wrP (wrP (wrP (wrP P k 4 (some (k + 1))) k 5 (some (k + 2))) k 6 (some (k + 3))) k 7 (some (k + 4)))) (k + 4) 0 (some (k + 5)))) (k + 4) 1 (some (k + 7)))) (k + 4) 2 (some (k + 9)))) 97 [some (.ref k), some (.int 3)] [.ref (k + 11), .int 3, .ref (k + 4)]
  refine aw_aast C 2 ⟨by omega, by omega, s4⟩ (by decide) rfl ⟨by omega, by omega, s11⟩ rfl (by decide) (tb_at ok_X1_init 53 rfl) ?_
  have f26 : Fr (k + 13) (iM_X2_init (k + 11) (iM_X2_init (k + 9) (iM_X2_init (k + 7) (iM_X2_init (k + 5) (wr (wr (wr (wr (wr (wr (wr (wr (wr M k 0 3) (k + 3) 0 9) (k + 3) 1 9) (k + 3) 2 9) (k + 3) 3 9) (k + 3) 4 9) (k + 3) 5 9) (k + 3) 6 9) (k + 3) 7 9))))) (wrP (iP_X2_init (k + 11) (wrP (iP_X2_init (k + 9) (wrP (iP_X2_init (k + 7) (wrP (iP_X2_init (k + 5) (wrP (wrP (wrP (wrP P k 4 (some (k + 1))) k 5 (some (k + 2))) k 6 (some (k + 3))) k 7 (some (k + 4)))) (k + 4) 0 (some (k + 5)))) (k + 4) 1 (some (k + 7)))) (k + 4) 2 (some (k + 9)))) (k + 4) 3 (some (k + 11))) := g94_13.wrP (by omega)
  refine aw_iinc C [some (.ref k), some (.int 4)] (tb_at ok_X1_init 54 rfl) rfl hL (by decide) ki_1 rfl ?_
  refine aw_goto C 80 (tb_at ok_X1_init 55 rfl) (by decide) ?_
  refine aw_iload_n C (tb_at ok_X1_init 44 rfl) rfl ?_
  refine aw_iconst C (tb_at ok_X1_init 45 rfl) ki_4 ?_
  refine aw_icmp_ge (A := some ()) (B := none) (r := ()) C 104 (tb_at ok_X1_init 46 rfl) (by decide) (by decide) (fun _ => ?_) (fun h => by cases h)
  have mz := m13
  rw [hR] at mz
  exact aw_vret C rt mz (tb_at ok_X1_init 56 rfl) ⟨rfl, rfl, rfl, rfl, f26⟩
