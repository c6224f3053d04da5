/-! 75: how the constructors make their cells (laid by wip/gen/ctor.py) -/
def tb_X2_init : List (Nat × Instr × Nat) := [(0, .aload_n 0, 1), (1, .invokespecial 3, 3), (4, .aload_n 0, 1), (5, .iconst 0, 1), (6, .putfield 9, 3), (9, .aload_n 0, 1), (10, .iconst 0, 1), (11, .putfield 15, 3), (14, .aload_n 0, 1), (15, .iconst 0, 1), (16, .putfield 18, 3), (19, .aload_n 0, 1), (20, .iconst 0, 1), (21, .putfield 21, 3), (24, .aload_n 0, 1), (25, .iconst 5, 1), (26, .newarray .int, 2), (28, .putfield 24, 3), (31, .return_, 1)]
theorem ok_X2_init : TB cX2_init tb_X2_init := (by decide +kernel : tb_X2_init.all (fun q => tbq cX2_init q) = true)
def iM_X2_init (k : Nat) (M : Mem) : Mem := M
def iP_X2_init (k : Nat) (P : Pm) : Pm := wrP P k 4 (some (k + 1))
set_option maxHeartbeats 4000000 in
set_option maxRecDepth 20000 in
theorem m_X2_init {l : Launch} {w : Wd} {k : Nat} {M : Mem} {P : Pm} (s0 : shf k = (2, 5)) (s1 : shf (k + 1) = (20, 5)) (hk : k + 2 ≤ 113) (f0 : Fr k M P) : CM l w yX2_init cX2_init 1 none 1 1 5 [.ref k] (k + 1) M P (fun rv n1 M1 P1 => rv = none ∧ n1 = k + 2 ∧ M1 = iM_X2_init k M ∧ P1 = iP_X2_init k P ∧ Fr (k + 2) M1 P1) := by
  refine cm_of (loc := [some (.ref k)]) mf_X2_init (by decide) (Nat.le_of_ble_eq_true rfl) rfl (fun K C rt hl hw hL hn hR hnm => ?_)
  have e1 : sln (k + 2) = sln (k + 1) + 5 := by rw [sln_succ, s1]
  have m1 : (k + 1) - kn K ≤ (kR K).cells ∧ sln (k + 1) - sln (kn K) ≤ (kR K).slots := ⟨by rw [hn, hR]; show (k + 1) - (k + 1) ≤ 1; omega, by rw [hn, hR]; show sln (k + 1) - sln (k + 1) ≤ 5; omega⟩
  have m2 : (k + 2) - kn K ≤ (kR K).cells ∧ sln (k + 2) - sln (kn K) ≤ (kR K).slots := ⟨by rw [hn, hR]; show (k + 2) - (k + 1) ≤ 1; omega, by rw [hn, hR]; show sln (k + 2) - sln (k + 1) ≤ 5; omega⟩
  have f1 : Fr (k + 1) M P := f0.mono
  refine aw_aload_n C (tb_at ok_X2_init 0 rfl) rfl ?_
  refine aw_objInit C oi_RX2_3 (Nat.le_of_ble_eq_true rfl) (tb_at ok_X2_init 1 rfl) ?_
  refine aw_aload_n C (tb_at ok_X2_init 2 rfl) rfl ?_
  refine aw_iconst C (tb_at ok_X2_init 3 rfl) ki_0 ?_
  refine aw_put0 C ⟨by omega, by omega, s0⟩ rfl (by decide) (by decide) rfl rfl rfl rfl fl_RX2_9 ((f0 _ (Nat.le_refl _)).1 _) (tb_at ok_X2_init 4 rfl) ?_
  refine aw_aload_n C (tb_at ok_X2_init 5 rfl) rfl ?_
  refine aw_iconst C (tb_at ok_X2_init 6 rfl) ki_0 ?_
  refine aw_put0 C ⟨by omega, by omega, s0⟩ rfl (by decide) (by decide) rfl rfl rfl rfl fl_RX2_15 ((f0 _ (Nat.le_refl _)).1 _) (tb_at ok_X2_init 7 rfl) ?_
  refine aw_aload_n C (tb_at ok_X2_init 8 rfl) rfl ?_
  refine aw_iconst C (tb_at ok_X2_init 9 rfl) ki_0 ?_
  refine aw_put0 C ⟨by omega, by omega, s0⟩ rfl (by decide) (by decide) rfl rfl rfl rfl fl_RX2_18 ((f0 _ (Nat.le_refl _)).1 _) (tb_at ok_X2_init 10 rfl) ?_
  refine aw_aload_n C (tb_at ok_X2_init 11 rfl) rfl ?_
  refine aw_iconst C (tb_at ok_X2_init 12 rfl) ki_0 ?_
  refine aw_put0 C ⟨by omega, by omega, s0⟩ rfl (by decide) (by decide) rfl rfl rfl rfl fl_RX2_21 ((f0 _ (Nat.le_refl _)).1 _) (tb_at ok_X2_init 13 rfl) ?_
  refine aw_aload_n C (tb_at ok_X2_init 14 rfl) rfl ?_
  refine aw_iconst C (tb_at ok_X2_init 15 rfl) ki_5 ?_
  refine aw_newa C (by rw [hn]; omega) s1 (by omega) (f1 _ (Nat.le_refl _)).1 ac_int (by decide) m2 (tb_at ok_X2_init 16 rfl) ?_
  have f2 : Fr (k + 2) M P := f1.mono
  refine aw_putRF C ⟨by omega, by omega, s0⟩ rfl (by decide) rfl rfl (hnm _ rfl) rfl (fun _ => rfl) (fun _ => rfl) fl_RX2_24 (tb_at ok_X2_init 17 rfl) ?_
  have f3 : Fr (k + 2) M (wrP P k 4 (some (k + 1))) := f2.wrP (by omega)
  have mz := m2
  rw [hR] at mz
  exact aw_vret C rt mz (tb_at ok_X2_init 18 rfl) ⟨rfl, rfl, rfl, rfl, f3⟩
def tb_X6_init : List (Nat × Instr × Nat) := [(0, .aload_n 0, 1), (1, .invokespecial 3, 3), (4, .aload_n 0, 1), (5, .sipush 160, 3), (8, .newarray .int, 2), (10, .putfield 9, 3), (13, .aload_n 0, 1), (14, .iconst 3, 1), (15, .newarray .int, 2), (17, .putfield 15, 3), (20, .return_, 1)]
theorem ok_X6_init : TB cX6_init tb_X6_init := (by decide +kernel : tb_X6_init.all (fun q => tbq cX6_init q) = true)
def iM_X6_init (k : Nat) (M : Mem) : Mem := M
def iP_X6_init (k : Nat) (P : Pm) : Pm := wrP (wrP P k 0 (some (k + 1))) k 1 (some (k + 2))
set_option maxHeartbeats 4000000 in
set_option maxRecDepth 20000 in
theorem m_X6_init {l : Launch} {w : Wd} {k : Nat} {M : Mem} {P : Pm} (s0 : shf k = (6, 2)) (s1 : shf (k + 1) = (20, 160)) (s2 : shf (k + 2) = (20, 3)) (hk : k + 3 ≤ 113) (f0 : Fr k M P) : CM l w yX6_init cX6_init 1 none 1 2 163 [.ref k] (k + 1) M P (fun rv n1 M1 P1 => rv = none ∧ n1 = k + 3 ∧ M1 = iM_X6_init k M ∧ P1 = iP_X6_init k P ∧ Fr (k + 3) M1 P1) := by
  refine cm_of (loc := [some (.ref k)]) mf_X6_init (by decide) (Nat.le_of_ble_eq_true rfl) rfl (fun K C rt hl hw hL hn hR hnm => ?_)
  have e1 : sln (k + 2) = sln (k + 1) + 160 := by rw [sln_succ, s1]
  have e2 : sln (k + 3) = sln (k + 2) + 3 := by rw [sln_succ, s2]
  have m1 : (k + 1) - kn K ≤ (kR K).cells ∧ sln (k + 1) - sln (kn K) ≤ (kR K).slots := ⟨by rw [hn, hR]; show (k + 1) - (k + 1) ≤ 2; omega, by rw [hn, hR]; show sln (k + 1) - sln (k + 1) ≤ 163; omega⟩
  have m2 : (k + 2) - kn K ≤ (kR K).cells ∧ sln (k + 2) - sln (kn K) ≤ (kR K).slots := ⟨by rw [hn, hR]; show (k + 2) - (k + 1) ≤ 2; omega, by rw [hn, hR]; show sln (k + 2) - sln (k + 1) ≤ 163; omega⟩
  have m3 : (k + 3) - kn K ≤ (kR K).cells ∧ sln (k + 3) - sln (kn K) ≤ (kR K).slots := ⟨by rw [hn, hR]; show (k + 3) - (k + 1) ≤ 2; omega, by rw [hn, hR]; show sln (k + 3) - sln (k + 1) ≤ 163; omega⟩
  have f1 : Fr (k + 1) M P := f0.mono
  refine aw_aload_n C (tb_at ok_X6_init 0 rfl) rfl ?_
  refine aw_objInit C oi_RX6_3 (Nat.le_of_ble_eq_true rfl) (tb_at ok_X6_init 1 rfl) ?_
  refine aw_aload_n C (tb_at ok_X6_init 2 rfl) rfl ?_
  refine aw_sipush C (tb_at ok_X6_init 3 rfl) ks_160 ?_
  refine aw_newa C (by rw [hn]; omega) s1 (by omega) (f1 _ (Nat.le_refl _)).1 ac_int (by decide) m2 (tb_at ok_X6_init 4 rfl) ?_
  have f2 : Fr (k + 2) M P := f1.mono
  refine aw_putRF C ⟨by omega, by omega, s0⟩ rfl (by decide) rfl rfl (hnm _ rfl) rfl (fun _ => rfl) (fun _ => rfl) fl_RX6_9 (tb_at ok_X6_init 5 rfl) ?_
  have f3 : Fr (k + 2) M (wrP P k 0 (some (k + 1))) := f2.wrP (by omega)
  refine aw_aload_n C (tb_at ok_X6_init 6 rfl) rfl ?_
  refine aw_iconst C (tb_at ok_X6_init 7 rfl) ki_3 ?_
  refine aw_newa C (by rw [hn]; omega) s2 (by omega) (f3 _ (Nat.le_refl _)).1 ac_int (by decide) m3 (tb_at ok_X6_init 8 rfl) ?_
  have f4 : Fr (k + 3) M (wrP P k 0 (some (k + 1))) := f3.mono
  refine aw_putRF C ⟨by omega, by omega, s0⟩ rfl (by decide) rfl rfl (hnm _ rfl) rfl (fun _ => rfl) (fun _ => rfl) fl_RX6_15 (tb_at ok_X6_init 9 rfl) ?_
  have f5 : Fr (k + 3) M (wrP (wrP P k 0 (some (k + 1))) k 1 (some (k + 2))) := f4.wrP (by omega)
  have mz := m3
  rw [hR] at mz
  exact aw_vret C rt mz (tb_at ok_X6_init 10 rfl) ⟨rfl, rfl, rfl, rfl, f5⟩
def tb_X4_init : List (Nat × Instr × Nat) := [(0, .aload_n 0, 1), (1, .invokespecial 3, 3), (4, .aload_n 0, 1), (5, .iconst (-1), 1), (6, .putfield 9, 3), (9, .aload_n 0, 1), (10, .iconst 0, 1), (11, .putfield 15, 3), (14, .aload_n 0, 1), (15, .bipush 40, 2), (17, .newarray .int, 2), (19, .putfield 18, 3), (22, .return_, 1)]
theorem ok_X4_init : TB cX4_init tb_X4_init := (by decide +kernel : tb_X4_init.all (fun q => tbq cX4_init q) = true)
def iM_X4_init (k : Nat) (M : Mem) : Mem := wr M k 0 (-1)
def iP_X4_init (k : Nat) (P : Pm) : Pm := wrP P k 2 (some (k + 1))
set_option maxHeartbeats 4000000 in
set_option maxRecDepth 20000 in
theorem m_X4_init {l : Launch} {w : Wd} {k : Nat} {M : Mem} {P : Pm} (s0 : shf k = (4, 3)) (s1 : shf (k + 1) = (20, 40)) (hk : k + 2 ≤ 113) (f0 : Fr k M P) : CM l w yX4_init cX4_init 1 none 1 1 40 [.ref k] (k + 1) M P (fun rv n1 M1 P1 => rv = none ∧ n1 = k + 2 ∧ M1 = iM_X4_init k M ∧ P1 = iP_X4_init k P ∧ Fr (k + 2) M1 P1) := by
  refine cm_of (loc := [some (.ref k)]) mf_X4_init (by decide) (Nat.le_of_ble_eq_true rfl) rfl (fun K C rt hl hw hL hn hR hnm => ?_)
  have e1 : sln (k + 2) = sln (k + 1) + 40 := by rw [sln_succ, s1]
  have m1 : (k + 1) - kn K ≤ (kR K).cells ∧ sln (k + 1) - sln (kn K) ≤ (kR K).slots := ⟨by rw [hn, hR]; show (k + 1) - (k + 1) ≤ 1; omega, by rw [hn, hR]; show sln (k + 1) - sln (k + 1) ≤ 40; omega⟩
  have m2 : (k + 2) - kn K ≤ (kR K).cells ∧ sln (k + 2) - sln (kn K) ≤ (kR K).slots := ⟨by rw [hn, hR]; show (k + 2) - (k + 1) ≤ 1; omega, by rw [hn, hR]; show sln (k + 2) - sln (k + 1) ≤ 40; omega⟩
  have f1 : Fr (k + 1) M P := f0.mono
  refine aw_aload_n C (tb_at ok_X4_init 0 rfl) rfl ?_
  refine aw_objInit C oi_RX4_3 (Nat.le_of_ble_eq_true rfl) (tb_at ok_X4_init 1 rfl) ?_
  refine aw_aload_n C (tb_at ok_X4_init 2 rfl) rfl ?_
  refine aw_iconst C (tb_at ok_X4_init 3 rfl) ki_m1 ?_
  refine aw_put C ⟨by omega, by omega, s0⟩ rfl (by decide) (by decide) rfl rfl rfl rfl fl_RX4_9 (tb_at ok_X4_init 4 rfl) ?_
  have f2 : Fr (k + 1) (wr M k 0 (-1)) P := f1.wr (by omega)
  refine aw_aload_n C (tb_at ok_X4_init 5 rfl) rfl ?_
  refine aw_iconst C (tb_at ok_X4_init 6 rfl) ki_0 ?_
  refine aw_put0 C ⟨by omega, by omega, s0⟩ rfl (by decide) (by decide) rfl rfl rfl rfl fl_RX4_15 (by rw [wr_at (by decide)]; exact (f0 _ (Nat.le_refl _)).1 _) (tb_at ok_X4_init 7 rfl) ?_
  refine aw_aload_n C (tb_at ok_X4_init 8 rfl) rfl ?_
  refine aw_bipush C (tb_at ok_X4_init 9 rfl) kb_40 ?_
  refine aw_newa C (by rw [hn]; omega) s1 (by omega) (f2 _ (Nat.le_refl _)).1 ac_int (by decide) m2 (tb_at ok_X4_init 10 rfl) ?_
  have f3 : Fr (k + 2) (wr M k 0 (-1)) P := f2.mono
  refine aw_putRF C ⟨by omega, by omega, s0⟩ rfl (by decide) rfl rfl (hnm _ rfl) rfl (fun _ => rfl) (fun _ => rfl) fl_RX4_18 (tb_at ok_X4_init 11 rfl) ?_
  have f4 : Fr (k + 2) (wr M k 0 (-1)) (wrP P k 2 (some (k + 1))) := f3.wrP (by omega)
  have mz := m2
  rw [hR] at mz
  exact aw_vret C rt mz (tb_at ok_X4_init 12 rfl) ⟨rfl, rfl, rfl, rfl, f4⟩
def tb_X5_init : List (Nat × Instr × Nat) := [(0, .aload_n 0, 1), (1, .invokespecial 3, 3), (4, .aload_n 0, 1), (5, .bipush 64, 2), (7, .newarray .int, 2), (9, .putfield 9, 3), (12, .aload_n 0, 1), (13, .iconst (-1), 1), (14, .putfield 15, 3), (17, .return_, 1)]
theorem ok_X5_init : TB cX5_init tb_X5_init := (by decide +kernel : tb_X5_init.all (fun q => tbq cX5_init q) = true)
def iM_X5_init (k : Nat) (M : Mem) : Mem := wr M k 1 (-1)
def iP_X5_init (k : Nat) (P : Pm) : Pm := wrP P k 0 (some (k + 1))
set_option maxHeartbeats 4000000 in
set_option maxRecDepth 20000 in
theorem m_X5_init {l : Launch} {w : Wd} {k : Nat} {M : Mem} {P : Pm} (s0 : shf k = (5, 2)) (s1 : shf (k + 1) = (20, 64)) (hk : k + 2 ≤ 113) (f0 : Fr k M P) : CM l w yX5_init cX5_init 1 none 1 1 64 [.ref k] (k + 1) M P (fun rv n1 M1 P1 => rv = none ∧ n1 = k + 2 ∧ M1 = iM_X5_init k M ∧ P1 = iP_X5_init k P ∧ Fr (k + 2) M1 P1) := by
  refine cm_of (loc := [some (.ref k)]) mf_X5_init (by decide) (Nat.le_of_ble_eq_true rfl) rfl (fun K C rt hl hw hL hn hR hnm => ?_)
  have e1 : sln (k + 2) = sln (k + 1) + 64 := by rw [sln_succ, s1]
  have m1 : (k + 1) - kn K ≤ (kR K).cells ∧ sln (k + 1) - sln (kn K) ≤ (kR K).slots := ⟨by rw [hn, hR]; show (k + 1) - (k + 1) ≤ 1; omega, by rw [hn, hR]; show sln (k + 1) - sln (k + 1) ≤ 64; omega⟩
  have m2 : (k + 2) - kn K ≤ (kR K).cells ∧ sln (k + 2) - sln (kn K) ≤ (kR K).slots := ⟨by rw [hn, hR]; show (k + 2) - (k + 1) ≤ 1; omega, by rw [hn, hR]; show sln (k + 2) - sln (k + 1) ≤ 64; omega⟩
  have f1 : Fr (k + 1) M P := f0.mono
  refine aw_aload_n C (tb_at ok_X5_init 0 rfl) rfl ?_
  refine aw_objInit C oi_RX5_3 (Nat.le_of_ble_eq_true rfl) (tb_at ok_X5_init 1 rfl) ?_
  refine aw_aload_n C (tb_at ok_X5_init 2 rfl) rfl ?_
  refine aw_bipush C (tb_at ok_X5_init 3 rfl) kb_64 ?_
  refine aw_newa C (by rw [hn]; omega) s1 (by omega) (f1 _ (Nat.le_refl _)).1 ac_int (by decide) m2 (tb_at ok_X5_init 4 rfl) ?_
  have f2 : Fr (k + 2) M P := f1.mono
  refine aw_putRF C ⟨by omega, by omega, s0⟩ rfl (by decide) rfl rfl (hnm _ rfl) rfl (fun _ => rfl) (fun _ => rfl) fl_RX5_9 (tb_at ok_X5_init 5 rfl) ?_
  have f3 : Fr (k + 2) M (wrP P k 0 (some (k + 1))) := f2.wrP (by omega)
  refine aw_aload_n C (tb_at ok_X5_init 6 rfl) rfl ?_
  refine aw_iconst C (tb_at ok_X5_init 7 rfl) ki_m1 ?_
  refine aw_put C ⟨by omega, by omega, s0⟩ rfl (by decide) (by decide) rfl rfl rfl rfl fl_RX5_15 (tb_at ok_X5_init 8 rfl) ?_
  have f4 : Fr (k + 2) (wr M k 1 (-1)) (wrP P k 0 (some (k + 1))) := f3.wr (by omega)
  have mz := m2
  rw [hR] at mz
  exact aw_vret C rt mz (tb_at ok_X5_init 9 rfl) ⟨rfl, rfl, rfl, rfl, f4⟩
def tb_X3_init : List (Nat × Instr × Nat) := [(0, .aload_n 0, 1), (1, .invokespecial 3, 3), (4, .aload_n 0, 1), (5, .sipush 160, 3), (8, .newarray .int, 2), (10, .putfield 9, 3), (13, .aload_n 0, 1), (14, .iconst 0, 1), (15, .putfield 15, 3), (18, .aload_n 0, 1), (19, .iconst 0, 1), (20, .putfield 19, 3), (23, .aload_n 0, 1), (24, .iconst 0, 1), (25, .putfield 22, 3), (28, .aload_n 0, 1), (29, .bipush 13, 2), (31, .putfield 25, 3), (34, .aload_n 0, 1), (35, .iconst 0, 1), (36, .putfield 28, 3), (39, .aload_n 0, 1), (40, .iconst (-1), 1), (41, .putfield 31, 3), (44, .aload_n 0, 1), (45, .sipush 160, 3), (48, .newarray .int, 2), (50, .putfield 34, 3), (53, .aload_n 0, 1), (54, .iconst 3, 1), (55, .newarray .int, 2), (57, .putfield 37, 3), (60, .aload_n 0, 1), (61, .iconst 0, 1), (62, .putfield 40, 3), (65, .return_, 1)]
theorem ok_X3_init : TB cX3_init tb_X3_init := (by decide +kernel : tb_X3_init.all (fun q => tbq cX3_init q) = true)
def iM_X3_init (k : Nat) (M : Mem) : Mem := wr (wr M k 4 13) k 6 (-1)
def iP_X3_init (k : Nat) (P : Pm) : Pm := wrP (wrP (wrP P k 0 (some (k + 1))) k 7 (some (k + 2))) k 8 (some (k + 3))
set_option maxHeartbeats 4000000 in
set_option maxRecDepth 20000 in
theorem m_X3_init {l : Launch} {w : Wd} {k : Nat} {M : Mem} {P : Pm} (s0 : shf k = (3, 10)) (s1 : shf (k + 1) = (20, 160)) (s2 : shf (k + 2) = (20, 160)) (s3 : shf (k + 3) = (20, 3)) (hk : k + 4 ≤ 113) (f0 : Fr k M P) : CM l w yX3_init cX3_init 1 none 1 3 323 [.ref k] (k + 1) M P (fun rv n1 M1 P1 => rv = none ∧ n1 = k + 4 ∧ M1 = iM_X3_init k M ∧ P1 = iP_X3_init k P ∧ Fr (k + 4) M1 P1) := by
  refine cm_of (loc := [some (.ref k)]) mf_X3_init (by decide) (Nat.le_of_ble_eq_true rfl) rfl (fun K C rt hl hw hL hn hR hnm => ?_)
  have e1 : sln (k + 2) = sln (k + 1) + 160 := by rw [sln_succ, s1]
  have e2 : sln (k + 3) = sln (k + 2) + 160 := by rw [sln_succ, s2]
  have e3 : sln (k + 4) = sln (k + 3) + 3 := by rw [sln_succ, s3]
  have m1 : (k + 1) - kn K ≤ (kR K).cells ∧ sln (k + 1) - sln (kn K) ≤ (kR K).slots := ⟨by rw [hn, hR]; show (k + 1) - (k + 1) ≤ 3; omega, by rw [hn, hR]; show sln (k + 1) - sln (k + 1) ≤ 323; omega⟩
  have m2 : (k + 2) - kn K ≤ (kR K).cells ∧ sln (k + 2) - sln (kn K) ≤ (kR K).slots := ⟨by rw [hn, hR]; show (k + 2) - (k + 1) ≤ 3; omega, by rw [hn, hR]; show sln (k + 2) - sln (k + 1) ≤ 323; omega⟩
  have m3 : (k + 3) - kn K ≤ (kR K).cells ∧ sln (k + 3) - sln (kn K) ≤ (kR K).slots := ⟨by rw [hn, hR]; show (k + 3) - (k + 1) ≤ 3; omega, by rw [hn, hR]; show sln (k + 3) - sln (k + 1) ≤ 323; omega⟩
  have m4 : (k + 4) - kn K ≤ (kR K).cells ∧ sln (k + 4) - sln (kn K) ≤ (kR K).slots := ⟨by rw [hn, hR]; show (k + 4) - (k + 1) ≤ 3; omega, by rw [hn, hR]; show sln (k + 4) - sln (k + 1) ≤ 323; omega⟩
  have f1 : Fr (k + 1) M P := f0.mono
  refine aw_aload_n C (tb_at ok_X3_init 0 rfl) rfl ?_
  refine aw_objInit C oi_RX3_3 (Nat.le_of_ble_eq_true rfl) (tb_at ok_X3_init 1 rfl) ?_
  refine aw_aload_n C (tb_at ok_X3_init 2 rfl) rfl ?_
  refine aw_sipush C (tb_at ok_X3_init 3 rfl) ks_160 ?_
  refine aw_newa C (by rw [hn]; omega) s1 (by omega) (f1 _ (Nat.le_refl _)).1 ac_int (by decide) m2 (tb_at ok_X3_init 4 rfl) ?_
  have f2 : Fr (k + 2) M P := f1.mono
  refine aw_putRF C ⟨by omega, by omega, s0⟩ rfl (by decide) rfl rfl (hnm _ rfl) rfl (fun _ => rfl) (fun _ => rfl) fl_RX3_9 (tb_at ok_X3_init 5 rfl) ?_
  have f3 : Fr (k + 2) M (wrP P k 0 (some (k + 1))) := f2.wrP (by omega)
  refine aw_aload_n C (tb_at ok_X3_init 6 rfl) rfl ?_
  refine aw_iconst C (tb_at ok_X3_init 7 rfl) ki_0 ?_
  refine aw_put0 C ⟨by omega, by omega, s0⟩ rfl (by decide) (by decide) rfl rfl rfl rfl fl_RX3_15 ((f0 _ (Nat.le_refl _)).1 _) (tb_at ok_X3_init 8 rfl) ?_
  refine aw_aload_n C (tb_at ok_X3_init 9 rfl) rfl ?_
  refine aw_iconst C (tb_at ok_X3_init 10 rfl) ki_0 ?_
  refine aw_put0 C ⟨by omega, by omega, s0⟩ rfl (by decide) (by decide) rfl rfl rfl rfl fl_RX3_19 ((f0 _ (Nat.le_refl _)).1 _) (tb_at ok_X3_init 11 rfl) ?_
  refine aw_aload_n C (tb_at ok_X3_init 12 rfl) rfl ?_
  refine aw_iconst C (tb_at ok_X3_init 13 rfl) ki_0 ?_
  refine aw_put0 C ⟨by omega, by omega, s0⟩ rfl (by decide) (by decide) rfl rfl rfl rfl fl_RX3_22 ((f0 _ (Nat.le_refl _)).1 _) (tb_at ok_X3_init 14 rfl) ?_
  refine aw_aload_n C (tb_at ok_X3_init 15 rfl) rfl ?_
  refine aw_bipush C (tb_at ok_X3_init 16 rfl) kb_13 ?_
  refine aw_put C ⟨by omega, by omega, s0⟩ rfl (by decide) (by decide) rfl rfl rfl rfl fl_RX3_25 (tb_at ok_X3_init 17 rfl) ?_
  have f4 : Fr (k + 2) (wr M k 4 13) (wrP P k 0 (some (k + 1))) := f3.wr (by omega)
  refine aw_aload_n C (tb_at ok_X3_init 18 rfl) rfl ?_
  refine aw_iconst C (tb_at ok_X3_init 19 rfl) ki_0 ?_
  refine aw_put0 C ⟨by omega, by omega, s0⟩ rfl (by decide) (by decide) rfl rfl rfl rfl fl_RX3_28 (by rw [wr_at (by decide)]; exact (f0 _ (Nat.le_refl _)).1 _) (tb_at ok_X3_init 20 rfl) ?_
  refine aw_aload_n C (tb_at ok_X3_init 21 rfl) rfl ?_
  refine aw_iconst C (tb_at ok_X3_init 22 rfl) ki_m1 ?_
  refine aw_put C ⟨by omega, by omega, s0⟩ rfl (by decide) (by decide) rfl rfl rfl rfl fl_RX3_31 (tb_at ok_X3_init 23 rfl) ?_
  have f5 : Fr (k + 2) (wr (wr M k 4 13) k 6 (-1)) (wrP P k 0 (some (k + 1))) := f4.wr (by omega)
  refine aw_aload_n C (tb_at ok_X3_init 24 rfl) rfl ?_
  refine aw_sipush C (tb_at ok_X3_init 25 rfl) ks_160 ?_
  refine aw_newa C (by rw [hn]; omega) s2 (by omega) (f5 _ (Nat.le_refl _)).1 ac_int (by decide) m3 (tb_at ok_X3_init 26 rfl) ?_
  have f6 : Fr (k + 3) (wr (wr M k 4 13) k 6 (-1)) (wrP P k 0 (some (k + 1))) := f5.mono
  refine aw_putRF C ⟨by omega, by omega, s0⟩ rfl (by decide) rfl rfl (hnm _ rfl) rfl (fun _ => rfl) (fun _ => rfl) fl_RX3_34 (tb_at ok_X3_init 27 rfl) ?_
  have f7 : Fr (k + 3) (wr (wr M k 4 13) k 6 (-1)) (wrP (wrP P k 0 (some (k + 1))) k 7 (some (k + 2))) := f6.wrP (by omega)
  refine aw_aload_n C (tb_at ok_X3_init 28 rfl) rfl ?_
  refine aw_iconst C (tb_at ok_X3_init 29 rfl) ki_3 ?_
  refine aw_newa C (by rw [hn]; omega) s3 (by omega) (f7 _ (Nat.le_refl _)).1 ac_int (by decide) m4 (tb_at ok_X3_init 30 rfl) ?_
  have f8 : Fr (k + 4) (wr (wr M k 4 13) k 6 (-1)) (wrP (wrP P k 0 (some (k + 1))) k 7 (some (k + 2))) := f7.mono
  refine aw_putRF C ⟨by omega, by omega, s0⟩ rfl (by decide) rfl rfl (hnm _ rfl) rfl (fun _ => rfl) (fun _ => rfl) fl_RX3_37 (tb_at ok_X3_init 31 rfl) ?_
  have f9 : Fr (k + 4) (wr (wr M k 4 13) k 6 (-1)) (wrP (wrP (wrP P k 0 (some (k + 1))) k 7 (some (k + 2))) k 8 (some (k + 3))) := f8.wrP (by omega)
  refine aw_aload_n C (tb_at ok_X3_init 32 rfl) rfl ?_
  refine aw_iconst C (tb_at ok_X3_init 33 rfl) ki_0 ?_
  refine aw_put0 C ⟨by omega, by omega, s0⟩ rfl (by decide) (by decide) rfl rfl rfl rfl fl_RX3_40 (by rw [wr_at (by decide), wr_at (by decide)]; exact (f0 _ (Nat.le_refl _)).1 _) (tb_at ok_X3_init 34 rfl) ?_
  have mz := m4
  rw [hR] at mz
  exact aw_vret C rt mz (tb_at ok_X3_init 35 rfl) ⟨rfl, rfl, rfl, rfl, f9⟩
