/-! 88: the calls of the law (laid by wip/gen/law.py) -/
theorem lb_16 {K : Cx} (C : Ctx K RL code) (hR : Rm K 113) (hlv : 2000 ≤ (kR K).frames) {i : Int32} (hg : ∀ j, j < 6 → ib (i + nI j) (wL (kw K))) {M : Mem} (hM : Rel M) (nxt : ∀ N, Rel N → AS K 113 N 1203 (ll i) []) : AS K 113 M 664 (ll i) [] := by
  obtain ⟨v, M1, M2, e1, e2, h2⟩ := op_begin (wS (kw K) (ix (i + 1))) (wS (kw K) (ix (i + 2))) M hM
  refine aw_aload_n C (tb_at ok_L16 0 rfl) rfl ?_
  refine l_arg C ok_L16 1 1 (w := 1) rfl ki_1 (hg 1 (by decide)) ?_
  refine l_arg C ok_L16 6 2 (w := 2) rfl ki_2 (hg 2 (by decide)) ?_
  refine aw_cV (as := [.int (wS (kw K) (ix (i + 1))), .int (wS (kw K) (ix (i + 2)))]) (rest := []) C hR (tb_at ok_L16 11 rfl) (m_fN_begin (by decide) e1) mf_X7_begin (ob_0 (by decide)) rfl rfl cw_RL_81 rfl (Nat.le_trans (by decide) hlv) rfl (Nat.le_of_ble_eq_true rfl) ⟨hR.2.1, hR.2.2⟩ (fun rv n1 M1 P1 t => ⟨t.2.1, by rw [t.2.1]; rfl⟩) (fun rv n1 P1 Q1 t => ?_)
  rw [t.1, t.2.1, t.2.2.1, t.2.2.2]
  show AS K 113 M1 678 (ll i) [.int v]
  refine aw_aload_n C (tb_at ok_L16 12 rfl) rfl ?_
  refine l_arg C ok_L16 13 1 (w := 1) rfl ki_1 (hg 1 (by decide)) ?_
  refine l_arg C ok_L16 18 2 (w := 2) rfl ki_2 (hg 2 (by decide)) ?_
  refine aw_cV (as := [.int (wS (kw K) (ix (i + 1))), .int (wS (kw K) (ix (i + 2)))]) (rest := [.int v]) C hR (tb_at ok_L16 23 rfl) (m_fM_begin (by decide) e2) mf_X8_begin (ob_85 (by decide)) rfl rfl cw_RL_84 rfl (Nat.le_trans (by decide) hlv) rfl (Nat.le_of_ble_eq_true rfl) ⟨hR.2.1, hR.2.2⟩ (fun rv n1 M1 P1 t => ⟨t.2.1, by rw [t.2.1]; rfl⟩) (fun rv n1 P1 Q1 t => ?_)
  rw [t.1, t.2.1, t.2.2.1, t.2.2.2]
  show AS K 113 M2 692 (ll i) [.int v, .int v]
  exact aw_icmp_eq (A := some ()) (B := none) (r := ()) C 1203 (tb_at ok_L16 24 rfl) (by decide) (if_pos rfl) (fun _ => nxt M2 h2) (fun h => by cases h)
theorem lb_17 {K : Cx} (C : Ctx K RL code) (hR : Rm K 113) (hlv : 2000 ≤ (kR K).frames) {i : Int32} (hg : ∀ j, j < 6 → ib (i + nI j) (wL (kw K))) {M : Mem} (hM : Rel M) (nxt : ∀ N, Rel N → AS K 113 N 1203 (ll i) []) : AS K 113 M 697 (ll i) [] := by
  obtain ⟨v, M1, M2, e1, e2, h2⟩ := op_home (wS (kw K) (ix (i + 1))) M hM
  refine aw_aload_n C (tb_at ok_L17 0 rfl) rfl ?_
  refine l_arg C ok_L17 1 1 (w := 1) rfl ki_1 (hg 1 (by decide)) ?_
  refine aw_cV (as := [.int (wS (kw K) (ix (i + 1)))]) (rest := []) C hR (tb_at ok_L17 6 rfl) (m_fN_home (by decide) e1) mf_X7_home (ob_0 (by decide)) rfl rfl cw_RL_85 rfl (Nat.le_trans (by decide) hlv) rfl (Nat.le_of_ble_eq_true rfl) ⟨hR.2.1, hR.2.2⟩ (fun rv n1 M1 P1 t => ⟨t.2.1, by rw [t.2.1]; rfl⟩) (fun rv n1 P1 Q1 t => ?_)
  rw [t.1, t.2.1, t.2.2.1, t.2.2.2]
  show AS K 113 M1 706 (ll i) [.int v]
  refine aw_aload_n C (tb_at ok_L17 7 rfl) rfl ?_
  refine l_arg C ok_L17 8 1 (w := 1) rfl ki_1 (hg 1 (by decide)) ?_
  refine aw_cV (as := [.int (wS (kw K) (ix (i + 1)))]) (rest := [.int v]) C hR (tb_at ok_L17 13 rfl) (m_fM_home (by decide) e2) mf_X8_home (ob_85 (by decide)) rfl rfl cw_RL_88 rfl (Nat.le_trans (by decide) hlv) rfl (Nat.le_of_ble_eq_true rfl) ⟨hR.2.1, hR.2.2⟩ (fun rv n1 M1 P1 t => ⟨t.2.1, by rw [t.2.1]; rfl⟩) (fun rv n1 P1 Q1 t => ?_)
  rw [t.1, t.2.1, t.2.2.1, t.2.2.2]
  show AS K 113 M2 715 (ll i) [.int v, .int v]
  exact aw_icmp_eq (A := some ()) (B := none) (r := ()) C 1203 (tb_at ok_L17 14 rfl) (by decide) (if_pos rfl) (fun _ => nxt M2 h2) (fun h => by cases h)
theorem lb_18 {K : Cx} (C : Ctx K RL code) (hR : Rm K 113) (hlv : 2000 ≤ (kR K).frames) {i : Int32} (hg : ∀ j, j < 6 → ib (i + nI j) (wL (kw K))) {M : Mem} (hM : Rel M) (nxt : ∀ N, Rel N → AS K 113 N 1203 (ll i) []) : AS K 113 M 720 (ll i) [] := by
  obtain ⟨v, M1, M2, e1, e2, h2⟩ := op_stairs M hM
  refine aw_aload_n C (tb_at ok_L18 0 rfl) rfl ?_
  refine aw_cV (as := []) (rest := []) C hR (tb_at ok_L18 1 rfl) (m_fN_stairs (by decide) e1) mf_X7_stairs (ob_0 (by decide)) rfl rfl cw_RL_89 rfl (Nat.le_trans (by decide) hlv) rfl (Nat.le_of_ble_eq_true rfl) ⟨hR.2.1, hR.2.2⟩ (fun rv n1 M1 P1 t => ⟨t.2.1, by rw [t.2.1]; rfl⟩) (fun rv n1 P1 Q1 t => ?_)
  rw [t.1, t.2.1, t.2.2.1, t.2.2.2]
  show AS K 113 M1 724 (ll i) [.int v]
  refine aw_aload_n C (tb_at ok_L18 2 rfl) rfl ?_
  refine aw_cV (as := []) (rest := [.int v]) C hR (tb_at ok_L18 3 rfl) (m_fM_stairs (by decide) e2) mf_X8_stairs (ob_85 (by decide)) rfl rfl cw_RL_92 rfl (Nat.le_trans (by decide) hlv) rfl (Nat.le_of_ble_eq_true rfl) ⟨hR.2.1, hR.2.2⟩ (fun rv n1 M1 P1 t => ⟨t.2.1, by rw [t.2.1]; rfl⟩) (fun rv n1 P1 Q1 t => ?_)
  rw [t.1, t.2.1, t.2.2.1, t.2.2.2]
  show AS K 113 M2 728 (ll i) [.int v, .int v]
  exact aw_icmp_eq (A := some ()) (B := none) (r := ()) C 1203 (tb_at ok_L18 4 rfl) (by decide) (if_pos rfl) (fun _ => nxt M2 h2) (fun h => by cases h)
theorem lb_19 {K : Cx} (C : Ctx K RL code) (hR : Rm K 113) (hlv : 2000 ≤ (kR K).frames) {i : Int32} (hg : ∀ j, j < 6 → ib (i + nI j) (wL (kw K))) {M : Mem} (hM : Rel M) (nxt : ∀ N, Rel N → AS K 113 N 1203 (ll i) []) : AS K 113 M 733 (ll i) [] := by
  obtain ⟨v, M1, M2, e1, e2, h2⟩ := op_from (wS (kw K) (ix (i + 1))) (wS (kw K) (ix (i + 2))) M hM
  refine aw_aload_n C (tb_at ok_L19 0 rfl) rfl ?_
  refine l_arg C ok_L19 1 1 (w := 1) rfl ki_1 (hg 1 (by decide)) ?_
  refine l_arg C ok_L19 6 2 (w := 2) rfl ki_2 (hg 2 (by decide)) ?_
  refine aw_cV (as := [.int (wS (kw K) (ix (i + 1))), .int (wS (kw K) (ix (i + 2)))]) (rest := []) C hR (tb_at ok_L19 11 rfl) (m_fN_from (by decide) e1) mf_X7_from (ob_0 (by decide)) rfl rfl cw_RL_93 rfl (Nat.le_trans (by decide) hlv) rfl (Nat.le_of_ble_eq_true rfl) ⟨hR.2.1, hR.2.2⟩ (fun rv n1 M1 P1 t => ⟨t.2.1, by rw [t.2.1]; rfl⟩) (fun rv n1 P1 Q1 t => ?_)
  rw [t.1, t.2.1, t.2.2.1, t.2.2.2]
  show AS K 113 M1 747 (ll i) [.int v]
  refine aw_aload_n C (tb_at ok_L19 12 rfl) rfl ?_
  refine l_arg C ok_L19 13 1 (w := 1) rfl ki_1 (hg 1 (by decide)) ?_
  refine l_arg C ok_L19 18 2 (w := 2) rfl ki_2 (hg 2 (by decide)) ?_
  refine aw_cV (as := [.int (wS (kw K) (ix (i + 1))), .int (wS (kw K) (ix (i + 2)))]) (rest := [.int v]) C hR (tb_at ok_L19 23 rfl) (m_fM_from (by decide) e2) mf_X8_from (ob_85 (by decide)) rfl rfl cw_RL_96 rfl (Nat.le_trans (by decide) hlv) rfl (Nat.le_of_ble_eq_true rfl) ⟨hR.2.1, hR.2.2⟩ (fun rv n1 M1 P1 t => ⟨t.2.1, by rw [t.2.1]; rfl⟩) (fun rv n1 P1 Q1 t => ?_)
  rw [t.1, t.2.1, t.2.2.1, t.2.2.2]
  show AS K 113 M2 761 (ll i) [.int v, .int v]
  exact aw_icmp_eq (A := some ()) (B := none) (r := ()) C 1203 (tb_at ok_L19 24 rfl) (by decide) (if_pos rfl) (fun _ => nxt M2 h2) (fun h => by cases h)
theorem lb_20 {K : Cx} (C : Ctx K RL code) (hR : Rm K 113) (hlv : 2000 ≤ (kR K).frames) {i : Int32} (hg : ∀ j, j < 6 → ib (i + nI j) (wL (kw K))) {M : Mem} (hM : Rel M) (nxt : ∀ N, Rel N → AS K 113 N 1203 (ll i) []) : AS K 113 M 766 (ll i) [] := by
  obtain ⟨v, M1, M2, e1, e2, h2⟩ := op_door (wS (kw K) (ix (i + 1))) (wS (kw K) (ix (i + 2))) (wS (kw K) (ix (i + 3))) M hM
  refine aw_aload_n C (tb_at ok_L20 0 rfl) rfl ?_
  refine l_arg C ok_L20 1 1 (w := 1) rfl ki_1 (hg 1 (by decide)) ?_
  refine l_arg C ok_L20 6 2 (w := 2) rfl ki_2 (hg 2 (by decide)) ?_
  refine l_arg C ok_L20 11 3 (w := 3) rfl ki_3 (hg 3 (by decide)) ?_
  refine aw_cV (as := [.int (wS (kw K) (ix (i + 1))), .int (wS (kw K) (ix (i + 2))), .int (wS (kw K) (ix (i + 3)))]) (rest := []) C hR (tb_at ok_L20 16 rfl) (m_fN_door (by decide) e1) mf_X7_door (ob_0 (by decide)) rfl rfl cw_RL_97 rfl (Nat.le_trans (by decide) hlv) rfl (Nat.le_of_ble_eq_true rfl) ⟨hR.2.1, hR.2.2⟩ (fun rv n1 M1 P1 t => ⟨t.2.1, by rw [t.2.1]; rfl⟩) (fun rv n1 P1 Q1 t => ?_)
  rw [t.1, t.2.1, t.2.2.1, t.2.2.2]
  show AS K 113 M1 785 (ll i) [.int v]
  refine aw_aload_n C (tb_at ok_L20 17 rfl) rfl ?_
  refine l_arg C ok_L20 18 1 (w := 1) rfl ki_1 (hg 1 (by decide)) ?_
  refine l_arg C ok_L20 23 2 (w := 2) rfl ki_2 (hg 2 (by decide)) ?_
  refine l_arg C ok_L20 28 3 (w := 3) rfl ki_3 (hg 3 (by decide)) ?_
  refine aw_cV (as := [.int (wS (kw K) (ix (i + 1))), .int (wS (kw K) (ix (i + 2))), .int (wS (kw K) (ix (i + 3)))]) (rest := [.int v]) C hR (tb_at ok_L20 33 rfl) (m_fM_door (by decide) e2) mf_X8_door (ob_85 (by decide)) rfl rfl cw_RL_100 rfl (Nat.le_trans (by decide) hlv) rfl (Nat.le_of_ble_eq_true rfl) ⟨hR.2.1, hR.2.2⟩ (fun rv n1 M1 P1 t => ⟨t.2.1, by rw [t.2.1]; rfl⟩) (fun rv n1 P1 Q1 t => ?_)
  rw [t.1, t.2.1, t.2.2.1, t.2.2.2]
  show AS K 113 M2 804 (ll i) [.int v, .int v]
  exact aw_icmp_eq (A := some ()) (B := none) (r := ()) C 1203 (tb_at ok_L20 34 rfl) (by decide) (if_pos rfl) (fun _ => nxt M2 h2) (fun h => by cases h)
theorem lb_21 {K : Cx} (C : Ctx K RL code) (hR : Rm K 113) (hlv : 2000 ≤ (kR K).frames) {i : Int32} (hg : ∀ j, j < 6 → ib (i + nI j) (wL (kw K))) {M : Mem} (hM : Rel M) (nxt : ∀ N, Rel N → AS K 113 N 1203 (ll i) []) : AS K 113 M 809 (ll i) [] := by
  obtain ⟨v, M1, M2, e1, e2, h2⟩ := op_film (wS (kw K) (ix (i + 1))) (wS (kw K) (ix (i + 2))) (wS (kw K) (ix (i + 3))) M hM
  refine aw_aload_n C (tb_at ok_L21 0 rfl) rfl ?_
  refine l_arg C ok_L21 1 1 (w := 1) rfl ki_1 (hg 1 (by decide)) ?_
  refine l_arg C ok_L21 6 2 (w := 2) rfl ki_2 (hg 2 (by decide)) ?_
  refine l_arg C ok_L21 11 3 (w := 3) rfl ki_3 (hg 3 (by decide)) ?_
  refine aw_cV (as := [.int (wS (kw K) (ix (i + 1))), .int (wS (kw K) (ix (i + 2))), .int (wS (kw K) (ix (i + 3)))]) (rest := []) C hR (tb_at ok_L21 16 rfl) (m_fN_film (by decide) e1) mf_X7_film (ob_0 (by decide)) rfl rfl cw_RL_101 rfl (Nat.le_trans (by decide) hlv) rfl (Nat.le_of_ble_eq_true rfl) ⟨hR.2.1, hR.2.2⟩ (fun rv n1 M1 P1 t => ⟨t.2.1, by rw [t.2.1]; rfl⟩) (fun rv n1 P1 Q1 t => ?_)
  rw [t.1, t.2.1, t.2.2.1, t.2.2.2]
  show AS K 113 M1 828 (ll i) [.int v]
  refine aw_aload_n C (tb_at ok_L21 17 rfl) rfl ?_
  refine l_arg C ok_L21 18 1 (w := 1) rfl ki_1 (hg 1 (by decide)) ?_
  refine l_arg C ok_L21 23 2 (w := 2) rfl ki_2 (hg 2 (by decide)) ?_
  refine l_arg C ok_L21 28 3 (w := 3) rfl ki_3 (hg 3 (by decide)) ?_
  refine aw_cV (as := [.int (wS (kw K) (ix (i + 1))), .int (wS (kw K) (ix (i + 2))), .int (wS (kw K) (ix (i + 3)))]) (rest := [.int v]) C hR (tb_at ok_L21 33 rfl) (m_fM_film (by decide) e2) mf_X8_film (ob_85 (by decide)) rfl rfl cw_RL_104 rfl (Nat.le_trans (by decide) hlv) rfl (Nat.le_of_ble_eq_true rfl) ⟨hR.2.1, hR.2.2⟩ (fun rv n1 M1 P1 t => ⟨t.2.1, by rw [t.2.1]; rfl⟩) (fun rv n1 P1 Q1 t => ?_)
  rw [t.1, t.2.1, t.2.2.1, t.2.2.2]
  show AS K 113 M2 847 (ll i) [.int v, .int v]
  exact aw_icmp_eq (A := some ()) (B := none) (r := ()) C 1203 (tb_at ok_L21 34 rfl) (by decide) (if_pos rfl) (fun _ => nxt M2 h2) (fun h => by cases h)
theorem lb_22 {K : Cx} (C : Ctx K RL code) (hR : Rm K 113) (hlv : 2000 ≤ (kR K).frames) {i : Int32} (hg : ∀ j, j < 6 → ib (i + nI j) (wL (kw K))) {M : Mem} (hM : Rel M) (nxt : ∀ N, Rel N → AS K 113 N 1203 (ll i) []) : AS K 113 M 852 (ll i) [] := by
  obtain ⟨v, M1, M2, e1, e2, h2⟩ := op_drawn (wS (kw K) (ix (i + 1))) M hM
  refine aw_aload_n C (tb_at ok_L22 0 rfl) rfl ?_
  refine l_arg C ok_L22 1 1 (w := 1) rfl ki_1 (hg 1 (by decide)) ?_
  refine aw_cV (as := [.int (wS (kw K) (ix (i + 1)))]) (rest := []) C hR (tb_at ok_L22 6 rfl) (m_fN_drawn (by decide) e1) mf_X7_drawn (ob_0 (by decide)) rfl rfl cw_RL_105 rfl (Nat.le_trans (by decide) hlv) rfl (Nat.le_of_ble_eq_true rfl) ⟨hR.2.1, hR.2.2⟩ (fun rv n1 M1 P1 t => ⟨t.2.1, by rw [t.2.1]; rfl⟩) (fun rv n1 P1 Q1 t => ?_)
  rw [t.1, t.2.1, t.2.2.1, t.2.2.2]
  show AS K 113 M1 861 (ll i) [.int v]
  refine aw_aload_n C (tb_at ok_L22 7 rfl) rfl ?_
  refine l_arg C ok_L22 8 1 (w := 1) rfl ki_1 (hg 1 (by decide)) ?_
  refine aw_cV (as := [.int (wS (kw K) (ix (i + 1)))]) (rest := [.int v]) C hR (tb_at ok_L22 13 rfl) (m_fM_drawn (by decide) e2) mf_X8_drawn (ob_85 (by decide)) rfl rfl cw_RL_108 rfl (Nat.le_trans (by decide) hlv) rfl (Nat.le_of_ble_eq_true rfl) ⟨hR.2.1, hR.2.2⟩ (fun rv n1 M1 P1 t => ⟨t.2.1, by rw [t.2.1]; rfl⟩) (fun rv n1 P1 Q1 t => ?_)
  rw [t.1, t.2.1, t.2.2.1, t.2.2.2]
  show AS K 113 M2 870 (ll i) [.int v, .int v]
  exact aw_icmp_eq (A := some ()) (B := none) (r := ()) C 1203 (tb_at ok_L22 14 rfl) (by decide) (if_pos rfl) (fun _ => nxt M2 h2) (fun h => by cases h)
theorem lb_23 {K : Cx} (C : Ctx K RL code) (hR : Rm K 113) (hlv : 2000 ≤ (kR K).frames) {i : Int32} (hg : ∀ j, j < 6 → ib (i + nI j) (wL (kw K))) {M : Mem} (hM : Rel M) (nxt : ∀ N, Rel N → AS K 113 N 1203 (ll i) []) : AS K 113 M 875 (ll i) [] := by
  obtain ⟨v, M1, M2, e1, e2, h2⟩ := op_chance (wS (kw K) (ix (i + 1))) (wS (kw K) (ix (i + 2))) (wS (kw K) (ix (i + 3))) M hM
  refine aw_aload_n C (tb_at ok_L23 0 rfl) rfl ?_
  refine l_arg C ok_L23 1 1 (w := 1) rfl ki_1 (hg 1 (by decide)) ?_
  refine l_arg C ok_L23 6 2 (w := 2) rfl ki_2 (hg 2 (by decide)) ?_
  refine l_arg C ok_L23 11 3 (w := 3) rfl ki_3 (hg 3 (by decide)) ?_
  refine aw_cV (as := [.int (wS (kw K) (ix (i + 1))), .int (wS (kw K) (ix (i + 2))), .int (wS (kw K) (ix (i + 3)))]) (rest := []) C hR (tb_at ok_L23 16 rfl) (m_fN_chance (by decide) e1) mf_X7_chance (ob_0 (by decide)) rfl rfl cw_RL_109 rfl (Nat.le_trans (by decide) hlv) rfl (Nat.le_of_ble_eq_true rfl) ⟨hR.2.1, hR.2.2⟩ (fun rv n1 M1 P1 t => ⟨t.2.1, by rw [t.2.1]; rfl⟩) (fun rv n1 P1 Q1 t => ?_)
  rw [t.1, t.2.1, t.2.2.1, t.2.2.2]
  show AS K 113 M1 894 (ll i) [.long v]
  refine aw_aload_n C (tb_at ok_L23 17 rfl) rfl ?_
  refine l_arg C ok_L23 18 1 (w := 1) rfl ki_1 (hg 1 (by decide)) ?_
  refine l_arg C ok_L23 23 2 (w := 2) rfl ki_2 (hg 2 (by decide)) ?_
  refine l_arg C ok_L23 28 3 (w := 3) rfl ki_3 (hg 3 (by decide)) ?_
  refine aw_cV (as := [.int (wS (kw K) (ix (i + 1))), .int (wS (kw K) (ix (i + 2))), .int (wS (kw K) (ix (i + 3)))]) (rest := [.long v]) C hR (tb_at ok_L23 33 rfl) (m_fM_chance (by decide) e2) mf_X8_chance (ob_85 (by decide)) rfl rfl cw_RL_113 rfl (Nat.le_trans (by decide) hlv) rfl (Nat.le_of_ble_eq_true rfl) ⟨hR.2.1, hR.2.2⟩ (fun rv n1 M1 P1 t => ⟨t.2.1, by rw [t.2.1]; rfl⟩) (fun rv n1 P1 Q1 t => ?_)
  rw [t.1, t.2.1, t.2.2.1, t.2.2.2]
  show AS K 113 M2 913 (ll i) [.long v, .long v]
  refine aw_lcmp C (tb_at ok_L23 34 rfl) ?_
  exact aw_if_eq (A := some ()) (B := none) (r := ()) C 1203 (tb_at ok_L23 35 rfl) (by decide) (if_pos (lgc_eq0.mpr rfl)) (fun _ => nxt M2 h2) (fun h => by cases h)
theorem lb_24 {K : Cx} (C : Ctx K RL code) (hR : Rm K 113) (hlv : 2000 ≤ (kR K).frames) {i : Int32} (hg : ∀ j, j < 6 → ib (i + nI j) (wL (kw K))) {M : Mem} (hM : Rel M) (nxt : ∀ N, Rel N → AS K 113 N 1203 (ll i) []) : AS K 113 M 919 (ll i) [] := by
  obtain ⟨v, M1, M2, e1, e2, h2⟩ := op_image M hM
  refine aw_aload_n C (tb_at ok_L24 0 rfl) rfl ?_
  refine aw_cV (as := []) (rest := []) C hR (tb_at ok_L24 1 rfl) (m_fN_image (by decide) e1) mf_X7_image (ob_0 (by decide)) rfl rfl cw_RL_114 rfl (Nat.le_trans (by decide) hlv) rfl (Nat.le_of_ble_eq_true rfl) ⟨hR.2.1, hR.2.2⟩ (fun rv n1 M1 P1 t => ⟨t.2.1, by rw [t.2.1]; rfl⟩) (fun rv n1 P1 Q1 t => ?_)
  rw [t.1, t.2.1, t.2.2.1, t.2.2.2]
  show AS K 113 M1 923 (ll i) [.int v]
  refine aw_aload_n C (tb_at ok_L24 2 rfl) rfl ?_
  refine aw_cV (as := []) (rest := [.int v]) C hR (tb_at ok_L24 3 rfl) (m_fM_image (by decide) e2) mf_X8_image (ob_85 (by decide)) rfl rfl cw_RL_117 rfl (Nat.le_trans (by decide) hlv) rfl (Nat.le_of_ble_eq_true rfl) ⟨hR.2.1, hR.2.2⟩ (fun rv n1 M1 P1 t => ⟨t.2.1, by rw [t.2.1]; rfl⟩) (fun rv n1 P1 Q1 t => ?_)
  rw [t.1, t.2.1, t.2.2.1, t.2.2.2]
  show AS K 113 M2 927 (ll i) [.int v, .int v]
  exact aw_icmp_eq (A := some ()) (B := none) (r := ()) C 1203 (tb_at ok_L24 4 rfl) (by decide) (if_pos rfl) (fun _ => nxt M2 h2) (fun h => by cases h)
theorem lb_25 {K : Cx} (C : Ctx K RL code) (hR : Rm K 113) (hlv : 2000 ≤ (kR K).frames) {i : Int32} (hg : ∀ j, j < 6 → ib (i + nI j) (wL (kw K))) {M : Mem} (hM : Rel M) (nxt : ∀ N, Rel N → AS K 113 N 1203 (ll i) []) : AS K 113 M 932 (ll i) [] := by
  obtain ⟨v, M1, M2, e1, e2, h2⟩ := op_back M hM
  refine aw_aload_n C (tb_at ok_L25 0 rfl) rfl ?_
  refine aw_cV (as := []) (rest := []) C hR (tb_at ok_L25 1 rfl) (m_fN_back (by decide) e1) mf_X7_back (ob_0 (by decide)) rfl rfl cw_RL_118 rfl (Nat.le_trans (by decide) hlv) rfl (Nat.le_of_ble_eq_true rfl) ⟨hR.2.1, hR.2.2⟩ (fun rv n1 M1 P1 t => ⟨t.2.1, by rw [t.2.1]; rfl⟩) (fun rv n1 P1 Q1 t => ?_)
  rw [t.1, t.2.1, t.2.2.1, t.2.2.2]
  show AS K 113 M1 936 (ll i) [.int v]
  refine aw_aload_n C (tb_at ok_L25 2 rfl) rfl ?_
  refine aw_cV (as := []) (rest := [.int v]) C hR (tb_at ok_L25 3 rfl) (m_fM_back (by decide) e2) mf_X8_back (ob_85 (by decide)) rfl rfl cw_RL_121 rfl (Nat.le_trans (by decide) hlv) rfl (Nat.le_of_ble_eq_true rfl) ⟨hR.2.1, hR.2.2⟩ (fun rv n1 M1 P1 t => ⟨t.2.1, by rw [t.2.1]; rfl⟩) (fun rv n1 P1 Q1 t => ?_)
  rw [t.1, t.2.1, t.2.2.1, t.2.2.2]
  show AS K 113 M2 940 (ll i) [.int v, .int v]
  exact aw_icmp_eq (A := some ()) (B := none) (r := ()) C 1203 (tb_at ok_L25 4 rfl) (by decide) (if_pos rfl) (fun _ => nxt M2 h2) (fun h => by cases h)
theorem lb_26 {K : Cx} (C : Ctx K RL code) (hR : Rm K 113) (hlv : 2000 ≤ (kR K).frames) {i : Int32} (hg : ∀ j, j < 6 → ib (i + nI j) (wL (kw K))) {M : Mem} (hM : Rel M) (nxt : ∀ N, Rel N → AS K 113 N 1203 (ll i) []) : AS K 113 M 945 (ll i) [] := by
  obtain ⟨v, M1, M2, e1, e2, h2⟩ := op_count (wS (kw K) (ix (i + 1))) M hM
  refine aw_aload_n C (tb_at ok_L26 0 rfl) rfl ?_
  refine l_arg C ok_L26 1 1 (w := 1) rfl ki_1 (hg 1 (by decide)) ?_
  refine aw_cV (as := [.int (wS (kw K) (ix (i + 1)))]) (rest := []) C hR (tb_at ok_L26 6 rfl) (m_fN_count (by decide) e1) mf_X7_count (ob_0 (by decide)) rfl rfl cw_RL_122 rfl (Nat.le_trans (by decide) hlv) rfl (Nat.le_of_ble_eq_true rfl) ⟨hR.2.1, hR.2.2⟩ (fun rv n1 M1 P1 t => ⟨t.2.1, by rw [t.2.1]; rfl⟩) (fun rv n1 P1 Q1 t => ?_)
  rw [t.1, t.2.1, t.2.2.1, t.2.2.2]
  show AS K 113 M1 954 (ll i) [.int v]
  refine aw_aload_n C (tb_at ok_L26 7 rfl) rfl ?_
  refine l_arg C ok_L26 8 1 (w := 1) rfl ki_1 (hg 1 (by decide)) ?_
  refine aw_cV (as := [.int (wS (kw K) (ix (i + 1)))]) (rest := [.int v]) C hR (tb_at ok_L26 13 rfl) (m_fM_count (by decide) e2) mf_X8_count (ob_85 (by decide)) rfl rfl cw_RL_125 rfl (Nat.le_trans (by decide) hlv) rfl (Nat.le_of_ble_eq_true rfl) ⟨hR.2.1, hR.2.2⟩ (fun rv n1 M1 P1 t => ⟨t.2.1, by rw [t.2.1]; rfl⟩) (fun rv n1 P1 Q1 t => ?_)
  rw [t.1, t.2.1, t.2.2.1, t.2.2.2]
  show AS K 113 M2 963 (ll i) [.int v, .int v]
  exact aw_icmp_eq (A := some ()) (B := none) (r := ()) C 1203 (tb_at ok_L26 14 rfl) (by decide) (if_pos rfl) (fun _ => nxt M2 h2) (fun h => by cases h)
theorem lb_27 {K : Cx} (C : Ctx K RL code) (hR : Rm K 113) (hlv : 2000 ≤ (kR K).frames) {i : Int32} (hg : ∀ j, j < 6 → ib (i + nI j) (wL (kw K))) {M : Mem} (hM : Rel M) (nxt : ∀ N, Rel N → AS K 113 N 1203 (ll i) []) : AS K 113 M 968 (ll i) [] := by
  obtain ⟨v, M1, M2, e1, e2, h2⟩ := op_sheet (wS (kw K) (ix (i + 1))) (wS (kw K) (ix (i + 2))) (wS (kw K) (ix (i + 3))) M hM
  refine aw_aload_n C (tb_at ok_L27 0 rfl) rfl ?_
  refine l_arg C ok_L27 1 1 (w := 1) rfl ki_1 (hg 1 (by decide)) ?_
  refine l_arg C ok_L27 6 2 (w := 2) rfl ki_2 (hg 2 (by decide)) ?_
  refine l_arg C ok_L27 11 3 (w := 3) rfl ki_3 (hg 3 (by decide)) ?_
  refine aw_cV (as := [.int (wS (kw K) (ix (i + 1))), .int (wS (kw K) (ix (i + 2))), .int (wS (kw K) (ix (i + 3)))]) (rest := []) C hR (tb_at ok_L27 16 rfl) (m_fN_sheet (by decide) e1) mf_X7_sheet (ob_0 (by decide)) rfl rfl cw_RL_126 rfl (Nat.le_trans (by decide) hlv) rfl (Nat.le_of_ble_eq_true rfl) ⟨hR.2.1, hR.2.2⟩ (fun rv n1 M1 P1 t => ⟨t.2.1, by rw [t.2.1]; rfl⟩) (fun rv n1 P1 Q1 t => ?_)
  rw [t.1, t.2.1, t.2.2.1, t.2.2.2]
  show AS K 113 M1 987 (ll i) [.int v]
  refine aw_aload_n C (tb_at ok_L27 17 rfl) rfl ?_
  refine l_arg C ok_L27 18 1 (w := 1) rfl ki_1 (hg 1 (by decide)) ?_
  refine l_arg C ok_L27 23 2 (w := 2) rfl ki_2 (hg 2 (by decide)) ?_
  refine l_arg C ok_L27 28 3 (w := 3) rfl ki_3 (hg 3 (by decide)) ?_
  refine aw_cV (as := [.int (wS (kw K) (ix (i + 1))), .int (wS (kw K) (ix (i + 2))), .int (wS (kw K) (ix (i + 3)))]) (rest := [.int v]) C hR (tb_at ok_L27 33 rfl) (m_fM_sheet (by decide) e2) mf_X8_sheet (ob_85 (by decide)) rfl rfl cw_RL_129 rfl (Nat.le_trans (by decide) hlv) rfl (Nat.le_of_ble_eq_true rfl) ⟨hR.2.1, hR.2.2⟩ (fun rv n1 M1 P1 t => ⟨t.2.1, by rw [t.2.1]; rfl⟩) (fun rv n1 P1 Q1 t => ?_)
  rw [t.1, t.2.1, t.2.2.1, t.2.2.2]
  show AS K 113 M2 1006 (ll i) [.int v, .int v]
  exact aw_icmp_eq (A := some ()) (B := none) (r := ()) C 1203 (tb_at ok_L27 34 rfl) (by decide) (if_pos rfl) (fun _ => nxt M2 h2) (fun h => by cases h)
theorem lb_28 {K : Cx} (C : Ctx K RL code) (hR : Rm K 113) (hlv : 2000 ≤ (kR K).frames) {i : Int32} (hg : ∀ j, j < 6 → ib (i + nI j) (wL (kw K))) {M : Mem} (hM : Rel M) (nxt : ∀ N, Rel N → AS K 113 N 1203 (ll i) []) : AS K 113 M 1011 (ll i) [] := by
  obtain ⟨v, M1, M2, e1, e2, h2⟩ := op_cell (wS (kw K) (ix (i + 1))) (wS (kw K) (ix (i + 2))) (wS (kw K) (ix (i + 3))) M hM
  refine aw_aload_n C (tb_at ok_L28 0 rfl) rfl ?_
  refine l_arg C ok_L28 1 1 (w := 1) rfl ki_1 (hg 1 (by decide)) ?_
  refine l_arg C ok_L28 6 2 (w := 2) rfl ki_2 (hg 2 (by decide)) ?_
  refine l_arg C ok_L28 11 3 (w := 3) rfl ki_3 (hg 3 (by decide)) ?_
  refine aw_cV (as := [.int (wS (kw K) (ix (i + 1))), .int (wS (kw K) (ix (i + 2))), .int (wS (kw K) (ix (i + 3)))]) (rest := []) C hR (tb_at ok_L28 16 rfl) (m_fN_cell (by decide) e1) mf_X7_cell (ob_0 (by decide)) rfl rfl cw_RL_130 rfl (Nat.le_trans (by decide) hlv) rfl (Nat.le_of_ble_eq_true rfl) ⟨hR.2.1, hR.2.2⟩ (fun rv n1 M1 P1 t => ⟨t.2.1, by rw [t.2.1]; rfl⟩) (fun rv n1 P1 Q1 t => ?_)
  rw [t.1, t.2.1, t.2.2.1, t.2.2.2]
  show AS K 113 M1 1030 (ll i) [.int v]
  refine aw_aload_n C (tb_at ok_L28 17 rfl) rfl ?_
  refine l_arg C ok_L28 18 1 (w := 1) rfl ki_1 (hg 1 (by decide)) ?_
  refine l_arg C ok_L28 23 2 (w := 2) rfl ki_2 (hg 2 (by decide)) ?_
  refine l_arg C ok_L28 28 3 (w := 3) rfl ki_3 (hg 3 (by decide)) ?_
  refine aw_cV (as := [.int (wS (kw K) (ix (i + 1))), .int (wS (kw K) (ix (i + 2))), .int (wS (kw K) (ix (i + 3)))]) (rest := [.int v]) C hR (tb_at ok_L28 33 rfl) (m_fM_cell (by decide) e2) mf_X8_cell (ob_85 (by decide)) rfl rfl cw_RL_133 rfl (Nat.le_trans (by decide) hlv) rfl (Nat.le_of_ble_eq_true rfl) ⟨hR.2.1, hR.2.2⟩ (fun rv n1 M1 P1 t => ⟨t.2.1, by rw [t.2.1]; rfl⟩) (fun rv n1 P1 Q1 t => ?_)
  rw [t.1, t.2.1, t.2.2.1, t.2.2.2]
  show AS K 113 M2 1049 (ll i) [.int v, .int v]
  exact aw_icmp_eq (A := some ()) (B := none) (r := ()) C 1203 (tb_at ok_L28 34 rfl) (by decide) (if_pos rfl) (fun _ => nxt M2 h2) (fun h => by cases h)
theorem lb_29 {K : Cx} (C : Ctx K RL code) (hR : Rm K 113) (hlv : 2000 ≤ (kR K).frames) {i : Int32} (hg : ∀ j, j < 6 → ib (i + nI j) (wL (kw K))) {M : Mem} (hM : Rel M) (nxt : ∀ N, Rel N → AS K 113 N 1203 (ll i) []) : AS K 113 M 1054 (ll i) [] := by
  obtain ⟨v, M1, M2, e1, e2, h2⟩ := op_copy (wS (kw K) (ix (i + 1))) (wS (kw K) (ix (i + 2))) (wS (kw K) (ix (i + 3))) (wS (kw K) (ix (i + 4))) (wS (kw K) (ix (i + 5))) M hM
  refine aw_aload_n C (tb_at ok_L29 0 rfl) rfl ?_
  refine l_arg C ok_L29 1 1 (w := 1) rfl ki_1 (hg 1 (by decide)) ?_
  refine l_arg C ok_L29 6 2 (w := 2) rfl ki_2 (hg 2 (by decide)) ?_
  refine l_arg C ok_L29 11 3 (w := 3) rfl ki_3 (hg 3 (by decide)) ?_
  refine l_arg C ok_L29 16 4 (w := 4) rfl ki_4 (hg 4 (by decide)) ?_
  refine l_arg C ok_L29 21 5 (w := 5) rfl ki_5 (hg 5 (by decide)) ?_
  refine aw_cV (as := [.int (wS (kw K) (ix (i + 1))), .int (wS (kw K) (ix (i + 2))), .int (wS (kw K) (ix (i + 3))), .int (wS (kw K) (ix (i + 4))), .int (wS (kw K) (ix (i + 5)))]) (rest := []) C hR (tb_at ok_L29 26 rfl) (m_fN_copy (by decide) e1) mf_X7_copy (ob_0 (by decide)) rfl rfl cw_RL_134 rfl (Nat.le_trans (by decide) hlv) rfl (Nat.le_of_ble_eq_true rfl) ⟨hR.2.1, hR.2.2⟩ (fun rv n1 M1 P1 t => ⟨t.2.1, by rw [t.2.1]; rfl⟩) (fun rv n1 P1 Q1 t => ?_)
  rw [t.1, t.2.1, t.2.2.1, t.2.2.2]
  show AS K 113 M1 1083 (ll i) [.int v]
  refine aw_aload_n C (tb_at ok_L29 27 rfl) rfl ?_
  refine l_arg C ok_L29 28 1 (w := 1) rfl ki_1 (hg 1 (by decide)) ?_
  refine l_arg C ok_L29 33 2 (w := 2) rfl ki_2 (hg 2 (by decide)) ?_
  refine l_arg C ok_L29 38 3 (w := 3) rfl ki_3 (hg 3 (by decide)) ?_
  refine l_arg C ok_L29 43 4 (w := 4) rfl ki_4 (hg 4 (by decide)) ?_
  refine l_arg C ok_L29 48 5 (w := 5) rfl ki_5 (hg 5 (by decide)) ?_
  refine aw_cV (as := [.int (wS (kw K) (ix (i + 1))), .int (wS (kw K) (ix (i + 2))), .int (wS (kw K) (ix (i + 3))), .int (wS (kw K) (ix (i + 4))), .int (wS (kw K) (ix (i + 5)))]) (rest := [.int v]) C hR (tb_at ok_L29 53 rfl) (m_fM_copy (by decide) e2) mf_X8_copy (ob_85 (by decide)) rfl rfl cw_RL_138 rfl (Nat.le_trans (by decide) hlv) rfl (Nat.le_of_ble_eq_true rfl) ⟨hR.2.1, hR.2.2⟩ (fun rv n1 M1 P1 t => ⟨t.2.1, by rw [t.2.1]; rfl⟩) (fun rv n1 P1 Q1 t => ?_)
  rw [t.1, t.2.1, t.2.2.1, t.2.2.2]
  show AS K 113 M2 1112 (ll i) [.int v, .int v]
  exact aw_icmp_eq (A := some ()) (B := none) (r := ()) C 1203 (tb_at ok_L29 54 rfl) (by decide) (if_pos rfl) (fun _ => nxt M2 h2) (fun h => by cases h)
theorem lb_30 {K : Cx} (C : Ctx K RL code) (hR : Rm K 113) (hlv : 2000 ≤ (kR K).frames) {i : Int32} (hg : ∀ j, j < 6 → ib (i + nI j) (wL (kw K))) {M : Mem} (hM : Rel M) (nxt : ∀ N, Rel N → AS K 113 N 1203 (ll i) []) : AS K 113 M 1117 (ll i) [] := by
  obtain ⟨v, M1, M2, e1, e2, h2⟩ := op_maids (wS (kw K) (ix (i + 1))) (wS (kw K) (ix (i + 2))) (wS (kw K) (ix (i + 3))) (wS (kw K) (ix (i + 4))) M hM
  refine aw_aload_n C (tb_at ok_L30 0 rfl) rfl ?_
  refine l_arg C ok_L30 1 1 (w := 1) rfl ki_1 (hg 1 (by decide)) ?_
  refine l_arg C ok_L30 6 2 (w := 2) rfl ki_2 (hg 2 (by decide)) ?_
  refine l_arg C ok_L30 11 3 (w := 3) rfl ki_3 (hg 3 (by decide)) ?_
  refine l_arg C ok_L30 16 4 (w := 4) rfl ki_4 (hg 4 (by decide)) ?_
  refine aw_cV (as := [.int (wS (kw K) (ix (i + 1))), .int (wS (kw K) (ix (i + 2))), .int (wS (kw K) (ix (i + 3))), .int (wS (kw K) (ix (i + 4)))]) (rest := []) C hR (tb_at ok_L30 21 rfl) (m_fN_maids (by decide) e1) mf_X7_maids (ob_0 (by decide)) rfl rfl cw_RL_139 rfl (Nat.le_trans (by decide) hlv) rfl (Nat.le_of_ble_eq_true rfl) ⟨hR.2.1, hR.2.2⟩ (fun rv n1 M1 P1 t => ⟨t.2.1, by rw [t.2.1]; rfl⟩) (fun rv n1 P1 Q1 t => ?_)
  rw [t.1, t.2.1, t.2.2.1, t.2.2.2]
  show AS K 113 M1 1141 (ll i) [.int v]
  refine aw_aload_n C (tb_at ok_L30 22 rfl) rfl ?_
  refine l_arg C ok_L30 23 1 (w := 1) rfl ki_1 (hg 1 (by decide)) ?_
  refine l_arg C ok_L30 28 2 (w := 2) rfl ki_2 (hg 2 (by decide)) ?_
  refine l_arg C ok_L30 33 3 (w := 3) rfl ki_3 (hg 3 (by decide)) ?_
  refine l_arg C ok_L30 38 4 (w := 4) rfl ki_4 (hg 4 (by decide)) ?_
  refine aw_cV (as := [.int (wS (kw K) (ix (i + 1))), .int (wS (kw K) (ix (i + 2))), .int (wS (kw K) (ix (i + 3))), .int (wS (kw K) (ix (i + 4)))]) (rest := [.int v]) C hR (tb_at ok_L30 43 rfl) (m_fM_maids (by decide) e2) mf_X8_maids (ob_85 (by decide)) rfl rfl cw_RL_143 rfl (Nat.le_trans (by decide) hlv) rfl (Nat.le_of_ble_eq_true rfl) ⟨hR.2.1, hR.2.2⟩ (fun rv n1 M1 P1 t => ⟨t.2.1, by rw [t.2.1]; rfl⟩) (fun rv n1 P1 Q1 t => ?_)
  rw [t.1, t.2.1, t.2.2.1, t.2.2.2]
  show AS K 113 M2 1165 (ll i) [.int v, .int v]
  exact aw_icmp_eq (A := some ()) (B := none) (r := ()) C 1203 (tb_at ok_L30 44 rfl) (by decide) (if_pos rfl) (fun _ => nxt M2 h2) (fun h => by cases h)
theorem lb_31 {K : Cx} (C : Ctx K RL code) (hR : Rm K 113) (hlv : 2000 ≤ (kR K).frames) {i : Int32} (hg : ∀ j, j < 6 → ib (i + nI j) (wL (kw K))) {M : Mem} (hM : Rel M) (nxt : ∀ N, Rel N → AS K 113 N 1203 (ll i) []) : AS K 113 M 1170 (ll i) [] := by
  obtain ⟨v, M1, M2, e1, e2, h2⟩ := op_taken (wS (kw K) (ix (i + 1))) (wS (kw K) (ix (i + 2))) M hM
  refine aw_aload_n C (tb_at ok_L31 0 rfl) rfl ?_
  refine l_arg C ok_L31 1 1 (w := 1) rfl ki_1 (hg 1 (by decide)) ?_
  refine l_arg C ok_L31 6 2 (w := 2) rfl ki_2 (hg 2 (by decide)) ?_
  refine aw_cV (as := [.int (wS (kw K) (ix (i + 1))), .int (wS (kw K) (ix (i + 2)))]) (rest := []) C hR (tb_at ok_L31 11 rfl) (m_fN_taken (by decide) e1) mf_X7_taken (ob_0 (by decide)) rfl rfl cw_RL_144 rfl (Nat.le_trans (by decide) hlv) rfl (Nat.le_of_ble_eq_true rfl) ⟨hR.2.1, hR.2.2⟩ (fun rv n1 M1 P1 t => ⟨t.2.1, by rw [t.2.1]; rfl⟩) (fun rv n1 P1 Q1 t => ?_)
  rw [t.1, t.2.1, t.2.2.1, t.2.2.2]
  show AS K 113 M1 1184 (ll i) [.int v]
  refine aw_aload_n C (tb_at ok_L31 12 rfl) rfl ?_
  refine l_arg C ok_L31 13 1 (w := 1) rfl ki_1 (hg 1 (by decide)) ?_
  refine l_arg C ok_L31 18 2 (w := 2) rfl ki_2 (hg 2 (by decide)) ?_
  refine aw_cV (as := [.int (wS (kw K) (ix (i + 1))), .int (wS (kw K) (ix (i + 2)))]) (rest := [.int v]) C hR (tb_at ok_L31 23 rfl) (m_fM_taken (by decide) e2) mf_X8_taken (ob_85 (by decide)) rfl rfl cw_RL_147 rfl (Nat.le_trans (by decide) hlv) rfl (Nat.le_of_ble_eq_true rfl) ⟨hR.2.1, hR.2.2⟩ (fun rv n1 M1 P1 t => ⟨t.2.1, by rw [t.2.1]; rfl⟩) (fun rv n1 P1 Q1 t => ?_)
  rw [t.1, t.2.1, t.2.2.1, t.2.2.2]
  show AS K 113 M2 1198 (ll i) [.int v, .int v]
  exact aw_icmp_eq (A := some ()) (B := none) (r := ()) C 1203 (tb_at ok_L31 24 rfl) (by decide) (if_pos rfl) (fun _ => nxt M2 h2) (fun h => by cases h)
