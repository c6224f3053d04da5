/-! 87: the calls of the law (laid by wip/gen/law.py) -/
/-- the law's locals: the script, the class, the model, the place -/
abbrev ll (i : Int32) : List (Option Value) := [some (.ref 1000), some (.ref 0), some (.ref 85), some (.int i)]
/-- a number of the script is laid -/
theorem l_arg {K : Cx} {M : Mem} {i : Int32} {st : List Value} {pc : Nat} {t : List (Nat × Instr × Nat)} (C : Ctx K RL code) (h : TB code t) (k : Nat) (j : Int) {w : Int32} (hq : (t.drop k).take 5 = [(pc, .aload_n 0, 1), (pc + 1, .iload_n 3, 1), (pc + 2, .iconst j, 1), (pc + 3, .iadd, 1), (pc + 4, .iaload, 1)]) (hj : Int32.ofInt j = w) (hi : ib (i + w) (wL (kw K))) (kk : AS K 113 M (pc + 5) (ll i) (.int (wS (kw K) (ix (i + w))) :: st)) : AS K 113 M pc (ll i) st := by
  have at5 : ∀ n, n < 5 → t[k + n]? = [(pc, Instr.aload_n 0, 1), (pc + 1, .iload_n 3, 1), (pc + 2, .iconst j, 1), (pc + 3, .iadd, 1), (pc + 4, .iaload, 1)][n]? := by
    intro n hn
    rw [← hq, List.getElem?_take, if_pos hn, List.getElem?_drop]
  refine aw_aload_n C (tb_at h (k + 0) (at5 0 (by decide))) rfl ?_
  refine aw_iload_n C (tb_at h (k + 1) (at5 1 (by decide))) rfl ?_
  refine aw_iconst C (tb_at h (k + 2) (at5 2 (by decide))) hj ?_
  refine aw_iadd C (tb_at h (k + 3) (at5 3 (by decide))) ?_
  exact aw_ialdX C (tb_at h (k + 4) (at5 4 (by decide))) hi kk
theorem lb_0 {K : Cx} (C : Ctx K RL code) (hR : Rm K 113) (hlv : 2000 ≤ (kR K).frames) {i : Int32} (hg : ∀ j, j < 6 → ib (i + nI j) (wL (kw K))) {M : Mem} (hM : Rel M) (nxt : ∀ N, Rel N → AS K 113 N 1203 (ll i) []) : AS K 113 M 176 (ll i) [] := by
  obtain ⟨v, M1, M2, e1, e2, h2⟩ := op_set (wS (kw K) (ix (i + 1))) (wS (kw K) (ix (i + 2))) (wS (kw K) (ix (i + 3))) M hM
  refine aw_aload_n C (tb_at ok_L0 0 rfl) rfl ?_
  refine l_arg C ok_L0 1 1 (w := 1) rfl ki_1 (hg 1 (by decide)) ?_
  refine l_arg C ok_L0 6 2 (w := 2) rfl ki_2 (hg 2 (by decide)) ?_
  refine l_arg C ok_L0 11 3 (w := 3) rfl ki_3 (hg 3 (by decide)) ?_
  refine aw_cV (as := [.int (wS (kw K) (ix (i + 1))), .int (wS (kw K) (ix (i + 2))), .int (wS (kw K) (ix (i + 3)))]) (rest := []) C hR (tb_at ok_L0 16 rfl) (m_fN_set (by decide) e1) mf_X7_set (ob_0 (by decide)) rfl rfl cw_RL_13 rfl (Nat.le_trans (by decide) hlv) rfl (Nat.le_of_ble_eq_true rfl) ⟨hR.2.1, hR.2.2⟩ (fun rv n1 M1 P1 t => ⟨t.2.1, by rw [t.2.1]; rfl⟩) (fun rv n1 P1 Q1 t => ?_)
  rw [t.1, t.2.1, t.2.2.1, t.2.2.2]
  show AS K 113 M1 195 (ll i) [.int v]
  refine aw_aload_n C (tb_at ok_L0 17 rfl) rfl ?_
  refine l_arg C ok_L0 18 1 (w := 1) rfl ki_1 (hg 1 (by decide)) ?_
  refine l_arg C ok_L0 23 2 (w := 2) rfl ki_2 (hg 2 (by decide)) ?_
  refine l_arg C ok_L0 28 3 (w := 3) rfl ki_3 (hg 3 (by decide)) ?_
  refine aw_cV (as := [.int (wS (kw K) (ix (i + 1))), .int (wS (kw K) (ix (i + 2))), .int (wS (kw K) (ix (i + 3)))]) (rest := [.int v]) C hR (tb_at ok_L0 33 rfl) (m_fM_set (by decide) e2) mf_X8_set (ob_85 (by decide)) rfl rfl cw_RL_17 rfl (Nat.le_trans (by decide) hlv) rfl (Nat.le_of_ble_eq_true rfl) ⟨hR.2.1, hR.2.2⟩ (fun rv n1 M1 P1 t => ⟨t.2.1, by rw [t.2.1]; rfl⟩) (fun rv n1 P1 Q1 t => ?_)
  rw [t.1, t.2.1, t.2.2.1, t.2.2.2]
  show AS K 113 M2 214 (ll i) [.int v, .int v]
  exact aw_icmp_eq (A := some ()) (B := none) (r := ()) C 1203 (tb_at ok_L0 34 rfl) (by decide) (if_pos rfl) (fun _ => nxt M2 h2) (fun h => by cases h)
theorem lb_1 {K : Cx} (C : Ctx K RL code) (hR : Rm K 113) (hlv : 2000 ≤ (kR K).frames) {i : Int32} (hg : ∀ j, j < 6 → ib (i + nI j) (wL (kw K))) {M : Mem} (hM : Rel M) (nxt : ∀ N, Rel N → AS K 113 N 1203 (ll i) []) : AS K 113 M 219 (ll i) [] := by
  obtain ⟨v, M1, M2, e1, e2, h2⟩ := op_stay (wS (kw K) (ix (i + 1))) (wS (kw K) (ix (i + 2))) M hM
  refine aw_aload_n C (tb_at ok_L1 0 rfl) rfl ?_
  refine l_arg C ok_L1 1 1 (w := 1) rfl ki_1 (hg 1 (by decide)) ?_
  refine l_arg C ok_L1 6 2 (w := 2) rfl ki_2 (hg 2 (by decide)) ?_
  refine aw_cV (as := [.int (wS (kw K) (ix (i + 1))), .int (wS (kw K) (ix (i + 2)))]) (rest := []) C hR (tb_at ok_L1 11 rfl) (m_fN_stay (by decide) e1) mf_X7_stay (ob_0 (by decide)) rfl rfl cw_RL_18 rfl (Nat.le_trans (by decide) hlv) rfl (Nat.le_of_ble_eq_true rfl) ⟨hR.2.1, hR.2.2⟩ (fun rv n1 M1 P1 t => ⟨t.2.1, by rw [t.2.1]; rfl⟩) (fun rv n1 P1 Q1 t => ?_)
  rw [t.1, t.2.1, t.2.2.1, t.2.2.2]
  show AS K 113 M1 233 (ll i) [.int v]
  refine aw_aload_n C (tb_at ok_L1 12 rfl) rfl ?_
  refine l_arg C ok_L1 13 1 (w := 1) rfl ki_1 (hg 1 (by decide)) ?_
  refine l_arg C ok_L1 18 2 (w := 2) rfl ki_2 (hg 2 (by decide)) ?_
  refine aw_cV (as := [.int (wS (kw K) (ix (i + 1))), .int (wS (kw K) (ix (i + 2)))]) (rest := [.int v]) C hR (tb_at ok_L1 23 rfl) (m_fM_stay (by decide) e2) mf_X8_stay (ob_85 (by decide)) rfl rfl cw_RL_22 rfl (Nat.le_trans (by decide) hlv) rfl (Nat.le_of_ble_eq_true rfl) ⟨hR.2.1, hR.2.2⟩ (fun rv n1 M1 P1 t => ⟨t.2.1, by rw [t.2.1]; rfl⟩) (fun rv n1 P1 Q1 t => ?_)
  rw [t.1, t.2.1, t.2.2.1, t.2.2.2]
  show AS K 113 M2 247 (ll i) [.int v, .int v]
  exact aw_icmp_eq (A := some ()) (B := none) (r := ()) C 1203 (tb_at ok_L1 24 rfl) (by decide) (if_pos rfl) (fun _ => nxt M2 h2) (fun h => by cases h)
theorem lb_2 {K : Cx} (C : Ctx K RL code) (hR : Rm K 113) (hlv : 2000 ≤ (kR K).frames) {i : Int32} (hg : ∀ j, j < 6 → ib (i + nI j) (wL (kw K))) {M : Mem} (hM : Rel M) (nxt : ∀ N, Rel N → AS K 113 N 1203 (ll i) []) : AS K 113 M 252 (ll i) [] := by
  obtain ⟨v, M1, M2, e1, e2, h2⟩ := op_maid (wS (kw K) (ix (i + 1))) (wS (kw K) (ix (i + 2))) (wS (kw K) (ix (i + 3))) M hM
  refine aw_aload_n C (tb_at ok_L2 0 rfl) rfl ?_
  refine l_arg C ok_L2 1 1 (w := 1) rfl ki_1 (hg 1 (by decide)) ?_
  refine l_arg C ok_L2 6 2 (w := 2) rfl ki_2 (hg 2 (by decide)) ?_
  refine l_arg C ok_L2 11 3 (w := 3) rfl ki_3 (hg 3 (by decide)) ?_
  refine aw_cV (as := [.int (wS (kw K) (ix (i + 1))), .int (wS (kw K) (ix (i + 2))), .int (wS (kw K) (ix (i + 3)))]) (rest := []) C hR (tb_at ok_L2 16 rfl) (m_fN_maid (by decide) e1) mf_X7_maid (ob_0 (by decide)) rfl rfl cw_RL_23 rfl (Nat.le_trans (by decide) hlv) rfl (Nat.le_of_ble_eq_true rfl) ⟨hR.2.1, hR.2.2⟩ (fun rv n1 M1 P1 t => ⟨t.2.1, by rw [t.2.1]; rfl⟩) (fun rv n1 P1 Q1 t => ?_)
  rw [t.1, t.2.1, t.2.2.1, t.2.2.2]
  show AS K 113 M1 271 (ll i) [.int v]
  refine aw_aload_n C (tb_at ok_L2 17 rfl) rfl ?_
  refine l_arg C ok_L2 18 1 (w := 1) rfl ki_1 (hg 1 (by decide)) ?_
  refine l_arg C ok_L2 23 2 (w := 2) rfl ki_2 (hg 2 (by decide)) ?_
  refine l_arg C ok_L2 28 3 (w := 3) rfl ki_3 (hg 3 (by decide)) ?_
  refine aw_cV (as := [.int (wS (kw K) (ix (i + 1))), .int (wS (kw K) (ix (i + 2))), .int (wS (kw K) (ix (i + 3)))]) (rest := [.int v]) C hR (tb_at ok_L2 33 rfl) (m_fM_maid (by decide) e2) mf_X8_maid (ob_85 (by decide)) rfl rfl cw_RL_26 rfl (Nat.le_trans (by decide) hlv) rfl (Nat.le_of_ble_eq_true rfl) ⟨hR.2.1, hR.2.2⟩ (fun rv n1 M1 P1 t => ⟨t.2.1, by rw [t.2.1]; rfl⟩) (fun rv n1 P1 Q1 t => ?_)
  rw [t.1, t.2.1, t.2.2.1, t.2.2.2]
  show AS K 113 M2 290 (ll i) [.int v, .int v]
  exact aw_icmp_eq (A := some ()) (B := none) (r := ()) C 1203 (tb_at ok_L2 34 rfl) (by decide) (if_pos rfl) (fun _ => nxt M2 h2) (fun h => by cases h)
theorem lb_3 {K : Cx} (C : Ctx K RL code) (hR : Rm K 113) (hlv : 2000 ≤ (kR K).frames) {i : Int32} (hg : ∀ j, j < 6 → ib (i + nI j) (wL (kw K))) {M : Mem} (hM : Rel M) (nxt : ∀ N, Rel N → AS K 113 N 1203 (ll i) []) : AS K 113 M 295 (ll i) [] := by
  obtain ⟨v, M1, M2, e1, e2, h2⟩ := op_list (wS (kw K) (ix (i + 1))) (wS (kw K) (ix (i + 2))) M hM
  refine aw_aload_n C (tb_at ok_L3 0 rfl) rfl ?_
  refine l_arg C ok_L3 1 1 (w := 1) rfl ki_1 (hg 1 (by decide)) ?_
  refine l_arg C ok_L3 6 2 (w := 2) rfl ki_2 (hg 2 (by decide)) ?_
  refine aw_cV (as := [.int (wS (kw K) (ix (i + 1))), .int (wS (kw K) (ix (i + 2)))]) (rest := []) C hR (tb_at ok_L3 11 rfl) (m_fN_list (by decide) e1) mf_X7_list (ob_0 (by decide)) rfl rfl cw_RL_27 rfl (Nat.le_trans (by decide) hlv) rfl (Nat.le_of_ble_eq_true rfl) ⟨hR.2.1, hR.2.2⟩ (fun rv n1 M1 P1 t => ⟨t.2.1, by rw [t.2.1]; rfl⟩) (fun rv n1 P1 Q1 t => ?_)
  rw [t.1, t.2.1, t.2.2.1, t.2.2.2]
  show AS K 113 M1 309 (ll i) [.int v]
  refine aw_aload_n C (tb_at ok_L3 12 rfl) rfl ?_
  refine l_arg C ok_L3 13 1 (w := 1) rfl ki_1 (hg 1 (by decide)) ?_
  refine l_arg C ok_L3 18 2 (w := 2) rfl ki_2 (hg 2 (by decide)) ?_
  refine aw_cV (as := [.int (wS (kw K) (ix (i + 1))), .int (wS (kw K) (ix (i + 2)))]) (rest := [.int v]) C hR (tb_at ok_L3 23 rfl) (m_fM_list (by decide) e2) mf_X8_list (ob_85 (by decide)) rfl rfl cw_RL_30 rfl (Nat.le_trans (by decide) hlv) rfl (Nat.le_of_ble_eq_true rfl) ⟨hR.2.1, hR.2.2⟩ (fun rv n1 M1 P1 t => ⟨t.2.1, by rw [t.2.1]; rfl⟩) (fun rv n1 P1 Q1 t => ?_)
  rw [t.1, t.2.1, t.2.2.1, t.2.2.2]
  show AS K 113 M2 323 (ll i) [.int v, .int v]
  exact aw_icmp_eq (A := some ()) (B := none) (r := ()) C 1203 (tb_at ok_L3 24 rfl) (by decide) (if_pos rfl) (fun _ => nxt M2 h2) (fun h => by cases h)
theorem lb_4 {K : Cx} (C : Ctx K RL code) (hR : Rm K 113) (hlv : 2000 ≤ (kR K).frames) {i : Int32} (hg : ∀ j, j < 6 → ib (i + nI j) (wL (kw K))) {M : Mem} (hM : Rel M) (nxt : ∀ N, Rel N → AS K 113 N 1203 (ll i) []) : AS K 113 M 328 (ll i) [] := by
  obtain ⟨v, M1, M2, e1, e2, h2⟩ := op_clear (wS (kw K) (ix (i + 1))) M hM
  refine aw_aload_n C (tb_at ok_L4 0 rfl) rfl ?_
  refine l_arg C ok_L4 1 1 (w := 1) rfl ki_1 (hg 1 (by decide)) ?_
  refine aw_cV (as := [.int (wS (kw K) (ix (i + 1)))]) (rest := []) C hR (tb_at ok_L4 6 rfl) (m_fN_clear (by decide) e1) mf_X7_clear (ob_0 (by decide)) rfl rfl cw_RL_31 rfl (Nat.le_trans (by decide) hlv) rfl (Nat.le_of_ble_eq_true rfl) ⟨hR.2.1, hR.2.2⟩ (fun rv n1 M1 P1 t => ⟨t.2.1, by rw [t.2.1]; rfl⟩) (fun rv n1 P1 Q1 t => ?_)
  rw [t.1, t.2.1, t.2.2.1, t.2.2.2]
  show AS K 113 M1 337 (ll i) [.int v]
  refine aw_aload_n C (tb_at ok_L4 7 rfl) rfl ?_
  refine l_arg C ok_L4 8 1 (w := 1) rfl ki_1 (hg 1 (by decide)) ?_
  refine aw_cV (as := [.int (wS (kw K) (ix (i + 1)))]) (rest := [.int v]) C hR (tb_at ok_L4 13 rfl) (m_fM_clear (by decide) e2) mf_X8_clear (ob_85 (by decide)) rfl rfl cw_RL_35 rfl (Nat.le_trans (by decide) hlv) rfl (Nat.le_of_ble_eq_true rfl) ⟨hR.2.1, hR.2.2⟩ (fun rv n1 M1 P1 t => ⟨t.2.1, by rw [t.2.1]; rfl⟩) (fun rv n1 P1 Q1 t => ?_)
  rw [t.1, t.2.1, t.2.2.1, t.2.2.2]
  show AS K 113 M2 346 (ll i) [.int v, .int v]
  exact aw_icmp_eq (A := some ()) (B := none) (r := ()) C 1203 (tb_at ok_L4 14 rfl) (by decide) (if_pos rfl) (fun _ => nxt M2 h2) (fun h => by cases h)
theorem lb_5 {K : Cx} (C : Ctx K RL code) (hR : Rm K 113) (hlv : 2000 ≤ (kR K).frames) {i : Int32} (hg : ∀ j, j < 6 → ib (i + nI j) (wL (kw K))) {M : Mem} (hM : Rel M) (nxt : ∀ N, Rel N → AS K 113 N 1203 (ll i) []) : AS K 113 M 351 (ll i) [] := by
  obtain ⟨v, M1, M2, e1, e2, h2⟩ := op_told (wS (kw K) (ix (i + 1))) (wS (kw K) (ix (i + 2))) M hM
  refine aw_aload_n C (tb_at ok_L5 0 rfl) rfl ?_
  refine l_arg C ok_L5 1 1 (w := 1) rfl ki_1 (hg 1 (by decide)) ?_
  refine l_arg C ok_L5 6 2 (w := 2) rfl ki_2 (hg 2 (by decide)) ?_
  refine aw_cV (as := [.int (wS (kw K) (ix (i + 1))), .int (wS (kw K) (ix (i + 2)))]) (rest := []) C hR (tb_at ok_L5 11 rfl) (m_fN_told (by decide) e1) mf_X7_told (ob_0 (by decide)) rfl rfl cw_RL_36 rfl (Nat.le_trans (by decide) hlv) rfl (Nat.le_of_ble_eq_true rfl) ⟨hR.2.1, hR.2.2⟩ (fun rv n1 M1 P1 t => ⟨t.2.1, by rw [t.2.1]; rfl⟩) (fun rv n1 P1 Q1 t => ?_)
  rw [t.1, t.2.1, t.2.2.1, t.2.2.2]
  show AS K 113 M1 365 (ll i) [.int v]
  refine aw_aload_n C (tb_at ok_L5 12 rfl) rfl ?_
  refine l_arg C ok_L5 13 1 (w := 1) rfl ki_1 (hg 1 (by decide)) ?_
  refine l_arg C ok_L5 18 2 (w := 2) rfl ki_2 (hg 2 (by decide)) ?_
  refine aw_cV (as := [.int (wS (kw K) (ix (i + 1))), .int (wS (kw K) (ix (i + 2)))]) (rest := [.int v]) C hR (tb_at ok_L5 23 rfl) (m_fM_told (by decide) e2) mf_X8_told (ob_85 (by decide)) rfl rfl cw_RL_39 rfl (Nat.le_trans (by decide) hlv) rfl (Nat.le_of_ble_eq_true rfl) ⟨hR.2.1, hR.2.2⟩ (fun rv n1 M1 P1 t => ⟨t.2.1, by rw [t.2.1]; rfl⟩) (fun rv n1 P1 Q1 t => ?_)
  rw [t.1, t.2.1, t.2.2.1, t.2.2.2]
  show AS K 113 M2 379 (ll i) [.int v, .int v]
  exact aw_icmp_eq (A := some ()) (B := none) (r := ()) C 1203 (tb_at ok_L5 24 rfl) (by decide) (if_pos rfl) (fun _ => nxt M2 h2) (fun h => by cases h)
theorem lb_6 {K : Cx} (C : Ctx K RL code) (hR : Rm K 113) (hlv : 2000 ≤ (kR K).frames) {i : Int32} (hg : ∀ j, j < 6 → ib (i + nI j) (wL (kw K))) {M : Mem} (hM : Rel M) (nxt : ∀ N, Rel N → AS K 113 N 1203 (ll i) []) : AS K 113 M 384 (ll i) [] := by
  obtain ⟨v, M1, M2, e1, e2, h2⟩ := op_way (wS (kw K) (ix (i + 1))) (wS (kw K) (ix (i + 2))) (wS (kw K) (ix (i + 3))) M hM
  refine aw_aload_n C (tb_at ok_L6 0 rfl) rfl ?_
  refine l_arg C ok_L6 1 1 (w := 1) rfl ki_1 (hg 1 (by decide)) ?_
  refine l_arg C ok_L6 6 2 (w := 2) rfl ki_2 (hg 2 (by decide)) ?_
  refine l_arg C ok_L6 11 3 (w := 3) rfl ki_3 (hg 3 (by decide)) ?_
  refine aw_cV (as := [.int (wS (kw K) (ix (i + 1))), .int (wS (kw K) (ix (i + 2))), .int (wS (kw K) (ix (i + 3)))]) (rest := []) C hR (tb_at ok_L6 16 rfl) (m_fN_way (by decide) e1) mf_X7_way (ob_0 (by decide)) rfl rfl cw_RL_40 rfl (Nat.le_trans (by decide) hlv) rfl (Nat.le_of_ble_eq_true rfl) ⟨hR.2.1, hR.2.2⟩ (fun rv n1 M1 P1 t => ⟨t.2.1, by rw [t.2.1]; rfl⟩) (fun rv n1 P1 Q1 t => ?_)
  rw [t.1, t.2.1, t.2.2.1, t.2.2.2]
  show AS K 113 M1 403 (ll i) [.int v]
  refine aw_aload_n C (tb_at ok_L6 17 rfl) rfl ?_
  refine l_arg C ok_L6 18 1 (w := 1) rfl ki_1 (hg 1 (by decide)) ?_
  refine l_arg C ok_L6 23 2 (w := 2) rfl ki_2 (hg 2 (by decide)) ?_
  refine l_arg C ok_L6 28 3 (w := 3) rfl ki_3 (hg 3 (by decide)) ?_
  refine aw_cV (as := [.int (wS (kw K) (ix (i + 1))), .int (wS (kw K) (ix (i + 2))), .int (wS (kw K) (ix (i + 3)))]) (rest := [.int v]) C hR (tb_at ok_L6 33 rfl) (m_fM_way (by decide) e2) mf_X8_way (ob_85 (by decide)) rfl rfl cw_RL_43 rfl (Nat.le_trans (by decide) hlv) rfl (Nat.le_of_ble_eq_true rfl) ⟨hR.2.1, hR.2.2⟩ (fun rv n1 M1 P1 t => ⟨t.2.1, by rw [t.2.1]; rfl⟩) (fun rv n1 P1 Q1 t => ?_)
  rw [t.1, t.2.1, t.2.2.1, t.2.2.2]
  show AS K 113 M2 422 (ll i) [.int v, .int v]
  exact aw_icmp_eq (A := some ()) (B := none) (r := ()) C 1203 (tb_at ok_L6 34 rfl) (by decide) (if_pos rfl) (fun _ => nxt M2 h2) (fun h => by cases h)
theorem lb_7 {K : Cx} (C : Ctx K RL code) (hR : Rm K 113) (hlv : 2000 ≤ (kR K).frames) {i : Int32} (hg : ∀ j, j < 6 → ib (i + nI j) (wL (kw K))) {M : Mem} (hM : Rel M) (nxt : ∀ N, Rel N → AS K 113 N 1203 (ll i) []) : AS K 113 M 427 (ll i) [] := by
  obtain ⟨v, M1, M2, e1, e2, h2⟩ := op_feed (wS (kw K) (ix (i + 1))) M hM
  refine aw_aload_n C (tb_at ok_L7 0 rfl) rfl ?_
  refine l_arg C ok_L7 1 1 (w := 1) rfl ki_1 (hg 1 (by decide)) ?_
  refine aw_cV (as := [.int (wS (kw K) (ix (i + 1)))]) (rest := []) C hR (tb_at ok_L7 6 rfl) (m_fN_feed (by decide) e1) mf_X7_feed (ob_0 (by decide)) rfl rfl cw_RL_44 rfl (Nat.le_trans (by decide) hlv) rfl (Nat.le_of_ble_eq_true rfl) ⟨hR.2.1, hR.2.2⟩ (fun rv n1 M1 P1 t => ⟨t.2.1, by rw [t.2.1]; rfl⟩) (fun rv n1 P1 Q1 t => ?_)
  rw [t.1, t.2.1, t.2.2.1, t.2.2.2]
  show AS K 113 M1 436 (ll i) [.int v]
  refine aw_aload_n C (tb_at ok_L7 7 rfl) rfl ?_
  refine l_arg C ok_L7 8 1 (w := 1) rfl ki_1 (hg 1 (by decide)) ?_
  refine aw_cV (as := [.int (wS (kw K) (ix (i + 1)))]) (rest := [.int v]) C hR (tb_at ok_L7 13 rfl) (m_fM_feed (by decide) e2) mf_X8_feed (ob_85 (by decide)) rfl rfl cw_RL_47 rfl (Nat.le_trans (by decide) hlv) rfl (Nat.le_of_ble_eq_true rfl) ⟨hR.2.1, hR.2.2⟩ (fun rv n1 M1 P1 t => ⟨t.2.1, by rw [t.2.1]; rfl⟩) (fun rv n1 P1 Q1 t => ?_)
  rw [t.1, t.2.1, t.2.2.1, t.2.2.2]
  show AS K 113 M2 445 (ll i) [.int v, .int v]
  exact aw_icmp_eq (A := some ()) (B := none) (r := ()) C 1203 (tb_at ok_L7 14 rfl) (by decide) (if_pos rfl) (fun _ => nxt M2 h2) (fun h => by cases h)
theorem lb_8 {K : Cx} (C : Ctx K RL code) (hR : Rm K 113) (hlv : 2000 ≤ (kR K).frames) {i : Int32} (hg : ∀ j, j < 6 → ib (i + nI j) (wL (kw K))) {M : Mem} (hM : Rel M) (nxt : ∀ N, Rel N → AS K 113 N 1203 (ll i) []) : AS K 113 M 450 (ll i) [] := by
  obtain ⟨v, M1, M2, e1, e2, h2⟩ := op_text M hM
  refine aw_aload_n C (tb_at ok_L8 0 rfl) rfl ?_
  refine aw_cV (as := []) (rest := []) C hR (tb_at ok_L8 1 rfl) (m_fN_text (by decide) e1) mf_X7_text (ob_0 (by decide)) rfl rfl cw_RL_48 rfl (Nat.le_trans (by decide) hlv) rfl (Nat.le_of_ble_eq_true rfl) ⟨hR.2.1, hR.2.2⟩ (fun rv n1 M1 P1 t => ⟨t.2.1, by rw [t.2.1]; rfl⟩) (fun rv n1 P1 Q1 t => ?_)
  rw [t.1, t.2.1, t.2.2.1, t.2.2.2]
  show AS K 113 M1 454 (ll i) [.int v]
  refine aw_aload_n C (tb_at ok_L8 2 rfl) rfl ?_
  refine aw_cV (as := []) (rest := [.int v]) C hR (tb_at ok_L8 3 rfl) (m_fM_text (by decide) e2) mf_X8_text (ob_85 (by decide)) rfl rfl cw_RL_52 rfl (Nat.le_trans (by decide) hlv) rfl (Nat.le_of_ble_eq_true rfl) ⟨hR.2.1, hR.2.2⟩ (fun rv n1 M1 P1 t => ⟨t.2.1, by rw [t.2.1]; rfl⟩) (fun rv n1 P1 Q1 t => ?_)
  rw [t.1, t.2.1, t.2.2.1, t.2.2.2]
  show AS K 113 M2 458 (ll i) [.int v, .int v]
  exact aw_icmp_eq (A := some ()) (B := none) (r := ()) C 1203 (tb_at ok_L8 4 rfl) (by decide) (if_pos rfl) (fun _ => nxt M2 h2) (fun h => by cases h)
theorem lb_9 {K : Cx} (C : Ctx K RL code) (hR : Rm K 113) (hlv : 2000 ≤ (kR K).frames) {i : Int32} (hg : ∀ j, j < 6 → ib (i + nI j) (wL (kw K))) {M : Mem} (hM : Rel M) (nxt : ∀ N, Rel N → AS K 113 N 1203 (ll i) []) : AS K 113 M 463 (ll i) [] := by
  obtain ⟨v, M1, M2, e1, e2, h2⟩ := op_force (wS (kw K) (ix (i + 1))) M hM
  refine aw_aload_n C (tb_at ok_L9 0 rfl) rfl ?_
  refine l_arg C ok_L9 1 1 (w := 1) rfl ki_1 (hg 1 (by decide)) ?_
  refine aw_cV (as := [.int (wS (kw K) (ix (i + 1)))]) (rest := []) C hR (tb_at ok_L9 6 rfl) (m_fN_force (by decide) e1) mf_X7_force (ob_0 (by decide)) rfl rfl cw_RL_53 rfl (Nat.le_trans (by decide) hlv) rfl (Nat.le_of_ble_eq_true rfl) ⟨hR.2.1, hR.2.2⟩ (fun rv n1 M1 P1 t => ⟨t.2.1, by rw [t.2.1]; rfl⟩) (fun rv n1 P1 Q1 t => ?_)
  rw [t.1, t.2.1, t.2.2.1, t.2.2.2]
  show AS K 113 M1 472 (ll i) [.int v]
  refine aw_aload_n C (tb_at ok_L9 7 rfl) rfl ?_
  refine l_arg C ok_L9 8 1 (w := 1) rfl ki_1 (hg 1 (by decide)) ?_
  refine aw_cV (as := [.int (wS (kw K) (ix (i + 1)))]) (rest := [.int v]) C hR (tb_at ok_L9 13 rfl) (m_fM_force (by decide) e2) mf_X8_force (ob_85 (by decide)) rfl rfl cw_RL_56 rfl (Nat.le_trans (by decide) hlv) rfl (Nat.le_of_ble_eq_true rfl) ⟨hR.2.1, hR.2.2⟩ (fun rv n1 M1 P1 t => ⟨t.2.1, by rw [t.2.1]; rfl⟩) (fun rv n1 P1 Q1 t => ?_)
  rw [t.1, t.2.1, t.2.2.1, t.2.2.2]
  show AS K 113 M2 481 (ll i) [.int v, .int v]
  exact aw_icmp_eq (A := some ()) (B := none) (r := ()) C 1203 (tb_at ok_L9 14 rfl) (by decide) (if_pos rfl) (fun _ => nxt M2 h2) (fun h => by cases h)
theorem lb_10 {K : Cx} (C : Ctx K RL code) (hR : Rm K 113) (hlv : 2000 ≤ (kR K).frames) {i : Int32} (hg : ∀ j, j < 6 → ib (i + nI j) (wL (kw K))) {M : Mem} (hM : Rel M) (nxt : ∀ N, Rel N → AS K 113 N 1203 (ll i) []) : AS K 113 M 486 (ll i) [] := by
  obtain ⟨v, M1, M2, e1, e2, h2⟩ := op_master (wS (kw K) (ix (i + 1))) M hM
  refine aw_aload_n C (tb_at ok_L10 0 rfl) rfl ?_
  refine l_arg C ok_L10 1 1 (w := 1) rfl ki_1 (hg 1 (by decide)) ?_
  refine aw_cV (as := [.int (wS (kw K) (ix (i + 1)))]) (rest := []) C hR (tb_at ok_L10 6 rfl) (m_fN_master (by decide) e1) mf_X7_master (ob_0 (by decide)) rfl rfl cw_RL_57 rfl (Nat.le_trans (by decide) hlv) rfl (Nat.le_of_ble_eq_true rfl) ⟨hR.2.1, hR.2.2⟩ (fun rv n1 M1 P1 t => ⟨t.2.1, by rw [t.2.1]; rfl⟩) (fun rv n1 P1 Q1 t => ?_)
  rw [t.1, t.2.1, t.2.2.1, t.2.2.2]
  show AS K 113 M1 495 (ll i) [.int v]
  refine aw_aload_n C (tb_at ok_L10 7 rfl) rfl ?_
  refine l_arg C ok_L10 8 1 (w := 1) rfl ki_1 (hg 1 (by decide)) ?_
  refine aw_cV (as := [.int (wS (kw K) (ix (i + 1)))]) (rest := [.int v]) C hR (tb_at ok_L10 13 rfl) (m_fM_master (by decide) e2) mf_X8_master (ob_85 (by decide)) rfl rfl cw_RL_60 rfl (Nat.le_trans (by decide) hlv) rfl (Nat.le_of_ble_eq_true rfl) ⟨hR.2.1, hR.2.2⟩ (fun rv n1 M1 P1 t => ⟨t.2.1, by rw [t.2.1]; rfl⟩) (fun rv n1 P1 Q1 t => ?_)
  rw [t.1, t.2.1, t.2.2.1, t.2.2.2]
  show AS K 113 M2 504 (ll i) [.int v, .int v]
  exact aw_icmp_eq (A := some ()) (B := none) (r := ()) C 1203 (tb_at ok_L10 14 rfl) (by decide) (if_pos rfl) (fun _ => nxt M2 h2) (fun h => by cases h)
theorem lb_11 {K : Cx} (C : Ctx K RL code) (hR : Rm K 113) (hlv : 2000 ≤ (kR K).frames) {i : Int32} (hg : ∀ j, j < 6 → ib (i + nI j) (wL (kw K))) {M : Mem} (hM : Rel M) (nxt : ∀ N, Rel N → AS K 113 N 1203 (ll i) []) : AS K 113 M 509 (ll i) [] := by
  obtain ⟨v, M1, M2, e1, e2, h2⟩ := op_free (wS (kw K) (ix (i + 1))) (wS (kw K) (ix (i + 2))) M hM
  refine aw_aload_n C (tb_at ok_L11 0 rfl) rfl ?_
  refine l_arg C ok_L11 1 1 (w := 1) rfl ki_1 (hg 1 (by decide)) ?_
  refine l_arg C ok_L11 6 2 (w := 2) rfl ki_2 (hg 2 (by decide)) ?_
  refine aw_cV (as := [.int (wS (kw K) (ix (i + 1))), .int (wS (kw K) (ix (i + 2)))]) (rest := []) C hR (tb_at ok_L11 11 rfl) (m_fN_free (by decide) e1) mf_X7_free (ob_0 (by decide)) rfl rfl cw_RL_61 rfl (Nat.le_trans (by decide) hlv) rfl (Nat.le_of_ble_eq_true rfl) ⟨hR.2.1, hR.2.2⟩ (fun rv n1 M1 P1 t => ⟨t.2.1, by rw [t.2.1]; rfl⟩) (fun rv n1 P1 Q1 t => ?_)
  rw [t.1, t.2.1, t.2.2.1, t.2.2.2]
  show AS K 113 M1 523 (ll i) [.int v]
  refine aw_aload_n C (tb_at ok_L11 12 rfl) rfl ?_
  refine l_arg C ok_L11 13 1 (w := 1) rfl ki_1 (hg 1 (by decide)) ?_
  refine l_arg C ok_L11 18 2 (w := 2) rfl ki_2 (hg 2 (by decide)) ?_
  refine aw_cV (as := [.int (wS (kw K) (ix (i + 1))), .int (wS (kw K) (ix (i + 2)))]) (rest := [.int v]) C hR (tb_at ok_L11 23 rfl) (m_fM_free (by decide) e2) mf_X8_free (ob_85 (by decide)) rfl rfl cw_RL_64 rfl (Nat.le_trans (by decide) hlv) rfl (Nat.le_of_ble_eq_true rfl) ⟨hR.2.1, hR.2.2⟩ (fun rv n1 M1 P1 t => ⟨t.2.1, by rw [t.2.1]; rfl⟩) (fun rv n1 P1 Q1 t => ?_)
  rw [t.1, t.2.1, t.2.2.1, t.2.2.2]
  show AS K 113 M2 537 (ll i) [.int v, .int v]
  exact aw_icmp_eq (A := some ()) (B := none) (r := ()) C 1203 (tb_at ok_L11 24 rfl) (by decide) (if_pos rfl) (fun _ => nxt M2 h2) (fun h => by cases h)
theorem lb_12 {K : Cx} (C : Ctx K RL code) (hR : Rm K 113) (hlv : 2000 ≤ (kR K).frames) {i : Int32} (hg : ∀ j, j < 6 → ib (i + nI j) (wL (kw K))) {M : Mem} (hM : Rel M) (nxt : ∀ N, Rel N → AS K 113 N 1203 (ll i) []) : AS K 113 M 542 (ll i) [] := by
  obtain ⟨v, M1, M2, e1, e2, h2⟩ := op_longest (wS (kw K) (ix (i + 1))) (wS (kw K) (ix (i + 2))) M hM
  refine aw_aload_n C (tb_at ok_L12 0 rfl) rfl ?_
  refine l_arg C ok_L12 1 1 (w := 1) rfl ki_1 (hg 1 (by decide)) ?_
  refine l_arg C ok_L12 6 2 (w := 2) rfl ki_2 (hg 2 (by decide)) ?_
  refine aw_cV (as := [.int (wS (kw K) (ix (i + 1))), .int (wS (kw K) (ix (i + 2)))]) (rest := []) C hR (tb_at ok_L12 11 rfl) (m_fN_longest (by decide) e1) mf_X7_longest (ob_0 (by decide)) rfl rfl cw_RL_65 rfl (Nat.le_trans (by decide) hlv) rfl (Nat.le_of_ble_eq_true rfl) ⟨hR.2.1, hR.2.2⟩ (fun rv n1 M1 P1 t => ⟨t.2.1, by rw [t.2.1]; rfl⟩) (fun rv n1 P1 Q1 t => ?_)
  rw [t.1, t.2.1, t.2.2.1, t.2.2.2]
  show AS K 113 M1 556 (ll i) [.int v]
  refine aw_aload_n C (tb_at ok_L12 12 rfl) rfl ?_
  refine l_arg C ok_L12 13 1 (w := 1) rfl ki_1 (hg 1 (by decide)) ?_
  refine l_arg C ok_L12 18 2 (w := 2) rfl ki_2 (hg 2 (by decide)) ?_
  refine aw_cV (as := [.int (wS (kw K) (ix (i + 1))), .int (wS (kw K) (ix (i + 2)))]) (rest := [.int v]) C hR (tb_at ok_L12 23 rfl) (m_fM_longest (by decide) e2) mf_X8_longest (ob_85 (by decide)) rfl rfl cw_RL_68 rfl (Nat.le_trans (by decide) hlv) rfl (Nat.le_of_ble_eq_true rfl) ⟨hR.2.1, hR.2.2⟩ (fun rv n1 M1 P1 t => ⟨t.2.1, by rw [t.2.1]; rfl⟩) (fun rv n1 P1 Q1 t => ?_)
  rw [t.1, t.2.1, t.2.2.1, t.2.2.2]
  show AS K 113 M2 570 (ll i) [.int v, .int v]
  exact aw_icmp_eq (A := some ()) (B := none) (r := ()) C 1203 (tb_at ok_L12 24 rfl) (by decide) (if_pos rfl) (fun _ => nxt M2 h2) (fun h => by cases h)
theorem lb_13 {K : Cx} (C : Ctx K RL code) (hR : Rm K 113) (hlv : 2000 ≤ (kR K).frames) {i : Int32} (hg : ∀ j, j < 6 → ib (i + nI j) (wL (kw K))) {M : Mem} (hM : Rel M) (nxt : ∀ N, Rel N → AS K 113 N 1203 (ll i) []) : AS K 113 M 575 (ll i) [] := by
  obtain ⟨v, M1, M2, e1, e2, h2⟩ := op_never (wS (kw K) (ix (i + 1))) M hM
  refine aw_aload_n C (tb_at ok_L13 0 rfl) rfl ?_
  refine l_arg C ok_L13 1 1 (w := 1) rfl ki_1 (hg 1 (by decide)) ?_
  refine aw_cV (as := [.int (wS (kw K) (ix (i + 1)))]) (rest := []) C hR (tb_at ok_L13 6 rfl) (m_fN_never (by decide) e1) mf_X7_never (ob_0 (by decide)) rfl rfl cw_RL_69 rfl (Nat.le_trans (by decide) hlv) rfl (Nat.le_of_ble_eq_true rfl) ⟨hR.2.1, hR.2.2⟩ (fun rv n1 M1 P1 t => ⟨t.2.1, by rw [t.2.1]; rfl⟩) (fun rv n1 P1 Q1 t => ?_)
  rw [t.1, t.2.1, t.2.2.1, t.2.2.2]
  show AS K 113 M1 584 (ll i) [.int v]
  refine aw_aload_n C (tb_at ok_L13 7 rfl) rfl ?_
  refine l_arg C ok_L13 8 1 (w := 1) rfl ki_1 (hg 1 (by decide)) ?_
  refine aw_cV (as := [.int (wS (kw K) (ix (i + 1)))]) (rest := [.int v]) C hR (tb_at ok_L13 13 rfl) (m_fM_never (by decide) e2) mf_X8_never (ob_85 (by decide)) rfl rfl cw_RL_72 rfl (Nat.le_trans (by decide) hlv) rfl (Nat.le_of_ble_eq_true rfl) ⟨hR.2.1, hR.2.2⟩ (fun rv n1 M1 P1 t => ⟨t.2.1, by rw [t.2.1]; rfl⟩) (fun rv n1 P1 Q1 t => ?_)
  rw [t.1, t.2.1, t.2.2.1, t.2.2.2]
  show AS K 113 M2 593 (ll i) [.int v, .int v]
  exact aw_icmp_eq (A := some ()) (B := none) (r := ()) C 1203 (tb_at ok_L13 14 rfl) (by decide) (if_pos rfl) (fun _ => nxt M2 h2) (fun h => by cases h)
theorem lb_14 {K : Cx} (C : Ctx K RL code) (hR : Rm K 113) (hlv : 2000 ≤ (kR K).frames) {i : Int32} (hg : ∀ j, j < 6 → ib (i + nI j) (wL (kw K))) {M : Mem} (hM : Rel M) (nxt : ∀ N, Rel N → AS K 113 N 1203 (ll i) []) : AS K 113 M 598 (ll i) [] := by
  obtain ⟨v, M1, M2, e1, e2, h2⟩ := op_morning (wS (kw K) (ix (i + 1))) (wS (kw K) (ix (i + 2))) M hM
  refine aw_aload_n C (tb_at ok_L14 0 rfl) rfl ?_
  refine l_arg C ok_L14 1 1 (w := 1) rfl ki_1 (hg 1 (by decide)) ?_
  refine l_arg C ok_L14 6 2 (w := 2) rfl ki_2 (hg 2 (by decide)) ?_
  refine aw_cV (as := [.int (wS (kw K) (ix (i + 1))), .int (wS (kw K) (ix (i + 2)))]) (rest := []) C hR (tb_at ok_L14 11 rfl) (m_fN_morning (by decide) e1) mf_X7_morning (ob_0 (by decide)) rfl rfl cw_RL_73 rfl (Nat.le_trans (by decide) hlv) rfl (Nat.le_of_ble_eq_true rfl) ⟨hR.2.1, hR.2.2⟩ (fun rv n1 M1 P1 t => ⟨t.2.1, by rw [t.2.1]; rfl⟩) (fun rv n1 P1 Q1 t => ?_)
  rw [t.1, t.2.1, t.2.2.1, t.2.2.2]
  show AS K 113 M1 612 (ll i) [.int v]
  refine aw_aload_n C (tb_at ok_L14 12 rfl) rfl ?_
  refine l_arg C ok_L14 13 1 (w := 1) rfl ki_1 (hg 1 (by decide)) ?_
  refine l_arg C ok_L14 18 2 (w := 2) rfl ki_2 (hg 2 (by decide)) ?_
  refine aw_cV (as := [.int (wS (kw K) (ix (i + 1))), .int (wS (kw K) (ix (i + 2)))]) (rest := [.int v]) C hR (tb_at ok_L14 23 rfl) (m_fM_morning (by decide) e2) mf_X8_morning (ob_85 (by decide)) rfl rfl cw_RL_76 rfl (Nat.le_trans (by decide) hlv) rfl (Nat.le_of_ble_eq_true rfl) ⟨hR.2.1, hR.2.2⟩ (fun rv n1 M1 P1 t => ⟨t.2.1, by rw [t.2.1]; rfl⟩) (fun rv n1 P1 Q1 t => ?_)
  rw [t.1, t.2.1, t.2.2.1, t.2.2.2]
  show AS K 113 M2 626 (ll i) [.int v, .int v]
  exact aw_icmp_eq (A := some ()) (B := none) (r := ()) C 1203 (tb_at ok_L14 24 rfl) (by decide) (if_pos rfl) (fun _ => nxt M2 h2) (fun h => by cases h)
theorem lb_15 {K : Cx} (C : Ctx K RL code) (hR : Rm K 113) (hlv : 2000 ≤ (kR K).frames) {i : Int32} (hg : ∀ j, j < 6 → ib (i + nI j) (wL (kw K))) {M : Mem} (hM : Rel M) (nxt : ∀ N, Rel N → AS K 113 N 1203 (ll i) []) : AS K 113 M 631 (ll i) [] := by
  obtain ⟨v, M1, M2, e1, e2, h2⟩ := op_best (wS (kw K) (ix (i + 1))) (wS (kw K) (ix (i + 2))) M hM
  refine aw_aload_n C (tb_at ok_L15 0 rfl) rfl ?_
  refine l_arg C ok_L15 1 1 (w := 1) rfl ki_1 (hg 1 (by decide)) ?_
  refine l_arg C ok_L15 6 2 (w := 2) rfl ki_2 (hg 2 (by decide)) ?_
  refine aw_cV (as := [.int (wS (kw K) (ix (i + 1))), .int (wS (kw K) (ix (i + 2)))]) (rest := []) C hR (tb_at ok_L15 11 rfl) (m_fN_best (by decide) e1) mf_X7_best (ob_0 (by decide)) rfl rfl cw_RL_77 rfl (Nat.le_trans (by decide) hlv) rfl (Nat.le_of_ble_eq_true rfl) ⟨hR.2.1, hR.2.2⟩ (fun rv n1 M1 P1 t => ⟨t.2.1, by rw [t.2.1]; rfl⟩) (fun rv n1 P1 Q1 t => ?_)
  rw [t.1, t.2.1, t.2.2.1, t.2.2.2]
  show AS K 113 M1 645 (ll i) [.int v]
  refine aw_aload_n C (tb_at ok_L15 12 rfl) rfl ?_
  refine l_arg C ok_L15 13 1 (w := 1) rfl ki_1 (hg 1 (by decide)) ?_
  refine l_arg C ok_L15 18 2 (w := 2) rfl ki_2 (hg 2 (by decide)) ?_
  refine aw_cV (as := [.int (wS (kw K) (ix (i + 1))), .int (wS (kw K) (ix (i + 2)))]) (rest := [.int v]) C hR (tb_at ok_L15 23 rfl) (m_fM_best (by decide) e2) mf_X8_best (ob_85 (by decide)) rfl rfl cw_RL_80 rfl (Nat.le_trans (by decide) hlv) rfl (Nat.le_of_ble_eq_true rfl) ⟨hR.2.1, hR.2.2⟩ (fun rv n1 M1 P1 t => ⟨t.2.1, by rw [t.2.1]; rfl⟩) (fun rv n1 P1 Q1 t => ?_)
  rw [t.1, t.2.1, t.2.2.1, t.2.2.2]
  show AS K 113 M2 659 (ll i) [.int v, .int v]
  exact aw_icmp_eq (A := some ()) (B := none) (r := ()) C 1203 (tb_at ok_L15 24 rfl) (by decide) (if_pos rfl) (fun _ => nxt M2 h2) (fun h => by cases h)
