/-! 83: the class is made -/
theorem tx_byt {i : Nat} (h : i < 36) : ((txByt.getD 0 []).getD (ix (nI i)) 0) = tx0 i := by
  rw [ix_nI (by omega)]
  have : ∀ i, i < 36 → ((txByt.getD 0 []).getD i 0) = tx0 i := by decide +kernel
  exact this i h
theorem adds {K : Cx} (C : Ctx K RX7 cX7_init) (hL : kL K = 2) (hR : Rm K 85) (hlv : 80 ≤ (kR K).frames) (kk : AS K 85 (adN 36) 185 [some (.ref 0), some (.int (nI 36))] []) : ∀ c i, i + c = 36 → AS K 85 (adN i) 156 [some (.ref 0), some (.int (nI i))] [] := by
  have len : ∀ (i : Nat), AS K 85 (adN i) 162 [some (.ref 0), some (.int (nI i))] [.int 36, .int (nI i)] → AS K 85 (adN i) 156 [some (.ref 0), some (.int (nI i))] [] := by
    intro i k
    refine aw_iload_n C (tb_at ok_X7_init 79 rfl) rfl ?_
    refine sw_ldcS0 C (tb_at ok_X7_init 80 rfl) ?_
    refine aw_cVs C hR [] [.int (nI i)] (show 0 < 2 by decide) (tb_at ok_X7_init 81 rfl) (m_len (by decide)) mf_len rfl cws_RX7_66 rfl (by omega) rfl (Nat.le_of_ble_eq_true rfl) Tk0 (fun rv n1 M1 P1 t => ?_)
    obtain ⟨rfl, rfl, rfl, rfl⟩ := t
    exact k
  intro c
  induction c with
  | zero =>
    intro i hi
    have : i = 36 := by omega
    subst this
    refine len 36 ?_
    exact aw_icmp_ge (A := some ()) (B := none) (r := ()) C 185 (tb_at ok_X7_init 82 rfl) (by decide) (if_pos (by decide)) (fun _ => kk) (fun h => by cases h)
  | succ c ih =>
    intro i hi
    refine len i ?_
    refine aw_icmp_ge (A := none) (B := some ()) (r := ()) C 185 (tb_at ok_X7_init 82 rfl) (by decide) (if_neg (by rw [show (36 : Int32) = nI 36 from rfl, n_le (by omega) (by omega)]; omega)) (fun h => by cases h) (fun _ => ?_)
    refine aw_aload_n C (tb_at ok_X7_init 83 rfl) rfl ?_
    refine aw_getR C (ob_0 (Nat.le_refl 85)) rfl (by decide) rfl p_0_4 fl_RX7_29 (tb_at ok_X7_init 84 rfl) ?_
    refine sw_ldcS0 C (tb_at ok_X7_init 85 rfl) ?_
    refine aw_iload_n C (tb_at ok_X7_init 86 rfl) rfl ?_
    refine aw_cVs C hR [.int (nI i)] [.ref 40] (show 0 < 2 by decide) (tb_at ok_X7_init 87 rfl) (m_cha (i := 0) (x := nI i) (by decide) (show ib (nI i) 36 from ib_nI (by omega) (by omega))) mf_cha rfl cws_RX7_72 rfl (by omega) rfl (Nat.le_of_ble_eq_true rfl) Tk0 (fun rv n1 M1 P1 t => ?_)
    obtain ⟨rfl, rfl, rfl, rfl⟩ := t
    rw [tx_byt (by omega)]
    show AS K 85 (adN i) 175 [some (.ref 0), some (.int (nI i))] [.int (tx0 i), .ref 40]
    refine aw_cV (as := [.int (tx0 i)]) (rest := []) C hR (tb_at ok_X7_init 88 rfl) (m_fR_add (Nat.le_refl 85) (adN_step (by omega))) mf_X3_add (ob_40 (Nat.le_refl 85)) rfl rfl cw_RX7_76 rfl (by omega) rfl (Nat.le_of_ble_eq_true rfl) ⟨hR.2.1, hR.2.2⟩ (fun rv n1 M1 P1 t => ⟨t.2.1, by rw [t.2.1]; rfl⟩) (fun rv n1 M1 P1 t => ?_)
    obtain ⟨rfl, rfl, rfl, rfl⟩ := t
    show AS K 85 (adN (i + 1)) 178 [some (.ref 0), some (.int (nI i))] [.int 1]
    refine aw_pop C (tb_at ok_X7_init 89 rfl) rfl ?_
    refine aw_iinc C [some (.ref 0), some (.int (nI i + 1))] (tb_at ok_X7_init 90 rfl) rfl hL (by decide) ki_1 rfl ?_
    refine aw_goto C 156 (tb_at ok_X7_init 91 rfl) (by decide) ?_
    rw [nI_1]
    exact ih (i + 1) (by omega)
