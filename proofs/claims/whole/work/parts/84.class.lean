/-! 84: the class is made and has read its first text -/
theorem m_X7_init {l : Launch} {w : Wd} {Mx : Mem} (he : fR_read 59 (adN 36) = some (-1, Mx)) : CM l w yX7_init cX7_init 2 none 80 84 2017 [.ref 0] 1 Z0 N0 (fun rv n1 M1 P1 => rv = none ∧ n1 = 85 ∧ M1 = Mx ∧ P1 = PD Mx) := by
  refine cm_of (loc := [some (.ref 0), none]) mf_X7_init (by decide) (Nat.le_of_ble_eq_true rfl) rfl (fun K C rt hl hw hL hn hR hnm => ?_)
  refine t_X7_init C hL hn hR hnm (fun q _ => ⟨fun _ => rfl, fun _ => rfl⟩) (fun _ => ?_)
  refine aw_C85 ?_
  refine aw_iconst C (tb_at ok_X7_init 77 rfl) ki_0 ?_
  refine aw_istore_n C [some (.ref 0), some (.int 0)] (tb_at ok_X7_init 78 rfl) hL (by decide) rfl ?_
  have hm : 85 - kn K ≤ 84 ∧ sln 85 - sln (kn K) ≤ 2017 := by rw [hn]; exact ⟨by decide +kernel, by decide +kernel⟩
  have rm85 : Rm K 85 := ⟨by rw [hn]; decide, by rw [hR]; exact hm⟩
  have hlv : 80 ≤ (kR K).frames := by rw [hR]; exact Nat.le_refl _
  have fin : AS K 85 (adN 36) 185 [some (.ref 0), some (.int (nI 36))] [] := by
    refine aw_aload_n C (tb_at ok_X7_init 92 rfl) rfl ?_
    refine aw_getR C (ob_0 (Nat.le_refl 85)) rfl (by decide) rfl p_0_4 fl_RX7_29 (tb_at ok_X7_init 93 rfl) ?_
    refine aw_aload_n C (tb_at ok_X7_init 94 rfl) rfl ?_
    refine aw_getR C (ob_0 (Nat.le_refl 85)) rfl (by decide) rfl p_0_5 fl_RX7_35 (tb_at ok_X7_init 95 rfl) ?_
    refine aw_iconst C (tb_at ok_X7_init 96 rfl) ki_0 ?_
    refine aw_aald (A := some ()) (r := ()) (q := 59) C 4 (ob_44 (Nat.le_refl 85)) (by decide) rfl (tb_at ok_X7_init 97 rfl) (by decide) (fun _ => rfl) (fun _ => ?_)
    refine aw_cV (as := [.ref 59]) (rest := []) C rm85 (tb_at ok_X7_init 98 rfl) (m_fR_read (Nat.le_refl 85) (by unfold gOK; omega) he) mf_X3_read (ob_40 (Nat.le_refl 85)) rfl rfl cw_RX7_80 rfl (by omega) rfl (Nat.le_of_ble_eq_true rfl) ⟨rm85.2.1, rm85.2.2⟩ (fun rv n1 M1 P1 t => ⟨t.2.1, by rw [t.2.1]; rfl⟩) (fun rv n1 M1 P1 t => ?_)
    rw [t.1, t.2.1, t.2.2.1, t.2.2.2]
    show AS K 85 Mx 198 [some (.ref 0), some (.int (nI 36))] [.int (-1)]
    refine aw_pop C (tb_at ok_X7_init 99 rfl) rfl ?_
    exact aw_vret C rt hm (tb_at ok_X7_init 100 rfl) ⟨rfl, rfl, rfl, rfl⟩
  have e := adds C hL rm85 hlv fin 36 0 rfl
  rw [adN_0] at e
  exact e
