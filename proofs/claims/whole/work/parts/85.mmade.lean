/-! 85: the model is made (laid by wip/gen/law.py) -/
def wlY : List (Nat × Cond) := [(820, Jvm.Cond.methodLink "NeverSeenModel" (105 : Nat) ({ cls := "NeverSeenModel", name := "spell", desc := "(IIIIIIIII)V" } : Jvm.MethodName)), (822, Jvm.Cond.instanceMethod ({ cls := "NeverSeenModel", name := "spell", desc := "(IIIIIIIII)V" } : Jvm.MethodName)), (26, Jvm.Cond.selects "NeverSeenModel" ⟨"NeverSeenModel", "spell", "(IIIIIIIII)V"⟩ ⟨"NeverSeenModel", "spell", "(IIIIIIIII)V"⟩)]
theorem wlY_ok : wq wlY := (by decide +kernel : wlY.all wqb = true)
theorem cw_RX8_105 : Cond.methodLink RX8 105 yX8_spell ∈ lw_gd ∧ Cond.instanceMethod yX8_spell ∈ lw_gd ∧ Cond.selects yX8_spell.cls yX8_spell yX8_spell ∈ lw_gd := ⟨wq_at wlY_ok 0 rfl, wq_at wlY_ok 1 rfl, wq_at wlY_ok 2 rfl⟩
theorem works8 {K : Cx} (C : Ctx K RX8 cX8_init) (hL : kL K = 2) (M : Mem) (kk : AS K 113 (mdw 8 M) 246 [some (.ref 85), some (.int (nI 8))] []) : ∀ c i, i + c = 8 → AS K 113 (mdw i M) 226 [some (.ref 85), some (.int (nI i))] [] := by
  intro c
  induction c with
  | zero =>
    intro i hi
    have : i = 8 := by omega
    subst this
    refine aw_iload_n C (tb_at ok_X8_init 121 rfl) rfl ?_
    refine aw_bipush C (tb_at ok_X8_init 122 rfl) kb_8 ?_
    exact aw_icmp_ge (A := some ()) (B := none) (r := ()) C 246 (tb_at ok_X8_init 123 rfl) (by decide) (if_pos (by decide)) (fun _ => kk) (fun h => by cases h)
  | succ c ih =>
    intro i hi
    refine aw_iload_n C (tb_at ok_X8_init 121 rfl) rfl ?_
    refine aw_bipush C (tb_at ok_X8_init 122 rfl) kb_8 ?_
    refine aw_icmp_ge (A := none) (B := some ()) (r := ()) C 246 (tb_at ok_X8_init 123 rfl) (by decide) (if_neg (by rw [show (8 : Int32) = nI 8 from rfl, n_le (by omega) (by omega)]; omega)) (fun h => by cases h) (fun _ => ?_)
    refine aw_aload_n C (tb_at ok_X8_init 124 rfl) rfl ?_
    refine aw_getR C (ob_85 (Nat.le_refl 113)) rfl (by decide) rfl p_85_8 fl_RX8_26 (tb_at ok_X8_init 125 rfl) ?_
    refine aw_iload_n C (tb_at ok_X8_init 126 rfl) rfl ?_
    refine aw_bipush C (tb_at ok_X8_init 127 rfl) kb_9 ?_
    refine sw_iast (A := some ()) (r := ()) C (ob_89 (Nat.le_refl 113)) (tb_at ok_X8_init 128 rfl) (if_pos (ib_nI (by omega) (by omega))) (fun _ => ?_)
    rw [ix_nI (by omega), mdw_step]
    refine aw_iinc C [some (.ref 85), some (.int (nI i + 1))] (tb_at ok_X8_init 129 rfl) rfl hL (by decide) ki_1 rfl ?_
    refine aw_goto C 226 (tb_at ok_X8_init 130 rfl) (by decide) ?_
    rw [nI_1]
    exact ih (i + 1) (by omega)
theorem m_X8_init {l : Launch} {w : Wd} {M : Mem} (hz : ∀ k, 85 ≤ k → ∀ j, M k j = 0) : CM l w yX8_init cX8_init 2 none 2 27 1523 [.ref 85] 86 M (PR M) (fun rv n1 M1 P1 => rv = none ∧ n1 = 113 ∧ M1 = mdl M ∧ P1 = PD (mdl M)) := by
  refine cm_of (loc := [some (.ref 85), none]) mf_X8_init (by decide) (Nat.le_of_ble_eq_true rfl) rfl (fun K C rt hl hw hL hn hR hnm => ?_)
  refine t_X8_init C hL hn hR hnm (PR_Fr hz) (fun _ => ?_)
  refine aw_M113 hz ?_
  have hm : 113 - kn K ≤ 27 ∧ sln 113 - sln (kn K) ≤ 1523 := by rw [hn]; exact ⟨by decide +kernel, by decide +kernel⟩
  have hR113 : Rm K 113 := ⟨by rw [hn]; decide, by rw [hR]; exact hm⟩
  have hlv : 2 ≤ (kR K).frames := by rw [hR]; exact Nat.le_refl _
  have fin : AS K 113 (mdw 8 M) 246 [some (.ref 85), some (.int (nI 8))] [] := by
    rw [← mds_0]
    refine aw_aload_n C (tb_at ok_X8_init 131 rfl) rfl ?_
    refine aw_iconst C (tb_at ok_X8_init 132 rfl) ki_0 ?_
    refine aw_bipush C (tb_at ok_X8_init 133 rfl) kb_115 ?_
    refine aw_bipush C (tb_at ok_X8_init 134 rfl) kb_116 ?_
    refine aw_bipush C (tb_at ok_X8_init 135 rfl) kb_101 ?_
    refine aw_bipush C (tb_at ok_X8_init 136 rfl) kb_112 ?_
    refine aw_bipush C (tb_at ok_X8_init 137 rfl) kb_115 ?_
    refine aw_bipush C (tb_at ok_X8_init 138 rfl) kb_32 ?_
    refine aw_bipush C (tb_at ok_X8_init 139 rfl) kb_49 ?_
    refine aw_bipush C (tb_at ok_X8_init 140 rfl) kb_32 ?_
    have e0 : fM_spell 0 115 116 101 112 115 32 49 32 (mds 0 M) = some (mds 8 M) := spell_eq (p := 0) (by decide)
    refine aw_cV (as := [.int 0, .int 115, .int 116, .int 101, .int 112, .int 115, .int 32, .int 49, .int 32]) (rest := []) C hR113 (tb_at ok_X8_init 141 rfl) (m_fM_spell (Nat.le_refl 113) e0) mf_X8_spell (ob_85 (Nat.le_refl 113)) rfl rfl cw_RX8_105 rfl hlv rfl (Nat.le_of_ble_eq_true rfl) ⟨hR113.2.1, hR113.2.2⟩ (fun rv n1 M1 P1 t => ⟨t.2.1, by rw [t.2.1]; rfl⟩) (fun rv n1 M1 P1 t => ?_)
    rw [t.1, t.2.1, t.2.2.1, t.2.2.2]
    show AS K 113 (mds 8 M) 267 [some (.ref 85), some (.int (nI 8))] []
    refine aw_aload_n C (tb_at ok_X8_init 142 rfl) rfl ?_
    refine aw_bipush C (tb_at ok_X8_init 143 rfl) kb_8 ?_
    refine aw_bipush C (tb_at ok_X8_init 144 rfl) kb_59 ?_
    refine aw_bipush C (tb_at ok_X8_init 145 rfl) kb_32 ?_
    refine aw_bipush C (tb_at ok_X8_init 146 rfl) kb_100 ?_
    refine aw_bipush C (tb_at ok_X8_init 147 rfl) kb_111 ?_
    refine aw_bipush C (tb_at ok_X8_init 148 rfl) kb_101 ?_
    refine aw_bipush C (tb_at ok_X8_init 149 rfl) kb_115 ?_
    refine aw_bipush C (tb_at ok_X8_init 150 rfl) kb_32 ?_
    refine aw_bipush C (tb_at ok_X8_init 151 rfl) kb_49 ?_
    have e1 : fM_spell 8 59 32 100 111 101 115 32 49 (mds 8 M) = some (mds 16 M) := spell_eq (p := 8) (by decide)
    refine aw_cV (as := [.int 8, .int 59, .int 32, .int 100, .int 111, .int 101, .int 115, .int 32, .int 49]) (rest := []) C hR113 (tb_at ok_X8_init 152 rfl) (m_fM_spell (Nat.le_refl 113) e1) mf_X8_spell (ob_85 (Nat.le_refl 113)) rfl rfl cw_RX8_105 rfl hlv rfl (Nat.le_of_ble_eq_true rfl) ⟨hR113.2.1, hR113.2.2⟩ (fun rv n1 M1 P1 t => ⟨t.2.1, by rw [t.2.1]; rfl⟩) (fun rv n1 M1 P1 t => ?_)
    rw [t.1, t.2.1, t.2.2.1, t.2.2.2]
    show AS K 113 (mds 16 M) 289 [some (.ref 85), some (.int (nI 8))] []
    refine aw_aload_n C (tb_at ok_X8_init 153 rfl) rfl ?_
    refine aw_bipush C (tb_at ok_X8_init 154 rfl) kb_16 ?_
    refine aw_bipush C (tb_at ok_X8_init 155 rfl) kb_32 ?_
    refine aw_bipush C (tb_at ok_X8_init 156 rfl) kb_43 ?_
    refine aw_bipush C (tb_at ok_X8_init 157 rfl) kb_32 ?_
    refine aw_bipush C (tb_at ok_X8_init 158 rfl) kb_109 ?_
    refine aw_bipush C (tb_at ok_X8_init 159 rfl) kb_97 ?_
    refine aw_bipush C (tb_at ok_X8_init 160 rfl) kb_105 ?_
    refine aw_bipush C (tb_at ok_X8_init 161 rfl) kb_100 ?_
    refine aw_bipush C (tb_at ok_X8_init 162 rfl) kb_115 ?_
    have e2 : fM_spell 16 32 43 32 109 97 105 100 115 (mds 16 M) = some (mds 24 M) := spell_eq (p := 16) (by decide)
    refine aw_cV (as := [.int 16, .int 32, .int 43, .int 32, .int 109, .int 97, .int 105, .int 100, .int 115]) (rest := []) C hR113 (tb_at ok_X8_init 163 rfl) (m_fM_spell (Nat.le_refl 113) e2) mf_X8_spell (ob_85 (Nat.le_refl 113)) rfl rfl cw_RX8_105 rfl hlv rfl (Nat.le_of_ble_eq_true rfl) ⟨hR113.2.1, hR113.2.2⟩ (fun rv n1 M1 P1 t => ⟨t.2.1, by rw [t.2.1]; rfl⟩) (fun rv n1 M1 P1 t => ?_)
    rw [t.1, t.2.1, t.2.2.1, t.2.2.2]
    show AS K 113 (mds 24 M) 311 [some (.ref 85), some (.int (nI 8))] []
    refine aw_aload_n C (tb_at ok_X8_init 164 rfl) rfl ?_
    refine aw_bipush C (tb_at ok_X8_init 165 rfl) kb_24 ?_
    refine aw_bipush C (tb_at ok_X8_init 166 rfl) kb_32 ?_
    refine aw_bipush C (tb_at ok_X8_init 167 rfl) kb_59 ?_
    refine aw_bipush C (tb_at ok_X8_init 168 rfl) kb_32 ?_
    refine aw_bipush C (tb_at ok_X8_init 169 rfl) kb_99 ?_
    refine aw_bipush C (tb_at ok_X8_init 170 rfl) kb_111 ?_
    refine aw_bipush C (tb_at ok_X8_init 171 rfl) kb_115 ?_
    refine aw_bipush C (tb_at ok_X8_init 172 rfl) kb_116 ?_
    refine aw_bipush C (tb_at ok_X8_init 173 rfl) kb_115 ?_
    have e3 : fM_spell 24 32 59 32 99 111 115 116 115 (mds 24 M) = some (mds 32 M) := spell_eq (p := 24) (by decide)
    refine aw_cV (as := [.int 24, .int 32, .int 59, .int 32, .int 99, .int 111, .int 115, .int 116, .int 115]) (rest := []) C hR113 (tb_at ok_X8_init 174 rfl) (m_fM_spell (Nat.le_refl 113) e3) mf_X8_spell (ob_85 (Nat.le_refl 113)) rfl rfl cw_RX8_105 rfl hlv rfl (Nat.le_of_ble_eq_true rfl) ⟨hR113.2.1, hR113.2.2⟩ (fun rv n1 M1 P1 t => ⟨t.2.1, by rw [t.2.1]; rfl⟩) (fun rv n1 M1 P1 t => ?_)
    rw [t.1, t.2.1, t.2.2.1, t.2.2.2]
    show AS K 113 (mds 32 M) 333 [some (.ref 85), some (.int (nI 8))] []
    refine aw_aload_n C (tb_at ok_X8_init 175 rfl) rfl ?_
    refine aw_bipush C (tb_at ok_X8_init 176 rfl) kb_32 ?_
    refine aw_bipush C (tb_at ok_X8_init 177 rfl) kb_32 ?_
    refine aw_bipush C (tb_at ok_X8_init 178 rfl) kb_49 ?_
    refine aw_bipush C (tb_at ok_X8_init 179 rfl) kb_32 ?_
    refine aw_bipush C (tb_at ok_X8_init 180 rfl) kb_59 ?_
    refine aw_bipush C (tb_at ok_X8_init 181 rfl) kb_32 ?_
    refine aw_bipush C (tb_at ok_X8_init 182 rfl) kb_32 ?_
    refine aw_bipush C (tb_at ok_X8_init 183 rfl) kb_32 ?_
    refine aw_bipush C (tb_at ok_X8_init 184 rfl) kb_32 ?_
    have e4 : fM_spell 32 32 49 32 59 32 32 32 32 (mds 32 M) = some (mds 40 M) := spell_eq (p := 32) (by decide)
    refine aw_cV (as := [.int 32, .int 32, .int 49, .int 32, .int 59, .int 32, .int 32, .int 32, .int 32]) (rest := []) C hR113 (tb_at ok_X8_init 185 rfl) (m_fM_spell (Nat.le_refl 113) e4) mf_X8_spell (ob_85 (Nat.le_refl 113)) rfl rfl cw_RX8_105 rfl hlv rfl (Nat.le_of_ble_eq_true rfl) ⟨hR113.2.1, hR113.2.2⟩ (fun rv n1 M1 P1 t => ⟨t.2.1, by rw [t.2.1]; rfl⟩) (fun rv n1 M1 P1 t => ?_)
    rw [t.1, t.2.1, t.2.2.1, t.2.2.2]
    show AS K 113 (mds 40 M) 355 [some (.ref 85), some (.int (nI 8))] []
    refine aw_aload_n C (tb_at ok_X8_init 186 rfl) rfl ?_
    refine aw_getR C (ob_85 (Nat.le_refl 113)) rfl (by decide) rfl p_85_2 fl_RX8_17 (tb_at ok_X8_init 187 rfl) ?_
    refine aw_iconst C (tb_at ok_X8_init 188 rfl) ki_0 ?_
    refine aw_bipush C (tb_at ok_X8_init 189 rfl) kb_40 ?_
    refine sw_iast (A := some ()) (r := ()) C (ob_87 (Nat.le_refl 113)) (tb_at ok_X8_init 190 rfl) (if_pos (by decide)) (fun _ => ?_)
    refine aw_aload_n C (tb_at ok_X8_init 191 rfl) rfl ?_
    refine aw_iconst C (tb_at ok_X8_init 192 rfl) ki_1 ?_
    refine sw_put C (ob_85 (Nat.le_refl 113)) rfl (by decide) (by decide) (Or.inl (by decide)) rfl rfl rfl rfl fl_RX8_109 (tb_at ok_X8_init 193 rfl) ?_
    show AS K 113 (wr (wr (mds 40 M) 87 0 40) 85 3 1) 368 [some (.ref 85), some (.int (nI 8))] []
    rw [mdl_end]
    exact aw_vret C rt hm (tb_at ok_X8_init 194 rfl) ⟨rfl, rfl, rfl, rfl⟩
  have e := works8 C hL M fin 8 0 rfl
  rw [mdw_0] at e
  refine aw_iconst C (tb_at ok_X8_init 119 rfl) ki_0 ?_
  exact aw_istore_n C [some (.ref 85), some (.int 0)] (tb_at ok_X8_init 120 rfl) hL (by decide) rfl e
