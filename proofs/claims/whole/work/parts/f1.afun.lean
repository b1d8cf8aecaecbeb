theorem mo_Tr_widen_168 {K : Nat} {G : CG} {S : CS} {x : Unit} {G' : CG} {S' : CS} (h : f_Tr_widen_168 K G S = some (x, G', S')) : CG.le G G' := by
  rw [f_Tr_widen_168] at h
  exact ly_leR h
theorem mo_Tr_widen_156 {K : Nat} {y_1 : Int32} {G : CG} {S : CS} {x : Unit} {G' : CG} {S' : CS} (h : f_Tr_widen_156 K y_1 G S = some (x, G', S')) : CG.le G G' := by
  rw [f_Tr_widen_156] at h
  obtain ⟨g_27, h⟩ := lf_gE h
  obtain ⟨G_28, eG_28, h⟩ := lf_lX h
  obtain ⟨S_28, eS_28, h⟩ := lf_lX h
  have ml_28 : CG.le G G_28 := by rw [eG_28]; exact ⟨Nat.le_add_right _ _, Nat.le_add_right _ _⟩
  exact CG.le_tr ml_28 (mo_Tr_widen_168 h)
theorem mo_Tr_widen_144 {K : Nat} {y_1 : Int32} {G : CG} {S : CS} {x : Unit} {G' : CG} {S' : CS} (h : f_Tr_widen_144 K y_1 G S = some (x, G', S')) : CG.le G G' := by
  rw [f_Tr_widen_144] at h
  obtain ⟨g_25, h⟩ := lf_gE h
  obtain ⟨G_26, eG_26, h⟩ := lf_lX h
  obtain ⟨S_26, eS_26, h⟩ := lf_lX h
  have ml_26 : CG.le G G_26 := by rw [eG_26]; exact ⟨Nat.le_add_right _ _, Nat.le_add_right _ _⟩
  exact CG.le_tr ml_26 (mo_Tr_widen_156 h)
theorem mo_Tr_widen_132 {K : Nat} {y_1 : Int32} {G : CG} {S : CS} {x : Unit} {G' : CG} {S' : CS} (h : f_Tr_widen_132 K y_1 G S = some (x, G', S')) : CG.le G G' := by
  rw [f_Tr_widen_132] at h
  obtain ⟨g_23, h⟩ := lf_gE h
  obtain ⟨G_24, eG_24, h⟩ := lf_lX h
  obtain ⟨S_24, eS_24, h⟩ := lf_lX h
  have ml_24 : CG.le G G_24 := by rw [eG_24]; exact ⟨Nat.le_add_right _ _, Nat.le_add_right _ _⟩
  exact CG.le_tr ml_24 (mo_Tr_widen_144 h)
theorem mo_Tr_widen_120 {K : Nat} {y_1 : Int32} {G : CG} {S : CS} {x : Unit} {G' : CG} {S' : CS} (h : f_Tr_widen_120 K y_1 G S = some (x, G', S')) : CG.le G G' := by
  rw [f_Tr_widen_120] at h
  obtain ⟨g_21, h⟩ := lf_gE h
  obtain ⟨G_22, eG_22, h⟩ := lf_lX h
  obtain ⟨S_22, eS_22, h⟩ := lf_lX h
  have ml_22 : CG.le G G_22 := by rw [eG_22]; exact ⟨Nat.le_add_right _ _, Nat.le_add_right _ _⟩
  exact CG.le_tr ml_22 (mo_Tr_widen_132 h)
theorem mo_Tr_widen_108 {K : Nat} {y_1 : Int32} {G : CG} {S : CS} {x : Unit} {G' : CG} {S' : CS} (h : f_Tr_widen_108 K y_1 G S = some (x, G', S')) : CG.le G G' := by
  rw [f_Tr_widen_108] at h
  obtain ⟨g_19, h⟩ := lf_gE h
  obtain ⟨G_20, eG_20, h⟩ := lf_lX h
  obtain ⟨S_20, eS_20, h⟩ := lf_lX h
  have ml_20 : CG.le G G_20 := by rw [eG_20]; exact ⟨Nat.le_add_right _ _, Nat.le_add_right _ _⟩
  exact CG.le_tr ml_20 (mo_Tr_widen_120 h)
theorem mo_Tr_widen_96 {K : Nat} {y_1 : Int32} {G : CG} {S : CS} {x : Unit} {G' : CG} {S' : CS} (h : f_Tr_widen_96 K y_1 G S = some (x, G', S')) : CG.le G G' := by
  rw [f_Tr_widen_96] at h
  obtain ⟨g_17, h⟩ := lf_gE h
  obtain ⟨G_18, eG_18, h⟩ := lf_lX h
  obtain ⟨S_18, eS_18, h⟩ := lf_lX h
  have ml_18 : CG.le G G_18 := by rw [eG_18]; exact ⟨Nat.le_add_right _ _, Nat.le_add_right _ _⟩
  exact CG.le_tr ml_18 (mo_Tr_widen_108 h)
theorem mo_Tr_widen_84 {K : Nat} {y_1 : Int32} {G : CG} {S : CS} {x : Unit} {G' : CG} {S' : CS} (h : f_Tr_widen_84 K y_1 G S = some (x, G', S')) : CG.le G G' := by
  rw [f_Tr_widen_84] at h
  obtain ⟨g_15, h⟩ := lf_gE h
  obtain ⟨G_16, eG_16, h⟩ := lf_lX h
  obtain ⟨S_16, eS_16, h⟩ := lf_lX h
  have ml_16 : CG.le G G_16 := by rw [eG_16]; exact ⟨Nat.le_add_right _ _, Nat.le_add_right _ _⟩
  exact CG.le_tr ml_16 (mo_Tr_widen_96 h)
theorem mo_Tr_widen_72 {K : Nat} {y_1 : Int32} {G : CG} {S : CS} {x : Unit} {G' : CG} {S' : CS} (h : f_Tr_widen_72 K y_1 G S = some (x, G', S')) : CG.le G G' := by
  rw [f_Tr_widen_72] at h
  obtain ⟨g_13, h⟩ := lf_gE h
  obtain ⟨G_14, eG_14, h⟩ := lf_lX h
  obtain ⟨S_14, eS_14, h⟩ := lf_lX h
  have ml_14 : CG.le G G_14 := by rw [eG_14]; exact ⟨Nat.le_add_right _ _, Nat.le_add_right _ _⟩
  exact CG.le_tr ml_14 (mo_Tr_widen_84 h)
theorem mo_Tr_widen_60 {K : Nat} {y_1 : Int32} {G : CG} {S : CS} {x : Unit} {G' : CG} {S' : CS} (h : f_Tr_widen_60 K y_1 G S = some (x, G', S')) : CG.le G G' := by
  rw [f_Tr_widen_60] at h
  obtain ⟨g_11, h⟩ := lf_gE h
  obtain ⟨G_12, eG_12, h⟩ := lf_lX h
  obtain ⟨S_12, eS_12, h⟩ := lf_lX h
  have ml_12 : CG.le G G_12 := by rw [eG_12]; exact ⟨Nat.le_add_right _ _, Nat.le_add_right _ _⟩
  exact CG.le_tr ml_12 (mo_Tr_widen_72 h)
theorem mo_Tr_widen_48 {K : Nat} {y_1 : Int32} {G : CG} {S : CS} {x : Unit} {G' : CG} {S' : CS} (h : f_Tr_widen_48 K y_1 G S = some (x, G', S')) : CG.le G G' := by
  rw [f_Tr_widen_48] at h
  obtain ⟨g_9, h⟩ := lf_gE h
  obtain ⟨G_10, eG_10, h⟩ := lf_lX h
  obtain ⟨S_10, eS_10, h⟩ := lf_lX h
  have ml_10 : CG.le G G_10 := by rw [eG_10]; exact ⟨Nat.le_add_right _ _, Nat.le_add_right _ _⟩
  exact CG.le_tr ml_10 (mo_Tr_widen_60 h)
theorem mo_Tr_widen_36 {K : Nat} {y_1 : Int32} {G : CG} {S : CS} {x : Unit} {G' : CG} {S' : CS} (h : f_Tr_widen_36 K y_1 G S = some (x, G', S')) : CG.le G G' := by
  rw [f_Tr_widen_36] at h
  obtain ⟨g_7, h⟩ := lf_gE h
  obtain ⟨G_8, eG_8, h⟩ := lf_lX h
  obtain ⟨S_8, eS_8, h⟩ := lf_lX h
  have ml_8 : CG.le G G_8 := by rw [eG_8]; exact ⟨Nat.le_add_right _ _, Nat.le_add_right _ _⟩
  exact CG.le_tr ml_8 (mo_Tr_widen_48 h)
theorem mo_Tr_widen_24 {K : Nat} {y_1 : Int32} {G : CG} {S : CS} {x : Unit} {G' : CG} {S' : CS} (h : f_Tr_widen_24 K y_1 G S = some (x, G', S')) : CG.le G G' := by
  rw [f_Tr_widen_24] at h
  obtain ⟨g_5, h⟩ := lf_gE h
  obtain ⟨G_6, eG_6, h⟩ := lf_lX h
  obtain ⟨S_6, eS_6, h⟩ := lf_lX h
  have ml_6 : CG.le G G_6 := by rw [eG_6]; exact ⟨Nat.le_add_right _ _, Nat.le_add_right _ _⟩
  exact CG.le_tr ml_6 (mo_Tr_widen_36 h)
theorem mo_Tr_widen_12 {K : Nat} {y_1 : Int32} {G : CG} {S : CS} {x : Unit} {G' : CG} {S' : CS} (h : f_Tr_widen_12 K y_1 G S = some (x, G', S')) : CG.le G G' := by
  rw [f_Tr_widen_12] at h
  obtain ⟨g_3, h⟩ := lf_gE h
  obtain ⟨G_4, eG_4, h⟩ := lf_lX h
  obtain ⟨S_4, eS_4, h⟩ := lf_lX h
  have ml_4 : CG.le G G_4 := by rw [eG_4]; exact ⟨Nat.le_add_right _ _, Nat.le_add_right _ _⟩
  exact CG.le_tr ml_4 (mo_Tr_widen_24 h)
theorem mo_Tr_widen {K : Nat} {G0 : CG} {S : CS} {p0 : Int32} {x : Unit} {G' : CG} {S' : CS} (h : f_Tr_widen K G0 S p0 = some (x, G', S')) : CG.le G0 G' := by
  rw [f_Tr_widen] at h
  obtain ⟨g_1, h⟩ := lf_gE h
  obtain ⟨G_2, eG_2, h⟩ := lf_lX h
  obtain ⟨S_2, eS_2, h⟩ := lf_lX h
  have ml_2 : CG.le G0 G_2 := by rw [eG_2]; exact ⟨Nat.le_add_right _ _, Nat.le_add_right _ _⟩
  exact CG.le_tr ml_2 (mo_Tr_widen_12 h)
theorem mo_Tr_addItem_22 {K : Nat} {y_1 : Int32} {y_2 : Int32} {G : CG} {S : CS} {x : Int32} {G' : CG} {S' : CS} (h : f_Tr_addItem_22 K y_1 y_2 G S = some (x, G', S')) : CG.le G G' := by
  rw [f_Tr_addItem_22] at h
  obtain ⟨x_3, ex_3, h⟩ := lf_lX h
  obtain ⟨S_4, eS_4, h⟩ := lf_lX h
  obtain ⟨g_5, h⟩ := lf_gE h
  obtain ⟨S_6, eS_6, h⟩ := lf_lX h
  obtain ⟨g_7, h⟩ := lf_gE h
  obtain ⟨S_8, eS_8, h⟩ := lf_lX h
  obtain ⟨g_9, h⟩ := lf_gE h
  obtain ⟨S_10, eS_10, h⟩ := lf_lX h
  obtain ⟨g_11, h⟩ := lf_gE h
  obtain ⟨S_12, eS_12, h⟩ := lf_lX h
  obtain ⟨g_13, h⟩ := lf_gE h
  obtain ⟨S_14, eS_14, h⟩ := lf_lX h
  obtain ⟨g_15, h⟩ := lf_gE h
  obtain ⟨S_16, eS_16, h⟩ := lf_lX h
  obtain ⟨g_17, h⟩ := lf_gE h
  obtain ⟨S_18, eS_18, h⟩ := lf_lX h
  obtain ⟨g_19, h⟩ := lf_gE h
  obtain ⟨S_20, eS_20, h⟩ := lf_lX h
  obtain ⟨g_21, h⟩ := lf_gE h
  obtain ⟨S_22, eS_22, h⟩ := lf_lX h
  obtain ⟨g_23, h⟩ := lf_gE h
  obtain ⟨S_24, eS_24, h⟩ := lf_lX h
  exact ly_leR h
theorem mo_Tr_addItem {K : Nat} {G0 : CG} {S : CS} {p0 : Int32} {p1 : Int32} {x : Int32} {G' : CG} {S' : CS} (h : f_Tr_addItem K G0 S p0 p1 = some (x, G', S')) : CG.le G0 G' := by
  rw [f_Tr_addItem] at h
  rcases Classical.em (S.v_Tr_count < (nI G0.l_parent)) with c_1 | c_1
  · have h := lf_t h c_1
    exact mo_Tr_addItem_22 h
  · have h := lf_f h c_1
    obtain ⟨r_2, G_2, S_2, hc_2, h⟩ := lf_nE h
    have ml_2 := mo_Tr_widen hc_2
    exact CG.le_tr ml_2 (mo_Tr_addItem_22 h)
theorem mo_Tr_startWith_23 {K : Nat} {y_1 : Int32} {z_1 : Int32} {G : CG} {S : CS} {x : Unit} {G' : CG} {S' : CS} (h : f_Tr_startWith_23 K y_1 z_1 G S = some (x, G', S')) : CG.le G G' := by
  rw [f_Tr_startWith_23] at h
  obtain ⟨S_5, hc_5, h⟩ := lf_bE h
  exact ly_leR h
theorem mo_Tr_startWith {K : Nat} {G0 : CG} {S : CS} {p0 : Int32} {x : Unit} {G' : CG} {S' : CS} (h : f_Tr_startWith K G0 S p0 = some (x, G', S')) : CG.le G0 G' := by
  rw [f_Tr_startWith] at h
  obtain ⟨S_1, eS_1, h⟩ := lf_lX h
  obtain ⟨S_2, eS_2, h⟩ := lf_lX h
  obtain ⟨S_3, eS_3, h⟩ := lf_lX h
  obtain ⟨r_4, G_4, S_4, hc_4, h⟩ := lf_nE h
  have ml_4 := mo_Tr_addItem hc_4
  exact CG.le_tr ml_4 (mo_Tr_startWith_23 h)
theorem mo_Tr_nameLast_Rdunits_78 {K : Nat} : ∀ (k : Nat) (y_2 : Int32) (y_3 : Int32) (y_4 : Int32) (y_5 : Int32) (G : CG) (S : CS) {x : Unit} {G' : CG} {S' : CS}, f_Tr_nameLast_Rdunits_78 K k y_2 y_3 y_4 y_5 G S = some (x, G', S') → CG.le G G' := by
  intro k
  induction k with
  | zero => intro y_2 y_3 y_4 y_5 G S x G' S' h; exact lf_no h
  | succ k hm_78 =>
    intro y_2 y_3 y_4 y_5 G S x G' S' h
    rw [f_Tr_nameLast_Rdunits_78] at h
    rcases Classical.em (y_2 ≤ y_5) with c_12 | c_12
    · have h := lf_t h c_12
      obtain ⟨S_13, eS_13, h⟩ := lf_lX h
      obtain ⟨g_14, h⟩ := lf_gE h
      obtain ⟨S_15, eS_15, h⟩ := lf_lX h
      exact ly_leR h
    · have h := lf_f h c_12
      obtain ⟨g_16, h⟩ := lf_gE h
      obtain ⟨g_17, h⟩ := lf_gE h
      obtain ⟨S_18, eS_18, h⟩ := lf_lX h
      obtain ⟨g_19, h⟩ := lf_gE h
      obtain ⟨r_20, hc_20, h⟩ := lf_bE h
      obtain ⟨x_21, ex_21, h⟩ := lf_lX h
      obtain ⟨x_22, ex_22, h⟩ := lf_lX h
      exact hm_78 y_2 y_3 x_21 x_22 G S_18 h
theorem mo_Tr_nameLast_Rdunits_55 {K : Nat} {y_2 : Int32} {y_3 : Int32} {G : CG} {S : CS} {x : Unit} {G' : CG} {S' : CS} (h : f_Tr_nameLast_Rdunits_55 K y_2 y_3 G S = some (x, G', S')) : CG.le G G' := by
  rw [f_Tr_nameLast_Rdunits_55] at h
  obtain ⟨g_8, h⟩ := lf_gE h
  obtain ⟨S_9, eS_9, h⟩ := lf_lX h
  obtain ⟨g_10, h⟩ := lf_gE h
  obtain ⟨S_11, eS_11, h⟩ := lf_lX h
  exact mo_Tr_nameLast_Rdunits_78 K y_2 y_3 0 0 G S_11 h
theorem mo_Tr_nameLast_Rdunits {K : Nat} {G0 : CG} {S : CS} {p1 : Int32} {x : Unit} {G' : CG} {S' : CS} (h : f_Tr_nameLast_Rdunits K G0 S p1 = some (x, G', S')) : CG.le G0 G' := by
  rw [f_Tr_nameLast_Rdunits] at h
  obtain ⟨x_1, ex_1, h⟩ := lf_lX h
  rcases Classical.em (x_1 < 0) with c_2 | c_2
  · have h := lf_t h c_2
    exact ly_leR h
  · have h := lf_f h c_2
    rcases Classical.em (p1 < 0) with c_3 | c_3
    · have h := lf_t h c_3
      exact ly_leR h
    · have h := lf_f h c_3
      rcases Classical.em (p1 ≤ 260) with c_4 | c_4
      · have h := lf_t h c_4
        rcases Classical.em ((S.v_Tr_pooled + p1) ≤ (nI G0.l_pool)) with c_5 | c_5
        · have h := lf_t h c_5
          exact mo_Tr_nameLast_Rdunits_55 h
        · have h := lf_f h c_5
          obtain ⟨g_6, h⟩ := lf_gE h
          obtain ⟨G_7, eG_7, h⟩ := lf_lX h
          obtain ⟨S_7, eS_7, h⟩ := lf_lX h
          have ml_7 : CG.le G0 G_7 := by rw [eG_7]; exact ⟨Nat.le_add_right _ _, Nat.le_add_right _ _⟩
          exact CG.le_tr ml_7 (mo_Tr_nameLast_Rdunits_55 h)
      · have h := lf_f h c_4
        exact ly_leR h
theorem mo_Rd_readEntry_62 {K : Nat} {G : CG} {S : CS} {x : Int32} {G' : CG} {S' : CS} (h : f_Rd_readEntry_62 K G S = some (x, G', S')) : CG.le G G' := by
  rw [f_Rd_readEntry_62] at h
  exact ly_leR h
theorem mo_Rd_readEntry_96 {K : Nat} {y_3 : Int32} {z_0 : Int32} {G : CG} {S : CS} {x : Int32} {G' : CG} {S' : CS} (h : f_Rd_readEntry_96 K y_3 z_0 G S = some (x, G', S')) : CG.le G G' := by
  rw [f_Rd_readEntry_96] at h
  obtain ⟨S_19, eS_19, h⟩ := lf_lX h
  rcases Classical.em (z_0 = 0) with c_20 | c_20
  · have h := lf_t h c_20
    exact ly_leR h
  · have h := lf_f h c_20
    exact ly_leR h
theorem mo_Rd_readEntry_91 {K : Nat} {y_3 : Int32} {G : CG} {S : CS} {x : Int32} {G' : CG} {S' : CS} (h : f_Rd_readEntry_91 K y_3 G S = some (x, G', S')) : CG.le G G' := by
  rw [f_Rd_readEntry_91] at h
  exact mo_Rd_readEntry_96 h
theorem mo_Rd_readEntry_181 {K : Nat} {y_2 : Int32} {y_3 : Int32} {y_7 : Int32} {y_8 : Int32} {G : CG} {S : CS} {x : Int32} {G' : CG} {S' : CS} (h : f_Rd_readEntry_181 K y_2 y_3 y_7 y_8 G S = some (x, G', S')) : CG.le G G' := by
  rw [f_Rd_readEntry_181] at h
  obtain ⟨r_22, S_22, hc_22, h⟩ := lf_cE h
  obtain ⟨S_23, hc_23, h⟩ := lf_bE h
  obtain ⟨S_24, eS_24, h⟩ := lf_lX h
  rcases Classical.em (y_7 = 0) with c_25 | c_25
  · have h := lf_t h c_25
    obtain ⟨r_26, S_26, hc_26, h⟩ := lf_cE h
    obtain ⟨r_27, S_27, hc_27, h⟩ := lf_cE h
    rcases Classical.em (r_27 = 0) with c_28 | c_28
    · have h := lf_t h c_28
      exact ly_leR h
    · have h := lf_f h c_28
      exact ly_leR h
  · have h := lf_f h c_25
    exact ly_leR h
theorem mo_Rd_readEntry_166 {K : Nat} {y_2 : Int32} {y_3 : Int32} {y_6 : Int32} {y_7 : Int32} {z_0 : Int32} {G : CG} {S : CS} {x : Int32} {G' : CG} {S' : CS} (h : f_Rd_readEntry_166 K y_2 y_3 y_6 y_7 z_0 G S = some (x, G', S')) : CG.le G G' := by
  rw [f_Rd_readEntry_166] at h
  obtain ⟨r_21, G_21, S_21, hc_21, h⟩ := lf_nE h
  have ml_21 := mo_Tr_nameLast_Rdunits hc_21
  exact CG.le_tr ml_21 (mo_Rd_readEntry_181 h)
theorem mo_Rd_readEntry_137 {K : Nat} {y_1 : Int32} {y_2 : Int32} {y_3 : Int32} {y_4 : Int32} {z_0 : Int32} {G : CG} {S : CS} {x : Int32} {G' : CG} {S' : CS} (h : f_Rd_readEntry_137 K y_1 y_2 y_3 y_4 z_0 G S = some (x, G', S')) : CG.le G G' := by
  rw [f_Rd_readEntry_137] at h
  rcases (Classical.em (z_0 = 0)).symm with c_16 | c_16
  · have h := lf_f h c_16
    obtain ⟨r_17, S_17, hc_17, h⟩ := lf_cE h
    obtain ⟨r_18, G_18, S_18, hc_18, h⟩ := lf_nE h
    have ml_18 := mo_Tr_addItem hc_18
    exact CG.le_tr ml_18 (mo_Rd_readEntry_166 h)
  · have h := lf_t h c_16
    exact ly_leR h
theorem mo_Rd_readEntry_26 {K : Nat} {y_1 : Int32} {y_2 : Int32} {y_3 : Int32} {y_4 : Int32} {z_0 : Int32} {G : CG} {S : CS} {x : Int32} {G' : CG} {S' : CS} (h : f_Rd_readEntry_26 K y_1 y_2 y_3 y_4 z_0 G S = some (x, G', S')) : CG.le G G' := by
  rw [f_Rd_readEntry_26] at h
  obtain ⟨r_3, S_3, hc_3, h⟩ := lf_cE h
  rcases Classical.em (r_3 = 0) with c_4 | c_4
  · have h := lf_t h c_4
    exact mo_Rd_readEntry_62 h
  · have h := lf_f h c_4
    obtain ⟨r_5, S_5, hc_5, h⟩ := lf_cE h
    rcases Classical.em (r_5 = 0) with c_6 | c_6
    · have h := lf_t h c_6
      exact mo_Rd_readEntry_62 h
    · have h := lf_f h c_6
      obtain ⟨r_7, S_7, hc_7, h⟩ := lf_cE h
      rcases (Classical.em (r_7 = 0)).symm with c_8 | c_8
      · have h := lf_f h c_8
        rcases Classical.em (z_0 = 0) with c_9 | c_9
        · have h := lf_t h c_9
          rcases (Classical.em (S_7.v_Rd_parts = 0)).symm with c_10 | c_10
          · have h := lf_f h c_10
            obtain ⟨r_11, S_11, hc_11, h⟩ := lf_cE h
            exact mo_Rd_readEntry_137 h
          · have h := lf_t h c_10
            obtain ⟨r_12, S_12, hc_12, h⟩ := lf_cE h
            exact mo_Rd_readEntry_137 h
        · have h := lf_f h c_9
          rcases (Classical.em (S_7.v_Rd_parts = 0)).symm with c_13 | c_13
          · have h := lf_f h c_13
            exact mo_Rd_readEntry_91 h
          · have h := lf_t h c_13
            rcases (Classical.em (y_1 = 0)).symm with c_14 | c_14
            · have h := lf_f h c_14
              exact mo_Rd_readEntry_91 h
            · have h := lf_t h c_14
              rcases Classical.em (S_7.v_Tr_label = ((-1))) with c_15 | c_15
              · have h := lf_t h c_15
                exact mo_Rd_readEntry_96 h
              · have h := lf_f h c_15
                exact mo_Rd_readEntry_91 h
      · have h := lf_t h c_8
        exact mo_Rd_readEntry_62 h
theorem mo_Rd_readEntry {K : Nat} {G0 : CG} {S : CS} {p0 : Int32} {p1 : Int32} {p2 : Int32} {x : Int32} {G' : CG} {S' : CS} (h : f_Rd_readEntry K G0 S p0 p1 p2 = some (x, G', S')) : CG.le G0 G' := by
  rw [f_Rd_readEntry] at h
  obtain ⟨r_1, S_1, hc_1, h⟩ := lf_cE h
  rcases Classical.em ((r_1 &&& 8) = 0) with c_2 | c_2
  · have h := lf_t h c_2
    exact mo_Rd_readEntry_26 h
  · have h := lf_f h c_2
    exact mo_Rd_readEntry_26 h
theorem mo_Rd_readDirectory_84 {K : Nat} {rec_27 : Int32 → Int32 → Int32 → Int32 → CG → CS → Option (Int32 × CG × CS)} (hm_27 : ∀ (y_1 : Int32) (y_2 : Int32) (y_3 : Int32) (y_4 : Int32) (G : CG) (S : CS) {x : Int32} {G1 : CG} {S1 : CS}, rec_27 y_1 y_2 y_3 y_4 G S = some (x, G1, S1) → CG.le G G1) {y_1 : Int32} {y_2 : Int32} {y_3 : Int32} {y_4 : Int32} {z_1 : Int32} {z_2 : Int32} {G : CG} {S : CS} {x : Int32} {G' : CG} {S' : CS} (h : f_Rd_readDirectory_84 K rec_27 y_1 y_2 y_3 y_4 z_1 z_2 G S = some (x, G', S')) : CG.le G G' := by
  rw [f_Rd_readDirectory_84] at h
  obtain ⟨g_16, h⟩ := lf_gE h
  obtain ⟨S_17, eS_17, h⟩ := lf_lX h
  obtain ⟨x_18, ex_18, h⟩ := lf_lX h
  exact hm_27 y_1 y_2 y_3 x_18 G S_17 h
theorem mo_Rd_readDirectory_274 {K : Nat} {rec_118 : Int32 → Int32 → Int32 → CG → CS → Option (Int32 × CG × CS)} (hm_118 : ∀ (y_1 : Int32) (y_4 : Int32) (y_5 : Int32) (G : CG) (S : CS) {x : Int32} {G1 : CG} {S1 : CS}, rec_118 y_1 y_4 y_5 G S = some (x, G1, S1) → CG.le G G1) {y_1 : Int32} {y_4 : Int32} {y_5 : Int32} {y_7 : Int32} {G : CG} {S : CS} {x : Int32} {G' : CG} {S' : CS} (h : f_Rd_readDirectory_274 K rec_118 y_1 y_4 y_5 y_7 G S = some (x, G', S')) : CG.le G G' := by
  rw [f_Rd_readDirectory_274] at h
  rcases Classical.em (y_7 = 0) with c_39 | c_39
  · have h := lf_t h c_39
    obtain ⟨x_40, ex_40, h⟩ := lf_lX h
    exact hm_118 y_1 y_4 x_40 G S h
  · have h := lf_f h c_39
    exact ly_leR h
theorem mo_Rd_readDirectory_187 {K : Nat} {rec_118 : Int32 → Int32 → Int32 → CG → CS → Option (Int32 × CG × CS)} (hm_118 : ∀ (y_1 : Int32) (y_4 : Int32) (y_5 : Int32) (G : CG) (S : CS) {x : Int32} {G1 : CG} {S1 : CS}, rec_118 y_1 y_4 y_5 G S = some (x, G1, S1) → CG.le G G1) {y_1 : Int32} {y_4 : Int32} {y_5 : Int32} {z_0 : Int32} {G : CG} {S : CS} {x : Int32} {G' : CG} {S' : CS} (h : f_Rd_readDirectory_187 K rec_118 y_1 y_4 y_5 z_0 G S = some (x, G', S')) : CG.le G G' := by
  rw [f_Rd_readDirectory_187] at h
  exact mo_Rd_readDirectory_274 hm_118 h
theorem mo_Rd_readDirectory_219 {K : Nat} {rec_118 : Int32 → Int32 → Int32 → CG → CS → Option (Int32 × CG × CS)} (hm_118 : ∀ (y_1 : Int32) (y_4 : Int32) (y_5 : Int32) (G : CG) (S : CS) {x : Int32} {G1 : CG} {S1 : CS}, rec_118 y_1 y_4 y_5 G S = some (x, G1, S1) → CG.le G G1) {y_1 : Int32} {y_4 : Int32} {y_5 : Int32} {z_0 : Int32} {G : CG} {S : CS} {x : Int32} {G' : CG} {S' : CS} (h : f_Rd_readDirectory_219 K rec_118 y_1 y_4 y_5 z_0 G S = some (x, G', S')) : CG.le G G' := by
  rw [f_Rd_readDirectory_219] at h
  exact mo_Rd_readDirectory_274 hm_118 h
theorem mo_Rd_readDirectory_258 {K : Nat} {rec_118 : Int32 → Int32 → Int32 → CG → CS → Option (Int32 × CG × CS)} (hm_118 : ∀ (y_1 : Int32) (y_4 : Int32) (y_5 : Int32) (G : CG) (S : CS) {x : Int32} {G1 : CG} {S1 : CS}, rec_118 y_1 y_4 y_5 G S = some (x, G1, S1) → CG.le G G1) {y_1 : Int32} {y_4 : Int32} {y_5 : Int32} {z_0 : Int32} {G : CG} {S : CS} {x : Int32} {G' : CG} {S' : CS} (h : f_Rd_readDirectory_258 K rec_118 y_1 y_4 y_5 z_0 G S = some (x, G', S')) : CG.le G G' := by
  rw [f_Rd_readDirectory_258] at h
  exact mo_Rd_readDirectory_274 hm_118 h
theorem mo_Rd_readDirectory_272 {K : Nat} {rec_118 : Int32 → Int32 → Int32 → CG → CS → Option (Int32 × CG × CS)} (hm_118 : ∀ (y_1 : Int32) (y_4 : Int32) (y_5 : Int32) (G : CG) (S : CS) {x : Int32} {G1 : CG} {S1 : CS}, rec_118 y_1 y_4 y_5 G S = some (x, G1, S1) → CG.le G G1) {y_1 : Int32} {y_4 : Int32} {y_5 : Int32} {z_0 : Int32} {G : CG} {S : CS} {x : Int32} {G' : CG} {S' : CS} (h : f_Rd_readDirectory_272 K rec_118 y_1 y_4 y_5 z_0 G S = some (x, G', S')) : CG.le G G' := by
  rw [f_Rd_readDirectory_272] at h
  exact mo_Rd_readDirectory_274 hm_118 h
theorem mo_Rd_readDirectory_192 {K : Nat} {rec_118 : Int32 → Int32 → Int32 → CG → CS → Option (Int32 × CG × CS)} (hm_118 : ∀ (y_1 : Int32) (y_4 : Int32) (y_5 : Int32) (G : CG) (S : CS) {x : Int32} {G1 : CG} {S1 : CS}, rec_118 y_1 y_4 y_5 G S = some (x, G1, S1) → CG.le G G1) {y_1 : Int32} {y_4 : Int32} {y_5 : Int32} {y_6 : Int32} {G : CG} {S : CS} {x : Int32} {G' : CG} {S' : CS} (h : f_Rd_readDirectory_192 K rec_118 y_1 y_4 y_5 y_6 G S = some (x, G', S')) : CG.le G G' := by
  rw [f_Rd_readDirectory_192] at h
  obtain ⟨r_31, S_31, hc_31, h⟩ := lf_cE h
  rcases (Classical.em (r_31 = 229)).symm with c_32 | c_32
  · have h := lf_f h c_32
    obtain ⟨r_33, S_33, hc_33, h⟩ := lf_cE h
    rcases (Classical.em ((r_33 &&& 63) = 15)).symm with c_34 | c_34
    · have h := lf_f h c_34
      obtain ⟨r_35, G_35, S_35, hc_35, h⟩ := lf_nE h
      have ml_35 := mo_Rd_readEntry hc_35
      exact CG.le_tr ml_35 (mo_Rd_readDirectory_272 hm_118 h)
    · have h := lf_t h c_34
      obtain ⟨r_36, S_36, hc_36, h⟩ := lf_cE h
      rcases Classical.em (r_36 = 0) with c_37 | c_37
      · have h := lf_t h c_37
        exact mo_Rd_readDirectory_258 hm_118 h
      · have h := lf_f h c_37
        exact mo_Rd_readDirectory_258 hm_118 h
  · have h := lf_t h c_32
    rcases (Classical.em (S_31.v_Rd_parts = 0)).symm with c_38 | c_38
    · have h := lf_f h c_38
      exact mo_Rd_readDirectory_219 hm_118 h
    · have h := lf_t h c_38
      exact mo_Rd_readDirectory_219 hm_118 h
theorem mo_Rd_readDirectory_313 {K : Nat} {G : CG} {S : CS} {x : Int32} {G' : CG} {S' : CS} (h : f_Rd_readDirectory_313 K G S = some (x, G', S')) : CG.le G G' := by
  rw [f_Rd_readDirectory_313] at h
  exact ly_leR h
theorem mo_Rd_readDirectory_317 {K : Nat} {G : CG} {S : CS} {x : Int32} {G' : CG} {S' : CS} (h : f_Rd_readDirectory_317 K G S = some (x, G', S')) : CG.le G G' := by
  rw [f_Rd_readDirectory_317] at h
  exact ly_leR h
theorem mo_Rd_readDirectory_288 {K : Nat} {y_1 : Int32} {y_5 : Int32} {G : CG} {S : CS} {x : Int32} {G' : CG} {S' : CS} (h : f_Rd_readDirectory_288 K y_1 y_5 G S = some (x, G', S')) : CG.le G G' := by
  rw [f_Rd_readDirectory_288] at h
  obtain ⟨S_27, hc_27, h⟩ := lf_bE h
  rcases (Classical.em (S_27.v_Rd_parts = 0)).symm with c_28 | c_28
  · have h := lf_f h c_28
    exact mo_Rd_readDirectory_313 h
  · have h := lf_t h c_28
    rcases Classical.em (y_1 = 0) with c_29 | c_29
    · have h := lf_t h c_29
      exact mo_Rd_readDirectory_317 h
    · have h := lf_f h c_29
      rcases Classical.em (2 ≤ y_5) with c_30 | c_30
      · have h := lf_t h c_30
        exact mo_Rd_readDirectory_317 h
      · have h := lf_f h c_30
        exact mo_Rd_readDirectory_313 h
theorem mo_Rd_readDirectory_118 {K : Nat} : ∀ (k : Nat) (y_1 : Int32) (y_4 : Int32) (y_5 : Int32) (G : CG) (S : CS) {x : Int32} {G' : CG} {S' : CS}, f_Rd_readDirectory_118 K k y_1 y_4 y_5 G S = some (x, G', S') → CG.le G G' := by
  intro k
  induction k with
  | zero => intro y_1 y_4 y_5 G S x G' S' h; exact lf_no h
  | succ k hm_118 =>
    intro y_1 y_4 y_5 G S x G' S' h
    rw [f_Rd_readDirectory_118] at h
    rcases Classical.em (y_4 ≤ y_5) with c_19 | c_19
    · have h := lf_t h c_19
      exact mo_Rd_readDirectory_288 h
    · have h := lf_f h c_19
      obtain ⟨r_20, S_20, hc_20, h⟩ := lf_cE h
      obtain ⟨r_21, S_21, hc_21, h⟩ := lf_cE h
      rcases (Classical.em (r_21 = 0)).symm with c_22 | c_22
      · have h := lf_f h c_22
        rcases Classical.em (y_1 = 0) with c_23 | c_23
        · have h := lf_t h c_23
          exact mo_Rd_readDirectory_192 hm_118 h
        · have h := lf_f h c_23
          rcases Classical.em (2 ≤ y_5) with c_24 | c_24
          · have h := lf_t h c_24
            exact mo_Rd_readDirectory_192 hm_118 h
          · have h := lf_f h c_24
            obtain ⟨r_25, S_25, hc_25, h⟩ := lf_cE h
            rcases Classical.em (r_25 = 0) with c_26 | c_26
            · have h := lf_t h c_26
              exact mo_Rd_readDirectory_187 hm_118 h
            · have h := lf_f h c_26
              exact mo_Rd_readDirectory_187 hm_118 h
      · have h := lf_t h c_22
        exact mo_Rd_readDirectory_288 h
theorem mo_Rd_readDirectory_91 {K : Nat} {y_1 : Int32} {y_3 : Int32} {G : CG} {S : CS} {x : Int32} {G' : CG} {S' : CS} (h : f_Rd_readDirectory_91 K y_1 y_3 G S = some (x, G', S')) : CG.le G G' := by
  rw [f_Rd_readDirectory_91] at h
  obtain ⟨S_12, hc_12, h⟩ := lf_bE h
  obtain ⟨S_13, eS_13, h⟩ := lf_lX h
  obtain ⟨r_14, S_14, hc_14, h⟩ := lf_cE h
  obtain ⟨x_15, ex_15, h⟩ := lf_lX h
  exact mo_Rd_readDirectory_118 K y_1 x_15 0 G S_14 h
theorem mo_Rd_readDirectory_27 {K : Nat} : ∀ (k : Nat) (y_1 : Int32) (y_2 : Int32) (y_3 : Int32) (y_4 : Int32) (G : CG) (S : CS) {x : Int32} {G' : CG} {S' : CS}, f_Rd_readDirectory_27 K k y_1 y_2 y_3 y_4 G S = some (x, G', S') → CG.le G G' := by
  intro k
  induction k with
  | zero => intro y_1 y_2 y_3 y_4 G S x G' S' h; exact lf_no h
  | succ k hm_27 =>
    intro y_1 y_2 y_3 y_4 G S x G' S' h
    rw [f_Rd_readDirectory_27] at h
    rcases Classical.em (y_2 = 0) with c_4 | c_4
    · have h := lf_t h c_4
      exact mo_Rd_readDirectory_91 h
    · have h := lf_f h c_4
      rcases Classical.em (y_3 ≤ y_4) with c_5 | c_5
      · have h := lf_t h c_5
        exact mo_Rd_readDirectory_91 h
      · have h := lf_f h c_5
        obtain ⟨g_6, h⟩ := lf_gE h
        obtain ⟨r_7, S_7, hc_7, h⟩ := lf_cE h
        rcases (Classical.em (r_7 = 0)).symm with c_8 | c_8
        · have h := lf_f h c_8
          obtain ⟨g_9, h⟩ := lf_gE h
          obtain ⟨r_10, S_10, hc_10, h⟩ := lf_cE h
          exact mo_Rd_readDirectory_84 hm_27 h
        · have h := lf_t h c_8
          obtain ⟨g_11, h⟩ := lf_gE h
          exact mo_Rd_readDirectory_84 hm_27 h
theorem mo_Rd_readDirectory {K : Nat} {G0 : CG} {S : CS} {p0 : Int32} {p1 : Int32} {x : Int32} {G' : CG} {S' : CS} (h : f_Rd_readDirectory K G0 S p0 p1 = some (x, G', S')) : CG.le G0 G' := by
  rw [f_Rd_readDirectory] at h
  obtain ⟨r_1, S_1, hc_1, h⟩ := lf_cE h
  obtain ⟨r_2, S_2, hc_2, h⟩ := lf_cE h
  rcases (Classical.em (r_2 = ((-1)))).symm with c_3 | c_3
  · have h := lf_f h c_3
    exact mo_Rd_readDirectory_27 K p0 p1 r_2 0 G0 S_2 h
  · have h := lf_t h c_3
    exact ly_leR h
theorem mo_Rd_scan_102 {K : Nat} {rec_64 : Int32 → Int32 → CG → CS → Option (Int32 × CG × CS)} (hm_64 : ∀ (y_1 : Int32) (y_2 : Int32) (G : CG) (S : CS) {x : Int32} {G1 : CG} {S1 : CS}, rec_64 y_1 y_2 G S = some (x, G1, S1) → CG.le G G1) {y_1 : Int32} {y_2 : Int32} {z_0 : Int32} {G : CG} {S : CS} {x : Int32} {G' : CG} {S' : CS} (h : f_Rd_scan_102 K rec_64 y_1 y_2 z_0 G S = some (x, G', S')) : CG.le G G' := by
  rw [f_Rd_scan_102] at h
  rcases Classical.em (z_0 = 0) with c_17 | c_17
  · have h := lf_t h c_17
    obtain ⟨x_18, ex_18, h⟩ := lf_lX h
    exact hm_64 y_1 x_18 G S h
  · have h := lf_f h c_17
    exact ly_leR h
theorem mo_Rd_scan_98 {K : Nat} {rec_64 : Int32 → Int32 → CG → CS → Option (Int32 × CG × CS)} (hm_64 : ∀ (y_1 : Int32) (y_2 : Int32) (G : CG) (S : CS) {x : Int32} {G1 : CG} {S1 : CS}, rec_64 y_1 y_2 G S = some (x, G1, S1) → CG.le G G1) {y_1 : Int32} {y_2 : Int32} {z_0 : Int32} {G : CG} {S : CS} {x : Int32} {G' : CG} {S' : CS} (h : f_Rd_scan_98 K rec_64 y_1 y_2 z_0 G S = some (x, G', S')) : CG.le G G' := by
  rw [f_Rd_scan_98] at h
  exact mo_Rd_scan_102 hm_64 h
theorem mo_Rd_scan_115 {K : Nat} {G : CG} {S : CS} {x : Int32} {G' : CG} {S' : CS} (h : f_Rd_scan_115 K G S = some (x, G', S')) : CG.le G G' := by
  rw [f_Rd_scan_115] at h
  obtain ⟨r_15, S_15, hc_15, h⟩ := lf_cE h
  rcases Classical.em (r_15 = 0) with c_16 | c_16
  · have h := lf_t h c_16
    exact ly_leR h
  · have h := lf_f h c_16
    exact ly_leR h
theorem mo_Rd_scan_64 {K : Nat} : ∀ (k : Nat) (y_1 : Int32) (y_2 : Int32) (G : CG) (S : CS) {x : Int32} {G' : CG} {S' : CS}, f_Rd_scan_64 K k y_1 y_2 G S = some (x, G', S') → CG.le G G' := by
  intro k
  induction k with
  | zero => intro y_1 y_2 G S x G' S' h; exact lf_no h
  | succ k hm_64 =>
    intro y_1 y_2 G S x G' S' h
    rw [f_Rd_scan_64] at h
    rcases Classical.em (1000000 ≤ y_2) with c_10 | c_10
    · have h := lf_t h c_10
      exact mo_Rd_scan_115 h
    · have h := lf_f h c_10
      rcases Classical.em (S.v_Tr_count ≤ y_2) with c_11 | c_11
      · have h := lf_t h c_11
        exact mo_Rd_scan_115 h
      · have h := lf_f h c_11
        obtain ⟨r_12, S_12, hc_12, h⟩ := lf_cE h
        rcases Classical.em (r_12 = 0) with c_13 | c_13
        · have h := lf_t h c_13
          exact mo_Rd_scan_102 hm_64 h
        · have h := lf_f h c_13
          obtain ⟨r_14, G_14, S_14, hc_14, h⟩ := lf_nE h
          have ml_14 := mo_Rd_readDirectory hc_14
          exact CG.le_tr ml_14 (mo_Rd_scan_98 hm_64 h)
theorem mo_Rd_scan_62 {K : Nat} {y_1 : Int32} {G : CG} {S : CS} {x : Int32} {G' : CG} {S' : CS} (h : f_Rd_scan_62 K y_1 G S = some (x, G', S')) : CG.le G G' := by
  rw [f_Rd_scan_62] at h
  exact mo_Rd_scan_64 K y_1 0 G S h
theorem mo_Rd_scan_26 {K : Nat} : ∀ (k : Nat) (y_1 : Int32) (y_2 : Int32) (G : CG) (S : CS) {x : Int32} {G' : CG} {S' : CS}, f_Rd_scan_26 K k y_1 y_2 G S = some (x, G', S') → CG.le G G' := by
  intro k
  induction k with
  | zero => intro y_1 y_2 G S x G' S' h; exact lf_no h
  | succ k hm_26 =>
    intro y_1 y_2 G S x G' S' h
    rw [f_Rd_scan_26] at h
    rcases Classical.em ((nI (G.n / 2 + 2)) ≤ y_2) with c_5 | c_5
    · have h := lf_t h c_5
      obtain ⟨r_6, G_6, S_6, hc_6, h⟩ := lf_nE h
      have ml_6 := mo_Tr_startWith hc_6
      exact CG.le_tr ml_6 (mo_Rd_scan_62 h)
    · have h := lf_f h c_5
      obtain ⟨g_7, h⟩ := lf_gE h
      obtain ⟨S_8, eS_8, h⟩ := lf_lX h
      obtain ⟨x_9, ex_9, h⟩ := lf_lX h
      exact hm_26 y_1 x_9 G S_8 h
theorem mo_Rd_scan {K : Nat} {G0 : CG} {S : CS} {p0 : Int32} {x : Int32} {G' : CG} {S' : CS} (h : f_Rd_scan K G0 S p0 = some (x, G', S')) : CG.le G0 G' := by
  rw [f_Rd_scan] at h
  obtain ⟨r_1, S_1, hc_1, h⟩ := lf_cE h
  rcases (Classical.em (r_1 = 0)).symm with c_2 | c_2
  · have h := lf_f h c_2
    obtain ⟨r_3, S_3, hc_3, h⟩ := lf_cE h
    rcases (Classical.em (r_3 = 0)).symm with c_4 | c_4
    · have h := lf_f h c_4
      exact mo_Rd_scan_26 K p0 0 G0 S_3 h
    · have h := lf_t h c_4
      exact ly_leR h
  · have h := lf_t h c_2
    exact ly_leR h
theorem mo_Tu_turn_109 {K : Nat} {G : CG} {S : CS} {x : Int32} {G' : CG} {S' : CS} (h : f_Tu_turn_109 K G S = some (x, G', S')) : CG.le G G' := by
  rw [f_Tu_turn_109] at h
  exact ly_leR h
theorem mo_Tu_turn_85 {K : Nat} {z_0 : Int32} {G : CG} {S : CS} {x : Int32} {G' : CG} {S' : CS} (h : f_Tu_turn_85 K z_0 G S = some (x, G', S')) : CG.le G G' := by
  rw [f_Tu_turn_85] at h
  rcases (Classical.em (z_0 = 0)).symm with c_16 | c_16
  · have h := lf_f h c_16
    exact mo_Tu_turn_109 h
  · have h := lf_t h c_16
    obtain ⟨r_17, S_17, hc_17, h⟩ := lf_cE h
    rcases Classical.em (r_17 = 0) with c_18 | c_18
    · have h := lf_t h c_18
      exact mo_Tu_turn_109 h
    · have h := lf_f h c_18
      obtain ⟨S_19, hc_19, h⟩ := lf_bE h
      obtain ⟨S_20, hc_20, h⟩ := lf_bE h
      exact mo_Tu_turn_109 h
theorem mo_Tu_turn_60 {K : Nat} {G : CG} {S : CS} {x : Int32} {G' : CG} {S' : CS} (h : f_Tu_turn_60 K G S = some (x, G', S')) : CG.le G G' := by
  rw [f_Tu_turn_60] at h
  obtain ⟨r_8, S_8, hc_8, h⟩ := lf_cE h
  rcases Classical.em (r_8 = 0) with c_9 | c_9
  · have h := lf_t h c_9
    exact mo_Tu_turn_109 h
  · have h := lf_f h c_9
    obtain ⟨r_10, S_10, hc_10, h⟩ := lf_cE h
    rcases Classical.em (r_10 = 0) with c_11 | c_11
    · have h := lf_t h c_11
      exact mo_Tu_turn_109 h
    · have h := lf_f h c_11
      obtain ⟨r_12, G_12, S_12, hc_12, h⟩ := lf_nE h
      have ml_12 := mo_Rd_scan hc_12
      exact CG.le_tr ml_12 (mo_Tu_turn_85 h)
theorem mo_Tu_turn_46 {K : Nat} {z_1 : Int32} {z_2 : Int32} {G : CG} {S : CS} {x : Int32} {G' : CG} {S' : CS} (h : f_Tu_turn_46 K z_1 z_2 G S = some (x, G', S')) : CG.le G G' := by
  rw [f_Tu_turn_46] at h
  obtain ⟨r_13, S_13, hc_13, h⟩ := lf_cE h
  rcases Classical.em (r_13 = 0) with c_14 | c_14
  · have h := lf_t h c_14
    obtain ⟨S_15, hc_15, h⟩ := lf_bE h
    exact mo_Tu_turn_60 h
  · have h := lf_f h c_14
    exact ly_leR h
theorem mo_Tu_turn {K : Nat} {G0 : CG} {S : CS} {p0 : Int32} {p1 : Int32} {x : Int32} {G' : CG} {S' : CS} (h : f_Tu_turn K G0 S p0 p1 = some (x, G', S')) : CG.le G0 G' := by
  rw [f_Tu_turn] at h
  rcases (Classical.em (p0 = 1)).symm with c_1 | c_1
  · have h := lf_f h c_1
    obtain ⟨r_2, S_2, hc_2, h⟩ := lf_cE h
    rcases Classical.em (r_2 = 0) with c_3 | c_3
    · have h := lf_t h c_3
      obtain ⟨r_4, S_4, hc_4, h⟩ := lf_cE h
      rcases (Classical.em (r_4 = 0)).symm with c_5 | c_5
      · have h := lf_f h c_5
        exact mo_Tu_turn_60 h
      · have h := lf_t h c_5
        obtain ⟨r_6, G_6, S_6, hc_6, h⟩ := lf_nE h
        have ml_6 := mo_Rd_scan hc_6
        exact CG.le_tr ml_6 (mo_Tu_turn_46 h)
    · have h := lf_f h c_3
      exact ly_leR h
  · have h := lf_t h c_1
    obtain ⟨S_7, hc_7, h⟩ := lf_bE h
    exact ly_leR h
theorem mo_Vt_look_36 {K : Nat} {G : CG} {S : CS} {x : Int32} {G' : CG} {S' : CS} (h : f_Vt_look_36 K G S = some (x, G', S')) : CG.le G G' := by
  rw [f_Vt_look_36] at h
  rcases (Classical.em (S.v_Vt_lastFault = 1)).symm with c_5 | c_5
  · have h := lf_f h c_5
    exact ly_leR h
  · have h := lf_t h c_5
    exact ly_leR h
theorem mo_Vt_look_28 {K : Nat} {z_1 : Int32} {G : CG} {S : CS} {x : Int32} {G' : CG} {S' : CS} (h : f_Vt_look_28 K z_1 G S = some (x, G', S')) : CG.le G G' := by
  rw [f_Vt_look_28] at h
  obtain ⟨S_6, eS_6, h⟩ := lf_lX h
  obtain ⟨S_7, eS_7, h⟩ := lf_lX h
  exact mo_Vt_look_36 h
theorem mo_Vt_look {K : Nat} {G0 : CG} {S : CS} {x : Int32} {G' : CG} {S' : CS} (h : f_Vt_look K G0 S = some (x, G', S')) : CG.le G0 G' := by
  rw [f_Vt_look] at h
  obtain ⟨r_1, S_1, hc_1, h⟩ := lf_cE h
  rcases Classical.em (r_1 = 0) with c_2 | c_2
  · have h := lf_t h c_2
    rcases Classical.em (S_1.v_Vt_stale = 0) with c_3 | c_3
    · have h := lf_t h c_3
      exact mo_Vt_look_36 h
    · have h := lf_f h c_3
      obtain ⟨r_4, G_4, S_4, hc_4, h⟩ := lf_nE h
      have ml_4 := mo_Rd_scan hc_4
      exact CG.le_tr ml_4 (mo_Vt_look_28 h)
  · have h := lf_f h c_2
    exact ly_leR h
theorem mo_Vt_kind_4 {K : Nat} {z_0 : Int32} {G : CG} {S : CS} {x : Int32} {G' : CG} {S' : CS} (h : f_Vt_kind_4 K z_0 G S = some (x, G', S')) : CG.le G G' := by
  rw [f_Vt_kind_4] at h
  exact ly_leR h
theorem mo_Vt_kind {K : Nat} {G0 : CG} {S : CS} {x : Int32} {G' : CG} {S' : CS} (h : f_Vt_kind K G0 S = some (x, G', S')) : CG.le G0 G' := by
  rw [f_Vt_kind] at h
  obtain ⟨r_1, G_1, S_1, hc_1, h⟩ := lf_nE h
  have ml_1 := mo_Vt_look hc_1
  exact CG.le_tr ml_1 (mo_Vt_kind_4 h)
theorem mo_Vt_fault_4 {K : Nat} {z_0 : Int32} {G : CG} {S : CS} {x : Int32} {G' : CG} {S' : CS} (h : f_Vt_fault_4 K z_0 G S = some (x, G', S')) : CG.le G G' := by
  rw [f_Vt_fault_4] at h
  rcases (Classical.em (z_0 = 2)).symm with c_2 | c_2
  · have h := lf_f h c_2
    exact ly_leR h
  · have h := lf_t h c_2
    exact ly_leR h
theorem mo_Vt_fault {K : Nat} {G0 : CG} {S : CS} {x : Int32} {G' : CG} {S' : CS} (h : f_Vt_fault K G0 S = some (x, G', S')) : CG.le G0 G' := by
  rw [f_Vt_fault] at h
  obtain ⟨r_1, G_1, S_1, hc_1, h⟩ := lf_nE h
  have ml_1 := mo_Vt_look hc_1
  exact CG.le_tr ml_1 (mo_Vt_fault_4 h)
theorem mo_Vt_byteAt_60 {K : Nat} {y_1 : Int32} {y_2 : Int32} {z_0 : Int32} {G : CG} {S : CS} {x : Int32} {G' : CG} {S' : CS} (h : f_Vt_byteAt_60 K y_1 y_2 z_0 G S = some (x, G', S')) : CG.le G G' := by
  rw [f_Vt_byteAt_60] at h
  rcases Classical.em (z_0 = 0) with c_11 | c_11
  · have h := lf_t h c_11
    exact ly_leR h
  · have h := lf_f h c_11
    obtain ⟨r_12, S_12, hc_12, h⟩ := lf_cE h
    exact ly_leR h
theorem mo_Vt_byteAt_55 {K : Nat} {y_1 : Int32} {y_2 : Int32} {G : CG} {S : CS} {x : Int32} {G' : CG} {S' : CS} (h : f_Vt_byteAt_55 K y_1 y_2 G S = some (x, G', S')) : CG.le G G' := by
  rw [f_Vt_byteAt_55] at h
  exact mo_Vt_byteAt_60 h
theorem mo_Vt_byteAt_59 {K : Nat} {y_1 : Int32} {y_2 : Int32} {G : CG} {S : CS} {x : Int32} {G' : CG} {S' : CS} (h : f_Vt_byteAt_59 K y_1 y_2 G S = some (x, G', S')) : CG.le G G' := by
  rw [f_Vt_byteAt_59] at h
  exact mo_Vt_byteAt_60 h
theorem mo_Vt_byteAt_39 {K : Nat} {y_1 : Int32} {y_2 : Int32} {y_3 : Int32} {G : CG} {S : CS} {x : Int32} {G' : CG} {S' : CS} (h : f_Vt_byteAt_39 K y_1 y_2 y_3 G S = some (x, G', S')) : CG.le G G' := by
  rw [f_Vt_byteAt_39] at h
  rcases (Classical.em (y_3 = 2)).symm with c_8 | c_8
  · have h := lf_f h c_8
    exact mo_Vt_byteAt_59 h
  · have h := lf_t h c_8
    obtain ⟨r_9, S_9, hc_9, h⟩ := lf_cE h
    rcases Classical.em (r_9 = 0) with c_10 | c_10
    · have h := lf_t h c_10
      exact mo_Vt_byteAt_59 h
    · have h := lf_f h c_10
      exact mo_Vt_byteAt_55 h
theorem mo_Vt_byteAt_18 {K : Nat} {y_1 : Int32} {y_2 : Int32} {z_0 : Int32} {G : CG} {S : CS} {x : Int32} {G' : CG} {S' : CS} (h : f_Vt_byteAt_18 K y_1 y_2 z_0 G S = some (x, G', S')) : CG.le G G' := by
  rw [f_Vt_byteAt_18] at h
  rcases Classical.em (z_0 = 0) with c_4 | c_4
  · have h := lf_t h c_4
    exact mo_Vt_byteAt_55 h
  · have h := lf_f h c_4
    rcases (Classical.em (z_0 = 1)).symm with c_5 | c_5
    · have h := lf_f h c_5
      exact mo_Vt_byteAt_39 h
    · have h := lf_t h c_5
      obtain ⟨r_6, S_6, hc_6, h⟩ := lf_cE h
      rcases (Classical.em (r_6 = 0)).symm with c_7 | c_7
      · have h := lf_f h c_7
        exact mo_Vt_byteAt_55 h
      · have h := lf_t h c_7
        exact mo_Vt_byteAt_39 h
theorem mo_Vt_byteAt {K : Nat} {G0 : CG} {S : CS} {p0 : Int32} {p1 : Int32} {x : Int32} {G' : CG} {S' : CS} (h : f_Vt_byteAt K G0 S p0 p1 = some (x, G', S')) : CG.le G0 G' := by
  rw [f_Vt_byteAt] at h
  obtain ⟨r_1, S_1, hc_1, h⟩ := lf_cE h
  rcases (Classical.em (r_1 = 0)).symm with c_2 | c_2
  · have h := lf_f h c_2
    obtain ⟨r_3, G_3, S_3, hc_3, h⟩ := lf_nE h
    have ml_3 := mo_Vt_look hc_3
    exact CG.le_tr ml_3 (mo_Vt_byteAt_18 h)
  · have h := lf_t h c_2
    exact ly_leR h
theorem mo_Vt_plan_18 {K : Nat} {G : CG} {S : CS} {x : Int32} {G' : CG} {S' : CS} (h : f_Vt_plan_18 K G S = some (x, G', S')) : CG.le G G' := by
  rw [f_Vt_plan_18] at h
  exact ly_leR h
theorem mo_Vt_plan_14 {K : Nat} {y_1 : Int32} {y_2 : Int32} {z_0 : Int32} {G : CG} {S : CS} {x : Int32} {G' : CG} {S' : CS} (h : f_Vt_plan_14 K y_1 y_2 z_0 G S = some (x, G', S')) : CG.le G G' := by
  rw [f_Vt_plan_14] at h
  rcases Classical.em (z_0 = 1) with c_4 | c_4
  · have h := lf_t h c_4
    obtain ⟨r_5, S_5, hc_5, h⟩ := lf_cE h
    rcases (Classical.em (y_2 = 0)).symm with c_6 | c_6
    · have h := lf_f h c_6
      rcases (Classical.em (r_5 = 0)).symm with c_7 | c_7
      · have h := lf_f h c_7
        exact ly_leR h
      · have h := lf_t h c_7
        obtain ⟨r_8, S_8, hc_8, h⟩ := lf_cE h
        exact ly_leR h
    · have h := lf_t h c_6
      exact ly_leR h
  · have h := lf_f h c_4
    exact mo_Vt_plan_18 h
theorem mo_Vt_plan {K : Nat} {G0 : CG} {S : CS} {p0 : Int32} {p1 : Int32} {x : Int32} {G' : CG} {S' : CS} (h : f_Vt_plan K G0 S p0 p1 = some (x, G', S')) : CG.le G0 G' := by
  rw [f_Vt_plan] at h
  rcases Classical.em (p1 < 0) with c_1 | c_1
  · have h := lf_t h c_1
    exact mo_Vt_plan_18 h
  · have h := lf_f h c_1
    rcases Classical.em (6 < p1) with c_2 | c_2
    · have h := lf_t h c_2
      exact mo_Vt_plan_18 h
    · have h := lf_f h c_2
      obtain ⟨r_3, G_3, S_3, hc_3, h⟩ := lf_nE h
      have ml_3 := mo_Vt_look hc_3
      exact CG.le_tr ml_3 (mo_Vt_plan_14 h)
theorem mo_Vt_target_23 {K : Nat} {G : CG} {S : CS} {x : Int32} {G' : CG} {S' : CS} (h : f_Vt_target_23 K G S = some (x, G', S')) : CG.le G G' := by
  rw [f_Vt_target_23] at h
  exact ly_leR h
theorem mo_Vt_target_4 {K : Nat} {y_1 : Int32} {y_2 : Int32} {z_0 : Int32} {G : CG} {S : CS} {x : Int32} {G' : CG} {S' : CS} (h : f_Vt_target_4 K y_1 y_2 z_0 G S = some (x, G', S')) : CG.le G G' := by
  rw [f_Vt_target_4] at h
  rcases (Classical.em (z_0 = 1)).symm with c_2 | c_2
  · have h := lf_f h c_2
    exact mo_Vt_target_23 h
  · have h := lf_t h c_2
    obtain ⟨r_3, S_3, hc_3, h⟩ := lf_cE h
    rcases Classical.em (r_3 = 0) with c_4 | c_4
    · have h := lf_t h c_4
      obtain ⟨r_5, S_5, hc_5, h⟩ := lf_cE h
      rcases Classical.em (r_5 = 0) with c_6 | c_6
      · have h := lf_t h c_6
        exact ly_leR h
      · have h := lf_f h c_6
        obtain ⟨r_7, S_7, hc_7, h⟩ := lf_cE h
        exact ly_leR h
    · have h := lf_f h c_4
      exact mo_Vt_target_23 h
theorem mo_Vt_target {K : Nat} {G0 : CG} {S : CS} {p0 : Int32} {p1 : Int32} {x : Int32} {G' : CG} {S' : CS} (h : f_Vt_target K G0 S p0 p1 = some (x, G', S')) : CG.le G0 G' := by
  rw [f_Vt_target] at h
  obtain ⟨r_1, G_1, S_1, hc_1, h⟩ := lf_nE h
  have ml_1 := mo_Vt_look hc_1
  exact CG.le_tr ml_1 (mo_Vt_target_4 h)
