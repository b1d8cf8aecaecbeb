theorem mo_Vt_readsInodes_23 {K : Nat} {y_1 : Int32} {G : CG} {S : CS} {x : Except Nat Int32} {G' : CG} {S' : CS} (h : f_Vt_readsInodes_23 K y_1 G S = some (x, G', S')) : CG.le G G' := by
  rw [f_Vt_readsInodes_23] at h
  rcases (Classical.em (y_1 = 2)).symm with c_3 | c_3
  · have h := lf_f h c_3
    exact ly_leR h
  · have h := lf_t h c_3
    exact ly_leR h
theorem mo_Vt_readsInodes {K : Nat} {G0 : CG} {S : CS} {p0 : Int32} {x : Except Nat Int32} {G' : CG} {S' : CS} (h : f_Vt_readsInodes K G0 S p0 = some (x, G', S')) : CG.le G0 G' := by
  rw [f_Vt_readsInodes] at h
  rcases Classical.em (p0 = 2) with c_1 | c_1
  · have h := lf_t h c_1
    exact mo_Vt_readsInodes_23 h
  · have h := lf_f h c_1
    rcases Classical.em (S.v_Vt_lastFault = 0) with c_2 | c_2
    · have h := lf_t h c_2
      exact mo_Vt_readsInodes_23 h
    · have h := lf_f h c_2
      exact ly_thr h
theorem mo_Vt_itemHere_19 {K : Nat} {G : CG} {S : CS} {x : Except Nat Int32} {G' : CG} {S' : CS} (h : f_Vt_itemHere_19 K G S = some (x, G', S')) : CG.le G G' := by
  rw [f_Vt_itemHere_19] at h
  exact ly_thr h
theorem mo_Vt_itemHere {K : Nat} {G0 : CG} {S : CS} {p0 : Int32} {x : Except Nat Int32} {G' : CG} {S' : CS} (h : f_Vt_itemHere K G0 S p0 = some (x, G', S')) : CG.le G0 G' := by
  rw [f_Vt_itemHere] at h
  rcases Classical.em (p0 < 0) with c_1 | c_1
  · have h := lf_t h c_1
    exact mo_Vt_itemHere_19 h
  · have h := lf_f h c_1
    obtain ⟨r_2, S_2, hc_2, h⟩ := lf_cE h
    rcases Classical.em (p0 < r_2) with c_3 | c_3
    · have h := lf_t h c_3
      obtain ⟨r_4, S_4, hc_4, h⟩ := lf_cE h
      exact ly_leR h
    · have h := lf_f h c_3
      exact mo_Vt_itemHere_19 h
theorem mo_Vt_entryHere_19 {K : Nat} {G : CG} {S : CS} {x : Except Nat Int32} {G' : CG} {S' : CS} (h : f_Vt_entryHere_19 K G S = some (x, G', S')) : CG.le G G' := by
  rw [f_Vt_entryHere_19] at h
  exact ly_thr h
theorem mo_Vt_entryHere {K : Nat} {G0 : CG} {S : CS} {p0 : Int32} {x : Except Nat Int32} {G' : CG} {S' : CS} (h : f_Vt_entryHere K G0 S p0 = some (x, G', S')) : CG.le G0 G' := by
  rw [f_Vt_entryHere] at h
  rcases Classical.em (p0 < 0) with c_1 | c_1
  · have h := lf_t h c_1
    exact mo_Vt_entryHere_19 h
  · have h := lf_f h c_1
    obtain ⟨r_2, S_2, hc_2, h⟩ := lf_cE h
    rcases Classical.em (p0 < r_2) with c_3 | c_3
    · have h := lf_t h c_3
      obtain ⟨r_4, S_4, hc_4, h⟩ := lf_cE h
      exact ly_leR h
    · have h := lf_f h c_3
      exact mo_Vt_entryHere_19 h
theorem mo_Vt_about_37 {K : Nat} {G : CG} {S : CS} {x : Except Nat Int64} {G' : CG} {S' : CS} (h : f_Vt_about_37 K G S = some (x, G', S')) : CG.le G G' := by
  rw [f_Vt_about_37] at h
  exact ly_thr h
theorem mo_Vt_about_26 {K : Nat} {y_2 : Int32} {y_3 : Int32} {z_0 : Int32} {G : CG} {S : CS} {x : Except Nat Int64} {G' : CG} {S' : CS} (h : f_Vt_about_26 K y_2 y_3 z_0 G S = some (x, G', S')) : CG.le G G' := by
  rw [f_Vt_about_26] at h
  rcases Classical.em (y_2 < 0) with c_6 | c_6
  · have h := lf_t h c_6
    exact mo_Vt_about_37 h
  · have h := lf_f h c_6
    rcases Classical.em (y_2 ≤ 5) with c_7 | c_7
    · have h := lf_t h c_7
      rcases Classical.em (y_3 = 0) with c_8 | c_8
      · have h := lf_t h c_8
        obtain ⟨r_9, S_9, hc_9, h⟩ := lf_cE h
        exact ly_leR h
      · have h := lf_f h c_8
        obtain ⟨r_10, S_10, hc_10, h⟩ := lf_cE h
        exact ly_leR h
    · have h := lf_f h c_7
      exact mo_Vt_about_37 h
theorem mo_Vt_about_18 {K : Nat} {y_2 : Int32} {y_3 : Int32} {z_0 : Int32} {G : CG} {S : CS} {x : Except Nat Int64} {G' : CG} {S' : CS} (h : f_Vt_about_18 K y_2 y_3 z_0 G S = some (x, G', S')) : CG.le G G' := by
  rw [f_Vt_about_18] at h
  exact mo_Vt_about_26 h
theorem mo_Vt_about_8 {K : Nat} {y_1 : Int32} {y_2 : Int32} {z_0 : Int32} {G : CG} {S : CS} {x : Except Nat Int64} {G' : CG} {S' : CS} (h : f_Vt_about_8 K y_1 y_2 z_0 G S = some (x, G', S')) : CG.le G G' := by
  rw [f_Vt_about_8] at h
  rcases Classical.em (z_0 = 0) with c_3 | c_3
  · have h := lf_t h c_3
    rcases lf_aM h with ⟨r_4, G_4, S_4, hc_4, h⟩ | ⟨k9, h9⟩
    · have ml_4 := mo_Vt_itemHere hc_4
      exact CG.le_tr ml_4 (mo_Vt_about_26 h)
    · exact mo_Vt_itemHere h9.1
  · have h := lf_f h c_3
    rcases lf_aM h with ⟨r_5, G_5, S_5, hc_5, h⟩ | ⟨k9, h9⟩
    · have ml_5 := mo_Vt_entryHere hc_5
      exact CG.le_tr ml_5 (mo_Vt_about_18 h)
    · exact mo_Vt_entryHere h9.1
theorem mo_Vt_about_5 {K : Nat} {y_1 : Int32} {y_2 : Int32} {z_1 : Int32} {G : CG} {S : CS} {x : Except Nat Int64} {G' : CG} {S' : CS} (h : f_Vt_about_5 K y_1 y_2 z_1 G S = some (x, G', S')) : CG.le G G' := by
  rw [f_Vt_about_5] at h
  rcases lf_aM h with ⟨r_2, G_2, S_2, hc_2, h⟩ | ⟨k9, h9⟩
  · have ml_2 := mo_Vt_readsInodes hc_2
    exact CG.le_tr ml_2 (mo_Vt_about_8 h)
  · exact mo_Vt_readsInodes h9.1
theorem mo_Vt_about {K : Nat} {G0 : CG} {S : CS} {p0 : Int32} {p1 : Int32} {x : Except Nat Int64} {G' : CG} {S' : CS} (h : f_Vt_about K G0 S p0 p1 = some (x, G', S')) : CG.le G0 G' := by
  rw [f_Vt_about] at h
  obtain ⟨r_1, G_1, S_1, hc_1, h⟩ := lf_nE h
  have ml_1 := mo_Vt_look hc_1
  exact CG.le_tr ml_1 (mo_Vt_about_5 h)
theorem mo_Vt_content_20 {K : Nat} {y_2 : Int32} {z_1 : Int32} {G : CG} {S : CS} {x : Except Nat Int32} {G' : CG} {S' : CS} (h : f_Vt_content_20 K y_2 z_1 G S = some (x, G', S')) : CG.le G G' := by
  rw [f_Vt_content_20] at h
  obtain ⟨r_13, S_13, hc_13, h⟩ := lf_cE h
  exact ly_leR h
theorem mo_Vt_content_58 {K : Nat} {G : CG} {S : CS} {x : Except Nat Int32} {G' : CG} {S' : CS} (h : f_Vt_content_58 K G S = some (x, G', S')) : CG.le G G' := by
  rw [f_Vt_content_58] at h
  exact ly_leR h
theorem mo_Vt_content_30 {K : Nat} {y_2 : Int32} {z_0 : Int32} {G : CG} {S : CS} {x : Except Nat Int32} {G' : CG} {S' : CS} (h : f_Vt_content_30 K y_2 z_0 G S = some (x, G', S')) : CG.le G G' := by
  rw [f_Vt_content_30] at h
  obtain ⟨r_6, S_6, hc_6, h⟩ := lf_cE h
  rcases (Classical.em (r_6 = 0)).symm with c_7 | c_7
  · have h := lf_f h c_7
    exact mo_Vt_content_58 h
  · have h := lf_t h c_7
    rcases Classical.em (y_2 < 0) with c_8 | c_8
    · have h := lf_t h c_8
      exact mo_Vt_content_58 h
    · have h := lf_f h c_8
      obtain ⟨r_9, S_9, hc_9, h⟩ := lf_cE h
      rcases Classical.em (y_2 < r_9) with c_10 | c_10
      · have h := lf_t h c_10
        obtain ⟨r_11, S_11, hc_11, h⟩ := lf_cE h
        obtain ⟨r_12, S_12, hc_12, h⟩ := lf_cE h
        exact ly_leR h
      · have h := lf_f h c_10
        exact mo_Vt_content_58 h
theorem mo_Vt_content_8 {K : Nat} {y_1 : Int32} {y_2 : Int32} {z_0 : Int32} {G : CG} {S : CS} {x : Except Nat Int32} {G' : CG} {S' : CS} (h : f_Vt_content_8 K y_1 y_2 z_0 G S = some (x, G', S')) : CG.le G G' := by
  rw [f_Vt_content_8] at h
  rcases Classical.em (z_0 = 0) with c_3 | c_3
  · have h := lf_t h c_3
    rcases lf_aM h with ⟨r_4, G_4, S_4, hc_4, h⟩ | ⟨k9, h9⟩
    · have ml_4 := mo_Vt_itemHere hc_4
      exact CG.le_tr ml_4 (mo_Vt_content_30 h)
    · exact mo_Vt_itemHere h9.1
  · have h := lf_f h c_3
    rcases lf_aM h with ⟨r_5, G_5, S_5, hc_5, h⟩ | ⟨k9, h9⟩
    · have ml_5 := mo_Vt_entryHere hc_5
      exact CG.le_tr ml_5 (mo_Vt_content_20 h)
    · exact mo_Vt_entryHere h9.1
theorem mo_Vt_content_5 {K : Nat} {y_1 : Int32} {y_2 : Int32} {z_1 : Int32} {G : CG} {S : CS} {x : Except Nat Int32} {G' : CG} {S' : CS} (h : f_Vt_content_5 K y_1 y_2 z_1 G S = some (x, G', S')) : CG.le G G' := by
  rw [f_Vt_content_5] at h
  rcases lf_aM h with ⟨r_2, G_2, S_2, hc_2, h⟩ | ⟨k9, h9⟩
  · have ml_2 := mo_Vt_readsInodes hc_2
    exact CG.le_tr ml_2 (mo_Vt_content_8 h)
  · exact mo_Vt_readsInodes h9.1
theorem mo_Vt_content {K : Nat} {G0 : CG} {S : CS} {p0 : Int32} {p1 : Int32} {x : Except Nat Int32} {G' : CG} {S' : CS} (h : f_Vt_content K G0 S p0 p1 = some (x, G', S')) : CG.le G0 G' := by
  rw [f_Vt_content] at h
  obtain ⟨r_1, G_1, S_1, hc_1, h⟩ := lf_nE h
  have ml_1 := mo_Vt_look hc_1
  exact CG.le_tr ml_1 (mo_Vt_content_5 h)
theorem mo_Vt_wantSoundTable_12 {K : Nat} {G : CG} {S : CS} {x : Except Nat Unit} {G' : CG} {S' : CS} (h : f_Vt_wantSoundTable_12 K G S = some (x, G', S')) : CG.le G G' := by
  rw [f_Vt_wantSoundTable_12] at h
  exact ly_thr h
theorem mo_Vt_wantSoundTable {K : Nat} {G0 : CG} {S : CS} {p0 : Int32} {x : Except Nat Unit} {G' : CG} {S' : CS} (h : f_Vt_wantSoundTable K G0 S p0 = some (x, G', S')) : CG.le G0 G' := by
  rw [f_Vt_wantSoundTable] at h
  rcases (Classical.em (p0 = 1)).symm with c_1 | c_1
  · have h := lf_f h c_1
    exact mo_Vt_wantSoundTable_12 h
  · have h := lf_t h c_1
    rcases Classical.em (S.v_Vt_lastFault = 0) with c_2 | c_2
    · have h := lf_t h c_2
      exact ly_leR h
    · have h := lf_f h c_2
      exact mo_Vt_wantSoundTable_12 h
theorem mo_Vt_fileHere_5 {K : Nat} {z_0 : Int32} {G : CG} {S : CS} {x : Except Nat Int32} {G' : CG} {S' : CS} (h : f_Vt_fileHere_5 K z_0 G S = some (x, G', S')) : CG.le G G' := by
  rw [f_Vt_fileHere_5] at h
  obtain ⟨r_2, S_2, hc_2, h⟩ := lf_cE h
  rcases Classical.em (r_2 = 0) with c_3 | c_3
  · have h := lf_t h c_3
    exact ly_leR h
  · have h := lf_f h c_3
    exact ly_thr h
theorem mo_Vt_fileHere {K : Nat} {G0 : CG} {S : CS} {p0 : Int32} {x : Except Nat Int32} {G' : CG} {S' : CS} (h : f_Vt_fileHere K G0 S p0 = some (x, G', S')) : CG.le G0 G' := by
  rw [f_Vt_fileHere] at h
  rcases lf_aM h with ⟨r_1, G_1, S_1, hc_1, h⟩ | ⟨k9, h9⟩
  · have ml_1 := mo_Vt_itemHere hc_1
    exact CG.le_tr ml_1 (mo_Vt_fileHere_5 h)
  · exact mo_Vt_itemHere h9.1
theorem mo_Vt_cut_30 {K : Nat} {G : CG} {S : CS} {x : Except Nat Int32} {G' : CG} {S' : CS} (h : f_Vt_cut_30 K G S = some (x, G', S')) : CG.le G G' := by
  rw [f_Vt_cut_30] at h
  exact ly_thr h
theorem mo_Vt_cut_13 {K : Nat} {y_2 : Int32} {z_0 : Int32} {G : CG} {S : CS} {x : Except Nat Int32} {G' : CG} {S' : CS} (h : f_Vt_cut_13 K y_2 z_0 G S = some (x, G', S')) : CG.le G G' := by
  rw [f_Vt_cut_13] at h
  rcases Classical.em (y_2 < 0) with c_4 | c_4
  · have h := lf_t h c_4
    exact mo_Vt_cut_30 h
  · have h := lf_f h c_4
    obtain ⟨r_5, S_5, hc_5, h⟩ := lf_cE h
    rcases Classical.em (y_2 ≤ r_5) with c_6 | c_6
    · have h := lf_t h c_6
      obtain ⟨S_7, hc_7, h⟩ := lf_bE h
      obtain ⟨r_8, S_8, hc_8, h⟩ := lf_cE h
      exact ly_leR h
    · have h := lf_f h c_6
      exact mo_Vt_cut_30 h
theorem mo_Vt_cut_8 {K : Nat} {y_1 : Int32} {y_2 : Int32} {G : CG} {S : CS} {x : Except Nat Int32} {G' : CG} {S' : CS} (h : f_Vt_cut_8 K y_1 y_2 G S = some (x, G', S')) : CG.le G G' := by
  rw [f_Vt_cut_8] at h
  rcases lf_aM h with ⟨r_3, G_3, S_3, hc_3, h⟩ | ⟨k9, h9⟩
  · have ml_3 := mo_Vt_fileHere hc_3
    exact CG.le_tr ml_3 (mo_Vt_cut_13 h)
  · exact mo_Vt_fileHere h9.1
theorem mo_Vt_cut_5 {K : Nat} {y_1 : Int32} {y_2 : Int32} {z_1 : Int32} {G : CG} {S : CS} {x : Except Nat Int32} {G' : CG} {S' : CS} (h : f_Vt_cut_5 K y_1 y_2 z_1 G S = some (x, G', S')) : CG.le G G' := by
  rw [f_Vt_cut_5] at h
  rcases lf_aM h with ⟨r_2, G_2, S_2, hc_2, h⟩ | ⟨k9, h9⟩
  · have ml_2 := mo_Vt_wantSoundTable hc_2
    exact CG.le_tr ml_2 (mo_Vt_cut_8 h)
  · exact mo_Vt_wantSoundTable h9.1
theorem mo_Vt_cut {K : Nat} {G0 : CG} {S : CS} {p0 : Int32} {p1 : Int32} {x : Except Nat Int32} {G' : CG} {S' : CS} (h : f_Vt_cut K G0 S p0 p1 = some (x, G', S')) : CG.le G0 G' := by
  rw [f_Vt_cut] at h
  obtain ⟨r_1, G_1, S_1, hc_1, h⟩ := lf_nE h
  have ml_1 := mo_Vt_look hc_1
  exact CG.le_tr ml_1 (mo_Vt_cut_5 h)
theorem mo_Vt_enter_56 {K : Nat} {G : CG} {S : CS} {x : Except Nat Int32} {G' : CG} {S' : CS} (h : f_Vt_enter_56 K G S = some (x, G', S')) : CG.le G G' := by
  rw [f_Vt_enter_56] at h
  exact ly_thr h
theorem mo_Vt_enter_83 {K : Nat} {y_2 : Int32} {z_1 : Int32} {G : CG} {S : CS} {x : Except Nat Int32} {G' : CG} {S' : CS} (h : f_Vt_enter_83 K y_2 z_1 G S = some (x, G', S')) : CG.le G G' := by
  rw [f_Vt_enter_83] at h
  obtain ⟨S_13, eS_13, h⟩ := lf_lX h
  rcases Classical.em (y_2 = 0) with c_14 | c_14
  · have h := lf_t h c_14
    obtain ⟨r_15, S_15, hc_15, h⟩ := lf_cE h
    exact ly_leR h
  · have h := lf_f h c_14
    obtain ⟨r_16, S_16, hc_16, h⟩ := lf_cE h
    exact ly_leR h
theorem mo_Vt_enter_66 {K : Nat} {y_2 : Int32} {y_3 : Int32} {G : CG} {S : CS} {x : Except Nat Int32} {G' : CG} {S' : CS} (h : f_Vt_enter_66 K y_2 y_3 G S = some (x, G', S')) : CG.le G G' := by
  rw [f_Vt_enter_66] at h
  rcases Classical.em (y_2 = 0) with c_11 | c_11
  · have h := lf_t h c_11
    exact mo_Vt_enter_83 h
  · have h := lf_f h c_11
    obtain ⟨r_12, S_12, hc_12, h⟩ := lf_cE h
    exact mo_Vt_enter_83 h
theorem mo_Vt_enter_26 {K : Nat} {y_2 : Int32} {z_0 : Int32} {G : CG} {S : CS} {x : Except Nat Int32} {G' : CG} {S' : CS} (h : f_Vt_enter_26 K y_2 z_0 G S = some (x, G', S')) : CG.le G G' := by
  rw [f_Vt_enter_26] at h
  rcases Classical.em (y_2 = 0) with c_6 | c_6
  · have h := lf_t h c_6
    obtain ⟨r_7, S_7, hc_7, h⟩ := lf_cE h
    rcases (Classical.em (r_7 = 0)).symm with c_8 | c_8
    · have h := lf_f h c_8
      exact mo_Vt_enter_66 h
    · have h := lf_t h c_8
      exact mo_Vt_enter_56 h
  · have h := lf_f h c_6
    obtain ⟨r_9, S_9, hc_9, h⟩ := lf_cE h
    rcases (Classical.em (r_9 = 0)).symm with c_10 | c_10
    · have h := lf_f h c_10
      exact mo_Vt_enter_66 h
    · have h := lf_t h c_10
      exact mo_Vt_enter_56 h
theorem mo_Vt_enter_18 {K : Nat} {y_2 : Int32} {z_0 : Int32} {G : CG} {S : CS} {x : Except Nat Int32} {G' : CG} {S' : CS} (h : f_Vt_enter_18 K y_2 z_0 G S = some (x, G', S')) : CG.le G G' := by
  rw [f_Vt_enter_18] at h
  exact mo_Vt_enter_26 h
theorem mo_Vt_enter_8 {K : Nat} {y_1 : Int32} {z_0 : Int32} {G : CG} {S : CS} {x : Except Nat Int32} {G' : CG} {S' : CS} (h : f_Vt_enter_8 K y_1 z_0 G S = some (x, G', S')) : CG.le G G' := by
  rw [f_Vt_enter_8] at h
  rcases Classical.em (z_0 = 0) with c_3 | c_3
  · have h := lf_t h c_3
    rcases lf_aM h with ⟨r_4, G_4, S_4, hc_4, h⟩ | ⟨k9, h9⟩
    · have ml_4 := mo_Vt_itemHere hc_4
      exact CG.le_tr ml_4 (mo_Vt_enter_26 h)
    · exact mo_Vt_itemHere h9.1
  · have h := lf_f h c_3
    rcases lf_aM h with ⟨r_5, G_5, S_5, hc_5, h⟩ | ⟨k9, h9⟩
    · have ml_5 := mo_Vt_entryHere hc_5
      exact CG.le_tr ml_5 (mo_Vt_enter_18 h)
    · exact mo_Vt_entryHere h9.1
theorem mo_Vt_enter_5 {K : Nat} {y_1 : Int32} {z_1 : Int32} {G : CG} {S : CS} {x : Except Nat Int32} {G' : CG} {S' : CS} (h : f_Vt_enter_5 K y_1 z_1 G S = some (x, G', S')) : CG.le G G' := by
  rw [f_Vt_enter_5] at h
  rcases lf_aM h with ⟨r_2, G_2, S_2, hc_2, h⟩ | ⟨k9, h9⟩
  · have ml_2 := mo_Vt_readsInodes hc_2
    exact CG.le_tr ml_2 (mo_Vt_enter_8 h)
  · exact mo_Vt_readsInodes h9.1
theorem mo_Vt_enter {K : Nat} {G0 : CG} {S : CS} {p0 : Int32} {x : Except Nat Int32} {G' : CG} {S' : CS} (h : f_Vt_enter K G0 S p0 = some (x, G', S')) : CG.le G0 G' := by
  rw [f_Vt_enter] at h
  obtain ⟨r_1, G_1, S_1, hc_1, h⟩ := lf_nE h
  have ml_1 := mo_Vt_look hc_1
  exact CG.le_tr ml_1 (mo_Vt_enter_5 h)
theorem mo_Vt_format_39 {K : Nat} {G : CG} {S : CS} {x : Except Nat Int32} {G' : CG} {S' : CS} (h : f_Vt_format_39 K G S = some (x, G', S')) : CG.le G G' := by
  rw [f_Vt_format_39] at h
  exact ly_thr h
theorem mo_Vt_format_115 {K : Nat} {G : CG} {S : CS} {x : Except Nat Int32} {G' : CG} {S' : CS} (h : f_Vt_format_115 K G S = some (x, G', S')) : CG.le G G' := by
  rw [f_Vt_format_115] at h
  obtain ⟨S_12, eS_12, h⟩ := lf_lX h
  obtain ⟨S_13, hc_13, h⟩ := lf_bE h
  obtain ⟨S_14, eS_14, h⟩ := lf_lX h
  exact ly_leR h
theorem mo_Vt_format {K : Nat} {G0 : CG} {S : CS} {p0 : Int32} {p1 : Int32} {p2 : Int32} {p3 : Int32} {x : Except Nat Int32} {G' : CG} {S' : CS} (h : f_Vt_format K G0 S p0 p1 p2 p3 = some (x, G', S')) : CG.le G0 G' := by
  rw [f_Vt_format] at h
  obtain ⟨r_1, S_1, hc_1, h⟩ := lf_cE h
  obtain ⟨r_2, S_2, hc_2, h⟩ := lf_cE h
  rcases Classical.em (r_2 = ((-1))) with c_3 | c_3
  · have h := lf_t h c_3
    exact mo_Vt_format_39 h
  · have h := lf_f h c_3
    obtain ⟨r_4, S_4, hc_4, h⟩ := lf_cE h
    rcases (Classical.em (r_4 = 0)).symm with c_5 | c_5
    · have h := lf_f h c_5
      obtain ⟨S_6, hc_6, h⟩ := lf_bE h
      obtain ⟨S_7, hc_7, h⟩ := lf_bE h
      obtain ⟨r_8, S_8, hc_8, h⟩ := lf_cE h
      obtain ⟨S_9, hc_9, h⟩ := lf_bE h
      rcases Classical.em (r_1 ≤ 0) with c_10 | c_10
      · have h := lf_t h c_10
        exact mo_Vt_format_115 h
      · have h := lf_f h c_10
        obtain ⟨S_11, hc_11, h⟩ := lf_bE h
        exact mo_Vt_format_115 h
    · have h := lf_t h c_5
      exact mo_Vt_format_39 h
theorem mo_Vt_lengthen {K : Nat} {G0 : CG} {S : CS} {p0 : Int32} {p1 : Int32} {x : Except Nat Int32} {G' : CG} {S' : CS} (h : f_Vt_lengthen K G0 S p0 p1 = some (x, G', S')) : CG.le G0 G' := by
  rw [f_Vt_lengthen] at h
  obtain ⟨r_1, S_1, hc_1, h⟩ := lf_cE h
  obtain ⟨r_2, S_2, hc_2, h⟩ := lf_cE h
  rcases (Classical.em (r_2 = 0)).symm with c_3 | c_3
  · have h := lf_f h c_3
    obtain ⟨S_4, hc_4, h⟩ := lf_bE h
    obtain ⟨S_5, hc_5, h⟩ := lf_bE h
    exact ly_leR h
  · have h := lf_t h c_3
    exact ly_thr h
theorem mo_Vt_grow_26 {K : Nat} {G : CG} {S : CS} {x : Except Nat Int32} {G' : CG} {S' : CS} (h : f_Vt_grow_26 K G S = some (x, G', S')) : CG.le G G' := by
  rw [f_Vt_grow_26] at h
  exact ly_thr h
theorem mo_Vt_grow_62 {K : Nat} : ∀ (k : Nat) (y_2 : Int32) (y_3 : Int32) (y_5 : Int32) (y_6 : Int32) (y_7 : Int32) (G : CG) (S : CS) {x : Except Nat Int32} {G' : CG} {S' : CS}, f_Vt_grow_62 K k y_2 y_3 y_5 y_6 y_7 G S = some (x, G', S') → CG.le G G' := by
  intro k
  induction k with
  | zero => intro y_2 y_3 y_5 y_6 y_7 G S x G' S' h; exact lf_no h
  | succ k hm_62 =>
    intro y_2 y_3 y_5 y_6 y_7 G S x G' S' h
    rw [f_Vt_grow_62] at h
    rcases Classical.em (y_2 ≤ y_7) with c_8 | c_8
    · have h := lf_t h c_8
      exact ly_leR h
    · have h := lf_f h c_8
      obtain ⟨r_9, S_9, hc_9, h⟩ := lf_cE h
      obtain ⟨S_10, hc_10, h⟩ := lf_bE h
      obtain ⟨x_11, ex_11, h⟩ := lf_lX h
      exact hm_62 y_2 y_3 y_5 r_9 x_11 G S_10 h
theorem mo_Vt_grow_44 {K : Nat} {y_2 : Int32} {y_3 : Int32} {z_0 : Int32} {G : CG} {S : CS} {x : Except Nat Int32} {G' : CG} {S' : CS} (h : f_Vt_grow_44 K y_2 y_3 z_0 G S = some (x, G', S')) : CG.le G G' := by
  rw [f_Vt_grow_44] at h
  obtain ⟨r_7, S_7, hc_7, h⟩ := lf_cE h
  exact mo_Vt_grow_62 K y_2 y_3 z_0 r_7 0 G S_7 h
theorem mo_Vt_grow_13 {K : Nat} {y_2 : Int32} {y_3 : Int32} {z_0 : Int32} {G : CG} {S : CS} {x : Except Nat Int32} {G' : CG} {S' : CS} (h : f_Vt_grow_13 K y_2 y_3 z_0 G S = some (x, G', S')) : CG.le G G' := by
  rw [f_Vt_grow_13] at h
  rcases Classical.em (y_2 < 0) with c_4 | c_4
  · have h := lf_t h c_4
    exact mo_Vt_grow_26 h
  · have h := lf_f h c_4
    rcases Classical.em (y_2 ≤ 400000) with c_5 | c_5
    · have h := lf_t h c_5
      rcases lf_aM h with ⟨r_6, G_6, S_6, hc_6, h⟩ | ⟨k9, h9⟩
      · have ml_6 := mo_Vt_lengthen hc_6
        exact CG.le_tr ml_6 (mo_Vt_grow_44 h)
      · exact mo_Vt_lengthen h9.1
    · have h := lf_f h c_5
      exact mo_Vt_grow_26 h
theorem mo_Vt_grow_8 {K : Nat} {y_1 : Int32} {y_2 : Int32} {y_3 : Int32} {G : CG} {S : CS} {x : Except Nat Int32} {G' : CG} {S' : CS} (h : f_Vt_grow_8 K y_1 y_2 y_3 G S = some (x, G', S')) : CG.le G G' := by
  rw [f_Vt_grow_8] at h
  rcases lf_aM h with ⟨r_3, G_3, S_3, hc_3, h⟩ | ⟨k9, h9⟩
  · have ml_3 := mo_Vt_fileHere hc_3
    exact CG.le_tr ml_3 (mo_Vt_grow_13 h)
  · exact mo_Vt_fileHere h9.1
theorem mo_Vt_grow_5 {K : Nat} {y_1 : Int32} {y_2 : Int32} {y_3 : Int32} {z_1 : Int32} {G : CG} {S : CS} {x : Except Nat Int32} {G' : CG} {S' : CS} (h : f_Vt_grow_5 K y_1 y_2 y_3 z_1 G S = some (x, G', S')) : CG.le G G' := by
  rw [f_Vt_grow_5] at h
  rcases lf_aM h with ⟨r_2, G_2, S_2, hc_2, h⟩ | ⟨k9, h9⟩
  · have ml_2 := mo_Vt_wantSoundTable hc_2
    exact CG.le_tr ml_2 (mo_Vt_grow_8 h)
  · exact mo_Vt_wantSoundTable h9.1
theorem mo_Vt_grow {K : Nat} {G0 : CG} {S : CS} {p0 : Int32} {p1 : Int32} {p2 : Int32} {x : Except Nat Int32} {G' : CG} {S' : CS} (h : f_Vt_grow K G0 S p0 p1 p2 = some (x, G', S')) : CG.le G0 G' := by
  rw [f_Vt_grow] at h
  obtain ⟨r_1, G_1, S_1, hc_1, h⟩ := lf_nE h
  have ml_1 := mo_Vt_look hc_1
  exact CG.le_tr ml_1 (mo_Vt_grow_5 h)
theorem mo_Vt_items_8 {K : Nat} {z_0 : Int32} {G : CG} {S : CS} {x : Except Nat Int32} {G' : CG} {S' : CS} (h : f_Vt_items_8 K z_0 G S = some (x, G', S')) : CG.le G G' := by
  rw [f_Vt_items_8] at h
  rcases Classical.em (z_0 = 0) with c_3 | c_3
  · have h := lf_t h c_3
    obtain ⟨r_4, S_4, hc_4, h⟩ := lf_cE h
    exact ly_leR h
  · have h := lf_f h c_3
    obtain ⟨r_5, S_5, hc_5, h⟩ := lf_cE h
    exact ly_leR h
theorem mo_Vt_items_5 {K : Nat} {z_1 : Int32} {G : CG} {S : CS} {x : Except Nat Int32} {G' : CG} {S' : CS} (h : f_Vt_items_5 K z_1 G S = some (x, G', S')) : CG.le G G' := by
  rw [f_Vt_items_5] at h
  rcases lf_aM h with ⟨r_2, G_2, S_2, hc_2, h⟩ | ⟨k9, h9⟩
  · have ml_2 := mo_Vt_readsInodes hc_2
    exact CG.le_tr ml_2 (mo_Vt_items_8 h)
  · exact mo_Vt_readsInodes h9.1
theorem mo_Vt_items {K : Nat} {G0 : CG} {S : CS} {x : Except Nat Int32} {G' : CG} {S' : CS} (h : f_Vt_items K G0 S = some (x, G', S')) : CG.le G0 G' := by
  rw [f_Vt_items] at h
  obtain ⟨r_1, G_1, S_1, hc_1, h⟩ := lf_nE h
  have ml_1 := mo_Vt_look hc_1
  exact CG.le_tr ml_1 (mo_Vt_items_5 h)
theorem mo_Vt_letter_20 {K : Nat} {y_2 : Int32} {z_1 : Int32} {G : CG} {S : CS} {x : Except Nat Int32} {G' : CG} {S' : CS} (h : f_Vt_letter_20 K y_2 z_1 G S = some (x, G', S')) : CG.le G G' := by
  rw [f_Vt_letter_20] at h
  obtain ⟨r_7, S_7, hc_7, h⟩ := lf_cE h
  exact ly_leR h
theorem mo_Vt_letter_34 {K : Nat} {y_2 : Int32} {z_1 : Int32} {G : CG} {S : CS} {x : Except Nat Int32} {G' : CG} {S' : CS} (h : f_Vt_letter_34 K y_2 z_1 G S = some (x, G', S')) : CG.le G G' := by
  rw [f_Vt_letter_34] at h
  obtain ⟨r_6, S_6, hc_6, h⟩ := lf_cE h
  exact ly_leR h
theorem mo_Vt_letter_8 {K : Nat} {y_1 : Int32} {y_2 : Int32} {z_0 : Int32} {G : CG} {S : CS} {x : Except Nat Int32} {G' : CG} {S' : CS} (h : f_Vt_letter_8 K y_1 y_2 z_0 G S = some (x, G', S')) : CG.le G G' := by
  rw [f_Vt_letter_8] at h
  rcases Classical.em (z_0 = 0) with c_3 | c_3
  · have h := lf_t h c_3
    rcases lf_aM h with ⟨r_4, G_4, S_4, hc_4, h⟩ | ⟨k9, h9⟩
    · have ml_4 := mo_Vt_itemHere hc_4
      exact CG.le_tr ml_4 (mo_Vt_letter_34 h)
    · exact mo_Vt_itemHere h9.1
  · have h := lf_f h c_3
    rcases lf_aM h with ⟨r_5, G_5, S_5, hc_5, h⟩ | ⟨k9, h9⟩
    · have ml_5 := mo_Vt_entryHere hc_5
      exact CG.le_tr ml_5 (mo_Vt_letter_20 h)
    · exact mo_Vt_entryHere h9.1
theorem mo_Vt_letter_5 {K : Nat} {y_1 : Int32} {y_2 : Int32} {z_1 : Int32} {G : CG} {S : CS} {x : Except Nat Int32} {G' : CG} {S' : CS} (h : f_Vt_letter_5 K y_1 y_2 z_1 G S = some (x, G', S')) : CG.le G G' := by
  rw [f_Vt_letter_5] at h
  rcases lf_aM h with ⟨r_2, G_2, S_2, hc_2, h⟩ | ⟨k9, h9⟩
  · have ml_2 := mo_Vt_readsInodes hc_2
    exact CG.le_tr ml_2 (mo_Vt_letter_8 h)
  · exact mo_Vt_readsInodes h9.1
theorem mo_Vt_letter {K : Nat} {G0 : CG} {S : CS} {p0 : Int32} {p1 : Int32} {x : Except Nat Int32} {G' : CG} {S' : CS} (h : f_Vt_letter K G0 S p0 p1 = some (x, G', S')) : CG.le G0 G' := by
  rw [f_Vt_letter] at h
  obtain ⟨r_1, G_1, S_1, hc_1, h⟩ := lf_nE h
  have ml_1 := mo_Vt_look hc_1
  exact CG.le_tr ml_1 (mo_Vt_letter_5 h)
theorem mo_Vt_make_45 {K : Nat} {G : CG} {S : CS} {x : Except Nat Int32} {G' : CG} {S' : CS} (h : f_Vt_make_45 K G S = some (x, G', S')) : CG.le G G' := by
  rw [f_Vt_make_45] at h
  exact ly_thr h
theorem mo_Vt_make_16 {K : Nat} {y_1 : Int32} {y_2 : Int32} {G : CG} {S : CS} {x : Except Nat Int32} {G' : CG} {S' : CS} (h : f_Vt_make_16 K y_1 y_2 G S = some (x, G', S')) : CG.le G G' := by
  rw [f_Vt_make_16] at h
  obtain ⟨r_4, S_4, hc_4, h⟩ := lf_cE h
  rcases Classical.em (r_4 = 0) with c_5 | c_5
  · have h := lf_t h c_5
    exact mo_Vt_make_45 h
  · have h := lf_f h c_5
    obtain ⟨r_6, S_6, hc_6, h⟩ := lf_cE h
    rcases Classical.em (r_6 = 0) with c_7 | c_7
    · have h := lf_t h c_7
      obtain ⟨r_8, S_8, hc_8, h⟩ := lf_cE h
      rcases (Classical.em (r_8 = 0)).symm with c_9 | c_9
      · have h := lf_f h c_9
        obtain ⟨S_10, hc_10, h⟩ := lf_bE h
        obtain ⟨r_11, S_11, hc_11, h⟩ := lf_cE h
        exact ly_leR h
      · have h := lf_t h c_9
        exact ly_thr h
    · have h := lf_f h c_7
      exact mo_Vt_make_45 h
theorem mo_Vt_make_13 {K : Nat} {y_1 : Int32} {y_2 : Int32} {z_1 : Int32} {G : CG} {S : CS} {x : Except Nat Int32} {G' : CG} {S' : CS} (h : f_Vt_make_13 K y_1 y_2 z_1 G S = some (x, G', S')) : CG.le G G' := by
  rw [f_Vt_make_13] at h
  rcases lf_aM h with ⟨r_3, G_3, S_3, hc_3, h⟩ | ⟨k9, h9⟩
  · have ml_3 := mo_Vt_wantSoundTable hc_3
    exact CG.le_tr ml_3 (mo_Vt_make_16 h)
  · exact mo_Vt_wantSoundTable h9.1
theorem mo_Vt_make {K : Nat} {G0 : CG} {S : CS} {p0 : Int32} {x : Except Nat Int32} {G' : CG} {S' : CS} (h : f_Vt_make K G0 S p0 = some (x, G', S')) : CG.le G0 G' := by
  rw [f_Vt_make] at h
  obtain ⟨r_1, S_1, hc_1, h⟩ := lf_cE h
  obtain ⟨r_2, G_2, S_2, hc_2, h⟩ := lf_nE h
  have ml_2 := mo_Vt_look hc_2
  exact CG.le_tr ml_2 (mo_Vt_make_13 h)
theorem mo_Vt_remove_13 {K : Nat} {z_0 : Int32} {G : CG} {S : CS} {x : Except Nat Unit} {G' : CG} {S' : CS} (h : f_Vt_remove_13 K z_0 G S = some (x, G', S')) : CG.le G G' := by
  rw [f_Vt_remove_13] at h
  obtain ⟨r_4, S_4, hc_4, h⟩ := lf_cE h
  rcases Classical.em (r_4 ≤ 0) with c_5 | c_5
  · have h := lf_t h c_5
    obtain ⟨S_6, hc_6, h⟩ := lf_bE h
    obtain ⟨S_7, hc_7, h⟩ := lf_bE h
    exact ly_leR h
  · have h := lf_f h c_5
    exact ly_thr h
theorem mo_Vt_remove_8 {K : Nat} {y_1 : Int32} {G : CG} {S : CS} {x : Except Nat Unit} {G' : CG} {S' : CS} (h : f_Vt_remove_8 K y_1 G S = some (x, G', S')) : CG.le G G' := by
  rw [f_Vt_remove_8] at h
  rcases lf_aM h with ⟨r_3, G_3, S_3, hc_3, h⟩ | ⟨k9, h9⟩
  · have ml_3 := mo_Vt_itemHere hc_3
    exact CG.le_tr ml_3 (mo_Vt_remove_13 h)
  · exact mo_Vt_itemHere h9.1
theorem mo_Vt_remove_5 {K : Nat} {y_1 : Int32} {z_1 : Int32} {G : CG} {S : CS} {x : Except Nat Unit} {G' : CG} {S' : CS} (h : f_Vt_remove_5 K y_1 z_1 G S = some (x, G', S')) : CG.le G G' := by
  rw [f_Vt_remove_5] at h
  rcases lf_aM h with ⟨r_2, G_2, S_2, hc_2, h⟩ | ⟨k9, h9⟩
  · have ml_2 := mo_Vt_wantSoundTable hc_2
    exact CG.le_tr ml_2 (mo_Vt_remove_8 h)
  · exact mo_Vt_wantSoundTable h9.1
theorem mo_Vt_remove {K : Nat} {G0 : CG} {S : CS} {p0 : Int32} {x : Except Nat Unit} {G' : CG} {S' : CS} (h : f_Vt_remove K G0 S p0 = some (x, G', S')) : CG.le G0 G' := by
  rw [f_Vt_remove] at h
  obtain ⟨r_1, G_1, S_1, hc_1, h⟩ := lf_nE h
  have ml_1 := mo_Vt_look hc_1
  exact CG.le_tr ml_1 (mo_Vt_remove_5 h)
theorem mo_Vt_run_117 {K : Nat} {rec_74 : Int32 → Int32 → Int32 → Int32 → CG → CS → Option (Except Nat Int32 × CG × CS)} (hm_74 : ∀ (y_1 : Int32) (y_3 : Int32) (y_5 : Int32) (y_6 : Int32) (G : CG) (S : CS) {x : Except Nat Int32} {G1 : CG} {S1 : CS}, rec_74 y_1 y_3 y_5 y_6 G S = some (x, G1, S1) → CG.le G G1) {y_1 : Int32} {y_3 : Int32} {y_5 : Int32} {y_6 : Int32} {z_0 : Int32} {G : CG} {S : CS} {x : Except Nat Int32} {G' : CG} {S' : CS} (h : f_Vt_run_117 K rec_74 y_1 y_3 y_5 y_6 z_0 G S = some (x, G', S')) : CG.le G G' := by
  rw [f_Vt_run_117] at h
  obtain ⟨x_17, ex_17, h⟩ := lf_lX h
  exact hm_74 y_1 y_3 y_5 x_17 G S h
theorem mo_Vt_run_142 {K : Nat} {z_0 : Int32} {G : CG} {S : CS} {x : Except Nat Int32} {G' : CG} {S' : CS} (h : f_Vt_run_142 K z_0 G S = some (x, G', S')) : CG.le G G' := by
  rw [f_Vt_run_142] at h
  obtain ⟨S_18, eS_18, h⟩ := lf_lX h
  obtain ⟨S_19, hc_19, h⟩ := lf_bE h
  obtain ⟨S_20, eS_20, h⟩ := lf_lX h
  exact ly_leR h
theorem mo_Vt_run_124 {K : Nat} {y_1 : Int32} {y_5 : Int32} {G : CG} {S : CS} {x : Except Nat Int32} {G' : CG} {S' : CS} (h : f_Vt_run_124 K y_1 y_5 G S = some (x, G', S')) : CG.le G G' := by
  rw [f_Vt_run_124] at h
  obtain ⟨S_15, hc_15, h⟩ := lf_bE h
  obtain ⟨r_16, G_16, S_16, hc_16, h⟩ := lf_nE h
  have ml_16 := mo_Tu_turn hc_16
  exact CG.le_tr ml_16 (mo_Vt_run_142 h)
theorem mo_Vt_run_74 {K : Nat} : ∀ (k : Nat) (y_1 : Int32) (y_3 : Int32) (y_5 : Int32) (y_6 : Int32) (G : CG) (S : CS) {x : Except Nat Int32} {G' : CG} {S' : CS}, f_Vt_run_74 K k y_1 y_3 y_5 y_6 G S = some (x, G', S') → CG.le G G' := by
  intro k
  induction k with
  | zero => intro y_1 y_3 y_5 y_6 G S x G' S' h; exact lf_no h
  | succ k hm_74 =>
    intro y_1 y_3 y_5 y_6 G S x G' S' h
    rw [f_Vt_run_74] at h
    rcases Classical.em (y_3 ≤ y_6) with c_9 | c_9
    · have h := lf_t h c_9
      exact mo_Vt_run_124 h
    · have h := lf_f h c_9
      rcases Classical.em (16 ≤ y_6) with c_10 | c_10
      · have h := lf_t h c_10
        exact mo_Vt_run_124 h
      · have h := lf_f h c_10
        obtain ⟨g_11, h⟩ := lf_gE h
        obtain ⟨S_12, hc_12, h⟩ := lf_bE h
        obtain ⟨g_13, h⟩ := lf_gE h
        obtain ⟨r_14, G_14, S_14, hc_14, h⟩ := lf_nE h
        have ml_14 := mo_Tu_turn hc_14
        exact CG.le_tr ml_14 (mo_Vt_run_117 hm_74 h)
theorem mo_Vt_run_69 {K : Nat} {y_1 : Int32} {y_3 : Int32} {z_0 : Int32} {G : CG} {S : CS} {x : Except Nat Int32} {G' : CG} {S' : CS} (h : f_Vt_run_69 K y_1 y_3 z_0 G S = some (x, G', S')) : CG.le G G' := by
  rw [f_Vt_run_69] at h
  exact mo_Vt_run_74 K y_1 y_3 z_0 0 G S h
theorem mo_Vt_run_52 {K : Nat} {y_1 : Int32} {y_2 : Int32} {y_3 : Int32} {y_4 : Int32} {G : CG} {S : CS} {x : Except Nat Int32} {G' : CG} {S' : CS} (h : f_Vt_run_52 K y_1 y_2 y_3 y_4 G S = some (x, G', S')) : CG.le G G' := by
  rw [f_Vt_run_52] at h
  rcases (Classical.em (y_4 = 2)).symm with c_7 | c_7
  · have h := lf_f h c_7
    exact mo_Vt_run_69 h
  · have h := lf_t h c_7
    obtain ⟨r_8, S_8, hc_8, h⟩ := lf_cE h
    exact mo_Vt_run_69 h
theorem mo_Vt_run_14 {K : Nat} {y_1 : Int32} {y_2 : Int32} {y_3 : Int32} {z_0 : Int32} {G : CG} {S : CS} {x : Except Nat Int32} {G' : CG} {S' : CS} (h : f_Vt_run_14 K y_1 y_2 y_3 z_0 G S = some (x, G', S')) : CG.le G G' := by
  rw [f_Vt_run_14] at h
  rcases (Classical.em (z_0 = 0)).symm with c_4 | c_4
  · have h := lf_f h c_4
    rcases Classical.em (y_1 = 0) with c_5 | c_5
    · have h := lf_t h c_5
      exact mo_Vt_run_52 h
    · have h := lf_f h c_5
      rcases Classical.em (y_1 = 1) with c_6 | c_6
      · have h := lf_t h c_6
        exact mo_Vt_run_52 h
      · have h := lf_f h c_6
        exact ly_thr h
  · have h := lf_t h c_4
    exact ly_thr h
theorem mo_Vt_run {K : Nat} {G0 : CG} {S : CS} {p0 : Int32} {p1 : Int32} {x : Except Nat Int32} {G' : CG} {S' : CS} (h : f_Vt_run K G0 S p0 p1 = some (x, G', S')) : CG.le G0 G' := by
  rw [f_Vt_run] at h
  obtain ⟨x_1, ex_1, h⟩ := lf_lX h
  obtain ⟨S_2, eS_2, h⟩ := lf_lX h
  obtain ⟨r_3, G_3, S_3, hc_3, h⟩ := lf_nE h
  have ml_3 := mo_Vt_look hc_3
  exact CG.le_tr ml_3 (mo_Vt_run_14 h)
theorem mo_Vt_stamp_13 {K : Nat} {y_2 : Int32} {y_3 : Int32} {y_4 : Int32} {z_0 : Int32} {G : CG} {S : CS} {x : Except Nat Unit} {G' : CG} {S' : CS} (h : f_Vt_stamp_13 K y_2 y_3 y_4 z_0 G S = some (x, G', S')) : CG.le G G' := by
  rw [f_Vt_stamp_13] at h
  obtain ⟨r_4, S_4, hc_4, h⟩ := lf_cE h
  obtain ⟨r_5, S_5, hc_5, h⟩ := lf_cE h
  rcases (Classical.em (r_5 = 0)).symm with c_6 | c_6
  · have h := lf_f h c_6
    obtain ⟨S_7, hc_7, h⟩ := lf_bE h
    obtain ⟨S_8, hc_8, h⟩ := lf_bE h
    exact ly_leR h
  · have h := lf_t h c_6
    exact ly_thr h
theorem mo_Vt_stamp_8 {K : Nat} {y_1 : Int32} {y_2 : Int32} {y_3 : Int32} {y_4 : Int32} {G : CG} {S : CS} {x : Except Nat Unit} {G' : CG} {S' : CS} (h : f_Vt_stamp_8 K y_1 y_2 y_3 y_4 G S = some (x, G', S')) : CG.le G G' := by
  rw [f_Vt_stamp_8] at h
  rcases lf_aM h with ⟨r_3, G_3, S_3, hc_3, h⟩ | ⟨k9, h9⟩
  · have ml_3 := mo_Vt_itemHere hc_3
    exact CG.le_tr ml_3 (mo_Vt_stamp_13 h)
  · exact mo_Vt_itemHere h9.1
theorem mo_Vt_stamp_5 {K : Nat} {y_1 : Int32} {y_2 : Int32} {y_3 : Int32} {y_4 : Int32} {z_1 : Int32} {G : CG} {S : CS} {x : Except Nat Unit} {G' : CG} {S' : CS} (h : f_Vt_stamp_5 K y_1 y_2 y_3 y_4 z_1 G S = some (x, G', S')) : CG.le G G' := by
  rw [f_Vt_stamp_5] at h
  rcases lf_aM h with ⟨r_2, G_2, S_2, hc_2, h⟩ | ⟨k9, h9⟩
  · have ml_2 := mo_Vt_wantSoundTable hc_2
    exact CG.le_tr ml_2 (mo_Vt_stamp_8 h)
  · exact mo_Vt_wantSoundTable h9.1
theorem mo_Vt_stamp {K : Nat} {G0 : CG} {S : CS} {p0 : Int32} {p1 : Int32} {p2 : Int32} {p3 : Int32} {x : Except Nat Unit} {G' : CG} {S' : CS} (h : f_Vt_stamp K G0 S p0 p1 p2 p3 = some (x, G', S')) : CG.le G0 G' := by
  rw [f_Vt_stamp] at h
  obtain ⟨r_1, G_1, S_1, hc_1, h⟩ := lf_nE h
  have ml_1 := mo_Vt_look hc_1
  exact CG.le_tr ml_1 (mo_Vt_stamp_5 h)
theorem mo_Vt_up_48 {K : Nat} {z_1 : Int32} {G : CG} {S : CS} {x : Except Nat Int32} {G' : CG} {S' : CS} (h : f_Vt_up_48 K z_1 G S = some (x, G', S')) : CG.le G G' := by
  rw [f_Vt_up_48] at h
  obtain ⟨S_7, eS_7, h⟩ := lf_lX h
  exact ly_leR h
theorem mo_Vt_up_8 {K : Nat} {z_0 : Int32} {G : CG} {S : CS} {x : Except Nat Int32} {G' : CG} {S' : CS} (h : f_Vt_up_8 K z_0 G S = some (x, G', S')) : CG.le G G' := by
  rw [f_Vt_up_8] at h
  rcases (Classical.em (S.v_Vt_here = 0)).symm with c_3 | c_3
  · have h := lf_f h c_3
    rcases Classical.em (z_0 = 0) with c_4 | c_4
    · have h := lf_t h c_4
      obtain ⟨r_5, S_5, hc_5, h⟩ := lf_cE h
      exact mo_Vt_up_48 h
    · have h := lf_f h c_4
      obtain ⟨r_6, S_6, hc_6, h⟩ := lf_cE h
      exact mo_Vt_up_48 h
  · have h := lf_t h c_3
    exact ly_leR h
theorem mo_Vt_up_5 {K : Nat} {z_1 : Int32} {G : CG} {S : CS} {x : Except Nat Int32} {G' : CG} {S' : CS} (h : f_Vt_up_5 K z_1 G S = some (x, G', S')) : CG.le G G' := by
  rw [f_Vt_up_5] at h
  rcases lf_aM h with ⟨r_2, G_2, S_2, hc_2, h⟩ | ⟨k9, h9⟩
  · have ml_2 := mo_Vt_readsInodes hc_2
    exact CG.le_tr ml_2 (mo_Vt_up_8 h)
  · exact mo_Vt_readsInodes h9.1
theorem mo_Vt_up {K : Nat} {G0 : CG} {S : CS} {x : Except Nat Int32} {G' : CG} {S' : CS} (h : f_Vt_up K G0 S = some (x, G', S')) : CG.le G0 G' := by
  rw [f_Vt_up] at h
  obtain ⟨r_1, G_1, S_1, hc_1, h⟩ := lf_nE h
  have ml_1 := mo_Vt_look hc_1
  exact CG.le_tr ml_1 (mo_Vt_up_5 h)
theorem mo_Vt_write_46 {K : Nat} : ∀ (k : Nat) (y_2 : Int32) (y_4 : Int32) (y_5 : Int32) (y_6 : Int32) (G : CG) (S : CS) {x : Except Nat Int32} {G' : CG} {S' : CS}, f_Vt_write_46 K k y_2 y_4 y_5 y_6 G S = some (x, G', S') → CG.le G G' := by
  intro k
  induction k with
  | zero => intro y_2 y_4 y_5 y_6 G S x G' S' h; exact lf_no h
  | succ k hm_46 =>
    intro y_2 y_4 y_5 y_6 G S x G' S' h
    rw [f_Vt_write_46] at h
    rcases Classical.em (y_2 ≤ y_6) with c_7 | c_7
    · have h := lf_t h c_7
      exact ly_leR h
    · have h := lf_f h c_7
      obtain ⟨r_8, S_8, hc_8, h⟩ := lf_cE h
      obtain ⟨r_9, S_9, hc_9, h⟩ := lf_cE h
      obtain ⟨S_10, hc_10, h⟩ := lf_bE h
      obtain ⟨x_11, ex_11, h⟩ := lf_lX h
      exact hm_46 y_2 y_4 r_8 x_11 G S_10 h
theorem mo_Vt_write_28 {K : Nat} {y_2 : Int32} {z_0 : Int32} {G : CG} {S : CS} {x : Except Nat Int32} {G' : CG} {S' : CS} (h : f_Vt_write_28 K y_2 z_0 G S = some (x, G', S')) : CG.le G G' := by
  rw [f_Vt_write_28] at h
  obtain ⟨r_6, S_6, hc_6, h⟩ := lf_cE h
  exact mo_Vt_write_46 K y_2 z_0 r_6 0 G S_6 h
theorem mo_Vt_write_21 {K : Nat} {y_2 : Int32} {z_0 : Int32} {G : CG} {S : CS} {x : Except Nat Int32} {G' : CG} {S' : CS} (h : f_Vt_write_21 K y_2 z_0 G S = some (x, G', S')) : CG.le G G' := by
  rw [f_Vt_write_21] at h
  rcases lf_aM h with ⟨r_5, G_5, S_5, hc_5, h⟩ | ⟨k9, h9⟩
  · have ml_5 := mo_Vt_lengthen hc_5
    exact CG.le_tr ml_5 (mo_Vt_write_28 h)
  · exact mo_Vt_lengthen h9.1
theorem mo_Vt_write_16 {K : Nat} {y_1 : Int32} {y_2 : Int32} {G : CG} {S : CS} {x : Except Nat Int32} {G' : CG} {S' : CS} (h : f_Vt_write_16 K y_1 y_2 G S = some (x, G', S')) : CG.le G G' := by
  rw [f_Vt_write_16] at h
  rcases lf_aM h with ⟨r_4, G_4, S_4, hc_4, h⟩ | ⟨k9, h9⟩
  · have ml_4 := mo_Vt_fileHere hc_4
    exact CG.le_tr ml_4 (mo_Vt_write_21 h)
  · exact mo_Vt_fileHere h9.1
theorem mo_Vt_write_13 {K : Nat} {y_1 : Int32} {y_2 : Int32} {z_1 : Int32} {G : CG} {S : CS} {x : Except Nat Int32} {G' : CG} {S' : CS} (h : f_Vt_write_13 K y_1 y_2 z_1 G S = some (x, G', S')) : CG.le G G' := by
  rw [f_Vt_write_13] at h
  rcases lf_aM h with ⟨r_3, G_3, S_3, hc_3, h⟩ | ⟨k9, h9⟩
  · have ml_3 := mo_Vt_wantSoundTable hc_3
    exact CG.le_tr ml_3 (mo_Vt_write_16 h)
  · exact mo_Vt_wantSoundTable h9.1
theorem mo_Vt_write {K : Nat} {G0 : CG} {S : CS} {p0 : Int32} {x : Except Nat Int32} {G' : CG} {S' : CS} (h : f_Vt_write K G0 S p0 = some (x, G', S')) : CG.le G0 G' := by
  rw [f_Vt_write] at h
  obtain ⟨r_1, S_1, hc_1, h⟩ := lf_cE h
  obtain ⟨r_2, G_2, S_2, hc_2, h⟩ := lf_nE h
  have ml_2 := mo_Vt_look hc_2
  exact CG.le_tr ml_2 (mo_Vt_write_13 h)
theorem th_Vt_readsInodes_23 {K : Nat} {y_1 : Int32} {G : CG} {S : CS} {k : Nat} {G' : CG} {S' : CS} (h : f_Vt_readsInodes_23 K y_1 G S = some (.error k, G', S')) : k ∈ ([1] : List Nat) := by
  rw [f_Vt_readsInodes_23] at h
  rcases (Classical.em (y_1 = 2)).symm with c_3 | c_3
  · have h := lf_f h c_3
    exact lf_xo h
  · have h := lf_t h c_3
    exact lf_xo h
theorem th_Vt_readsInodes {K : Nat} {G0 : CG} {S : CS} {p0 : Int32} {k : Nat} {G' : CG} {S' : CS} (h : f_Vt_readsInodes K G0 S p0 = some (.error k, G', S')) : k ∈ ([1] : List Nat) := by
  rw [f_Vt_readsInodes] at h
  rcases Classical.em (p0 = 2) with c_1 | c_1
  · have h := lf_t h c_1
    exact th_Vt_readsInodes_23 h
  · have h := lf_f h c_1
    rcases Classical.em (S.v_Vt_lastFault = 0) with c_2 | c_2
    · have h := lf_t h c_2
      exact th_Vt_readsInodes_23 h
    · have h := lf_f h c_2
      exact lf_xt h (by decide)
theorem th_Vt_itemHere_19 {K : Nat} {G : CG} {S : CS} {k : Nat} {G' : CG} {S' : CS} (h : f_Vt_itemHere_19 K G S = some (.error k, G', S')) : k ∈ ([2] : List Nat) := by
  rw [f_Vt_itemHere_19] at h
  exact lf_xt h (by decide)
theorem th_Vt_itemHere {K : Nat} {G0 : CG} {S : CS} {p0 : Int32} {k : Nat} {G' : CG} {S' : CS} (h : f_Vt_itemHere K G0 S p0 = some (.error k, G', S')) : k ∈ ([2] : List Nat) := by
  rw [f_Vt_itemHere] at h
  rcases Classical.em (p0 < 0) with c_1 | c_1
  · have h := lf_t h c_1
    exact th_Vt_itemHere_19 h
  · have h := lf_f h c_1
    obtain ⟨r_2, S_2, hc_2, h⟩ := lf_cE h
    rcases Classical.em (p0 < r_2) with c_3 | c_3
    · have h := lf_t h c_3
      obtain ⟨r_4, S_4, hc_4, h⟩ := lf_cE h
      exact lf_xo h
    · have h := lf_f h c_3
      exact th_Vt_itemHere_19 h
theorem th_Vt_entryHere_19 {K : Nat} {G : CG} {S : CS} {k : Nat} {G' : CG} {S' : CS} (h : f_Vt_entryHere_19 K G S = some (.error k, G', S')) : k ∈ ([2] : List Nat) := by
  rw [f_Vt_entryHere_19] at h
  exact lf_xt h (by decide)
theorem th_Vt_entryHere {K : Nat} {G0 : CG} {S : CS} {p0 : Int32} {k : Nat} {G' : CG} {S' : CS} (h : f_Vt_entryHere K G0 S p0 = some (.error k, G', S')) : k ∈ ([2] : List Nat) := by
  rw [f_Vt_entryHere] at h
  rcases Classical.em (p0 < 0) with c_1 | c_1
  · have h := lf_t h c_1
    exact th_Vt_entryHere_19 h
  · have h := lf_f h c_1
    obtain ⟨r_2, S_2, hc_2, h⟩ := lf_cE h
    rcases Classical.em (p0 < r_2) with c_3 | c_3
    · have h := lf_t h c_3
      obtain ⟨r_4, S_4, hc_4, h⟩ := lf_cE h
      exact lf_xo h
    · have h := lf_f h c_3
      exact th_Vt_entryHere_19 h
theorem th_Vt_wantSoundTable_12 {K : Nat} {G : CG} {S : CS} {k : Nat} {G' : CG} {S' : CS} (h : f_Vt_wantSoundTable_12 K G S = some (.error k, G', S')) : k ∈ ([1] : List Nat) := by
  rw [f_Vt_wantSoundTable_12] at h
  exact lf_xt h (by decide)
theorem th_Vt_wantSoundTable {K : Nat} {G0 : CG} {S : CS} {p0 : Int32} {k : Nat} {G' : CG} {S' : CS} (h : f_Vt_wantSoundTable K G0 S p0 = some (.error k, G', S')) : k ∈ ([1] : List Nat) := by
  rw [f_Vt_wantSoundTable] at h
  rcases (Classical.em (p0 = 1)).symm with c_1 | c_1
  · have h := lf_f h c_1
    exact th_Vt_wantSoundTable_12 h
  · have h := lf_t h c_1
    rcases Classical.em (S.v_Vt_lastFault = 0) with c_2 | c_2
    · have h := lf_t h c_2
      exact lf_xo h
    · have h := lf_f h c_2
      exact th_Vt_wantSoundTable_12 h
theorem th_Vt_fileHere_5 {K : Nat} {z_0 : Int32} {G : CG} {S : CS} {k : Nat} {G' : CG} {S' : CS} (h : f_Vt_fileHere_5 K z_0 G S = some (.error k, G', S')) : k ∈ ([0, 2] : List Nat) := by
  rw [f_Vt_fileHere_5] at h
  obtain ⟨r_2, S_2, hc_2, h⟩ := lf_cE h
  rcases Classical.em (r_2 = 0) with c_3 | c_3
  · have h := lf_t h c_3
    exact lf_xo h
  · have h := lf_f h c_3
    exact lf_xt h (by decide)
theorem th_Vt_fileHere {K : Nat} {G0 : CG} {S : CS} {p0 : Int32} {k : Nat} {G' : CG} {S' : CS} (h : f_Vt_fileHere K G0 S p0 = some (.error k, G', S')) : k ∈ ([0, 2] : List Nat) := by
  rw [f_Vt_fileHere] at h
  rcases lf_aT h with ⟨r_1, G_1, S_1, hc_1, h⟩ | h9
  · have ml_1 := mo_Vt_itemHere hc_1
    exact th_Vt_fileHere_5 h
  · exact lf_sub (th_Vt_itemHere h9) (by decide)
theorem th_Vt_lengthen {K : Nat} {G0 : CG} {S : CS} {p0 : Int32} {p1 : Int32} {k : Nat} {G' : CG} {S' : CS} (h : f_Vt_lengthen K G0 S p0 p1 = some (.error k, G', S')) : k ∈ ([3] : List Nat) := by
  rw [f_Vt_lengthen] at h
  obtain ⟨r_1, S_1, hc_1, h⟩ := lf_cE h
  obtain ⟨r_2, S_2, hc_2, h⟩ := lf_cE h
  rcases (Classical.em (r_2 = 0)).symm with c_3 | c_3
  · have h := lf_f h c_3
    obtain ⟨S_4, hc_4, h⟩ := lf_bE h
    obtain ⟨S_5, hc_5, h⟩ := lf_bE h
    exact lf_xo h
  · have h := lf_t h c_3
    exact lf_xt h (by decide)
