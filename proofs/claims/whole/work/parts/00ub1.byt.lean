theorem b_Rd_bitsFit_44 {K : Nat} {G : CG} {y_1 : Int32} {y_3 : Int32} {y_4 : Int32} {S : CS} (hS : byt S) : bG Prod.snd (f_Rd_bitsFit_44 K G y_1 y_3 y_4 S) := by
  unfold f_Rd_bitsFit_44
  exact g_if ((b_Rd_bitsFit_58 hS)) (g_c (b_Rd_firstCluster hS) (fun r_7 S_7 hS_7 => g_if ((b_Rd_bitsFit_58 hS_7)) (g_some hS_7)))
theorem b_Rd_bitsFit_25 {K : Nat} {G : CG} {y_1 : Int32} {y_2 : Int32} {y_3 : Int32} {z_0 : Int32} {S : CS} (hS : byt S) : bG Prod.snd (f_Rd_bitsFit_25 K G y_1 y_2 y_3 z_0 S) := by
  unfold f_Rd_bitsFit_25
  exact g_if ((b_Rd_bitsFit_42 hS)) (g_if ((b_Rd_bitsFit_44 hS)) (g_if ((b_Rd_bitsFit_44 hS)) ((b_Rd_bitsFit_42 hS))))
theorem b_Rd_bitsFit_12 {K : Nat} {G : CG} {y_1 : Int32} {y_2 : Int32} {z_0 : Int32} {S : CS} (hS : byt S) : bG Prod.snd (f_Rd_bitsFit_12 K G y_1 y_2 z_0 S) := by
  unfold f_Rd_bitsFit_12
  exact g_if ((b_Rd_bitsFit_25 hS)) ((b_Rd_bitsFit_25 hS))
theorem b_Rd_bitsFit {K : Nat} {G : CG} {S : CS} {p0 : Int32} {p1 : Int32} (hS : byt S) : bG Prod.snd (f_Rd_bitsFit K G S p0 p1) := by
  unfold f_Rd_bitsFit
  exact g_if ((b_Rd_bitsFit_12 hS)) ((b_Rd_bitsFit_12 hS))
theorem b_Wo_isName_Rdunits_18 {K : Nat} {G : CG} {S : CS} (hS : byt S) : bG Prod.snd (f_Wo_isName_Rdunits_18 K G S) := by
  unfold f_Wo_isName_Rdunits_18
  exact g_some hS
theorem b_Wo_isName_Rdunits_68 {K : Nat} {G : CG} {S : CS} (hS : byt S) : bG Prod.snd (f_Wo_isName_Rdunits_68 K G S) := by
  unfold f_Wo_isName_Rdunits_68
  exact g_some hS
theorem b_Wo_isName_Rdunits_22 {K : Nat} {G : CG} : ∀ (k : Nat) (y_1 : Int32) (y_2 : Int32) (S : CS), byt S → bG Prod.snd (f_Wo_isName_Rdunits_22 K G k y_1 y_2 S) := by
  intro k
  induction k with
  | zero => intro y_1 y_2 S _; rw [f_Wo_isName_Rdunits_22]; exact g_none
  | succ k ih => intro y_1 y_2 S hS; rw [f_Wo_isName_Rdunits_22]; exact g_if (g_g (g_if ((b_Wo_isName_Rdunits_68 hS)) (g_g (g_if ((b_Wo_isName_Rdunits_68 hS)) (g_some hS))))) (g_g (g_p (fun r_10 => g_if (g_some hS) (g_lv (fun x_12 => (ih _ _ _ hS))))))
theorem b_Wo_isName_Rdunits {K : Nat} {G : CG} {S : CS} {p1 : Int32} (hS : byt S) : bG Prod.snd (f_Wo_isName_Rdunits K G S p1) := by
  unfold f_Wo_isName_Rdunits
  exact g_if ((b_Wo_isName_Rdunits_18 hS)) (g_if ((b_Wo_isName_Rdunits_18 hS)) (g_if ((b_Wo_isName_Rdunits_22 _ _ _ _ hS)) ((b_Wo_isName_Rdunits_18 hS))))
theorem b_Rd_closeParts_39 {K : Nat} {G : CG} {S : CS} (hS : byt S) : bG Prod.snd (f_Rd_closeParts_39 K G S) := by
  unfold f_Rd_closeParts_39
  exact g_some hS
theorem b_Rd_closeParts_117 {K : Nat} {G : CG} {S : CS} (hS : byt S) : bG Prod.snd (f_Rd_closeParts_117 K G S) := by
  unfold f_Rd_closeParts_117
  exact g_some hS
theorem b_Rd_closeParts_68 {K : Nat} {G : CG} : ∀ (k : Nat) (y_2 : Int32) (y_3 : Int32) (y_4 : Int32) (S : CS), byt S → bG Prod.snd (f_Rd_closeParts_68 K G k y_2 y_3 y_4 S) := by
  intro k
  induction k with
  | zero => intro y_2 y_3 y_4 S _; rw [f_Rd_closeParts_68]; exact g_none
  | succ k ih => intro y_2 y_3 y_4 S hS; rw [f_Rd_closeParts_68]; exact g_if (g_if ((b_Rd_closeParts_117 hS)) (g_c (b_Wo_isName_Rdunits hS) (fun r_13 S_13 hS_13 => g_if ((b_Rd_closeParts_117 hS_13)) (g_some hS_13)))) (g_g (g_if (g_lv (fun x_17 => (ih _ _ _ _ hS))) (g_some hS)))
theorem b_Rd_closeParts_63 {K : Nat} {G : CG} {y_2 : Int32} {y_3 : Int32} {S : CS} (hS : byt S) : bG Prod.snd (f_Rd_closeParts_63 K G y_2 y_3 S) := by
  unfold f_Rd_closeParts_63
  exact g_lv (fun x_10 => (b_Rd_closeParts_68 _ _ _ _ _ hS))
theorem b_Rd_closeParts_43 {K : Nat} {G : CG} : ∀ (k : Nat) (y_2 : Int32) (y_3 : Int32) (S : CS), byt S → bG Prod.snd (f_Rd_closeParts_43 K G k y_2 y_3 S) := by
  intro k
  induction k with
  | zero => intro y_2 y_3 S _; rw [f_Rd_closeParts_43]; exact g_none
  | succ k ih => intro y_2 y_3 S hS; rw [f_Rd_closeParts_43]; exact g_if ((b_Rd_closeParts_63 hS)) (g_g (g_if ((b_Rd_closeParts_63 hS)) (g_lv (fun x_9 => (ih _ _ _ hS)))))
theorem b_Rd_closeParts {K : Nat} {G : CG} {S : CS} {p0 : Int32} (hS : byt S) : bG Prod.snd (f_Rd_closeParts K G S p0) := by
  unfold f_Rd_closeParts
  exact g_lv (fun x_1 => g_if (g_c (b_Wo_sum hS) (fun r_3 S_3 hS_3 => g_if (g_if ((b_Rd_closeParts_43 _ _ _ _ hS_3)) ((b_Rd_closeParts_39 hS_3))) ((b_Rd_closeParts_39 hS_3)))) ((b_Rd_closeParts_39 hS)))
theorem b_Rd_showShortName_64 {K : Nat} {G : CG} {rec_4 : Int32 → Int32 → Int32 → CS → Option (Int32 × CS)} {y_1 : Int32} {y_2 : Int32} {y_3 : Int32} {S : CS} (hrec_4 : ∀ (w0 : Int32) (w1 : Int32) (w2 : Int32) (w3 : CS), byt w3 → bG Prod.snd (rec_4 w0 w1 w2 w3)) (hS : byt S) : bG Prod.snd (f_Rd_showShortName_64 K G rec_4 y_1 y_2 y_3 S) := by
  unfold f_Rd_showShortName_64
  exact g_lv (fun x_12 => (hrec_4 _ _ _ _ hS))
theorem b_Rd_showShortName_46 {K : Nat} {G : CG} {rec_4 : Int32 → Int32 → Int32 → CS → Option (Int32 × CS)} {y_1 : Int32} {y_2 : Int32} {y_3 : Int32} {y_4 : Int32} {S : CS} (hrec_4 : ∀ (w0 : Int32) (w1 : Int32) (w2 : Int32) (w3 : CS), byt w3 → bG Prod.snd (rec_4 w0 w1 w2 w3)) (hS : byt S) : bG Prod.snd (f_Rd_showShortName_46 K G rec_4 y_1 y_2 y_3 y_4 S) := by
  unfold f_Rd_showShortName_46
  exact g_if ((b_Rd_showShortName_64 hrec_4 hS)) (g_g (g_ls hS (fun S_10 hS_10 => g_lv (fun x_11 => (b_Rd_showShortName_64 hrec_4 hS_10)))))
theorem b_Rd_showShortName_4 {K : Nat} {G : CG} : ∀ (k : Nat) (y_1 : Int32) (y_2 : Int32) (y_3 : Int32) (S : CS), byt S → bG Prod.snd (f_Rd_showShortName_4 K G k y_1 y_2 y_3 S) := by
  intro k
  induction k with
  | zero => intro y_1 y_2 y_3 S _; rw [f_Rd_showShortName_4]; exact g_none
  | succ k ih => intro y_1 y_2 y_3 S hS; rw [f_Rd_showShortName_4]; exact g_if (g_some hS) (g_c (b_Dk_one hS) (fun r_2 S_2 hS_2 => g_if (g_if ((b_Rd_showShortName_46 (fun w0 w1 w2 w3 w4 => ih w0 w1 w2 w3 w4) hS_2)) (g_g (g_ls hS_2 (fun S_6 hS_6 => g_lv (fun x_7 => (b_Rd_showShortName_46 (fun w0 w1 w2 w3 w4 => ih w0 w1 w2 w3 w4) hS_6)))))) ((b_Rd_showShortName_46 (fun w0 w1 w2 w3 w4 => ih w0 w1 w2 w3 w4) hS_2))))
theorem b_Rd_showShortName {K : Nat} {G : CG} {S : CS} {p0 : Int32} (hS : byt S) : bG Prod.snd (f_Rd_showShortName K G S p0) := by
  unfold f_Rd_showShortName
  exact (b_Rd_showShortName_4 _ _ _ _ _ hS)
theorem b_Rd_sameShortName_2 {K : Nat} {G : CG} : ∀ (k : Nat) (y_1 : Int32) (y_2 : Int32) (y_3 : Int32) (S : CS), byt S → bG Prod.snd (f_Rd_sameShortName_2 K G k y_1 y_2 y_3 S) := by
  intro k
  induction k with
  | zero => intro y_1 y_2 y_3 S _; rw [f_Rd_sameShortName_2]; exact g_none
  | succ k ih => intro y_1 y_2 y_3 S hS; rw [f_Rd_sameShortName_2]; exact g_if (g_some hS) (g_c (b_Dk_one hS) (fun r_2 S_2 hS_2 => g_c (b_Dk_one hS_2) (fun r_3 S_3 hS_3 => g_if (g_lv (fun x_5 => (ih _ _ _ _ hS_3))) (g_some hS_3))))
theorem b_Rd_sameShortName {K : Nat} {G : CG} {S : CS} {p0 : Int32} {p1 : Int32} (hS : byt S) : bG Prod.snd (f_Rd_sameShortName K G S p0 p1) := by
  unfold f_Rd_sameShortName
  exact (b_Rd_sameShortName_2 _ _ _ _ _ hS)
theorem b_Tr_isNamed_Rdunits_24 {K : Nat} {G : CG} {S : CS} (hS : byt S) : bG Prod.snd (f_Tr_isNamed_Rdunits_24 K G S) := by
  unfold f_Tr_isNamed_Rdunits_24
  exact g_some hS
theorem b_Tr_isNamed_Rdunits_85 {K : Nat} {G : CG} {rec_37 : Int32 → Int32 → Int32 → CS → Option (Int32 × CS)} {y_3 : Int32} {y_4 : Int32} {y_5 : Int32} {S : CS} (hrec_37 : ∀ (w0 : Int32) (w1 : Int32) (w2 : Int32) (w3 : CS), byt w3 → bG Prod.snd (rec_37 w0 w1 w2 w3)) (hS : byt S) : bG Prod.snd (f_Tr_isNamed_Rdunits_85 K G rec_37 y_3 y_4 y_5 S) := by
  unfold f_Tr_isNamed_Rdunits_85
  exact g_lv (fun x_17 => (hrec_37 _ _ _ _ hS))
theorem b_Tr_isNamed_Rdunits_37 {K : Nat} {G : CG} : ∀ (k : Nat) (y_3 : Int32) (y_4 : Int32) (y_5 : Int32) (S : CS), byt S → bG Prod.snd (f_Tr_isNamed_Rdunits_37 K G k y_3 y_4 y_5 S) := by
  intro k
  induction k with
  | zero => intro y_3 y_4 y_5 S _; rw [f_Tr_isNamed_Rdunits_37]; exact g_none
  | succ k ih => intro y_3 y_4 y_5 S hS; rw [f_Tr_isNamed_Rdunits_37]; exact g_if (g_some hS) (g_g (g_g (g_if ((b_Tr_isNamed_Rdunits_85 (fun w0 w1 w2 w3 w4 => ih w0 w1 w2 w3 w4) hS)) (g_g (g_p (fun r_13 => g_g (g_p (fun r_15 => g_if ((b_Tr_isNamed_Rdunits_85 (fun w0 w1 w2 w3 w4 => ih w0 w1 w2 w3 w4) hS)) (g_some hS)))))))))
theorem b_Tr_isNamed_Rdunits {K : Nat} {G : CG} {S : CS} {p0 : Int32} {p2 : Int32} (hS : byt S) : bG Prod.snd (f_Tr_isNamed_Rdunits K G S p0 p2) := by
  unfold f_Tr_isNamed_Rdunits
  exact g_c (b_Tr_has hS) (fun r_1 S_1 hS_1 => g_if ((b_Tr_isNamed_Rdunits_24 hS_1)) (g_g (g_if (g_if (g_g (g_lv (fun x_7 => (b_Tr_isNamed_Rdunits_37 _ _ _ _ _ hS_1)))) ((b_Tr_isNamed_Rdunits_24 hS_1))) ((b_Tr_isNamed_Rdunits_24 hS_1)))))
theorem b_Rd_hasTwin_57 {K : Nat} {G : CG} {S : CS} (hS : byt S) : bG Prod.snd (f_Rd_hasTwin_57 K G S) := by
  unfold f_Rd_hasTwin_57
  exact g_some hS
theorem b_Rd_hasTwin_11 {K : Nat} {G : CG} : ∀ (k : Nat) (y_2 : Int32) (y_3 : Int32) (y_4 : Int32) (S : CS), byt S → bG Prod.snd (f_Rd_hasTwin_11 K G k y_2 y_3 y_4 S) := by
  intro k
  induction k with
  | zero => intro y_2 y_3 y_4 S _; rw [f_Rd_hasTwin_11]; exact g_none
  | succ k ih => intro y_2 y_3 y_4 S hS; rw [f_Rd_hasTwin_11]; exact g_if (g_some hS) (g_c (b_Tr_spotOf hS) (fun r_3 S_3 hS_3 => g_c (b_Rd_sameShortName hS_3) (fun r_4 S_4 hS_4 => g_if (g_c (b_Tr_isNamed_Rdunits hS_4) (fun r_6 S_6 hS_6 => g_if (g_lv (fun x_8 => (ih _ _ _ _ hS_6))) ((b_Rd_hasTwin_57 hS_6)))) ((b_Rd_hasTwin_57 hS_4)))))
theorem b_Rd_hasTwin {K : Nat} {G : CG} {S : CS} {p0 : Int32} {p1 : Int32} {p2 : Int32} (hS : byt S) : bG Prod.snd (f_Rd_hasTwin K G S p0 p1 p2) := by
  unfold f_Rd_hasTwin
  exact g_c (b_Tr_kid hS) (fun r_1 S_1 hS_1 => (b_Rd_hasTwin_11 _ _ _ _ _ hS_1))
theorem b_Rd_readPart_30 {K : Nat} {G : CG} {S : CS} (hS : byt S) : bG Prod.snd (f_Rd_readPart_30 K G S) := by
  unfold f_Rd_readPart_30
  exact g_some hS
theorem b_Rd_readPart_111 {K : Nat} {G : CG} {S : CS} (hS : byt S) : bG Prod.snd (f_Rd_readPart_111 K G S) := by
  unfold f_Rd_readPart_111
  exact g_some hS
theorem b_Rd_readPart_125 {K : Nat} {G : CG} : ∀ (k : Nat) (y_1 : Int32) (y_3 : Int32) (S : CS), byt S → bG Prod.snd (f_Rd_readPart_125 K G k y_1 y_3 S) := by
  intro k
  induction k with
  | zero => intro y_1 y_3 S _; rw [f_Rd_readPart_125]; exact g_none
  | succ k ih => intro y_1 y_3 S hS; rw [f_Rd_readPart_125]; exact g_if (g_some hS) (g_p (fun r_19 => g_c (b_Dk_two hS) (fun r_20 S_20 hS_20 => g_g (g_ls hS_20 (fun S_22 hS_22 => g_lv (fun x_23 => (ih _ _ _ hS_22)))))))
theorem b_Rd_readPart_57 {K : Nat} {G : CG} {y_1 : Int32} {y_2 : Int32} {S : CS} (hS : byt S) : bG Prod.snd (f_Rd_readPart_57 K G y_1 y_2 S) := by
  unfold f_Rd_readPart_57
  exact g_if (g_c (b_Dk_one hS) (fun r_11 S_11 hS_11 => g_if (g_c (b_Dk_two hS_11) (fun r_13 S_13 hS_13 => g_if (g_c (b_Dk_one hS_13) (fun r_15 S_15 hS_15 => g_if (g_ls hS_15 (fun S_17 hS_17 => (b_Rd_readPart_125 _ _ _ _ hS_17))) ((b_Rd_readPart_111 hS_15)))) ((b_Rd_readPart_111 hS_13)))) ((b_Rd_readPart_111 hS_11)))) ((b_Rd_readPart_111 hS))
theorem b_Rd_readPart {K : Nat} {G : CG} {S : CS} {p0 : Int32} (hS : byt S) : bG Prod.snd (f_Rd_readPart K G S p0) := by
  unfold f_Rd_readPart
  exact g_c (b_Dk_one hS) (fun r_1 S_1 hS_1 => g_if (g_lv (fun x_3 => g_if ((b_Rd_readPart_30 hS_1)) (g_if (g_ls hS_1 (fun S_6 hS_6 => g_ls hS_6 (fun S_7 hS_7 => g_c (b_Dk_one hS_7) (fun r_8 S_8 hS_8 => g_ls hS_8 (fun S_9 hS_9 => (b_Rd_readPart_57 hS_9)))))) ((b_Rd_readPart_30 hS_1))))) ((b_Rd_readPart_57 hS_1)))
theorem b_Rd_follow_RdfileRoad_41 {K : Nat} {G : CG} {S : CS} (hS : byt S) : bG Prod.snd (f_Rd_follow_RdfileRoad_41 K G S) := by
  unfold f_Rd_follow_RdfileRoad_41
  exact g_some hS
theorem b_Rd_follow_RdfileRoad_5 {K : Nat} {G : CG} : ∀ (k : Nat) (y_3 : Int32) (y_4 : Int32) (S : CS), byt S → bG Prod.snd (f_Rd_follow_RdfileRoad_5 K G k y_3 y_4 S) := by
  intro k
  induction k with
  | zero => intro y_3 y_4 S _; rw [f_Rd_follow_RdfileRoad_5]; exact g_none
  | succ k ih => intro y_3 y_4 S hS; rw [f_Rd_follow_RdfileRoad_5]; exact g_if (g_some hS) (g_c (b_Tb_nextOf hS) (fun r_2 S_2 hS_2 => g_if ((b_Rd_follow_RdfileRoad_41 hS_2)) (g_if ((b_Rd_follow_RdfileRoad_41 hS_2)) (g_g (g_if (g_g (g_ls hS_2 (fun S_8 hS_8 => g_g (g_ls hS_8 (fun S_10 hS_10 => g_c (b_Tb_nextOf hS_10) (fun r_11 S_11 hS_11 => g_if (g_lv (fun x_13 => (ih _ _ _ hS_11))) (g_some hS_11))))))) ((b_Rd_follow_RdfileRoad_41 hS_2)))))))
theorem b_Rd_follow_RdfileRoad {K : Nat} {G : CG} {S : CS} {p0 : Int32} (hS : byt S) : bG Prod.snd (f_Rd_follow_RdfileRoad K G S p0) := by
  unfold f_Rd_follow_RdfileRoad
  exact (b_Rd_follow_RdfileRoad_5 _ _ _ _ hS)
theorem b_Rd_followFile_83 {K : Nat} {G : CG} {S : CS} (hS : byt S) : bG Prod.snd (f_Rd_followFile_83 K G S) := by
  unfold f_Rd_followFile_83
  exact g_some hS
theorem b_Rd_followFile {K : Nat} {G : CG} {S : CS} {p0 : Int32} {p1 : Int64} (hS : byt S) : bG Prod.snd (f_Rd_followFile K G S p0 p1) := by
  unfold f_Rd_followFile
  exact g_c (b_Tr_isDirectory hS) (fun r_1 S_1 hS_1 => g_if (g_if (g_c (b_Tr_firstOf hS_1) (fun r_12 S_12 hS_12 => g_if (g_some hS_12) (g_some hS_12))) (g_c (b_Tb_clusterBytes hS_1) (fun r_4 S_4 hS_4 => g_lv (fun x_5 => g_if ((b_Rd_followFile_83 hS_4)) (g_c (b_Tr_firstOf hS_4) (fun r_7 S_7 hS_7 => g_c (b_Rd_follow_RdfileRoad hS_7) (fun r_8 S_8 hS_8 => g_g (g_if (g_b (b_Tr_setSize hS_8) (fun S_11 hS_11 => g_some hS_11)) ((b_Rd_followFile_83 hS_8)))))))))) (g_some hS_1))
theorem b_Ed_writeLabel_50 {K : Nat} {G : CG} {rec_18 : Int32 → Int32 → Int32 → CS → Option (CS)} {y_2 : Int32} {y_3 : Int32} {y_4 : Int32} {z_1 : Int32} {z_2 : Int32} {S : CS} (hrec_18 : ∀ (w0 : Int32) (w1 : Int32) (w2 : Int32) (w3 : CS), byt w3 → bG id (rec_18 w0 w1 w2 w3)) (hS : byt S) : bG id (f_Ed_writeLabel_50 K G rec_18 y_2 y_3 y_4 z_1 z_2 S) := by
  unfold f_Ed_writeLabel_50
  exact g_b (b_Dk_putOne hS) (fun S_7 hS_7 => g_lv (fun x_8 => (hrec_18 _ _ _ _ hS_7)))
theorem b_Ed_writeLabel_18 {K : Nat} {G : CG} : ∀ (k : Nat) (y_2 : Int32) (y_3 : Int32) (y_4 : Int32) (S : CS), byt S → bG id (f_Ed_writeLabel_18 K G k y_2 y_3 y_4 S) := by
  intro k
  induction k with
  | zero => intro y_2 y_3 y_4 S _; rw [f_Ed_writeLabel_18]; exact g_none
  | succ k ih => intro y_2 y_3 y_4 S hS; rw [f_Ed_writeLabel_18]; exact g_if (g_b (b_Dk_putOne hS) (fun S_3 hS_3 => g_b (b_Dk_putTwo hS_3) (fun S_4 hS_4 => g_some hS_4))) (g_if ((b_Ed_writeLabel_50 (fun w0 w1 w2 w3 w4 => ih w0 w1 w2 w3 w4) hS)) (g_c (b_Tp_one hS) (fun r_6 S_6 hS_6 => (b_Ed_writeLabel_50 (fun w0 w1 w2 w3 w4 => ih w0 w1 w2 w3 w4) hS_6))))
theorem b_Ed_writeLabel {K : Nat} {G : CG} {S : CS} {p1 : Int32} (hS : byt S) : bG id (f_Ed_writeLabel K G S p1) := by
  unfold f_Ed_writeLabel
  exact g_c (b_Tb_place hS) (fun r_1 S_1 hS_1 => (b_Ed_writeLabel_18 _ _ _ _ _ hS_1))
theorem b_Wo_isName_Edunits_18 {K : Nat} {G : CG} {S : CS} (hS : byt S) : bG Prod.snd (f_Wo_isName_Edunits_18 K G S) := by
  unfold f_Wo_isName_Edunits_18
  exact g_some hS
theorem b_Wo_isName_Edunits_68 {K : Nat} {G : CG} {S : CS} (hS : byt S) : bG Prod.snd (f_Wo_isName_Edunits_68 K G S) := by
  unfold f_Wo_isName_Edunits_68
  exact g_some hS
theorem b_Wo_isName_Edunits_22 {K : Nat} {G : CG} : ∀ (k : Nat) (y_1 : Int32) (y_2 : Int32) (S : CS), byt S → bG Prod.snd (f_Wo_isName_Edunits_22 K G k y_1 y_2 S) := by
  intro k
  induction k with
  | zero => intro y_1 y_2 S _; rw [f_Wo_isName_Edunits_22]; exact g_none
  | succ k ih => intro y_1 y_2 S hS; rw [f_Wo_isName_Edunits_22]; exact g_if (g_g (g_if ((b_Wo_isName_Edunits_68 hS)) (g_g (g_if ((b_Wo_isName_Edunits_68 hS)) (g_some hS))))) (g_g (g_p (fun r_10 => g_if (g_some hS) (g_lv (fun x_12 => (ih _ _ _ hS))))))
theorem b_Wo_isName_Edunits {K : Nat} {G : CG} {S : CS} {p1 : Int32} (hS : byt S) : bG Prod.snd (f_Wo_isName_Edunits K G S p1) := by
  unfold f_Wo_isName_Edunits
  exact g_if ((b_Wo_isName_Edunits_18 hS)) (g_if ((b_Wo_isName_Edunits_18 hS)) (g_if ((b_Wo_isName_Edunits_22 _ _ _ _ hS)) ((b_Wo_isName_Edunits_18 hS))))
theorem b_Ed_lastPoint_7 {K : Nat} {G : CG} : ∀ (k : Nat) (y_1 : Int32) (S : CS), byt S → bG Prod.snd (f_Ed_lastPoint_7 K G k y_1 S) := by
  intro k
  induction k with
  | zero => intro y_1 S _; rw [f_Ed_lastPoint_7]; exact g_none
  | succ k ih => intro y_1 S hS; rw [f_Ed_lastPoint_7]; exact g_if (g_some hS) (g_g (g_if (g_some hS) (g_lv (fun x_5 => (ih _ _ hS)))))
theorem b_Ed_lastPoint {K : Nat} {G : CG} {S : CS} (hS : byt S) : bG Prod.snd (f_Ed_lastPoint K G S) := by
  unfold f_Ed_lastPoint
  exact g_lv (fun x_1 => (b_Ed_lastPoint_7 _ _ _ hS))
theorem b_Ed_takePlainName_48 {K : Nat} {G : CG} {S : CS} (hS : byt S) : bG Prod.snd (f_Ed_takePlainName_48 K G S) := by
  unfold f_Ed_takePlainName_48
  exact g_some hS
theorem b_Ed_takePlainName_130 {K : Nat} {G : CG} {rec_62 : Int32 → Int32 → Int32 → CS → Option (Int32 × CS)} {y_1 : Int32} {y_2 : Int32} {y_4 : Int32} {S : CS} (hrec_62 : ∀ (w0 : Int32) (w1 : Int32) (w2 : Int32) (w3 : CS), byt w3 → bG Prod.snd (rec_62 w0 w1 w2 w3)) (hS : byt S) : bG Prod.snd (f_Ed_takePlainName_130 K G rec_62 y_1 y_2 y_4 S) := by
  unfold f_Ed_takePlainName_130
  exact g_lv (fun x_14 => (hrec_62 _ _ _ _ hS))
theorem b_Ed_takePlainName_122 {K : Nat} {G : CG} {rec_62 : Int32 → Int32 → Int32 → CS → Option (Int32 × CS)} {y_1 : Int32} {y_2 : Int32} {y_4 : Int32} {z_1 : Int32} {S : CS} (hrec_62 : ∀ (w0 : Int32) (w1 : Int32) (w2 : Int32) (w3 : CS), byt w3 → bG Prod.snd (rec_62 w0 w1 w2 w3)) (hS : byt S) : bG Prod.snd (f_Ed_takePlainName_122 K G rec_62 y_1 y_2 y_4 z_1 S) := by
  unfold f_Ed_takePlainName_122
  exact g_g (g_g (g_ls hS (fun S_17 hS_17 => (b_Ed_takePlainName_130 hrec_62 hS_17))))
theorem b_Ed_takePlainName_92 {K : Nat} {G : CG} {rec_62 : Int32 → Int32 → Int32 → CS → Option (Int32 × CS)} {y_1 : Int32} {y_2 : Int32} {y_4 : Int32} {S : CS} (hrec_62 : ∀ (w0 : Int32) (w1 : Int32) (w2 : Int32) (w3 : CS), byt w3 → bG Prod.snd (rec_62 w0 w1 w2 w3)) (hS : byt S) : bG Prod.snd (f_Ed_takePlainName_92 K G rec_62 y_1 y_2 y_4 S) := by
  unfold f_Ed_takePlainName_92
  exact g_if ((b_Ed_takePlainName_130 hrec_62 hS)) (g_if ((b_Ed_takePlainName_122 hrec_62 hS)) ((b_Ed_takePlainName_122 hrec_62 hS)))
theorem b_Ed_takePlainName_62 {K : Nat} {G : CG} : ∀ (k : Nat) (y_1 : Int32) (y_2 : Int32) (y_4 : Int32) (S : CS), byt S → bG Prod.snd (f_Ed_takePlainName_62 K G k y_1 y_2 y_4 S) := by
  intro k
  induction k with
  | zero => intro y_1 y_2 y_4 S _; rw [f_Ed_takePlainName_62]; exact g_none
  | succ k ih => intro y_1 y_2 y_4 S hS; rw [f_Ed_takePlainName_62]; exact g_if (g_some hS) (g_if ((b_Ed_takePlainName_92 (fun w0 w1 w2 w3 w4 => ih w0 w1 w2 w3 w4) hS)) (g_g (g_p (fun r_10 => g_if (g_some hS) ((b_Ed_takePlainName_92 (fun w0 w1 w2 w3 w4 => ih w0 w1 w2 w3 w4) hS))))))
theorem b_Ed_takePlainName_36 {K : Nat} {G : CG} {y_1 : Int32} {y_2 : Int32} {z_0 : Int32} {S : CS} (hS : byt S) : bG Prod.snd (f_Ed_takePlainName_36 K G y_1 y_2 z_0 S) := by
  unfold f_Ed_takePlainName_36
  exact g_if ((b_Ed_takePlainName_48 hS)) (g_if (g_ls hS (fun S_6 hS_6 => (b_Ed_takePlainName_62 _ _ _ _ _ hS_6))) ((b_Ed_takePlainName_48 hS)))
theorem b_Ed_takePlainName_18 {K : Nat} {G : CG} {y_1 : Int32} {z_0 : Int32} {S : CS} (hS : byt S) : bG Prod.snd (f_Ed_takePlainName_18 K G y_1 z_0 S) := by
  unfold f_Ed_takePlainName_18
  exact g_if ((b_Ed_takePlainName_36 hS)) ((b_Ed_takePlainName_36 hS))
theorem b_Ed_takePlainName {K : Nat} {G : CG} {S : CS} (hS : byt S) : bG Prod.snd (f_Ed_takePlainName K G S) := by
  unfold f_Ed_takePlainName
  exact g_c (b_Ed_lastPoint hS) (fun r_1 S_1 hS_1 => g_if ((b_Ed_takePlainName_18 hS_1)) ((b_Ed_takePlainName_18 hS_1)))
theorem b_Ed_readName_13 {K : Nat} {G : CG} {S : CS} (hS : byt S) : bG Prod.snd (f_Ed_readName_13 K G S) := by
  unfold f_Ed_readName_13
  exact g_some hS
theorem b_Ed_readName_71 {K : Nat} {G : CG} {S : CS} (hS : byt S) : bG Prod.snd (f_Ed_readName_71 K G S) := by
  unfold f_Ed_readName_71
  exact g_c (b_Wo_isName_Edunits hS) (fun r_11 S_11 hS_11 => g_if (g_some hS_11) (g_c (b_Ed_takePlainName hS_11) (fun r_13 S_13 hS_13 => g_g (g_ls hS_13 (fun S_15 hS_15 => g_some hS_15)))))
theorem b_Ed_readName_24 {K : Nat} {G : CG} : ∀ (k : Nat) (y_3 : Int32) (S : CS), byt S → bG Prod.snd (f_Ed_readName_24 K G k y_3 S) := by
  intro k
  induction k with
  | zero => intro y_3 S _; rw [f_Ed_readName_24]; exact g_none
  | succ k ih => intro y_3 S hS; rw [f_Ed_readName_24]; exact g_if ((b_Ed_readName_71 hS)) (g_if ((b_Ed_readName_71 hS)) (g_c (b_Tp_one hS) (fun r_6 S_6 hS_6 => g_c (b_Tp_one hS_6) (fun r_7 S_7 hS_7 => g_g (g_ls hS_7 (fun S_9 hS_9 => g_lv (fun x_10 => (ih _ _ hS_9))))))))
theorem b_Ed_readName {K : Nat} {G : CG} {S : CS} {p1 : Int32} (hS : byt S) : bG Prod.snd (f_Ed_readName K G S p1) := by
  unfold f_Ed_readName
  exact g_if (g_if (g_ls hS (fun S_3 hS_3 => (b_Ed_readName_24 _ _ _ hS_3))) ((b_Ed_readName_13 hS))) ((b_Ed_readName_13 hS))
theorem b_Tr_isNamed_Edunits_24 {K : Nat} {G : CG} {S : CS} (hS : byt S) : bG Prod.snd (f_Tr_isNamed_Edunits_24 K G S) := by
  unfold f_Tr_isNamed_Edunits_24
  exact g_some hS
theorem b_Tr_isNamed_Edunits_85 {K : Nat} {G : CG} {rec_37 : Int32 → Int32 → Int32 → CS → Option (Int32 × CS)} {y_3 : Int32} {y_4 : Int32} {y_5 : Int32} {S : CS} (hrec_37 : ∀ (w0 : Int32) (w1 : Int32) (w2 : Int32) (w3 : CS), byt w3 → bG Prod.snd (rec_37 w0 w1 w2 w3)) (hS : byt S) : bG Prod.snd (f_Tr_isNamed_Edunits_85 K G rec_37 y_3 y_4 y_5 S) := by
  unfold f_Tr_isNamed_Edunits_85
  exact g_lv (fun x_17 => (hrec_37 _ _ _ _ hS))
theorem b_Tr_isNamed_Edunits_37 {K : Nat} {G : CG} : ∀ (k : Nat) (y_3 : Int32) (y_4 : Int32) (y_5 : Int32) (S : CS), byt S → bG Prod.snd (f_Tr_isNamed_Edunits_37 K G k y_3 y_4 y_5 S) := by
  intro k
  induction k with
  | zero => intro y_3 y_4 y_5 S _; rw [f_Tr_isNamed_Edunits_37]; exact g_none
  | succ k ih => intro y_3 y_4 y_5 S hS; rw [f_Tr_isNamed_Edunits_37]; exact g_if (g_some hS) (g_g (g_g (g_if ((b_Tr_isNamed_Edunits_85 (fun w0 w1 w2 w3 w4 => ih w0 w1 w2 w3 w4) hS)) (g_g (g_p (fun r_13 => g_g (g_p (fun r_15 => g_if ((b_Tr_isNamed_Edunits_85 (fun w0 w1 w2 w3 w4 => ih w0 w1 w2 w3 w4) hS)) (g_some hS)))))))))
theorem b_Tr_isNamed_Edunits {K : Nat} {G : CG} {S : CS} {p0 : Int32} {p2 : Int32} (hS : byt S) : bG Prod.snd (f_Tr_isNamed_Edunits K G S p0 p2) := by
  unfold f_Tr_isNamed_Edunits
  exact g_c (b_Tr_has hS) (fun r_1 S_1 hS_1 => g_if ((b_Tr_isNamed_Edunits_24 hS_1)) (g_g (g_if (g_if (g_g (g_lv (fun x_7 => (b_Tr_isNamed_Edunits_37 _ _ _ _ _ hS_1)))) ((b_Tr_isNamed_Edunits_24 hS_1))) ((b_Tr_isNamed_Edunits_24 hS_1)))))
theorem b_Ed_hasShortName_11 {K : Nat} {G : CG} : ∀ (k : Nat) (y_2 : Int32) (y_3 : Int32) (S : CS), byt S → bG Prod.snd (f_Ed_hasShortName_11 K G k y_2 y_3 S) := by
  intro k
  induction k with
  | zero => intro y_2 y_3 S _; rw [f_Ed_hasShortName_11]; exact g_none
  | succ k ih => intro y_2 y_3 S hS; rw [f_Ed_hasShortName_11]; exact g_if (g_some hS) (g_c (b_Dk_one hS) (fun r_3 S_3 hS_3 => g_g (g_if (g_lv (fun x_6 => (ih _ _ _ hS_3))) (g_some hS_3))))
theorem b_Ed_hasShortName {K : Nat} {G : CG} {S : CS} {p0 : Int32} (hS : byt S) : bG Prod.snd (f_Ed_hasShortName K G S p0) := by
  unfold f_Ed_hasShortName
  exact g_c (b_Tr_spotOf hS) (fun r_1 S_1 hS_1 => (b_Ed_hasShortName_11 _ _ _ _ hS_1))
theorem b_Ed_clashes_58 {K : Nat} {G : CG} {S : CS} (hS : byt S) : bG Prod.snd (f_Ed_clashes_58 K G S) := by
  unfold f_Ed_clashes_58
  exact g_some hS
theorem b_Ed_clashes_60 {K : Nat} {G : CG} {rec_2 : Int32 → Int32 → CS → Option (Int32 × CS)} {y_1 : Int32} {y_2 : Int32} {S : CS} (hrec_2 : ∀ (w0 : Int32) (w1 : Int32) (w2 : CS), byt w2 → bG Prod.snd (rec_2 w0 w1 w2)) (hS : byt S) : bG Prod.snd (f_Ed_clashes_60 K G rec_2 y_1 y_2 S) := by
  unfold f_Ed_clashes_60
  exact g_lv (fun x_9 => (hrec_2 _ _ _ hS))
theorem b_Ed_clashes_2 {K : Nat} {G : CG} : ∀ (k : Nat) (y_1 : Int32) (y_2 : Int32) (S : CS), byt S → bG Prod.snd (f_Ed_clashes_2 K G k y_1 y_2 S) := by
  intro k
  induction k with
  | zero => intro y_1 y_2 S _; rw [f_Ed_clashes_2]; exact g_none
  | succ k ih => intro y_1 y_2 S hS; rw [f_Ed_clashes_2]; exact g_c (b_Tr_countIn hS) (fun r_1 S_1 hS_1 => g_if (g_some hS_1) (g_c (b_Tr_kid hS_1) (fun r_3 S_3 hS_3 => g_c (b_Tr_isNamed_Edunits hS_3) (fun r_4 S_4 hS_4 => g_if (g_if ((b_Ed_clashes_60 (fun w0 w1 w2 w3 => ih w0 w1 w2 w3) hS_4)) (g_c (b_Ed_hasShortName hS_4) (fun r_7 S_7 hS_7 => g_if ((b_Ed_clashes_60 (fun w0 w1 w2 w3 => ih w0 w1 w2 w3) hS_7)) ((b_Ed_clashes_58 hS_7))))) ((b_Ed_clashes_58 hS_4))))))
theorem b_Ed_clashes {K : Nat} {G : CG} {S : CS} {p0 : Int32} (hS : byt S) : bG Prod.snd (f_Ed_clashes K G S p0) := by
  unfold f_Ed_clashes
  exact (b_Ed_clashes_2 _ _ _ _ hS)
theorem b_Ed_isShortNameTaken_2 {K : Nat} {G : CG} : ∀ (k : Nat) (y_1 : Int32) (y_2 : Int32) (S : CS), byt S → bG Prod.snd (f_Ed_isShortNameTaken_2 K G k y_1 y_2 S) := by
  intro k
  induction k with
  | zero => intro y_1 y_2 S _; rw [f_Ed_isShortNameTaken_2]; exact g_none
  | succ k ih => intro y_1 y_2 S hS; rw [f_Ed_isShortNameTaken_2]; exact g_c (b_Tr_countIn hS) (fun r_1 S_1 hS_1 => g_if (g_some hS_1) (g_c (b_Tr_kid hS_1) (fun r_3 S_3 hS_3 => g_c (b_Ed_hasShortName hS_3) (fun r_4 S_4 hS_4 => g_if (g_lv (fun x_6 => (ih _ _ _ hS_4))) (g_some hS_4)))))
theorem b_Ed_isShortNameTaken {K : Nat} {G : CG} {S : CS} {p0 : Int32} (hS : byt S) : bG Prod.snd (f_Ed_isShortNameTaken K G S p0) := by
  unfold f_Ed_isShortNameTaken
  exact (b_Ed_isShortNameTaken_2 _ _ _ _ hS)
theorem b_Ed_squeeze_72 {K : Nat} {G : CG} {rec_6 : Int32 → Int32 → Int32 → Int32 → Int32 → CS → Option (Int32 × CS)} {y_2 : Int32} {y_3 : Int32} {y_4 : Int32} {y_5 : Int32} {y_6 : Int32} {S : CS} (hrec_6 : ∀ (w0 : Int32) (w1 : Int32) (w2 : Int32) (w3 : Int32) (w4 : Int32) (w5 : CS), byt w5 → bG Prod.snd (rec_6 w0 w1 w2 w3 w4 w5)) (hS : byt S) : bG Prod.snd (f_Ed_squeeze_72 K G rec_6 y_2 y_3 y_4 y_5 y_6 S) := by
  unfold f_Ed_squeeze_72
  exact g_lv (fun x_9 => (hrec_6 _ _ _ _ _ _ hS))
theorem b_Ed_squeeze_68 {K : Nat} {G : CG} {rec_6 : Int32 → Int32 → Int32 → Int32 → Int32 → CS → Option (Int32 × CS)} {y_2 : Int32} {y_3 : Int32} {y_4 : Int32} {y_5 : Int32} {y_6 : Int32} {z_1 : Int32} {z_2 : Int32} {S : CS} (hrec_6 : ∀ (w0 : Int32) (w1 : Int32) (w2 : Int32) (w3 : Int32) (w4 : Int32) (w5 : CS), byt w5 → bG Prod.snd (rec_6 w0 w1 w2 w3 w4 w5)) (hS : byt S) : bG Prod.snd (f_Ed_squeeze_68 K G rec_6 y_2 y_3 y_4 y_5 y_6 z_1 z_2 S) := by
  unfold f_Ed_squeeze_68
  exact g_g (g_ls hS (fun S_11 hS_11 => g_lv (fun x_12 => (b_Ed_squeeze_72 hrec_6 hS_11))))
theorem b_Ed_squeeze_78 {K : Nat} {G : CG} {y_5 : Int32} {S : CS} (hS : byt S) : bG Prod.snd (f_Ed_squeeze_78 K G y_5 S) := by
  unfold f_Ed_squeeze_78
  exact g_some hS
theorem b_Ed_squeeze_6 {K : Nat} {G : CG} : ∀ (k : Nat) (y_2 : Int32) (y_3 : Int32) (y_4 : Int32) (y_5 : Int32) (y_6 : Int32) (S : CS), byt S → bG Prod.snd (f_Ed_squeeze_6 K G k y_2 y_3 y_4 y_5 y_6 S) := by
  intro k
  induction k with
  | zero => intro y_2 y_3 y_4 y_5 y_6 S _; rw [f_Ed_squeeze_6]; exact g_none
  | succ k ih => intro y_2 y_3 y_4 y_5 y_6 S hS; rw [f_Ed_squeeze_6]; exact g_if ((b_Ed_squeeze_78 hS)) (g_if ((b_Ed_squeeze_78 hS)) (g_g (g_p (fun r_4 => g_if ((b_Ed_squeeze_72 (fun w0 w1 w2 w3 w4 w5 w6 => ih w0 w1 w2 w3 w4 w5 w6) hS)) (g_if ((b_Ed_squeeze_72 (fun w0 w1 w2 w3 w4 w5 w6 => ih w0 w1 w2 w3 w4 w5 w6) hS)) (g_p (fun r_7 => g_if ((b_Ed_squeeze_68 (fun w0 w1 w2 w3 w4 w5 w6 => ih w0 w1 w2 w3 w4 w5 w6) hS)) ((b_Ed_squeeze_68 (fun w0 w1 w2 w3 w4 w5 w6 => ih w0 w1 w2 w3 w4 w5 w6) hS)))))))))
theorem b_Ed_squeeze {K : Nat} {G : CG} {S : CS} {p0 : Int32} {p1 : Int32} {p2 : Int32} {p3 : Int32} (hS : byt S) : bG Prod.snd (f_Ed_squeeze K G S p0 p1 p2 p3) := by
  unfold f_Ed_squeeze
  exact (b_Ed_squeeze_6 _ _ _ _ _ _ _ hS)
theorem b_Ed_inventShortName_170 {K : Nat} {G : CG} {rec_26 : Int32 → Int32 → Int32 → Int32 → Int32 → Int32 → CS → Option (CS)} {y_1 : Int32} {y_2 : Int32} {y_3 : Int32} {y_4 : Int32} {y_5 : Int32} {y_6 : Int32} {S : CS} (hrec_26 : ∀ (w0 : Int32) (w1 : Int32) (w2 : Int32) (w3 : Int32) (w4 : Int32) (w5 : Int32) (w6 : CS), byt w6 → bG id (rec_26 w0 w1 w2 w3 w4 w5 w6)) (hS : byt S) : bG id (f_Ed_inventShortName_170 K G rec_26 y_1 y_2 y_3 y_4 y_5 y_6 S) := by
  unfold f_Ed_inventShortName_170
  exact g_c (b_Ed_isShortNameTaken hS) (fun r_22 S_22 hS_22 => g_if (g_some hS_22) (g_lv (fun x_24 => (hrec_26 _ _ _ _ _ _ _ hS_22))))
theorem b_Ed_inventShortName_128 {K : Nat} {G : CG} {rec_26 : Int32 → Int32 → Int32 → Int32 → Int32 → Int32 → CS → Option (CS)} (hrec_26 : ∀ (w0 : Int32) (w1 : Int32) (w2 : Int32) (w3 : Int32) (w4 : Int32) (w5 : Int32) (w6 : CS), byt w6 → bG id (rec_26 w0 w1 w2 w3 w4 w5 w6)) : ∀ (k : Nat) (y_1 : Int32) (y_2 : Int32) (y_3 : Int32) (y_4 : Int32) (y_5 : Int32) (y_6 : Int32) (y_7 : Int32) (y_8 : Int32) (y_9 : Int32) (S : CS), byt S → bG id (f_Ed_inventShortName_128 K G rec_26 k y_1 y_2 y_3 y_4 y_5 y_6 y_7 y_8 y_9 S) := by
  intro k
  induction k with
  | zero => intro y_1 y_2 y_3 y_4 y_5 y_6 y_7 y_8 y_9 S _; rw [f_Ed_inventShortName_128]; exact g_none
  | succ k ih => intro y_1 y_2 y_3 y_4 y_5 y_6 y_7 y_8 y_9 S hS; rw [f_Ed_inventShortName_128]; exact g_if ((b_Ed_inventShortName_170 hrec_26 hS)) (g_if ((b_Ed_inventShortName_170 hrec_26 hS)) (g_g (g_ls hS (fun S_19 hS_19 => g_lv (fun x_20 => g_lv (fun x_21 => (ih _ _ _ _ _ _ _ _ _ _ hS_19)))))))
theorem b_Ed_inventShortName_108 {K : Nat} {G : CG} {rec_26 : Int32 → Int32 → Int32 → Int32 → Int32 → Int32 → CS → Option (CS)} {y_1 : Int32} {y_2 : Int32} {y_3 : Int32} {y_4 : Int32} {y_5 : Int32} {y_6 : Int32} {y_7 : Int32} {S : CS} (hrec_26 : ∀ (w0 : Int32) (w1 : Int32) (w2 : Int32) (w3 : Int32) (w4 : Int32) (w5 : Int32) (w6 : CS), byt w6 → bG id (rec_26 w0 w1 w2 w3 w4 w5 w6)) (hS : byt S) : bG id (f_Ed_inventShortName_108 K G rec_26 y_1 y_2 y_3 y_4 y_5 y_6 y_7 S) := by
  unfold f_Ed_inventShortName_108
  exact g_g (g_ls hS (fun S_14 hS_14 => g_lv (fun x_15 => (b_Ed_inventShortName_128 hrec_26 _ _ _ _ _ _ _ _ _ _ _ hS_14))))
theorem b_Ed_inventShortName_73 {K : Nat} {G : CG} {rec_26 : Int32 → Int32 → Int32 → Int32 → Int32 → Int32 → CS → Option (CS)} {y_1 : Int32} {y_2 : Int32} {y_3 : Int32} {y_4 : Int32} {y_5 : Int32} {y_6 : Int32} {z_1 : Int32} {z_2 : Int32} {S : CS} (hrec_26 : ∀ (w0 : Int32) (w1 : Int32) (w2 : Int32) (w3 : Int32) (w4 : Int32) (w5 : Int32) (w6 : CS), byt w6 → bG id (rec_26 w0 w1 w2 w3 w4 w5 w6)) (hS : byt S) : bG id (f_Ed_inventShortName_73 K G rec_26 y_1 y_2 y_3 y_4 y_5 y_6 z_1 z_2 S) := by
  unfold f_Ed_inventShortName_73
  exact g_c (b_Ed_squeeze hS) (fun r_10 S_10 hS_10 => g_if ((b_Ed_inventShortName_108 hrec_26 hS_10)) (g_c (b_Ed_squeeze hS_10) (fun r_12 S_12 hS_12 => (b_Ed_inventShortName_108 hrec_26 hS_12))))
theorem b_Ed_inventShortName_49 {K : Nat} {G : CG} {rec_26 : Int32 → Int32 → Int32 → Int32 → Int32 → Int32 → CS → Option (CS)} {y_1 : Int32} {y_2 : Int32} {y_3 : Int32} {y_4 : Int32} {y_5 : Int32} {y_6 : Int32} {S : CS} (hrec_26 : ∀ (w0 : Int32) (w1 : Int32) (w2 : Int32) (w3 : Int32) (w4 : Int32) (w5 : Int32) (w6 : CS), byt w6 → bG id (rec_26 w0 w1 w2 w3 w4 w5 w6)) (hS : byt S) : bG id (f_Ed_inventShortName_49 K G rec_26 y_1 y_2 y_3 y_4 y_5 y_6 S) := by
  unfold f_Ed_inventShortName_49
  exact g_ls hS (fun S_8 hS_8 => g_if ((b_Ed_inventShortName_73 hrec_26 hS_8)) ((b_Ed_inventShortName_73 hrec_26 hS_8)))
theorem b_Ed_inventShortName_26 {K : Nat} {G : CG} : ∀ (k : Nat) (y_1 : Int32) (y_2 : Int32) (y_3 : Int32) (y_4 : Int32) (y_5 : Int32) (y_6 : Int32) (S : CS), byt S → bG id (f_Ed_inventShortName_26 K G k y_1 y_2 y_3 y_4 y_5 y_6 S) := by
  intro k
  induction k with
  | zero => intro y_1 y_2 y_3 y_4 y_5 y_6 S _; rw [f_Ed_inventShortName_26]; exact g_none
  | succ k ih => intro y_1 y_2 y_3 y_4 y_5 y_6 S hS; rw [f_Ed_inventShortName_26]; exact g_if (g_some hS) (g_if (g_lv (fun x_6 => g_lv (fun x_7 => (b_Ed_inventShortName_49 (fun w0 w1 w2 w3 w4 w5 w6 w7 => ih w0 w1 w2 w3 w4 w5 w6 w7) hS)))) ((b_Ed_inventShortName_49 (fun w0 w1 w2 w3 w4 w5 w6 w7 => ih w0 w1 w2 w3 w4 w5 w6 w7) hS)))
theorem b_Ed_inventShortName {K : Nat} {G : CG} {S : CS} {p0 : Int32} (hS : byt S) : bG id (f_Ed_inventShortName K G S p0) := by
  unfold f_Ed_inventShortName
  exact g_c (b_Ed_lastPoint hS) (fun r_1 S_1 hS_1 => g_c (b_Tr_countIn hS_1) (fun r_2 S_2 hS_2 => g_lv (fun x_3 => (b_Ed_inventShortName_26 _ _ _ _ _ _ _ _ hS_2))))
theorem b_Tb_road_Edroad_38 {K : Nat} {G : CG} {y_4 : Int32} {S : CS} (hS : byt S) : bG Prod.snd (f_Tb_road_Edroad_38 K G y_4 S) := by
  unfold f_Tb_road_Edroad_38
  exact g_some hS
theorem b_Tb_road_Edroad_5 {K : Nat} {G : CG} : ∀ (k : Nat) (y_3 : Int32) (y_4 : Int32) (S : CS), byt S → bG Prod.snd (f_Tb_road_Edroad_5 K G k y_3 y_4 S) := by
  intro k
  induction k with
  | zero => intro y_3 y_4 S _; rw [f_Tb_road_Edroad_5]; exact g_none
  | succ k ih => intro y_3 y_4 S hS; rw [f_Tb_road_Edroad_5]; exact g_if ((b_Tb_road_Edroad_38 hS)) (g_c (b_Tb_hasCluster hS) (fun r_2 S_2 hS_2 => g_if ((b_Tb_road_Edroad_38 hS_2)) (g_g (g_ls hS_2 (fun S_5 hS_5 => g_lv (fun x_6 => g_g (g_lv (fun x_8 => (ih _ _ _ hS_5)))))))))
theorem b_Tb_road_Edroad {K : Nat} {G : CG} {S : CS} {p0 : Int32} (hS : byt S) : bG Prod.snd (f_Tb_road_Edroad K G S p0) := by
  unfold f_Tb_road_Edroad
  exact (b_Tb_road_Edroad_5 _ _ _ _ hS)
theorem b_Tb_slotPlace_Edroad_22 {K : Nat} {G : CG} {S : CS} (hS : byt S) : bG Prod.snd (f_Tb_slotPlace_Edroad_22 K G S) := by
  unfold f_Tb_slotPlace_Edroad_22
  exact g_some hS
theorem b_Tb_slotPlace_Edroad {K : Nat} {G : CG} {S : CS} {p1 : Int32} (hS : byt S) : bG Prod.snd (f_Tb_slotPlace_Edroad K G S p1) := by
  unfold f_Tb_slotPlace_Edroad
  exact g_c (b_Tb_slotsOfCluster hS) (fun r_1 S_1 hS_1 => g_if ((b_Tb_slotPlace_Edroad_22 hS_1)) (g_if ((b_Tb_slotPlace_Edroad_22 hS_1)) (g_g (g_if (g_g (g_g (g_c (b_Tb_place hS_1) (fun r_8 S_8 hS_8 => g_g (g_some hS_8))))) ((b_Tb_slotPlace_Edroad_22 hS_1))))))
theorem b_Ed_slotPlace {K : Nat} {G : CG} {S : CS} {p0 : Int32} (hS : byt S) : bG Prod.snd (f_Ed_slotPlace K G S p0) := by
  unfold f_Ed_slotPlace
  exact g_c (b_Tb_slotsOfCluster hS) (fun r_1 S_1 hS_1 => g_if (g_some hS_1) (g_c (b_Tb_slotPlace_Edroad hS_1) (fun r_3 S_3 hS_3 => g_some hS_3)))
theorem b_Ed_findSlots_231 {K : Nat} {G : CG} {z_0 : Int32} {z_1 : Int32} {S : CS} (hS : byt S) : bG Prod.snd (f_Ed_findSlots_231 K G z_0 z_1 S) := by
  unfold f_Ed_findSlots_231
  exact g_c (b_Tb_countFree hS) (fun r_26 S_26 hS_26 => g_if (g_some hS_26) (g_some hS_26))
theorem b_Ed_findSlots_218 {K : Nat} {G : CG} {y_2 : Int32} {S : CS} (hS : byt S) : bG Prod.snd (f_Ed_findSlots_218 K G y_2 S) := by
  unfold f_Ed_findSlots_218
  exact g_if ((b_Ed_findSlots_231 hS)) ((b_Ed_findSlots_231 hS))
theorem b_Ed_findSlots_215 {K : Nat} {G : CG} {y_2 : Int32} {z_1 : Int32} {S : CS} (hS : byt S) : bG Prod.snd (f_Ed_findSlots_215 K G y_2 z_1 S) := by
  unfold f_Ed_findSlots_215
  exact g_ls hS (fun S_22 hS_22 => (b_Ed_findSlots_218 hS_22))
theorem b_Ed_findSlots_183 {K : Nat} {G : CG} {y_2 : Int32} {y_3 : Int32} {y_5 : Int32} {S : CS} (hS : byt S) : bG Prod.snd (f_Ed_findSlots_183 K G y_2 y_3 y_5 S) := by
  unfold f_Ed_findSlots_183
  exact g_if ((b_Ed_findSlots_218 hS)) (g_if (g_g ((b_Ed_findSlots_215 hS))) ((b_Ed_findSlots_215 hS)))
theorem b_Ed_findSlots_152 {K : Nat} {G : CG} {rec_85 : Int32 → Int32 → Int32 → Int32 → Int32 → CS → Option (Int32 × CS)} {y_2 : Int32} {y_3 : Int32} {y_4 : Int32} {y_6 : Int32} {z_0 : Int32} {S : CS} (hrec_85 : ∀ (w0 : Int32) (w1 : Int32) (w2 : Int32) (w3 : Int32) (w4 : Int32) (w5 : CS), byt w5 → bG Prod.snd (rec_85 w0 w1 w2 w3 w4 w5)) (hS : byt S) : bG Prod.snd (f_Ed_findSlots_152 K G rec_85 y_2 y_3 y_4 y_6 z_0 S) := by
  unfold f_Ed_findSlots_152
  exact g_ls hS (fun S_23 hS_23 => g_if ((b_Ed_findSlots_183 hS_23)) (g_lv (fun x_25 => (hrec_85 _ _ _ _ _ _ hS_23))))
theorem b_Ed_findSlots_144 {K : Nat} {G : CG} {rec_85 : Int32 → Int32 → Int32 → Int32 → Int32 → CS → Option (Int32 × CS)} {y_2 : Int32} {y_3 : Int32} {y_4 : Int32} {y_5 : Int32} {y_6 : Int32} {S : CS} (hrec_85 : ∀ (w0 : Int32) (w1 : Int32) (w2 : Int32) (w3 : Int32) (w4 : Int32) (w5 : CS), byt w5 → bG Prod.snd (rec_85 w0 w1 w2 w3 w4 w5)) (hS : byt S) : bG Prod.snd (f_Ed_findSlots_144 K G rec_85 y_2 y_3 y_4 y_5 y_6 S) := by
  unfold f_Ed_findSlots_144
  exact (b_Ed_findSlots_152 hrec_85 hS)
theorem b_Ed_findSlots_127 {K : Nat} {G : CG} {rec_85 : Int32 → Int32 → Int32 → Int32 → Int32 → CS → Option (Int32 × CS)} {y_2 : Int32} {y_3 : Int32} {y_4 : Int32} {y_5 : Int32} {y_6 : Int32} {y_7 : Int32} {S : CS} (hrec_85 : ∀ (w0 : Int32) (w1 : Int32) (w2 : Int32) (w3 : Int32) (w4 : Int32) (w5 : CS), byt w5 → bG Prod.snd (rec_85 w0 w1 w2 w3 w4 w5)) (hS : byt S) : bG Prod.snd (f_Ed_findSlots_127 K G rec_85 y_2 y_3 y_4 y_5 y_6 y_7 S) := by
  unfold f_Ed_findSlots_127
  exact g_if ((b_Ed_findSlots_144 hrec_85 hS)) (g_if ((b_Ed_findSlots_152 hrec_85 hS)) ((b_Ed_findSlots_144 hrec_85 hS)))
theorem b_Ed_findSlots_85 {K : Nat} {G : CG} : ∀ (k : Nat) (y_2 : Int32) (y_3 : Int32) (y_4 : Int32) (y_5 : Int32) (y_6 : Int32) (S : CS), byt S → bG Prod.snd (f_Ed_findSlots_85 K G k y_2 y_3 y_4 y_5 y_6 S) := by
  intro k
  induction k with
  | zero => intro y_2 y_3 y_4 y_5 y_6 S _; rw [f_Ed_findSlots_85]; exact g_none
  | succ k ih => intro y_2 y_3 y_4 y_5 y_6 S hS; rw [f_Ed_findSlots_85]; exact g_if ((b_Ed_findSlots_183 hS)) (g_c (b_Ed_slotPlace hS) (fun r_11 S_11 hS_11 => g_c (b_Dk_one hS_11) (fun r_12 S_12 hS_12 => g_if (g_if (g_ls hS_12 (fun S_15 hS_15 => (b_Ed_findSlots_127 (fun w0 w1 w2 w3 w4 w5 w6 => ih w0 w1 w2 w3 w4 w5 w6) hS_15))) ((b_Ed_findSlots_127 (fun w0 w1 w2 w3 w4 w5 w6 => ih w0 w1 w2 w3 w4 w5 w6) hS_12))) ((b_Ed_findSlots_127 (fun w0 w1 w2 w3 w4 w5 w6 => ih w0 w1 w2 w3 w4 w5 w6) hS_12)))))
theorem b_Ed_findSlots_26 {K : Nat} {G : CG} {y_1 : Int32} {y_2 : Int32} {z_1 : Int32} {S : CS} (hS : byt S) : bG Prod.snd (f_Ed_findSlots_26 K G y_1 y_2 z_1 S) := by
  unfold f_Ed_findSlots_26
  exact g_ls hS (fun S_2 hS_2 => g_c (b_Tr_firstOf hS_2) (fun r_3 S_3 hS_3 => g_c (b_Tb_road_Edroad hS_3) (fun r_4 S_4 hS_4 => g_ls hS_4 (fun S_5 hS_5 => g_c (b_Tb_slotsOfCluster hS_5) (fun r_6 S_6 hS_6 => g_lv (fun x_7 => g_ls hS_6 (fun S_8 hS_8 => g_ls hS_8 (fun S_9 hS_9 => (b_Ed_findSlots_85 _ _ _ _ _ _ _ hS_9)))))))))
theorem b_Ed_findSlots {K : Nat} {G : CG} {S : CS} {p0 : Int32} {p1 : Int32} (hS : byt S) : bG Prod.snd (f_Ed_findSlots K G S p0 p1) := by
  unfold f_Ed_findSlots
  exact g_if ((b_Ed_findSlots_26 hS)) ((b_Ed_findSlots_26 hS))
theorem b_Ed_putFirstCluster {K : Nat} {G : CG} {S : CS} {p0 : Int32} {p1 : Int32} (hS : byt S) : bG id (f_Ed_putFirstCluster K G S p0 p1) := by
  unfold f_Ed_putFirstCluster
  exact g_b (b_Dk_putTwo hS) (fun S_1 hS_1 => g_b (b_Dk_putTwo hS_1) (fun S_2 hS_2 => g_some hS_2))
theorem b_Ed_putEntry_63 {K : Nat} {G : CG} {y_1 : Int32} {y_2 : Int32} {z_1 : Int32} {z_2 : Int32} {S : CS} (hS : byt S) : bG id (f_Ed_putEntry_63 K G y_1 y_2 z_1 z_2 S) := by
  unfold f_Ed_putEntry_63
  exact g_b (b_Dk_putOne hS) (fun S_7 hS_7 => g_b (b_Dk_putTwo hS_7) (fun S_8 hS_8 => g_b (b_Ed_putFirstCluster hS_8) (fun S_9 hS_9 => g_some hS_9)))
theorem b_Ed_putEntry_13 {K : Nat} {G : CG} : ∀ (k : Nat) (y_1 : Int32) (y_2 : Int32) (y_3 : Int32) (y_4 : Int32) (S : CS), byt S → bG id (f_Ed_putEntry_13 K G k y_1 y_2 y_3 y_4 S) := by
  intro k
  induction k with
  | zero => intro y_1 y_2 y_3 y_4 S _; rw [f_Ed_putEntry_13]; exact g_none
  | succ k ih => intro y_1 y_2 y_3 y_4 S hS; rw [f_Ed_putEntry_13]; exact g_if (g_if ((b_Ed_putEntry_63 hS)) ((b_Ed_putEntry_63 hS))) (g_g (g_b (b_Dk_putOne hS) (fun S_5 hS_5 => g_lv (fun x_6 => (ih _ _ _ _ _ hS_5)))))
theorem b_Ed_putEntry {K : Nat} {G : CG} {S : CS} {p0 : Int32} {p1 : Int32} {p2 : Int32} (hS : byt S) : bG id (f_Ed_putEntry K G S p0 p1 p2) := by
  unfold f_Ed_putEntry
  exact g_b (b_Dk_zero hS) (fun S_1 hS_1 => (b_Ed_putEntry_13 _ _ _ _ _ _ hS_1))
theorem b_Ed_lengthenRoad_47 {K : Nat} {G : CG} {y_1 : Int32} {S : CS} (hS : byt S) : bG id (f_Ed_lengthenRoad_47 K G y_1 S) := by
  unfold f_Ed_lengthenRoad_47
  exact g_g (g_ls hS (fun S_7 hS_7 => g_ls hS_7 (fun S_8 hS_8 => g_some hS_8)))
theorem b_Ed_lengthenRoad {K : Nat} {G : CG} {S : CS} (hS : byt S) : bG id (f_Ed_lengthenRoad K G S) := by
  unfold f_Ed_lengthenRoad
  exact g_c (b_Tb_takeFree hS) (fun r_1 S_1 hS_1 => g_if (g_if ((b_Ed_lengthenRoad_47 hS_1)) (g_g (g_b (b_Tb_link hS_1) (fun S_5 hS_5 => (b_Ed_lengthenRoad_47 hS_5))))) (g_some hS_1))
theorem b_Ed_putPart_134 {K : Nat} {G : CG} {rec_84 : Int32 → Int32 → Int32 → CS → Option (CS)} {y_1 : Int32} {y_2 : Int32} {y_3 : Int32} {z_0 : Int32} {S : CS} (hrec_84 : ∀ (w0 : Int32) (w1 : Int32) (w2 : Int32) (w3 : CS), byt w3 → bG id (rec_84 w0 w1 w2 w3)) (hS : byt S) : bG id (f_Ed_putPart_134 K G rec_84 y_1 y_2 y_3 z_0 S) := by
  unfold f_Ed_putPart_134
  exact g_p (fun r_13 => g_b (b_Dk_putTwo hS) (fun S_14 hS_14 => g_lv (fun x_15 => (hrec_84 _ _ _ _ hS_14))))
theorem b_Ed_putPart_84 {K : Nat} {G : CG} : ∀ (k : Nat) (y_1 : Int32) (y_2 : Int32) (y_3 : Int32) (S : CS), byt S → bG id (f_Ed_putPart_84 K G k y_1 y_2 y_3 S) := by
  intro k
  induction k with
  | zero => intro y_1 y_2 y_3 S _; rw [f_Ed_putPart_84]; exact g_none
  | succ k ih => intro y_1 y_2 y_3 S hS; rw [f_Ed_putPart_84]; exact g_if (g_some hS) (g_lv (fun x_9 => g_if (g_if ((b_Ed_putPart_134 (fun w0 w1 w2 w3 w4 => ih w0 w1 w2 w3 w4) hS)) ((b_Ed_putPart_134 (fun w0 w1 w2 w3 w4 => ih w0 w1 w2 w3 w4) hS))) (g_g ((b_Ed_putPart_134 (fun w0 w1 w2 w3 w4 => ih w0 w1 w2 w3 w4) hS)))))
theorem b_Ed_putPart_33 {K : Nat} {G : CG} {y_1 : Int32} {y_2 : Int32} {z_1 : Int32} {z_2 : Int32} {S : CS} (hS : byt S) : bG id (f_Ed_putPart_33 K G y_1 y_2 z_1 z_2 S) := by
  unfold f_Ed_putPart_33
  exact g_b (b_Dk_putOne hS) (fun S_3 hS_3 => g_b (b_Dk_putOne hS_3) (fun S_4 hS_4 => g_c (b_Ed_slotPlace hS_4) (fun r_5 S_5 hS_5 => g_c (b_Wo_sum hS_5) (fun r_6 S_6 hS_6 => g_b (b_Dk_putOne hS_6) (fun S_7 hS_7 => (b_Ed_putPart_84 _ _ _ _ _ hS_7))))))
theorem b_Ed_putPart {K : Nat} {G : CG} {S : CS} {p0 : Int32} {p1 : Int32} (hS : byt S) : bG id (f_Ed_putPart K G S p0 p1) := by
  unfold f_Ed_putPart
  exact g_b (b_Dk_zero hS) (fun S_1 hS_1 => g_if ((b_Ed_putPart_33 hS_1)) ((b_Ed_putPart_33 hS_1)))
theorem b_Ed_putDots_56 {K : Nat} {G : CG} {rec_2 : Int32 → Int32 → Int32 → CS → Option (CS)} {rec_27 : Int32 → Int32 → Int32 → Int32 → Int32 → CS → Option (CS)} {y_1 : Int32} {y_2 : Int32} {y_3 : Int32} {y_4 : Int32} {y_5 : Int32} {z_1 : Int32} {z_2 : Int32} {S : CS} (hrec_2 : ∀ (w0 : Int32) (w1 : Int32) (w2 : Int32) (w3 : CS), byt w3 → bG id (rec_2 w0 w1 w2 w3)) (hrec_27 : ∀ (w0 : Int32) (w1 : Int32) (w2 : Int32) (w3 : Int32) (w4 : Int32) (w5 : CS), byt w5 → bG id (rec_27 w0 w1 w2 w3 w4 w5)) (hS : byt S) : bG id (f_Ed_putDots_56 K G rec_2 rec_27 y_1 y_2 y_3 y_4 y_5 z_1 z_2 S) := by
  unfold f_Ed_putDots_56
  exact g_b (b_Dk_putOne hS) (fun S_13 hS_13 => g_lv (fun x_14 => (hrec_27 _ _ _ _ _ _ hS_13)))
theorem b_Ed_putDots_121 {K : Nat} {G : CG} {rec_2 : Int32 → Int32 → Int32 → CS → Option (CS)} {y_1 : Int32} {y_2 : Int32} {y_3 : Int32} {z_1 : Int32} {z_2 : Int32} {S : CS} (hrec_2 : ∀ (w0 : Int32) (w1 : Int32) (w2 : Int32) (w3 : CS), byt w3 → bG id (rec_2 w0 w1 w2 w3)) (hS : byt S) : bG id (f_Ed_putDots_121 K G rec_2 y_1 y_2 y_3 z_1 z_2 S) := by
  unfold f_Ed_putDots_121
  exact g_b (b_Ed_putFirstCluster hS) (fun S_11 hS_11 => g_lv (fun x_12 => (hrec_2 _ _ _ _ hS_11)))
theorem b_Ed_putDots_27 {K : Nat} {G : CG} {rec_2 : Int32 → Int32 → Int32 → CS → Option (CS)} (hrec_2 : ∀ (w0 : Int32) (w1 : Int32) (w2 : Int32) (w3 : CS), byt w3 → bG id (rec_2 w0 w1 w2 w3)) : ∀ (k : Nat) (y_1 : Int32) (y_2 : Int32) (y_3 : Int32) (y_4 : Int32) (y_5 : Int32) (S : CS), byt S → bG id (f_Ed_putDots_27 K G rec_2 k y_1 y_2 y_3 y_4 y_5 S) := by
  intro k
  induction k with
  | zero => intro y_1 y_2 y_3 y_4 y_5 S _; rw [f_Ed_putDots_27]; exact g_none
  | succ k ih => intro y_1 y_2 y_3 y_4 y_5 S hS; rw [f_Ed_putDots_27]; exact g_if (g_b (b_Dk_putOne hS) (fun S_5 hS_5 => g_b (b_Dk_putTwo hS_5) (fun S_6 hS_6 => g_if ((b_Ed_putDots_121 hrec_2 hS_6)) (g_if ((b_Ed_putDots_121 hrec_2 hS_6)) (g_c (b_Tr_firstOf hS_6) (fun r_9 S_9 hS_9 => (b_Ed_putDots_121 hrec_2 hS_9))))))) (g_if ((b_Ed_putDots_56 hrec_2 (fun w0 w1 w2 w3 w4 w5 w6 => ih w0 w1 w2 w3 w4 w5 w6) hS)) ((b_Ed_putDots_56 hrec_2 (fun w0 w1 w2 w3 w4 w5 w6 => ih w0 w1 w2 w3 w4 w5 w6) hS)))
theorem b_Ed_putDots_2 {K : Nat} {G : CG} : ∀ (k : Nat) (y_1 : Int32) (y_2 : Int32) (y_3 : Int32) (S : CS), byt S → bG id (f_Ed_putDots_2 K G k y_1 y_2 y_3 S) := by
  intro k
  induction k with
  | zero => intro y_1 y_2 y_3 S _; rw [f_Ed_putDots_2]; exact g_none
  | succ k ih => intro y_1 y_2 y_3 S hS; rw [f_Ed_putDots_2]; exact g_if (g_some hS) (g_c (b_Tb_place hS) (fun r_2 S_2 hS_2 => g_lv (fun x_3 => (b_Ed_putDots_27 (fun w0 w1 w2 w3 w4 => ih w0 w1 w2 w3 w4) _ _ _ _ _ _ _ hS_2))))
theorem b_Ed_putDots {K : Nat} {G : CG} {S : CS} {p0 : Int32} {p1 : Int32} (hS : byt S) : bG id (f_Ed_putDots K G S p0 p1) := by
  unfold f_Ed_putDots
  exact (b_Ed_putDots_2 _ _ _ _ _ hS)
theorem b_Ed_addItem_210 {K : Nat} {G : CG} {rec_166 : Int32 → Int32 → Int32 → CS → Option (Int32 × CS)} {y_1 : Int32} {y_5 : Int32} {z_0 : Int32} {z_1 : Int32} {S : CS} (hrec_166 : ∀ (w0 : Int32) (w1 : Int32) (w2 : Int32) (w3 : CS), byt w3 → bG Prod.snd (rec_166 w0 w1 w2 w3)) (hS : byt S) : bG Prod.snd (f_Ed_addItem_210 K G rec_166 y_1 y_5 z_0 z_1 S) := by
  unfold f_Ed_addItem_210
  exact g_lv (fun x_24 => g_lv (fun x_25 => (hrec_166 _ _ _ _ hS)))
theorem b_Ed_addItem_166 {K : Nat} {G : CG} : ∀ (k : Nat) (y_1 : Int32) (y_4 : Int32) (y_5 : Int32) (S : CS), byt S → bG Prod.snd (f_Ed_addItem_166 K G k y_1 y_4 y_5 S) := by
  intro k
  induction k with
  | zero => intro y_1 y_4 y_5 S _; rw [f_Ed_addItem_166]; exact g_none
  | succ k ih => intro y_1 y_4 y_5 S hS; rw [f_Ed_addItem_166]; exact g_c (b_Tr_countIn hS) (fun r_19 S_19 hS_19 => g_if (g_some hS_19) (g_c (b_Tr_kid hS_19) (fun r_21 S_21 hS_21 => g_c (b_Tr_slotOf hS_21) (fun r_22 S_22 hS_22 => g_if ((b_Ed_addItem_210 (fun w0 w1 w2 w3 w4 => ih w0 w1 w2 w3 w4) hS_22)) ((b_Ed_addItem_210 (fun w0 w1 w2 w3 w4 => ih w0 w1 w2 w3 w4) hS_22))))))
theorem b_Ed_addItem_160 {K : Nat} {G : CG} {y_1 : Int32} {S : CS} (hS : byt S) : bG Prod.snd (f_Ed_addItem_160 K G y_1 S) := by
  unfold f_Ed_addItem_160
  exact (b_Ed_addItem_166 _ _ _ _ _ hS)
theorem b_Ed_addItem_150 {K : Nat} {G : CG} {y_1 : Int32} {y_2 : Int32} {y_3 : Int32} {S : CS} (hS : byt S) : bG Prod.snd (f_Ed_addItem_150 K G y_1 y_2 y_3 S) := by
  unfold f_Ed_addItem_150
  exact g_if ((b_Ed_addItem_160 hS)) (g_b (b_Ed_putDots hS) (fun S_18 hS_18 => (b_Ed_addItem_160 hS_18)))
theorem b_Ed_addItem_74 {K : Nat} {G : CG} : ∀ (k : Nat) (y_1 : Int32) (y_2 : Int32) (y_3 : Int32) (y_4 : Int32) (S : CS), byt S → bG Prod.snd (f_Ed_addItem_74 K G k y_1 y_2 y_3 y_4 S) := by
  intro k
  induction k with
  | zero => intro y_1 y_2 y_3 y_4 S _; rw [f_Ed_addItem_74]; exact g_none
  | succ k ih => intro y_1 y_2 y_3 y_4 S hS; rw [f_Ed_addItem_74]; exact g_if (g_if ((b_Ed_addItem_150 hS)) (g_c (b_Ed_slotPlace hS) (fun r_12 S_12 hS_12 => g_b (b_Dk_putOne hS_12) (fun S_13 hS_13 => (b_Ed_addItem_150 hS_13))))) (g_c (b_Ed_slotPlace hS) (fun r_14 S_14 hS_14 => g_b (b_Ed_putPart hS_14) (fun S_15 hS_15 => g_lv (fun x_16 => (ih _ _ _ _ _ hS_15)))))
theorem b_Ed_addItem_31 {K : Nat} {G : CG} : ∀ (k : Nat) (y_1 : Int32) (y_2 : Int32) (y_3 : Int32) (y_4 : Int32) (S : CS), byt S → bG Prod.snd (f_Ed_addItem_31 K G k y_1 y_2 y_3 y_4 S) := by
  intro k
  induction k with
  | zero => intro y_1 y_2 y_3 y_4 S _; rw [f_Ed_addItem_31]; exact g_none
  | succ k ih => intro y_1 y_2 y_3 y_4 S hS; rw [f_Ed_addItem_31]; exact g_if (g_c (b_Ed_slotPlace hS) (fun r_6 S_6 hS_6 => g_b (b_Ed_putEntry hS_6) (fun S_7 hS_7 => (b_Ed_addItem_74 _ _ _ _ _ _ hS_7)))) (g_b (b_Ed_lengthenRoad hS) (fun S_8 hS_8 => g_lv (fun x_9 => (ih _ _ _ _ _ hS_8))))
theorem b_Ed_addItem_27 {K : Nat} {G : CG} {y_1 : Int32} {y_2 : Int32} {z_0 : Int32} {S : CS} (hS : byt S) : bG Prod.snd (f_Ed_addItem_27 K G y_1 y_2 z_0 S) := by
  unfold f_Ed_addItem_27
  exact (b_Ed_addItem_31 _ _ _ _ _ _ hS)
theorem b_Ed_addItem_12 {K : Nat} {G : CG} {y_1 : Int32} {y_2 : Int32} {S : CS} (hS : byt S) : bG Prod.snd (f_Ed_addItem_12 K G y_1 y_2 S) := by
  unfold f_Ed_addItem_12
  exact g_if ((b_Ed_addItem_27 hS)) (g_c (b_Tb_takeFree hS) (fun r_4 S_4 hS_4 => (b_Ed_addItem_27 hS_4)))
theorem b_Ed_addItem {K : Nat} {G : CG} {S : CS} {p0 : Int32} {p1 : Int32} (hS : byt S) : bG Prod.snd (f_Ed_addItem K G S p0 p1) := by
  unfold f_Ed_addItem
  exact g_if (g_b (b_Ed_inventShortName hS) (fun S_2 hS_2 => (b_Ed_addItem_12 hS_2))) ((b_Ed_addItem_12 hS))
theorem b_Ed_clustersFor {K : Nat} {G : CG} {S : CS} {p0 : Int32} (hS : byt S) : bG Prod.snd (f_Ed_clustersFor K G S p0) := by
  unfold f_Ed_clustersFor
  exact g_c (b_Tb_clusterBytes hS) (fun r_1 S_1 hS_1 => g_if (g_g (g_some hS_1)) (g_some hS_1))
theorem b_Ed_canHold {K : Nat} {G : CG} {S : CS} {p0 : Int32} {p1 : Int32} (hS : byt S) : bG Prod.snd (f_Ed_canHold K G S p0 p1) := by
  unfold f_Ed_canHold
  exact g_c (b_Tr_sizeOf hS) (fun r_1 S_1 hS_1 => g_c (b_Ed_clustersFor hS_1) (fun r_2 S_2 hS_2 => g_c (b_Ed_clustersFor hS_2) (fun r_3 S_3 hS_3 => g_c (b_Tb_countFree hS_3) (fun r_4 S_4 hS_4 => g_if (g_some hS_4) (g_some hS_4)))))
theorem b_Ed_lengthen_85 {K : Nat} {G : CG} : ∀ (k : Nat) (y_2 : Int32) (y_3 : Int32) (y_4 : Int32) (y_5 : Int32) (y_6 : Int32) (S : CS), byt S → bG id (f_Ed_lengthen_85 K G k y_2 y_3 y_4 y_5 y_6 S) := by
  intro k
  induction k with
  | zero => intro y_2 y_3 y_4 y_5 y_6 S _; rw [f_Ed_lengthen_85]; exact g_none
  | succ k ih => intro y_2 y_3 y_4 y_5 y_6 S hS; rw [f_Ed_lengthen_85]; exact g_if (g_b (b_Dk_putFour hS) (fun S_14 hS_14 => g_some hS_14)) (g_b (b_Ed_lengthenRoad hS) (fun S_15 hS_15 => g_lv (fun x_16 => (ih _ _ _ _ _ _ hS_15))))
theorem b_Ed_lengthen_79 {K : Nat} {G : CG} {y_2 : Int32} {y_3 : Int32} {y_4 : Int32} {y_5 : Int32} {S : CS} (hS : byt S) : bG id (f_Ed_lengthen_79 K G y_2 y_3 y_4 y_5 S) := by
  unfold f_Ed_lengthen_79
  exact g_lv (fun x_12 => (b_Ed_lengthen_85 _ _ _ _ _ _ _ hS))
theorem b_Ed_lengthen {K : Nat} {G : CG} {S : CS} {p0 : Int32} {p1 : Int32} (hS : byt S) : bG id (f_Ed_lengthen K G S p0 p1) := by
  unfold f_Ed_lengthen
  exact g_c (b_Tr_spotOf hS) (fun r_1 S_1 hS_1 => g_c (b_Tr_sizeOf hS_1) (fun r_2 S_2 hS_2 => g_c (b_Tr_firstOf hS_2) (fun r_3 S_3 hS_3 => g_c (b_Tb_road_Edroad hS_3) (fun r_4 S_4 hS_4 => g_ls hS_4 (fun S_5 hS_5 => g_c (b_Ed_clustersFor hS_5) (fun r_6 S_6 hS_6 => g_if (g_if ((b_Ed_lengthen_79 hS_6)) (g_b (b_Ed_lengthenRoad hS_6) (fun S_9 hS_9 => g_g (g_b (b_Ed_putFirstCluster hS_9) (fun S_11 hS_11 => (b_Ed_lengthen_79 hS_11)))))) ((b_Ed_lengthen_79 hS_6))))))))
theorem b_Ed_placeOnRoad_27 {K : Nat} {G : CG} {S : CS} (hS : byt S) : bG Prod.snd (f_Ed_placeOnRoad_27 K G S) := by
  unfold f_Ed_placeOnRoad_27
  exact g_some hS
theorem b_Ed_placeOnRoad {K : Nat} {G : CG} {S : CS} {p0 : Int32} (hS : byt S) : bG Prod.snd (f_Ed_placeOnRoad K G S p0) := by
  unfold f_Ed_placeOnRoad
  exact g_c (b_Tb_clusterBytes hS) (fun r_1 S_1 hS_1 => g_if ((b_Ed_placeOnRoad_27 hS_1)) (g_if ((b_Ed_placeOnRoad_27 hS_1)) (g_g (g_if (g_g (g_g (g_c (b_Tb_place hS_1) (fun r_8 S_8 hS_8 => g_g (g_some hS_8))))) ((b_Ed_placeOnRoad_27 hS_1))))))
theorem b_Ed_placeBehind {K : Nat} {G : CG} {S : CS} {p0 : Int32} {p1 : Int32} (hS : byt S) : bG Prod.snd (f_Ed_placeBehind K G S p0 p1) := by
  unfold f_Ed_placeBehind
  exact g_if (g_c (b_Ed_placeOnRoad hS) (fun r_2 S_2 hS_2 => g_some hS_2)) (g_some hS)
theorem b_Ed_placeOf {K : Nat} {G : CG} {S : CS} {p0 : Int32} {p1 : Int32} (hS : byt S) : bG Prod.snd (f_Ed_placeOf K G S p0 p1) := by
  unfold f_Ed_placeOf
  exact g_c (b_Tr_firstOf hS) (fun r_1 S_1 hS_1 => g_c (b_Tb_road_Edroad hS_1) (fun r_2 S_2 hS_2 => g_ls hS_2 (fun S_3 hS_3 => g_c (b_Ed_placeOnRoad hS_3) (fun r_4 S_4 hS_4 => g_some hS_4))))
theorem b_Ed_shorten_86 {K : Nat} {G : CG} : ∀ (k : Nat) (y_2 : Int32) (y_3 : Int32) (y_4 : Int32) (y_5 : Int32) (S : CS), byt S → bG Prod.snd (f_Ed_shorten_86 K G k y_2 y_3 y_4 y_5 S) := by
  intro k
  induction k with
  | zero => intro y_2 y_3 y_4 y_5 S _; rw [f_Ed_shorten_86]; exact g_none
  | succ k ih => intro y_2 y_3 y_4 y_5 S hS; rw [f_Ed_shorten_86]; exact g_if (g_b (b_Dk_putFour hS) (fun S_13 hS_13 => g_some hS_13)) (g_g (g_b (b_Tb_link hS) (fun S_15 hS_15 => g_lv (fun x_16 => (ih _ _ _ _ _ hS_15)))))
theorem b_Ed_shorten_82 {K : Nat} {G : CG} {y_2 : Int32} {y_3 : Int32} {y_4 : Int32} {S : CS} (hS : byt S) : bG Prod.snd (f_Ed_shorten_82 K G y_2 y_3 y_4 S) := by
  unfold f_Ed_shorten_82
  exact (b_Ed_shorten_86 _ _ _ _ _ _ hS)
theorem b_Ed_shorten_71 {K : Nat} {G : CG} {y_2 : Int32} {y_3 : Int32} {y_4 : Int32} {S : CS} (hS : byt S) : bG Prod.snd (f_Ed_shorten_71 K G y_2 y_3 y_4 S) := by
  unfold f_Ed_shorten_71
  exact g_if (g_b (b_Ed_putFirstCluster hS) (fun S_11 hS_11 => (b_Ed_shorten_82 hS_11))) ((b_Ed_shorten_82 hS))
theorem b_Ed_shorten {K : Nat} {G : CG} {S : CS} {p0 : Int32} {p1 : Int32} (hS : byt S) : bG Prod.snd (f_Ed_shorten K G S p0 p1) := by
  unfold f_Ed_shorten
  exact g_c (b_Tr_spotOf hS) (fun r_1 S_1 hS_1 => g_c (b_Tr_firstOf hS_1) (fun r_2 S_2 hS_2 => g_c (b_Tb_road_Edroad hS_2) (fun r_3 S_3 hS_3 => g_ls hS_3 (fun S_4 hS_4 => g_c (b_Ed_clustersFor hS_4) (fun r_5 S_5 hS_5 => g_if ((b_Ed_shorten_71 hS_5)) (g_if ((b_Ed_shorten_71 hS_5)) (g_g (g_b (b_Tb_link hS_5) (fun S_9 hS_9 => (b_Ed_shorten_71 hS_9))))))))))
theorem b_Ed_dropItem_98 {K : Nat} {G : CG} : ∀ (k : Nat) (y_4 : Int32) (S : CS), byt S → bG id (f_Ed_dropItem_98 K G k y_4 S) := by
  intro k
  induction k with
  | zero => intro y_4 S _; rw [f_Ed_dropItem_98]; exact g_none
  | succ k ih => intro y_4 S hS; rw [f_Ed_dropItem_98]; exact g_if (g_some hS) (g_g (g_b (b_Tb_link hS) (fun S_16 hS_16 => g_lv (fun x_17 => (ih _ _ hS_16)))))
theorem b_Ed_dropItem_44 {K : Nat} {G : CG} : ∀ (k : Nat) (y_2 : Int32) (y_3 : Int32) (y_4 : Int32) (S : CS), byt S → bG id (f_Ed_dropItem_44 K G k y_2 y_3 y_4 S) := by
  intro k
  induction k with
  | zero => intro y_2 y_3 y_4 S _; rw [f_Ed_dropItem_44]; exact g_none
  | succ k ih => intro y_2 y_3 y_4 S hS; rw [f_Ed_dropItem_44]; exact g_if (g_c (b_Tr_firstOf hS) (fun r_8 S_8 hS_8 => g_c (b_Tb_road_Edroad hS_8) (fun r_9 S_9 hS_9 => g_ls hS_9 (fun S_10 hS_10 => (b_Ed_dropItem_98 _ _ _ hS_10))))) (g_c (b_Ed_slotPlace hS) (fun r_11 S_11 hS_11 => g_b (b_Dk_putOne hS_11) (fun S_12 hS_12 => g_lv (fun x_13 => (ih _ _ _ _ hS_12)))))
theorem b_Ed_dropItem {K : Nat} {G : CG} {S : CS} {p0 : Int32} {p1 : Int32} (hS : byt S) : bG id (f_Ed_dropItem K G S p0 p1) := by
  unfold f_Ed_dropItem
  exact g_c (b_Tr_firstOf hS) (fun r_1 S_1 hS_1 => g_c (b_Tb_road_Edroad hS_1) (fun r_2 S_2 hS_2 => g_ls hS_2 (fun S_3 hS_3 => g_c (b_Tr_slotOf hS_3) (fun r_4 S_4 hS_4 => g_c (b_Tr_partsOf hS_4) (fun r_5 S_5 hS_5 => g_lv (fun x_6 => (b_Ed_dropItem_44 _ _ _ _ _ hS_5)))))))
theorem b_Ed_putStamp {K : Nat} {G : CG} {S : CS} {p0 : Int32} {p1 : Int32} {p2 : Int32} {p3 : Int32} (hS : byt S) : bG id (f_Ed_putStamp K G S p0 p1 p2 p3) := by
  unfold f_Ed_putStamp
  exact g_if (g_b (b_Dk_putTwo hS) (fun S_2 hS_2 => g_b (b_Dk_putTwo hS_2) (fun S_3 hS_3 => g_some hS_3))) (g_if (g_b (b_Dk_putTwo hS) (fun S_5 hS_5 => g_some hS_5)) (g_if (g_b (b_Dk_putTwo hS) (fun S_7 hS_7 => g_b (b_Dk_putTwo hS_7) (fun S_8 hS_8 => g_some hS_8))) (g_if (g_b (b_Dk_putOne hS) (fun S_10 hS_10 => g_some hS_10)) (g_c (b_Dk_one hS) (fun r_11 S_11 hS_11 => g_b (b_Dk_putOne hS_11) (fun S_12 hS_12 => g_some hS_12))))))
theorem b_Pl_divide_22 {K : Nat} {G : CG} {y_1 : Int32} {S : CS} (hS : byt S) : bG Prod.snd (f_Pl_divide_22 K G y_1 S) := by
  unfold f_Pl_divide_22
  exact g_ls hS (fun S_4 hS_4 => g_g (g_ls hS_4 (fun S_6 hS_6 => g_some hS_6)))
theorem b_Pl_divide {K : Nat} {G : CG} {S : CS} {p0 : Int32} (hS : byt S) : bG Prod.snd (f_Pl_divide K G S p0) := by
  unfold f_Pl_divide
  exact g_if ((b_Pl_divide_22 hS)) (g_if ((b_Pl_divide_22 hS)) (g_if ((b_Pl_divide_22 hS)) (g_some hS)))
theorem b_Pl_leastInodes_38 {K : Nat} {G : CG} {z_0 : Int32} {S : CS} (hS : byt S) : bG Prod.snd (f_Pl_leastInodes_38 K G z_0 S) := by
  unfold f_Pl_leastInodes_38
  exact g_some hS
theorem b_Pl_leastInodes {K : Nat} {G : CG} {S : CS} (hS : byt S) : bG Prod.snd (f_Pl_leastInodes K G S) := by
  unfold f_Pl_leastInodes
  exact g_lv (fun x_1 => g_if (g_g ((b_Pl_leastInodes_38 hS))) ((b_Pl_leastInodes_38 hS)))
theorem b_Pl_firstBlock {K : Nat} {G : CG} {S : CS} {p0 : Int32} (hS : byt S) : bG Prod.snd (f_Pl_firstBlock K G S p0) := by
  unfold f_Pl_firstBlock
  exact g_some hS
theorem b_Pl_blocksOf {K : Nat} {G : CG} {S : CS} {p0 : Int32} (hS : byt S) : bG Prod.snd (f_Pl_blocksOf K G S p0) := by
  unfold f_Pl_blocksOf
  exact g_c (b_Pl_firstBlock hS) (fun r_1 S_1 hS_1 => g_some hS_1)
theorem b_Pl_fix_93 {K : Nat} {G : CG} {S : CS} (hS : byt S) : bG Prod.snd (f_Pl_fix_93 K G S) := by
  unfold f_Pl_fix_93
  exact g_some hS
theorem b_Pl_fix_79 {K : Nat} {G : CG} {rec_34 : Int32 → Int32 → Int32 → Int32 → Int32 → CS → Option (Int32 × CS)} {y_1 : Int32} {y_2 : Int32} {y_3 : Int32} {y_4 : Int32} {y_5 : Int32} {S : CS} (hrec_34 : ∀ (w0 : Int32) (w1 : Int32) (w2 : Int32) (w3 : Int32) (w4 : Int32) (w5 : CS), byt w5 → bG Prod.snd (rec_34 w0 w1 w2 w3 w4 w5)) (hS : byt S) : bG Prod.snd (f_Pl_fix_79 K G rec_34 y_1 y_2 y_3 y_4 y_5 S) := by
  unfold f_Pl_fix_79
  exact g_if ((b_Pl_fix_93 hS)) (g_if (g_g (g_ls hS (fun S_12 hS_12 => g_lv (fun x_13 => (hrec_34 _ _ _ _ _ _ hS_12))))) ((b_Pl_fix_93 hS)))
theorem b_Pl_fix_59 {K : Nat} {G : CG} {rec_34 : Int32 → Int32 → Int32 → Int32 → Int32 → CS → Option (Int32 × CS)} {y_1 : Int32} {y_2 : Int32} {y_3 : Int32} {y_4 : Int32} {y_5 : Int32} {z_0 : Int32} {S : CS} (hrec_34 : ∀ (w0 : Int32) (w1 : Int32) (w2 : Int32) (w3 : Int32) (w4 : Int32) (w5 : CS), byt w5 → bG Prod.snd (rec_34 w0 w1 w2 w3 w4 w5)) (hS : byt S) : bG Prod.snd (f_Pl_fix_59 K G rec_34 y_1 y_2 y_3 y_4 y_5 z_0 S) := by
  unfold f_Pl_fix_59
  exact g_if (g_if ((b_Pl_fix_93 hS)) (g_if ((b_Pl_fix_93 hS)) ((b_Pl_fix_79 hrec_34 hS)))) ((b_Pl_fix_79 hrec_34 hS))
theorem b_Pl_fix_54 {K : Nat} {G : CG} {rec_34 : Int32 → Int32 → Int32 → Int32 → Int32 → CS → Option (Int32 × CS)} {y_1 : Int32} {y_2 : Int32} {y_3 : Int32} {y_4 : Int32} {y_5 : Int32} {S : CS} (hrec_34 : ∀ (w0 : Int32) (w1 : Int32) (w2 : Int32) (w3 : Int32) (w4 : Int32) (w5 : CS), byt w5 → bG Prod.snd (rec_34 w0 w1 w2 w3 w4 w5)) (hS : byt S) : bG Prod.snd (f_Pl_fix_54 K G rec_34 y_1 y_2 y_3 y_4 y_5 S) := by
  unfold f_Pl_fix_54
  exact (b_Pl_fix_59 hrec_34 hS)
theorem b_Pl_fix_34 {K : Nat} {G : CG} : ∀ (k : Nat) (y_1 : Int32) (y_2 : Int32) (y_3 : Int32) (y_4 : Int32) (y_5 : Int32) (S : CS), byt S → bG Prod.snd (f_Pl_fix_34 K G k y_1 y_2 y_3 y_4 y_5 S) := by
  intro k
  induction k with
  | zero => intro y_1 y_2 y_3 y_4 y_5 S _; rw [f_Pl_fix_34]; exact g_none
  | succ k ih => intro y_1 y_2 y_3 y_4 y_5 S hS; rw [f_Pl_fix_34]; exact g_if (g_some hS) (g_if ((b_Pl_fix_54 (fun w0 w1 w2 w3 w4 w5 w6 => ih w0 w1 w2 w3 w4 w5 w6) hS)) (g_if ((b_Pl_fix_54 (fun w0 w1 w2 w3 w4 w5 w6 => ih w0 w1 w2 w3 w4 w5 w6) hS)) ((b_Pl_fix_59 (fun w0 w1 w2 w3 w4 w5 w6 => ih w0 w1 w2 w3 w4 w5 w6) hS))))
theorem b_Pl_fix {K : Nat} {G : CG} {S : CS} {p0 : Int32} {p1 : Int32} (hS : byt S) : bG Prod.snd (f_Pl_fix K G S p0 p1) := by
  unfold f_Pl_fix
  exact g_lv (fun x_1 => g_lv (fun x_2 => (b_Pl_fix_34 _ _ _ _ _ _ _ hS)))
theorem b_Pl_mapBlock {K : Nat} {G : CG} {S : CS} {p0 : Int32} (hS : byt S) : bG Prod.snd (f_Pl_mapBlock K G S p0) := by
  unfold f_Pl_mapBlock
  exact g_if (g_some hS) (g_c (b_Pl_firstBlock hS) (fun r_2 S_2 hS_2 => g_some hS_2))
theorem b_Pl_layOut_119 {K : Nat} {G : CG} {S : CS} (hS : byt S) : bG Prod.snd (f_Pl_layOut_119 K G S) := by
  unfold f_Pl_layOut_119
  exact g_some hS
theorem b_Pl_layOut_79 {K : Nat} {G : CG} {rec_46 : Int32 → Int32 → CS → Option (Int32 × CS)} {y_2 : Int32} {y_3 : Int32} {z_0 : Int32} {S : CS} (hrec_46 : ∀ (w0 : Int32) (w1 : Int32) (w2 : CS), byt w2 → bG Prod.snd (rec_46 w0 w1 w2)) (hS : byt S) : bG Prod.snd (f_Pl_layOut_79 K G rec_46 y_2 y_3 z_0 S) := by
  unfold f_Pl_layOut_79
  exact g_c (b_Pl_blocksOf hS) (fun r_10 S_10 hS_10 => g_if ((b_Pl_layOut_119 hS_10)) (g_c (b_Pl_firstBlock hS_10) (fun r_12 S_12 hS_12 => g_c (b_Pl_fix hS_12) (fun r_13 S_13 hS_13 => g_if ((b_Pl_layOut_119 hS_13)) (g_c (b_Pl_mapBlock hS_13) (fun r_15 S_15 hS_15 => g_c (b_Pl_fix hS_15) (fun r_16 S_16 hS_16 => g_if ((b_Pl_layOut_119 hS_16)) (g_lv (fun x_18 => (hrec_46 _ _ _ hS_16))))))))))
theorem b_Pl_layOut_46 {K : Nat} {G : CG} : ∀ (k : Nat) (y_2 : Int32) (y_3 : Int32) (S : CS), byt S → bG Prod.snd (f_Pl_layOut_46 K G k y_2 y_3 S) := by
  intro k
  induction k with
  | zero => intro y_2 y_3 S _; rw [f_Pl_layOut_46]; exact g_none
  | succ k ih => intro y_2 y_3 S hS; rw [f_Pl_layOut_46]; exact g_if (g_some hS) (g_if ((b_Pl_layOut_79 (fun w0 w1 w2 w3 => ih w0 w1 w2 w3) hS)) ((b_Pl_layOut_79 (fun w0 w1 w2 w3 => ih w0 w1 w2 w3) hS)))
theorem b_Pl_layOut_23 {K : Nat} {G : CG} : ∀ (k : Nat) (y_2 : Int32) (y_3 : Int32) (S : CS), byt S → bG Prod.snd (f_Pl_layOut_23 K G k y_2 y_3 S) := by
  intro k
  induction k with
  | zero => intro y_2 y_3 S _; rw [f_Pl_layOut_23]; exact g_none
  | succ k ih => intro y_2 y_3 S hS; rw [f_Pl_layOut_23]; exact g_if ((b_Pl_layOut_46 _ _ _ _ hS)) (g_g (g_ls hS (fun S_6 hS_6 => g_lv (fun x_7 => (ih _ _ _ hS_6)))))
theorem b_Pl_layOut {K : Nat} {G : CG} {S : CS} {p0 : Int32} (hS : byt S) : bG Prod.snd (f_Pl_layOut K G S p0) := by
  unfold f_Pl_layOut
  exact g_if (g_ls hS (fun S_2 hS_2 => g_lv (fun x_3 => (b_Pl_layOut_23 _ _ _ _ hS_2)))) (g_some hS)
theorem b_Pl_namesFit_59 {K : Nat} {G : CG} {S : CS} (hS : byt S) : bG Prod.snd (f_Pl_namesFit_59 K G S) := by
  unfold f_Pl_namesFit_59
  exact g_some hS
theorem b_Pl_namesFit_61 {K : Nat} {G : CG} {rec_2 : Int32 → CS → Option (Int32 × CS)} {y_1 : Int32} {S : CS} (hrec_2 : ∀ (w0 : Int32) (w1 : CS), byt w1 → bG Prod.snd (rec_2 w0 w1)) (hS : byt S) : bG Prod.snd (f_Pl_namesFit_61 K G rec_2 y_1 S) := by
  unfold f_Pl_namesFit_61
  exact g_lv (fun x_9 => (hrec_2 _ _ hS))
theorem b_Pl_namesFit_29 {K : Nat} {G : CG} {rec_2 : Int32 → CS → Option (Int32 × CS)} {y_1 : Int32} {z_0 : Int32} {S : CS} (hrec_2 : ∀ (w0 : Int32) (w1 : CS), byt w1 → bG Prod.snd (rec_2 w0 w1)) (hS : byt S) : bG Prod.snd (f_Pl_namesFit_29 K G rec_2 y_1 z_0 S) := by
  unfold f_Pl_namesFit_29
  exact g_c (b_Tr_nameSize hS) (fun r_4 S_4 hS_4 => g_if ((b_Pl_namesFit_59 hS_4)) (g_if ((b_Pl_namesFit_61 hrec_2 hS_4)) (g_c (b_Tr_isNamedAsRecord hS_4) (fun r_7 S_7 hS_7 => g_if ((b_Pl_namesFit_61 hrec_2 hS_7)) ((b_Pl_namesFit_59 hS_7))))))
theorem b_Pl_namesFit_2 {K : Nat} {G : CG} : ∀ (k : Nat) (y_1 : Int32) (S : CS), byt S → bG Prod.snd (f_Pl_namesFit_2 K G k y_1 S) := by
  intro k
  induction k with
  | zero => intro y_1 S _; rw [f_Pl_namesFit_2]; exact g_none
  | succ k ih => intro y_1 S hS; rw [f_Pl_namesFit_2]; exact g_if (g_some hS) (g_c (b_Tr_parentOf hS) (fun r_2 S_2 hS_2 => g_if ((b_Pl_namesFit_29 (fun w0 w1 w2 => ih w0 w1 w2) hS_2)) ((b_Pl_namesFit_29 (fun w0 w1 w2 => ih w0 w1 w2) hS_2))))
theorem b_Pl_namesFit {K : Nat} {G : CG} {S : CS} (hS : byt S) : bG Prod.snd (f_Pl_namesFit K G S) := by
  unfold f_Pl_namesFit
  exact (b_Pl_namesFit_2 _ _ _ hS)
