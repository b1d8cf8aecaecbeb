theorem b_Vt_fail_9 {K : Nat} {G : CG} {y_1 : Int32} {y_2 : Int32} {S : CS} (hS : byt S) : bG Prod.snd (f_Vt_fail_9 K G y_1 y_2 S) := by
  unfold f_Vt_fail_9
  exact g_if ((b_Vt_fail_22 hS)) (g_if (g_g (g_ls hS (fun S_6 hS_6 => g_g (g_ls hS_6 (fun S_8 hS_8 => g_ls hS_8 (fun S_9 hS_9 => g_some hS_9)))))) ((b_Vt_fail_22 hS)))
theorem b_Vt_fail {K : Nat} {G : CG} {S : CS} {p0 : Int32} {p1 : Int32} (hS : byt S) : bG Prod.snd (f_Vt_fail K G S p0 p1) := by
  unfold f_Vt_fail
  exact g_if ((b_Vt_fail_9 hS)) (g_if ((b_Vt_fail_9 hS)) ((b_Vt_fail_22 hS)))
theorem b_Vt_tellItem {K : Nat} {G : CG} {S : CS} {p0 : Int32} {p1 : Int32} (hS : byt S) : bG Prod.snd (f_Vt_tellItem K G S p0 p1) := by
  unfold f_Vt_tellItem
  exact g_if (g_c (b_Tr_isDirectory hS) (fun r_2 S_2 hS_2 => g_if (g_some hS_2) (g_some hS_2))) (g_if (g_c (b_Tr_isReadOnly hS) (fun r_5 S_5 hS_5 => g_if (g_some hS_5) (g_some hS_5))) (g_if (g_c (b_Tr_sizeOf hS) (fun r_8 S_8 hS_8 => g_some hS_8)) (g_c (b_Tr_spotOf hS) (fun r_9 S_9 hS_9 => g_c (b_Da_seconds hS_9) (fun r_10 S_10 hS_10 => g_some hS_10)))))
theorem b_Tr_widen_168 {K : Nat} {G : CG} {S : CS} (hS : byt S) : bG (fun x => x.2.2) (f_Tr_widen_168 K G S) := by
  unfold f_Tr_widen_168
  exact g_some hS
theorem b_Tr_widen_156 {K : Nat} {y_1 : Int32} {G : CG} {S : CS} (hS : byt S) : bG (fun x => x.2.2) (f_Tr_widen_156 K y_1 G S) := by
  unfold f_Tr_widen_156
  exact g_g (g_lv (fun G_28 => g_ls hS (fun S_28 hS_28 => (b_Tr_widen_168 hS_28))))
theorem b_Tr_widen_144 {K : Nat} {y_1 : Int32} {G : CG} {S : CS} (hS : byt S) : bG (fun x => x.2.2) (f_Tr_widen_144 K y_1 G S) := by
  unfold f_Tr_widen_144
  exact g_g (g_lv (fun G_26 => g_ls hS (fun S_26 hS_26 => (b_Tr_widen_156 hS_26))))
theorem b_Tr_widen_132 {K : Nat} {y_1 : Int32} {G : CG} {S : CS} (hS : byt S) : bG (fun x => x.2.2) (f_Tr_widen_132 K y_1 G S) := by
  unfold f_Tr_widen_132
  exact g_g (g_lv (fun G_24 => g_ls hS (fun S_24 hS_24 => (b_Tr_widen_144 hS_24))))
theorem b_Tr_widen_120 {K : Nat} {y_1 : Int32} {G : CG} {S : CS} (hS : byt S) : bG (fun x => x.2.2) (f_Tr_widen_120 K y_1 G S) := by
  unfold f_Tr_widen_120
  exact g_g (g_lv (fun G_22 => g_ls hS (fun S_22 hS_22 => (b_Tr_widen_132 hS_22))))
theorem b_Tr_widen_108 {K : Nat} {y_1 : Int32} {G : CG} {S : CS} (hS : byt S) : bG (fun x => x.2.2) (f_Tr_widen_108 K y_1 G S) := by
  unfold f_Tr_widen_108
  exact g_g (g_lv (fun G_20 => g_ls hS (fun S_20 hS_20 => (b_Tr_widen_120 hS_20))))
theorem b_Tr_widen_96 {K : Nat} {y_1 : Int32} {G : CG} {S : CS} (hS : byt S) : bG (fun x => x.2.2) (f_Tr_widen_96 K y_1 G S) := by
  unfold f_Tr_widen_96
  exact g_g (g_lv (fun G_18 => g_ls hS (fun S_18 hS_18 => (b_Tr_widen_108 hS_18))))
theorem b_Tr_widen_84 {K : Nat} {y_1 : Int32} {G : CG} {S : CS} (hS : byt S) : bG (fun x => x.2.2) (f_Tr_widen_84 K y_1 G S) := by
  unfold f_Tr_widen_84
  exact g_g (g_lv (fun G_16 => g_ls hS (fun S_16 hS_16 => (b_Tr_widen_96 hS_16))))
theorem b_Tr_widen_72 {K : Nat} {y_1 : Int32} {G : CG} {S : CS} (hS : byt S) : bG (fun x => x.2.2) (f_Tr_widen_72 K y_1 G S) := by
  unfold f_Tr_widen_72
  exact g_g (g_lv (fun G_14 => g_ls hS (fun S_14 hS_14 => (b_Tr_widen_84 hS_14))))
theorem b_Tr_widen_60 {K : Nat} {y_1 : Int32} {G : CG} {S : CS} (hS : byt S) : bG (fun x => x.2.2) (f_Tr_widen_60 K y_1 G S) := by
  unfold f_Tr_widen_60
  exact g_g (g_lv (fun G_12 => g_ls hS (fun S_12 hS_12 => (b_Tr_widen_72 hS_12))))
theorem b_Tr_widen_48 {K : Nat} {y_1 : Int32} {G : CG} {S : CS} (hS : byt S) : bG (fun x => x.2.2) (f_Tr_widen_48 K y_1 G S) := by
  unfold f_Tr_widen_48
  exact g_g (g_lv (fun G_10 => g_ls hS (fun S_10 hS_10 => (b_Tr_widen_60 hS_10))))
theorem b_Tr_widen_36 {K : Nat} {y_1 : Int32} {G : CG} {S : CS} (hS : byt S) : bG (fun x => x.2.2) (f_Tr_widen_36 K y_1 G S) := by
  unfold f_Tr_widen_36
  exact g_g (g_lv (fun G_8 => g_ls hS (fun S_8 hS_8 => (b_Tr_widen_48 hS_8))))
theorem b_Tr_widen_24 {K : Nat} {y_1 : Int32} {G : CG} {S : CS} (hS : byt S) : bG (fun x => x.2.2) (f_Tr_widen_24 K y_1 G S) := by
  unfold f_Tr_widen_24
  exact g_g (g_lv (fun G_6 => g_ls hS (fun S_6 hS_6 => (b_Tr_widen_36 hS_6))))
theorem b_Tr_widen_12 {K : Nat} {y_1 : Int32} {G : CG} {S : CS} (hS : byt S) : bG (fun x => x.2.2) (f_Tr_widen_12 K y_1 G S) := by
  unfold f_Tr_widen_12
  exact g_g (g_lv (fun G_4 => g_ls hS (fun S_4 hS_4 => (b_Tr_widen_24 hS_4))))
theorem b_Tr_widen {K : Nat} {G0 : CG} {S : CS} {p0 : Int32} (hS : byt S) : bG (fun x => x.2.2) (f_Tr_widen K G0 S p0) := by
  unfold f_Tr_widen
  exact g_g (g_lv (fun G_2 => g_ls hS (fun S_2 hS_2 => (b_Tr_widen_12 hS_2))))
theorem b_Tr_addItem_22 {K : Nat} {y_1 : Int32} {y_2 : Int32} {G : CG} {S : CS} (hS : byt S) : bG (fun x => x.2.2) (f_Tr_addItem_22 K y_1 y_2 G S) := by
  unfold f_Tr_addItem_22
  exact g_lv (fun x_3 => g_ls hS (fun S_4 hS_4 => g_g (g_ls hS_4 (fun S_6 hS_6 => g_g (g_ls hS_6 (fun S_8 hS_8 => g_g (g_ls hS_8 (fun S_10 hS_10 => g_g (g_ls hS_10 (fun S_12 hS_12 => g_g (g_ls hS_12 (fun S_14 hS_14 => g_g (g_ls hS_14 (fun S_16 hS_16 => g_g (g_ls hS_16 (fun S_18 hS_18 => g_g (g_ls hS_18 (fun S_20 hS_20 => g_g (g_ls hS_20 (fun S_22 hS_22 => g_g (g_ls hS_22 (fun S_24 hS_24 => g_some hS_24))))))))))))))))))))))
theorem b_Tr_addItem {K : Nat} {G0 : CG} {S : CS} {p0 : Int32} {p1 : Int32} (hS : byt S) : bG (fun x => x.2.2) (f_Tr_addItem K G0 S p0 p1) := by
  unfold f_Tr_addItem
  exact g_if ((b_Tr_addItem_22 hS)) (g_n (b_Tr_widen hS) (fun _ G_2 S_2 hS_2 => (b_Tr_addItem_22 hS_2)))
theorem b_Tr_startWith_23 {K : Nat} {y_1 : Int32} {z_1 : Int32} {G : CG} {S : CS} (hS : byt S) : bG (fun x => x.2.2) (f_Tr_startWith_23 K y_1 z_1 G S) := by
  unfold f_Tr_startWith_23
  exact g_b (b_Tr_place hS) (fun S_5 hS_5 => g_some hS_5)
theorem b_Tr_startWith {K : Nat} {G0 : CG} {S : CS} {p0 : Int32} (hS : byt S) : bG (fun x => x.2.2) (f_Tr_startWith K G0 S p0) := by
  unfold f_Tr_startWith
  exact g_ls hS (fun S_1 hS_1 => g_ls hS_1 (fun S_2 hS_2 => g_ls hS_2 (fun S_3 hS_3 => g_n (b_Tr_addItem hS_3) (fun r_4 G_4 S_4 hS_4 => (b_Tr_startWith_23 hS_4)))))
theorem b_Tr_nameLast_Rdunits_78 {K : Nat} : ∀ (k : Nat) (y_2 : Int32) (y_3 : Int32) (y_4 : Int32) (y_5 : Int32) (G : CG) (S : CS), byt S → bG (fun x => x.2.2) (f_Tr_nameLast_Rdunits_78 K k y_2 y_3 y_4 y_5 G S) := by
  intro k
  induction k with
  | zero => intro y_2 y_3 y_4 y_5 G S _; rw [f_Tr_nameLast_Rdunits_78]; exact g_none
  | succ k ih => intro y_2 y_3 y_4 y_5 G S hS; rw [f_Tr_nameLast_Rdunits_78]; exact g_if (g_ls hS (fun S_13 hS_13 => g_g (g_ls hS_13 (fun S_15 hS_15 => g_some hS_15)))) (g_g (g_g (g_ls hS (fun S_18 hS_18 => g_g (g_p (fun r_20 => g_lv (fun x_21 => g_lv (fun x_22 => (ih _ _ _ _ _ _ hS_18)))))))))
theorem b_Tr_nameLast_Rdunits_55 {K : Nat} {y_2 : Int32} {y_3 : Int32} {G : CG} {S : CS} (hS : byt S) : bG (fun x => x.2.2) (f_Tr_nameLast_Rdunits_55 K y_2 y_3 G S) := by
  unfold f_Tr_nameLast_Rdunits_55
  exact g_g (g_ls hS (fun S_9 hS_9 => g_g (g_ls hS_9 (fun S_11 hS_11 => (b_Tr_nameLast_Rdunits_78 _ _ _ _ _ _ _ hS_11)))))
theorem b_Tr_nameLast_Rdunits {K : Nat} {G0 : CG} {S : CS} {p1 : Int32} (hS : byt S) : bG (fun x => x.2.2) (f_Tr_nameLast_Rdunits K G0 S p1) := by
  unfold f_Tr_nameLast_Rdunits
  exact g_lv (fun x_1 => g_if (g_some hS) (g_if (g_some hS) (g_if (g_if ((b_Tr_nameLast_Rdunits_55 hS)) (g_g (g_lv (fun G_7 => g_ls hS (fun S_7 hS_7 => (b_Tr_nameLast_Rdunits_55 hS_7)))))) (g_some hS))))
theorem b_Rd_readEntry_62 {K : Nat} {G : CG} {S : CS} (hS : byt S) : bG (fun x => x.2.2) (f_Rd_readEntry_62 K G S) := by
  unfold f_Rd_readEntry_62
  exact g_some hS
theorem b_Rd_readEntry_96 {K : Nat} {y_3 : Int32} {z_0 : Int32} {G : CG} {S : CS} (hS : byt S) : bG (fun x => x.2.2) (f_Rd_readEntry_96 K y_3 z_0 G S) := by
  unfold f_Rd_readEntry_96
  exact g_ls hS (fun S_19 hS_19 => g_if (g_some hS_19) (g_some hS_19))
theorem b_Rd_readEntry_91 {K : Nat} {y_3 : Int32} {G : CG} {S : CS} (hS : byt S) : bG (fun x => x.2.2) (f_Rd_readEntry_91 K y_3 G S) := by
  unfold f_Rd_readEntry_91
  exact (b_Rd_readEntry_96 hS)
theorem b_Rd_readEntry_181 {K : Nat} {y_2 : Int32} {y_3 : Int32} {y_7 : Int32} {y_8 : Int32} {G : CG} {S : CS} (hS : byt S) : bG (fun x => x.2.2) (f_Rd_readEntry_181 K y_2 y_3 y_7 y_8 G S) := by
  unfold f_Rd_readEntry_181
  exact g_c (b_Rd_firstCluster hS) (fun r_22 S_22 hS_22 => g_b (b_Tr_place hS_22) (fun S_23 hS_23 => g_ls hS_23 (fun S_24 hS_24 => g_if (g_c (b_Dk_four hS_24) (fun r_26 S_26 hS_26 => g_c (b_Rd_followFile hS_26) (fun r_27 S_27 hS_27 => g_if (g_some hS_27) (g_some hS_27)))) (g_some hS_24))))
theorem b_Rd_readEntry_166 {K : Nat} {y_2 : Int32} {y_3 : Int32} {y_6 : Int32} {y_7 : Int32} {z_0 : Int32} {G : CG} {S : CS} (hS : byt S) : bG (fun x => x.2.2) (f_Rd_readEntry_166 K y_2 y_3 y_6 y_7 z_0 G S) := by
  unfold f_Rd_readEntry_166
  exact g_n (b_Tr_nameLast_Rdunits hS) (fun _ G_21 S_21 hS_21 => (b_Rd_readEntry_181 hS_21))
theorem b_Rd_readEntry_137 {K : Nat} {y_1 : Int32} {y_2 : Int32} {y_3 : Int32} {y_4 : Int32} {z_0 : Int32} {G : CG} {S : CS} (hS : byt S) : bG (fun x => x.2.2) (f_Rd_readEntry_137 K y_1 y_2 y_3 y_4 z_0 G S) := by
  unfold f_Rd_readEntry_137
  exact g_if (g_some hS) (g_c (b_Rd_hasTwin hS) (fun r_17 S_17 hS_17 => g_n (b_Tr_addItem hS_17) (fun r_18 G_18 S_18 hS_18 => (b_Rd_readEntry_166 hS_18))))
theorem b_Rd_readEntry_26 {K : Nat} {y_1 : Int32} {y_2 : Int32} {y_3 : Int32} {y_4 : Int32} {z_0 : Int32} {G : CG} {S : CS} (hS : byt S) : bG (fun x => x.2.2) (f_Rd_readEntry_26 K y_1 y_2 y_3 y_4 z_0 G S) := by
  unfold f_Rd_readEntry_26
  exact g_c (b_Rd_bitsFit hS) (fun r_3 S_3 hS_3 => g_if ((b_Rd_readEntry_62 hS_3)) (g_c (b_Wo_isShortName hS_3) (fun r_5 S_5 hS_5 => g_if ((b_Rd_readEntry_62 hS_5)) (g_c (b_Da_fit hS_5) (fun r_7 S_7 hS_7 => g_if ((b_Rd_readEntry_62 hS_7)) (g_if (g_if (g_c (b_Rd_showShortName hS_7) (fun r_12 S_12 hS_12 => (b_Rd_readEntry_137 hS_12))) (g_c (b_Rd_closeParts hS_7) (fun r_11 S_11 hS_11 => (b_Rd_readEntry_137 hS_11)))) (g_if (g_if (g_if ((b_Rd_readEntry_96 hS_7)) ((b_Rd_readEntry_91 hS_7))) ((b_Rd_readEntry_91 hS_7))) ((b_Rd_readEntry_91 hS_7)))))))))
theorem b_Rd_readEntry {K : Nat} {G0 : CG} {S : CS} {p0 : Int32} {p1 : Int32} {p2 : Int32} (hS : byt S) : bG (fun x => x.2.2) (f_Rd_readEntry K G0 S p0 p1 p2) := by
  unfold f_Rd_readEntry
  exact g_c (b_Dk_one hS) (fun r_1 S_1 hS_1 => g_if ((b_Rd_readEntry_26 hS_1)) ((b_Rd_readEntry_26 hS_1)))
theorem b_Rd_readDirectory_84 {K : Nat} {rec_27 : Int32 → Int32 → Int32 → Int32 → CG → CS → Option (Int32 × CG × CS)} {y_1 : Int32} {y_2 : Int32} {y_3 : Int32} {y_4 : Int32} {z_1 : Int32} {z_2 : Int32} {G : CG} {S : CS} (hrec_27 : ∀ (w0 : Int32) (w1 : Int32) (w2 : Int32) (w3 : Int32) (w4 : CG) (w5 : CS), byt w5 → bG (fun x => x.2.2) (rec_27 w0 w1 w2 w3 w4 w5)) (hS : byt S) : bG (fun x => x.2.2) (f_Rd_readDirectory_84 K rec_27 y_1 y_2 y_3 y_4 z_1 z_2 G S) := by
  unfold f_Rd_readDirectory_84
  exact g_g (g_ls hS (fun S_17 hS_17 => g_lv (fun x_18 => (hrec_27 _ _ _ _ _ _ hS_17))))
theorem b_Rd_readDirectory_274 {K : Nat} {rec_118 : Int32 → Int32 → Int32 → CG → CS → Option (Int32 × CG × CS)} {y_1 : Int32} {y_4 : Int32} {y_5 : Int32} {y_7 : Int32} {G : CG} {S : CS} (hrec_118 : ∀ (w0 : Int32) (w1 : Int32) (w2 : Int32) (w3 : CG) (w4 : CS), byt w4 → bG (fun x => x.2.2) (rec_118 w0 w1 w2 w3 w4)) (hS : byt S) : bG (fun x => x.2.2) (f_Rd_readDirectory_274 K rec_118 y_1 y_4 y_5 y_7 G S) := by
  unfold f_Rd_readDirectory_274
  exact g_if (g_lv (fun x_40 => (hrec_118 _ _ _ _ _ hS))) (g_some hS)
theorem b_Rd_readDirectory_187 {K : Nat} {rec_118 : Int32 → Int32 → Int32 → CG → CS → Option (Int32 × CG × CS)} {y_1 : Int32} {y_4 : Int32} {y_5 : Int32} {z_0 : Int32} {G : CG} {S : CS} (hrec_118 : ∀ (w0 : Int32) (w1 : Int32) (w2 : Int32) (w3 : CG) (w4 : CS), byt w4 → bG (fun x => x.2.2) (rec_118 w0 w1 w2 w3 w4)) (hS : byt S) : bG (fun x => x.2.2) (f_Rd_readDirectory_187 K rec_118 y_1 y_4 y_5 z_0 G S) := by
  unfold f_Rd_readDirectory_187
  exact (b_Rd_readDirectory_274 hrec_118 hS)
theorem b_Rd_readDirectory_219 {K : Nat} {rec_118 : Int32 → Int32 → Int32 → CG → CS → Option (Int32 × CG × CS)} {y_1 : Int32} {y_4 : Int32} {y_5 : Int32} {z_0 : Int32} {G : CG} {S : CS} (hrec_118 : ∀ (w0 : Int32) (w1 : Int32) (w2 : Int32) (w3 : CG) (w4 : CS), byt w4 → bG (fun x => x.2.2) (rec_118 w0 w1 w2 w3 w4)) (hS : byt S) : bG (fun x => x.2.2) (f_Rd_readDirectory_219 K rec_118 y_1 y_4 y_5 z_0 G S) := by
  unfold f_Rd_readDirectory_219
  exact (b_Rd_readDirectory_274 hrec_118 hS)
theorem b_Rd_readDirectory_258 {K : Nat} {rec_118 : Int32 → Int32 → Int32 → CG → CS → Option (Int32 × CG × CS)} {y_1 : Int32} {y_4 : Int32} {y_5 : Int32} {z_0 : Int32} {G : CG} {S : CS} (hrec_118 : ∀ (w0 : Int32) (w1 : Int32) (w2 : Int32) (w3 : CG) (w4 : CS), byt w4 → bG (fun x => x.2.2) (rec_118 w0 w1 w2 w3 w4)) (hS : byt S) : bG (fun x => x.2.2) (f_Rd_readDirectory_258 K rec_118 y_1 y_4 y_5 z_0 G S) := by
  unfold f_Rd_readDirectory_258
  exact (b_Rd_readDirectory_274 hrec_118 hS)
theorem b_Rd_readDirectory_272 {K : Nat} {rec_118 : Int32 → Int32 → Int32 → CG → CS → Option (Int32 × CG × CS)} {y_1 : Int32} {y_4 : Int32} {y_5 : Int32} {z_0 : Int32} {G : CG} {S : CS} (hrec_118 : ∀ (w0 : Int32) (w1 : Int32) (w2 : Int32) (w3 : CG) (w4 : CS), byt w4 → bG (fun x => x.2.2) (rec_118 w0 w1 w2 w3 w4)) (hS : byt S) : bG (fun x => x.2.2) (f_Rd_readDirectory_272 K rec_118 y_1 y_4 y_5 z_0 G S) := by
  unfold f_Rd_readDirectory_272
  exact (b_Rd_readDirectory_274 hrec_118 hS)
theorem b_Rd_readDirectory_192 {K : Nat} {rec_118 : Int32 → Int32 → Int32 → CG → CS → Option (Int32 × CG × CS)} {y_1 : Int32} {y_4 : Int32} {y_5 : Int32} {y_6 : Int32} {G : CG} {S : CS} (hrec_118 : ∀ (w0 : Int32) (w1 : Int32) (w2 : Int32) (w3 : CG) (w4 : CS), byt w4 → bG (fun x => x.2.2) (rec_118 w0 w1 w2 w3 w4)) (hS : byt S) : bG (fun x => x.2.2) (f_Rd_readDirectory_192 K rec_118 y_1 y_4 y_5 y_6 G S) := by
  unfold f_Rd_readDirectory_192
  exact g_c (b_Dk_one hS) (fun r_31 S_31 hS_31 => g_if (g_if ((b_Rd_readDirectory_219 hrec_118 hS_31)) ((b_Rd_readDirectory_219 hrec_118 hS_31))) (g_c (b_Dk_one hS_31) (fun r_33 S_33 hS_33 => g_if (g_c (b_Rd_readPart hS_33) (fun r_36 S_36 hS_36 => g_if ((b_Rd_readDirectory_258 hrec_118 hS_36)) ((b_Rd_readDirectory_258 hrec_118 hS_36)))) (g_n (b_Rd_readEntry hS_33) (fun r_35 G_35 S_35 hS_35 => (b_Rd_readDirectory_272 hrec_118 hS_35))))))
theorem b_Rd_readDirectory_313 {K : Nat} {G : CG} {S : CS} (hS : byt S) : bG (fun x => x.2.2) (f_Rd_readDirectory_313 K G S) := by
  unfold f_Rd_readDirectory_313
  exact g_some hS
theorem b_Rd_readDirectory_317 {K : Nat} {G : CG} {S : CS} (hS : byt S) : bG (fun x => x.2.2) (f_Rd_readDirectory_317 K G S) := by
  unfold f_Rd_readDirectory_317
  exact g_some hS
theorem b_Rd_readDirectory_288 {K : Nat} {y_1 : Int32} {y_5 : Int32} {G : CG} {S : CS} (hS : byt S) : bG (fun x => x.2.2) (f_Rd_readDirectory_288 K y_1 y_5 G S) := by
  unfold f_Rd_readDirectory_288
  exact g_b (b_Tr_endKids hS) (fun S_27 hS_27 => g_if (g_if ((b_Rd_readDirectory_317 hS_27)) (g_if ((b_Rd_readDirectory_317 hS_27)) ((b_Rd_readDirectory_313 hS_27)))) ((b_Rd_readDirectory_313 hS_27)))
theorem b_Rd_readDirectory_118 {K : Nat} : ∀ (k : Nat) (y_1 : Int32) (y_4 : Int32) (y_5 : Int32) (G : CG) (S : CS), byt S → bG (fun x => x.2.2) (f_Rd_readDirectory_118 K k y_1 y_4 y_5 G S) := by
  intro k
  induction k with
  | zero => intro y_1 y_4 y_5 G S _; rw [f_Rd_readDirectory_118]; exact g_none
  | succ k ih => intro y_1 y_4 y_5 G S hS; rw [f_Rd_readDirectory_118]; exact g_if ((b_Rd_readDirectory_288 hS)) (g_c (b_Tb_slotPlace_Rdroad hS) (fun r_20 S_20 hS_20 => g_c (b_Dk_one hS_20) (fun r_21 S_21 hS_21 => g_if ((b_Rd_readDirectory_288 hS_21)) (g_if ((b_Rd_readDirectory_192 (fun w0 w1 w2 w3 w4 w5 => ih w0 w1 w2 w3 w4 w5) hS_21)) (g_if ((b_Rd_readDirectory_192 (fun w0 w1 w2 w3 w4 w5 => ih w0 w1 w2 w3 w4 w5) hS_21)) (g_c (b_Rd_isDots hS_21) (fun r_25 S_25 hS_25 => g_if ((b_Rd_readDirectory_187 (fun w0 w1 w2 w3 w4 w5 => ih w0 w1 w2 w3 w4 w5) hS_25)) ((b_Rd_readDirectory_187 (fun w0 w1 w2 w3 w4 w5 => ih w0 w1 w2 w3 w4 w5) hS_25)))))))))
theorem b_Rd_readDirectory_91 {K : Nat} {y_1 : Int32} {y_3 : Int32} {G : CG} {S : CS} (hS : byt S) : bG (fun x => x.2.2) (f_Rd_readDirectory_91 K y_1 y_3 G S) := by
  unfold f_Rd_readDirectory_91
  exact g_b (b_Tr_beginKids hS) (fun S_12 hS_12 => g_ls hS_12 (fun S_13 hS_13 => g_c (b_Tb_slotsOfCluster hS_13) (fun r_14 S_14 hS_14 => g_lv (fun x_15 => (b_Rd_readDirectory_118 _ _ _ _ _ _ hS_14)))))
theorem b_Rd_readDirectory_27 {K : Nat} : ∀ (k : Nat) (y_1 : Int32) (y_2 : Int32) (y_3 : Int32) (y_4 : Int32) (G : CG) (S : CS), byt S → bG (fun x => x.2.2) (f_Rd_readDirectory_27 K k y_1 y_2 y_3 y_4 G S) := by
  intro k
  induction k with
  | zero => intro y_1 y_2 y_3 y_4 G S _; rw [f_Rd_readDirectory_27]; exact g_none
  | succ k ih => intro y_1 y_2 y_3 y_4 G S hS; rw [f_Rd_readDirectory_27]; exact g_if ((b_Rd_readDirectory_91 hS)) (g_if ((b_Rd_readDirectory_91 hS)) (g_g (g_c (b_Tb_goalOf hS) (fun r_7 S_7 hS_7 => g_if (g_g ((b_Rd_readDirectory_84 (fun w0 w1 w2 w3 w4 w5 w6 => ih w0 w1 w2 w3 w4 w5 w6) hS_7))) (g_g (g_c (b_Tb_goalOf hS_7) (fun r_10 S_10 hS_10 => (b_Rd_readDirectory_84 (fun w0 w1 w2 w3 w4 w5 w6 => ih w0 w1 w2 w3 w4 w5 w6) hS_10))))))))
theorem b_Rd_readDirectory {K : Nat} {G0 : CG} {S : CS} {p0 : Int32} {p1 : Int32} (hS : byt S) : bG (fun x => x.2.2) (f_Rd_readDirectory K G0 S p0 p1) := by
  unfold f_Rd_readDirectory
  exact g_c (b_Tr_firstOf hS) (fun r_1 S_1 hS_1 => g_c (b_Rd_follow_Rdroad hS_1) (fun r_2 S_2 hS_2 => g_if (g_some hS_2) ((b_Rd_readDirectory_27 _ _ _ _ _ _ _ hS_2))))
theorem b_Rd_scan_102 {K : Nat} {rec_64 : Int32 → Int32 → CG → CS → Option (Int32 × CG × CS)} {y_1 : Int32} {y_2 : Int32} {z_0 : Int32} {G : CG} {S : CS} (hrec_64 : ∀ (w0 : Int32) (w1 : Int32) (w2 : CG) (w3 : CS), byt w3 → bG (fun x => x.2.2) (rec_64 w0 w1 w2 w3)) (hS : byt S) : bG (fun x => x.2.2) (f_Rd_scan_102 K rec_64 y_1 y_2 z_0 G S) := by
  unfold f_Rd_scan_102
  exact g_if (g_lv (fun x_18 => (hrec_64 _ _ _ _ hS))) (g_some hS)
theorem b_Rd_scan_98 {K : Nat} {rec_64 : Int32 → Int32 → CG → CS → Option (Int32 × CG × CS)} {y_1 : Int32} {y_2 : Int32} {z_0 : Int32} {G : CG} {S : CS} (hrec_64 : ∀ (w0 : Int32) (w1 : Int32) (w2 : CG) (w3 : CS), byt w3 → bG (fun x => x.2.2) (rec_64 w0 w1 w2 w3)) (hS : byt S) : bG (fun x => x.2.2) (f_Rd_scan_98 K rec_64 y_1 y_2 z_0 G S) := by
  unfold f_Rd_scan_98
  exact (b_Rd_scan_102 hrec_64 hS)
theorem b_Rd_scan_115 {K : Nat} {G : CG} {S : CS} (hS : byt S) : bG (fun x => x.2.2) (f_Rd_scan_115 K G S) := by
  unfold f_Rd_scan_115
  exact g_c (b_Rd_hasStrays hS) (fun r_15 S_15 hS_15 => g_if (g_some hS_15) (g_some hS_15))
theorem b_Rd_scan_64 {K : Nat} : ∀ (k : Nat) (y_1 : Int32) (y_2 : Int32) (G : CG) (S : CS), byt S → bG (fun x => x.2.2) (f_Rd_scan_64 K k y_1 y_2 G S) := by
  intro k
  induction k with
  | zero => intro y_1 y_2 G S _; rw [f_Rd_scan_64]; exact g_none
  | succ k ih => intro y_1 y_2 G S hS; rw [f_Rd_scan_64]; exact g_if ((b_Rd_scan_115 hS)) (g_if ((b_Rd_scan_115 hS)) (g_c (b_Tr_isDirectory hS) (fun r_12 S_12 hS_12 => g_if ((b_Rd_scan_102 (fun w0 w1 w2 w3 w4 => ih w0 w1 w2 w3 w4) hS_12)) (g_n (b_Rd_readDirectory hS_12) (fun r_14 G_14 S_14 hS_14 => (b_Rd_scan_98 (fun w0 w1 w2 w3 w4 => ih w0 w1 w2 w3 w4) hS_14))))))
theorem b_Rd_scan_62 {K : Nat} {y_1 : Int32} {G : CG} {S : CS} (hS : byt S) : bG (fun x => x.2.2) (f_Rd_scan_62 K y_1 G S) := by
  unfold f_Rd_scan_62
  exact (b_Rd_scan_64 _ _ _ _ _ hS)
theorem b_Rd_scan_26 {K : Nat} : ∀ (k : Nat) (y_1 : Int32) (y_2 : Int32) (G : CG) (S : CS), byt S → bG (fun x => x.2.2) (f_Rd_scan_26 K k y_1 y_2 G S) := by
  intro k
  induction k with
  | zero => intro y_1 y_2 G S _; rw [f_Rd_scan_26]; exact g_none
  | succ k ih => intro y_1 y_2 G S hS; rw [f_Rd_scan_26]; exact g_if (g_n (b_Tr_startWith hS) (fun _ G_6 S_6 hS_6 => (b_Rd_scan_62 hS_6))) (g_g (g_ls hS (fun S_8 hS_8 => g_lv (fun x_9 => (ih _ _ _ _ hS_8)))))
theorem b_Rd_scan {K : Nat} {G0 : CG} {S : CS} {p0 : Int32} (hS : byt S) : bG (fun x => x.2.2) (f_Rd_scan K G0 S p0) := by
  unfold f_Rd_scan
  exact g_c (b_Tb_read hS) (fun r_1 S_1 hS_1 => g_if (g_some hS_1) (g_c (b_Tb_entriesFit hS_1) (fun r_3 S_3 hS_3 => g_if (g_some hS_3) ((b_Rd_scan_26 _ _ _ _ _ hS_3)))))
theorem b_Tu_turn_109 {K : Nat} {G : CG} {S : CS} (hS : byt S) : bG (fun x => x.2.2) (f_Tu_turn_109 K G S) := by
  unfold f_Tu_turn_109
  exact g_some hS
theorem b_Tu_turn_85 {K : Nat} {z_0 : Int32} {G : CG} {S : CS} (hS : byt S) : bG (fun x => x.2.2) (f_Tu_turn_85 K z_0 G S) := by
  unfold f_Tu_turn_85
  exact g_if (g_c (b_Pl_assign hS) (fun r_17 S_17 hS_17 => g_if ((b_Tu_turn_109 hS_17)) (g_b (b_Pl_markUsed hS_17) (fun S_19 hS_19 => g_b (b_Tu_putFixed hS_19) (fun S_20 hS_20 => (b_Tu_turn_109 hS_20)))))) ((b_Tu_turn_109 hS))
theorem b_Tu_turn_60 {K : Nat} {G : CG} {S : CS} (hS : byt S) : bG (fun x => x.2.2) (f_Tu_turn_60 K G S) := by
  unfold f_Tu_turn_60
  exact g_c (b_Dk_isOn hS) (fun r_8 S_8 hS_8 => g_if ((b_Tu_turn_109 hS_8)) (g_c (b_Tu_recall hS_8) (fun r_10 S_10 hS_10 => g_if ((b_Tu_turn_109 hS_10)) (g_n (b_Rd_scan hS_10) (fun r_12 G_12 S_12 hS_12 => (b_Tu_turn_85 hS_12))))))
theorem b_Tu_turn_46 {K : Nat} {z_1 : Int32} {z_2 : Int32} {G : CG} {S : CS} (hS : byt S) : bG (fun x => x.2.2) (f_Tu_turn_46 K z_1 z_2 G S) := by
  unfold f_Tu_turn_46
  exact g_c (b_Pl_refusal hS) (fun r_13 S_13 hS_13 => g_if (g_b (b_Tu_prepare hS_13) (fun S_15 hS_15 => (b_Tu_turn_60 hS_15))) (g_some hS_13))
theorem b_Tu_turn {K : Nat} {G0 : CG} {S : CS} {p0 : Int32} {p1 : Int32} (hS : byt S) : bG (fun x => x.2.2) (f_Tu_turn K G0 S p0 p1) := by
  unfold f_Tu_turn
  exact g_if (g_b (b_Tu_goBack hS) (fun S_7 hS_7 => g_some hS_7)) (g_c (b_In_isThere hS) (fun r_2 S_2 hS_2 => g_if (g_c (b_In_isMarked hS_2) (fun r_4 S_4 hS_4 => g_if (g_n (b_Rd_scan hS_4) (fun r_6 G_6 S_6 hS_6 => (b_Tu_turn_46 hS_6))) ((b_Tu_turn_60 hS_4)))) (g_some hS_2)))
theorem b_Vt_look_36 {K : Nat} {G : CG} {S : CS} (hS : byt S) : bG (fun x => x.2.2) (f_Vt_look_36 K G S) := by
  unfold f_Vt_look_36
  exact g_if (g_some hS) (g_some hS)
theorem b_Vt_look_28 {K : Nat} {z_1 : Int32} {G : CG} {S : CS} (hS : byt S) : bG (fun x => x.2.2) (f_Vt_look_28 K z_1 G S) := by
  unfold f_Vt_look_28
  exact g_ls hS (fun S_6 hS_6 => g_ls hS_6 (fun S_7 hS_7 => (b_Vt_look_36 hS_7)))
theorem b_Vt_look {K : Nat} {G0 : CG} {S : CS} (hS : byt S) : bG (fun x => x.2.2) (f_Vt_look K G0 S) := by
  unfold f_Vt_look
  exact g_c (b_In_isThere hS) (fun r_1 S_1 hS_1 => g_if (g_if ((b_Vt_look_36 hS_1)) (g_n (b_Rd_scan hS_1) (fun r_4 G_4 S_4 hS_4 => (b_Vt_look_28 hS_4)))) (g_some hS_1))
theorem b_Vt_kind_4 {K : Nat} {z_0 : Int32} {G : CG} {S : CS} (hS : byt S) : bG (fun x => x.2.2) (f_Vt_kind_4 K z_0 G S) := by
  unfold f_Vt_kind_4
  exact g_some hS
theorem b_Vt_kind {K : Nat} {G0 : CG} {S : CS} (hS : byt S) : bG (fun x => x.2.2) (f_Vt_kind K G0 S) := by
  unfold f_Vt_kind
  exact g_n (b_Vt_look hS) (fun r_1 G_1 S_1 hS_1 => (b_Vt_kind_4 hS_1))
theorem b_Vt_fault_4 {K : Nat} {z_0 : Int32} {G : CG} {S : CS} (hS : byt S) : bG (fun x => x.2.2) (f_Vt_fault_4 K z_0 G S) := by
  unfold f_Vt_fault_4
  exact g_if (g_some hS) (g_some hS)
theorem b_Vt_fault {K : Nat} {G0 : CG} {S : CS} (hS : byt S) : bG (fun x => x.2.2) (f_Vt_fault K G0 S) := by
  unfold f_Vt_fault
  exact g_n (b_Vt_look hS) (fun r_1 G_1 S_1 hS_1 => (b_Vt_fault_4 hS_1))
theorem b_Vt_byteAt_60 {K : Nat} {y_1 : Int32} {y_2 : Int32} {z_0 : Int32} {G : CG} {S : CS} (hS : byt S) : bG (fun x => x.2.2) (f_Vt_byteAt_60 K y_1 y_2 z_0 G S) := by
  unfold f_Vt_byteAt_60
  exact g_if (g_some hS) (g_c (b_Dk_one hS) (fun r_12 S_12 hS_12 => g_some hS_12))
theorem b_Vt_byteAt_55 {K : Nat} {y_1 : Int32} {y_2 : Int32} {G : CG} {S : CS} (hS : byt S) : bG (fun x => x.2.2) (f_Vt_byteAt_55 K y_1 y_2 G S) := by
  unfold f_Vt_byteAt_55
  exact (b_Vt_byteAt_60 hS)
theorem b_Vt_byteAt_59 {K : Nat} {y_1 : Int32} {y_2 : Int32} {G : CG} {S : CS} (hS : byt S) : bG (fun x => x.2.2) (f_Vt_byteAt_59 K y_1 y_2 G S) := by
  unfold f_Vt_byteAt_59
  exact (b_Vt_byteAt_60 hS)
theorem b_Vt_byteAt_39 {K : Nat} {y_1 : Int32} {y_2 : Int32} {y_3 : Int32} {G : CG} {S : CS} (hS : byt S) : bG (fun x => x.2.2) (f_Vt_byteAt_39 K y_1 y_2 y_3 G S) := by
  unfold f_Vt_byteAt_39
  exact g_if (g_c (b_In_shows hS) (fun r_9 S_9 hS_9 => g_if ((b_Vt_byteAt_59 hS_9)) ((b_Vt_byteAt_55 hS_9)))) ((b_Vt_byteAt_59 hS))
theorem b_Vt_byteAt_18 {K : Nat} {y_1 : Int32} {y_2 : Int32} {z_0 : Int32} {G : CG} {S : CS} (hS : byt S) : bG (fun x => x.2.2) (f_Vt_byteAt_18 K y_1 y_2 z_0 G S) := by
  unfold f_Vt_byteAt_18
  exact g_if ((b_Vt_byteAt_55 hS)) (g_if (g_c (b_Tb_shows hS) (fun r_6 S_6 hS_6 => g_if ((b_Vt_byteAt_39 hS_6)) ((b_Vt_byteAt_55 hS_6)))) ((b_Vt_byteAt_39 hS)))
theorem b_Vt_byteAt {K : Nat} {G0 : CG} {S : CS} {p0 : Int32} {p1 : Int32} (hS : byt S) : bG (fun x => x.2.2) (f_Vt_byteAt K G0 S p0 p1) := by
  unfold f_Vt_byteAt
  exact g_c (b_Dk_has hS) (fun r_1 S_1 hS_1 => g_if (g_some hS_1) (g_n (b_Vt_look hS_1) (fun r_3 G_3 S_3 hS_3 => (b_Vt_byteAt_18 hS_3))))
theorem b_Vt_plan_18 {K : Nat} {G : CG} {S : CS} (hS : byt S) : bG (fun x => x.2.2) (f_Vt_plan_18 K G S) := by
  unfold f_Vt_plan_18
  exact g_some hS
theorem b_Vt_plan_14 {K : Nat} {y_1 : Int32} {y_2 : Int32} {z_0 : Int32} {G : CG} {S : CS} (hS : byt S) : bG (fun x => x.2.2) (f_Vt_plan_14 K y_1 y_2 z_0 G S) := by
  unfold f_Vt_plan_14
  exact g_if (g_c (b_Pl_refusal hS) (fun r_5 S_5 hS_5 => g_if (g_some hS_5) (g_if (g_c (b_Pl_number hS_5) (fun r_8 S_8 hS_8 => g_some hS_8)) (g_some hS_5)))) ((b_Vt_plan_18 hS))
theorem b_Vt_plan {K : Nat} {G0 : CG} {S : CS} {p0 : Int32} {p1 : Int32} (hS : byt S) : bG (fun x => x.2.2) (f_Vt_plan K G0 S p0 p1) := by
  unfold f_Vt_plan
  exact g_if ((b_Vt_plan_18 hS)) (g_if ((b_Vt_plan_18 hS)) (g_n (b_Vt_look hS) (fun r_3 G_3 S_3 hS_3 => (b_Vt_plan_14 hS_3))))
theorem b_Vt_target_23 {K : Nat} {G : CG} {S : CS} (hS : byt S) : bG (fun x => x.2.2) (f_Vt_target_23 K G S) := by
  unfold f_Vt_target_23
  exact g_some hS
theorem b_Vt_target_4 {K : Nat} {y_1 : Int32} {y_2 : Int32} {z_0 : Int32} {G : CG} {S : CS} (hS : byt S) : bG (fun x => x.2.2) (f_Vt_target_4 K y_1 y_2 z_0 G S) := by
  unfold f_Vt_target_4
  exact g_if (g_c (b_Pl_refusal hS) (fun r_3 S_3 hS_3 => g_if (g_c (b_Tb_hasCluster hS_3) (fun r_5 S_5 hS_5 => g_if (g_some hS_5) (g_c (b_Tb_goalOf hS_5) (fun r_7 S_7 hS_7 => g_some hS_7)))) ((b_Vt_target_23 hS_3)))) ((b_Vt_target_23 hS))
theorem b_Vt_target {K : Nat} {G0 : CG} {S : CS} {p0 : Int32} {p1 : Int32} (hS : byt S) : bG (fun x => x.2.2) (f_Vt_target K G0 S p0 p1) := by
  unfold f_Vt_target
  exact g_n (b_Vt_look hS) (fun r_1 G_1 S_1 hS_1 => (b_Vt_target_4 hS_1))
theorem b_Vt_readsInodes_23 {K : Nat} {y_1 : Int32} {G : CG} {S : CS} (hS : byt S) : bG (fun x => x.2.2) (f_Vt_readsInodes_23 K y_1 G S) := by
  unfold f_Vt_readsInodes_23
  exact g_if (g_some hS) (g_some hS)
theorem b_Vt_readsInodes {K : Nat} {G0 : CG} {S : CS} {p0 : Int32} (hS : byt S) : bG (fun x => x.2.2) (f_Vt_readsInodes K G0 S p0) := by
  unfold f_Vt_readsInodes
  exact g_if ((b_Vt_readsInodes_23 hS)) (g_if ((b_Vt_readsInodes_23 hS)) (g_some hS))
theorem b_Vt_itemHere_19 {K : Nat} {G : CG} {S : CS} (hS : byt S) : bG (fun x => x.2.2) (f_Vt_itemHere_19 K G S) := by
  unfold f_Vt_itemHere_19
  exact g_some hS
theorem b_Vt_itemHere {K : Nat} {G0 : CG} {S : CS} {p0 : Int32} (hS : byt S) : bG (fun x => x.2.2) (f_Vt_itemHere K G0 S p0) := by
  unfold f_Vt_itemHere
  exact g_if ((b_Vt_itemHere_19 hS)) (g_c (b_Tr_countIn hS) (fun r_2 S_2 hS_2 => g_if (g_c (b_Tr_kid hS_2) (fun r_4 S_4 hS_4 => g_some hS_4)) ((b_Vt_itemHere_19 hS_2))))
theorem b_Vt_entryHere_19 {K : Nat} {G : CG} {S : CS} (hS : byt S) : bG (fun x => x.2.2) (f_Vt_entryHere_19 K G S) := by
  unfold f_Vt_entryHere_19
  exact g_some hS
theorem b_Vt_entryHere {K : Nat} {G0 : CG} {S : CS} {p0 : Int32} (hS : byt S) : bG (fun x => x.2.2) (f_Vt_entryHere K G0 S p0) := by
  unfold f_Vt_entryHere
  exact g_if ((b_Vt_entryHere_19 hS)) (g_c (b_In_countIn hS) (fun r_2 S_2 hS_2 => g_if (g_c (b_In_findEntry hS_2) (fun r_4 S_4 hS_4 => g_some hS_4)) ((b_Vt_entryHere_19 hS_2))))
theorem b_Vt_about_37 {K : Nat} {G : CG} {S : CS} (hS : byt S) : bG (fun x => x.2.2) (f_Vt_about_37 K G S) := by
  unfold f_Vt_about_37
  exact g_some hS
theorem b_Vt_about_26 {K : Nat} {y_2 : Int32} {y_3 : Int32} {z_0 : Int32} {G : CG} {S : CS} (hS : byt S) : bG (fun x => x.2.2) (f_Vt_about_26 K y_2 y_3 z_0 G S) := by
  unfold f_Vt_about_26
  exact g_if ((b_Vt_about_37 hS)) (g_if (g_if (g_c (b_Vt_tellItem hS) (fun r_9 S_9 hS_9 => g_some hS_9)) (g_c (b_In_tell hS) (fun r_10 S_10 hS_10 => g_some hS_10))) ((b_Vt_about_37 hS)))
theorem b_Vt_about_18 {K : Nat} {y_2 : Int32} {y_3 : Int32} {z_0 : Int32} {G : CG} {S : CS} (hS : byt S) : bG (fun x => x.2.2) (f_Vt_about_18 K y_2 y_3 z_0 G S) := by
  unfold f_Vt_about_18
  exact (b_Vt_about_26 hS)
theorem b_Vt_about_8 {K : Nat} {y_1 : Int32} {y_2 : Int32} {z_0 : Int32} {G : CG} {S : CS} (hS : byt S) : bG (fun x => x.2.2) (f_Vt_about_8 K y_1 y_2 z_0 G S) := by
  unfold f_Vt_about_8
  exact g_if (g_a (b_Vt_itemHere hS) (fun r_4 G_4 S_4 hS_4 => (b_Vt_about_26 hS_4))) (g_a (b_Vt_entryHere hS) (fun r_5 G_5 S_5 hS_5 => (b_Vt_about_18 hS_5)))
theorem b_Vt_about_5 {K : Nat} {y_1 : Int32} {y_2 : Int32} {z_1 : Int32} {G : CG} {S : CS} (hS : byt S) : bG (fun x => x.2.2) (f_Vt_about_5 K y_1 y_2 z_1 G S) := by
  unfold f_Vt_about_5
  exact g_a (b_Vt_readsInodes hS) (fun r_2 G_2 S_2 hS_2 => (b_Vt_about_8 hS_2))
theorem b_Vt_about {K : Nat} {G0 : CG} {S : CS} {p0 : Int32} {p1 : Int32} (hS : byt S) : bG (fun x => x.2.2) (f_Vt_about K G0 S p0 p1) := by
  unfold f_Vt_about
  exact g_n (b_Vt_look hS) (fun r_1 G_1 S_1 hS_1 => (b_Vt_about_5 hS_1))
theorem b_Vt_content_20 {K : Nat} {y_2 : Int32} {z_1 : Int32} {G : CG} {S : CS} (hS : byt S) : bG (fun x => x.2.2) (f_Vt_content_20 K y_2 z_1 G S) := by
  unfold f_Vt_content_20
  exact g_c (b_In_fileByte hS) (fun r_13 S_13 hS_13 => g_some hS_13)
theorem b_Vt_content_58 {K : Nat} {G : CG} {S : CS} (hS : byt S) : bG (fun x => x.2.2) (f_Vt_content_58 K G S) := by
  unfold f_Vt_content_58
  exact g_some hS
theorem b_Vt_content_30 {K : Nat} {y_2 : Int32} {z_0 : Int32} {G : CG} {S : CS} (hS : byt S) : bG (fun x => x.2.2) (f_Vt_content_30 K y_2 z_0 G S) := by
  unfold f_Vt_content_30
  exact g_c (b_Tr_isDirectory hS) (fun r_6 S_6 hS_6 => g_if (g_if ((b_Vt_content_58 hS_6)) (g_c (b_Tr_sizeOf hS_6) (fun r_9 S_9 hS_9 => g_if (g_c (b_Ed_placeOf hS_9) (fun r_11 S_11 hS_11 => g_c (b_Dk_one hS_11) (fun r_12 S_12 hS_12 => g_some hS_12))) ((b_Vt_content_58 hS_9))))) ((b_Vt_content_58 hS_6)))
theorem b_Vt_content_8 {K : Nat} {y_1 : Int32} {y_2 : Int32} {z_0 : Int32} {G : CG} {S : CS} (hS : byt S) : bG (fun x => x.2.2) (f_Vt_content_8 K y_1 y_2 z_0 G S) := by
  unfold f_Vt_content_8
  exact g_if (g_a (b_Vt_itemHere hS) (fun r_4 G_4 S_4 hS_4 => (b_Vt_content_30 hS_4))) (g_a (b_Vt_entryHere hS) (fun r_5 G_5 S_5 hS_5 => (b_Vt_content_20 hS_5)))
theorem b_Vt_content_5 {K : Nat} {y_1 : Int32} {y_2 : Int32} {z_1 : Int32} {G : CG} {S : CS} (hS : byt S) : bG (fun x => x.2.2) (f_Vt_content_5 K y_1 y_2 z_1 G S) := by
  unfold f_Vt_content_5
  exact g_a (b_Vt_readsInodes hS) (fun r_2 G_2 S_2 hS_2 => (b_Vt_content_8 hS_2))
theorem b_Vt_content {K : Nat} {G0 : CG} {S : CS} {p0 : Int32} {p1 : Int32} (hS : byt S) : bG (fun x => x.2.2) (f_Vt_content K G0 S p0 p1) := by
  unfold f_Vt_content
  exact g_n (b_Vt_look hS) (fun r_1 G_1 S_1 hS_1 => (b_Vt_content_5 hS_1))
theorem b_Vt_wantSoundTable_12 {K : Nat} {G : CG} {S : CS} (hS : byt S) : bG (fun x => x.2.2) (f_Vt_wantSoundTable_12 K G S) := by
  unfold f_Vt_wantSoundTable_12
  exact g_some hS
theorem b_Vt_wantSoundTable {K : Nat} {G0 : CG} {S : CS} {p0 : Int32} (hS : byt S) : bG (fun x => x.2.2) (f_Vt_wantSoundTable K G0 S p0) := by
  unfold f_Vt_wantSoundTable
  exact g_if (g_if (g_some hS) ((b_Vt_wantSoundTable_12 hS))) ((b_Vt_wantSoundTable_12 hS))
theorem b_Vt_fileHere_5 {K : Nat} {z_0 : Int32} {G : CG} {S : CS} (hS : byt S) : bG (fun x => x.2.2) (f_Vt_fileHere_5 K z_0 G S) := by
  unfold f_Vt_fileHere_5
  exact g_c (b_Tr_isDirectory hS) (fun r_2 S_2 hS_2 => g_if (g_some hS_2) (g_some hS_2))
theorem b_Vt_fileHere {K : Nat} {G0 : CG} {S : CS} {p0 : Int32} (hS : byt S) : bG (fun x => x.2.2) (f_Vt_fileHere K G0 S p0) := by
  unfold f_Vt_fileHere
  exact g_a (b_Vt_itemHere hS) (fun r_1 G_1 S_1 hS_1 => (b_Vt_fileHere_5 hS_1))
theorem b_Vt_cut_30 {K : Nat} {G : CG} {S : CS} (hS : byt S) : bG (fun x => x.2.2) (f_Vt_cut_30 K G S) := by
  unfold f_Vt_cut_30
  exact g_some hS
theorem b_Vt_cut_13 {K : Nat} {y_2 : Int32} {z_0 : Int32} {G : CG} {S : CS} (hS : byt S) : bG (fun x => x.2.2) (f_Vt_cut_13 K y_2 z_0 G S) := by
  unfold f_Vt_cut_13
  exact g_if ((b_Vt_cut_30 hS)) (g_c (b_Tr_sizeOf hS) (fun r_5 S_5 hS_5 => g_if (g_b (b_Vt_changed hS_5) (fun S_7 hS_7 => g_c (b_Ed_shorten hS_7) (fun r_8 S_8 hS_8 => g_some hS_8))) ((b_Vt_cut_30 hS_5))))
theorem b_Vt_cut_8 {K : Nat} {y_1 : Int32} {y_2 : Int32} {G : CG} {S : CS} (hS : byt S) : bG (fun x => x.2.2) (f_Vt_cut_8 K y_1 y_2 G S) := by
  unfold f_Vt_cut_8
  exact g_a (b_Vt_fileHere hS) (fun r_3 G_3 S_3 hS_3 => (b_Vt_cut_13 hS_3))
theorem b_Vt_cut_5 {K : Nat} {y_1 : Int32} {y_2 : Int32} {z_1 : Int32} {G : CG} {S : CS} (hS : byt S) : bG (fun x => x.2.2) (f_Vt_cut_5 K y_1 y_2 z_1 G S) := by
  unfold f_Vt_cut_5
  exact g_a (b_Vt_wantSoundTable hS) (fun _ G_2 S_2 hS_2 => (b_Vt_cut_8 hS_2))
theorem b_Vt_cut {K : Nat} {G0 : CG} {S : CS} {p0 : Int32} {p1 : Int32} (hS : byt S) : bG (fun x => x.2.2) (f_Vt_cut K G0 S p0 p1) := by
  unfold f_Vt_cut
  exact g_n (b_Vt_look hS) (fun r_1 G_1 S_1 hS_1 => (b_Vt_cut_5 hS_1))
theorem b_Vt_enter_56 {K : Nat} {G : CG} {S : CS} (hS : byt S) : bG (fun x => x.2.2) (f_Vt_enter_56 K G S) := by
  unfold f_Vt_enter_56
  exact g_some hS
theorem b_Vt_enter_83 {K : Nat} {y_2 : Int32} {z_1 : Int32} {G : CG} {S : CS} (hS : byt S) : bG (fun x => x.2.2) (f_Vt_enter_83 K y_2 z_1 G S) := by
  unfold f_Vt_enter_83
  exact g_ls hS (fun S_13 hS_13 => g_if (g_c (b_Tr_countIn hS_13) (fun r_15 S_15 hS_15 => g_some hS_15)) (g_c (b_In_countIn hS_13) (fun r_16 S_16 hS_16 => g_some hS_16)))
theorem b_Vt_enter_66 {K : Nat} {y_2 : Int32} {y_3 : Int32} {G : CG} {S : CS} (hS : byt S) : bG (fun x => x.2.2) (f_Vt_enter_66 K y_2 y_3 G S) := by
  unfold f_Vt_enter_66
  exact g_if ((b_Vt_enter_83 hS)) (g_c (b_In_inodeOf hS) (fun r_12 S_12 hS_12 => (b_Vt_enter_83 hS_12)))
theorem b_Vt_enter_26 {K : Nat} {y_2 : Int32} {z_0 : Int32} {G : CG} {S : CS} (hS : byt S) : bG (fun x => x.2.2) (f_Vt_enter_26 K y_2 z_0 G S) := by
  unfold f_Vt_enter_26
  exact g_if (g_c (b_Tr_isDirectory hS) (fun r_7 S_7 hS_7 => g_if ((b_Vt_enter_56 hS_7)) ((b_Vt_enter_66 hS_7)))) (g_c (b_In_isDirectory hS) (fun r_9 S_9 hS_9 => g_if ((b_Vt_enter_56 hS_9)) ((b_Vt_enter_66 hS_9))))
theorem b_Vt_enter_18 {K : Nat} {y_2 : Int32} {z_0 : Int32} {G : CG} {S : CS} (hS : byt S) : bG (fun x => x.2.2) (f_Vt_enter_18 K y_2 z_0 G S) := by
  unfold f_Vt_enter_18
  exact (b_Vt_enter_26 hS)
theorem b_Vt_enter_8 {K : Nat} {y_1 : Int32} {z_0 : Int32} {G : CG} {S : CS} (hS : byt S) : bG (fun x => x.2.2) (f_Vt_enter_8 K y_1 z_0 G S) := by
  unfold f_Vt_enter_8
  exact g_if (g_a (b_Vt_itemHere hS) (fun r_4 G_4 S_4 hS_4 => (b_Vt_enter_26 hS_4))) (g_a (b_Vt_entryHere hS) (fun r_5 G_5 S_5 hS_5 => (b_Vt_enter_18 hS_5)))
theorem b_Vt_enter_5 {K : Nat} {y_1 : Int32} {z_1 : Int32} {G : CG} {S : CS} (hS : byt S) : bG (fun x => x.2.2) (f_Vt_enter_5 K y_1 z_1 G S) := by
  unfold f_Vt_enter_5
  exact g_a (b_Vt_readsInodes hS) (fun r_2 G_2 S_2 hS_2 => (b_Vt_enter_8 hS_2))
theorem b_Vt_enter {K : Nat} {G0 : CG} {S : CS} {p0 : Int32} (hS : byt S) : bG (fun x => x.2.2) (f_Vt_enter K G0 S p0) := by
  unfold f_Vt_enter
  exact g_n (b_Vt_look hS) (fun r_1 G_1 S_1 hS_1 => (b_Vt_enter_5 hS_1))
theorem b_Vt_format_39 {K : Nat} {G : CG} {S : CS} (hS : byt S) : bG (fun x => x.2.2) (f_Vt_format_39 K G S) := by
  unfold f_Vt_format_39
  exact g_some hS
theorem b_Vt_format_115 {K : Nat} {G : CG} {S : CS} (hS : byt S) : bG (fun x => x.2.2) (f_Vt_format_115 K G S) := by
  unfold f_Vt_format_115
  exact g_ls hS (fun S_12 hS_12 => g_b (b_Vt_changed hS_12) (fun S_13 hS_13 => g_ls hS_13 (fun S_14 hS_14 => g_some hS_14)))
theorem b_Vt_format {K : Nat} {G0 : CG} {S : CS} {p0 : Int32} {p1 : Int32} {p2 : Int32} {p3 : Int32} (hS : byt S) : bG (fun x => x.2.2) (f_Vt_format K G0 S p0 p1 p2 p3) := by
  unfold f_Vt_format
  exact g_c (b_Tp_useUp hS) (fun r_1 S_1 hS_1 => g_c (b_Tb_leastLength hS_1) (fun r_2 S_2 hS_2 => g_if ((b_Vt_format_39 hS_2)) (g_c (b_Tp_isLabel hS_2) (fun r_4 S_4 hS_4 => g_if ((b_Vt_format_39 hS_4)) (g_b (b_Dk_zero hS_4) (fun S_6 hS_6 => g_b (b_Tb_writeFirstSectors hS_6) (fun S_7 hS_7 => g_c (b_Tb_read hS_7) (fun r_8 S_8 hS_8 => g_b (b_Tb_startTables hS_8) (fun S_9 hS_9 => g_if ((b_Vt_format_115 hS_9)) (g_b (b_Ed_writeLabel hS_9) (fun S_11 hS_11 => (b_Vt_format_115 hS_11))))))))))))
theorem b_Vt_lengthen {K : Nat} {G0 : CG} {S : CS} {p0 : Int32} {p1 : Int32} (hS : byt S) : bG (fun x => x.2.2) (f_Vt_lengthen K G0 S p0 p1) := by
  unfold f_Vt_lengthen
  exact g_c (b_Tr_sizeOf hS) (fun r_1 S_1 hS_1 => g_c (b_Ed_canHold hS_1) (fun r_2 S_2 hS_2 => g_if (g_some hS_2) (g_b (b_Vt_changed hS_2) (fun S_4 hS_4 => g_b (b_Ed_lengthen hS_4) (fun S_5 hS_5 => g_some hS_5)))))
theorem b_Vt_grow_26 {K : Nat} {G : CG} {S : CS} (hS : byt S) : bG (fun x => x.2.2) (f_Vt_grow_26 K G S) := by
  unfold f_Vt_grow_26
  exact g_some hS
theorem b_Vt_grow_62 {K : Nat} : ∀ (k : Nat) (y_2 : Int32) (y_3 : Int32) (y_5 : Int32) (y_6 : Int32) (y_7 : Int32) (G : CG) (S : CS), byt S → bG (fun x => x.2.2) (f_Vt_grow_62 K k y_2 y_3 y_5 y_6 y_7 G S) := by
  intro k
  induction k with
  | zero => intro y_2 y_3 y_5 y_6 y_7 G S _; rw [f_Vt_grow_62]; exact g_none
  | succ k ih => intro y_2 y_3 y_5 y_6 y_7 G S hS; rw [f_Vt_grow_62]; exact g_if (g_some hS) (g_c (b_Ed_placeBehind hS) (fun r_9 S_9 hS_9 => g_b (b_Dk_putOne hS_9) (fun S_10 hS_10 => g_lv (fun x_11 => (ih _ _ _ _ _ _ _ hS_10)))))
theorem b_Vt_grow_44 {K : Nat} {y_2 : Int32} {y_3 : Int32} {z_0 : Int32} {G : CG} {S : CS} (hS : byt S) : bG (fun x => x.2.2) (f_Vt_grow_44 K y_2 y_3 z_0 G S) := by
  unfold f_Vt_grow_44
  exact g_c (b_Ed_placeOnRoad hS) (fun r_7 S_7 hS_7 => (b_Vt_grow_62 _ _ _ _ _ _ _ _ hS_7))
theorem b_Vt_grow_13 {K : Nat} {y_2 : Int32} {y_3 : Int32} {z_0 : Int32} {G : CG} {S : CS} (hS : byt S) : bG (fun x => x.2.2) (f_Vt_grow_13 K y_2 y_3 z_0 G S) := by
  unfold f_Vt_grow_13
  exact g_if ((b_Vt_grow_26 hS)) (g_if (g_a (b_Vt_lengthen hS) (fun r_6 G_6 S_6 hS_6 => (b_Vt_grow_44 hS_6))) ((b_Vt_grow_26 hS)))
theorem b_Vt_grow_8 {K : Nat} {y_1 : Int32} {y_2 : Int32} {y_3 : Int32} {G : CG} {S : CS} (hS : byt S) : bG (fun x => x.2.2) (f_Vt_grow_8 K y_1 y_2 y_3 G S) := by
  unfold f_Vt_grow_8
  exact g_a (b_Vt_fileHere hS) (fun r_3 G_3 S_3 hS_3 => (b_Vt_grow_13 hS_3))
theorem b_Vt_grow_5 {K : Nat} {y_1 : Int32} {y_2 : Int32} {y_3 : Int32} {z_1 : Int32} {G : CG} {S : CS} (hS : byt S) : bG (fun x => x.2.2) (f_Vt_grow_5 K y_1 y_2 y_3 z_1 G S) := by
  unfold f_Vt_grow_5
  exact g_a (b_Vt_wantSoundTable hS) (fun _ G_2 S_2 hS_2 => (b_Vt_grow_8 hS_2))
theorem b_Vt_grow {K : Nat} {G0 : CG} {S : CS} {p0 : Int32} {p1 : Int32} {p2 : Int32} (hS : byt S) : bG (fun x => x.2.2) (f_Vt_grow K G0 S p0 p1 p2) := by
  unfold f_Vt_grow
  exact g_n (b_Vt_look hS) (fun r_1 G_1 S_1 hS_1 => (b_Vt_grow_5 hS_1))
theorem b_Vt_items_8 {K : Nat} {z_0 : Int32} {G : CG} {S : CS} (hS : byt S) : bG (fun x => x.2.2) (f_Vt_items_8 K z_0 G S) := by
  unfold f_Vt_items_8
  exact g_if (g_c (b_Tr_countIn hS) (fun r_4 S_4 hS_4 => g_some hS_4)) (g_c (b_In_countIn hS) (fun r_5 S_5 hS_5 => g_some hS_5))
theorem b_Vt_items_5 {K : Nat} {z_1 : Int32} {G : CG} {S : CS} (hS : byt S) : bG (fun x => x.2.2) (f_Vt_items_5 K z_1 G S) := by
  unfold f_Vt_items_5
  exact g_a (b_Vt_readsInodes hS) (fun r_2 G_2 S_2 hS_2 => (b_Vt_items_8 hS_2))
theorem b_Vt_items {K : Nat} {G0 : CG} {S : CS} (hS : byt S) : bG (fun x => x.2.2) (f_Vt_items K G0 S) := by
  unfold f_Vt_items
  exact g_n (b_Vt_look hS) (fun r_1 G_1 S_1 hS_1 => (b_Vt_items_5 hS_1))
theorem b_Vt_letter_20 {K : Nat} {y_2 : Int32} {z_1 : Int32} {G : CG} {S : CS} (hS : byt S) : bG (fun x => x.2.2) (f_Vt_letter_20 K y_2 z_1 G S) := by
  unfold f_Vt_letter_20
  exact g_c (b_In_nameByte hS) (fun r_7 S_7 hS_7 => g_some hS_7)
theorem b_Vt_letter_34 {K : Nat} {y_2 : Int32} {z_1 : Int32} {G : CG} {S : CS} (hS : byt S) : bG (fun x => x.2.2) (f_Vt_letter_34 K y_2 z_1 G S) := by
  unfold f_Vt_letter_34
  exact g_c (b_Tr_nameByte hS) (fun r_6 S_6 hS_6 => g_some hS_6)
theorem b_Vt_letter_8 {K : Nat} {y_1 : Int32} {y_2 : Int32} {z_0 : Int32} {G : CG} {S : CS} (hS : byt S) : bG (fun x => x.2.2) (f_Vt_letter_8 K y_1 y_2 z_0 G S) := by
  unfold f_Vt_letter_8
  exact g_if (g_a (b_Vt_itemHere hS) (fun r_4 G_4 S_4 hS_4 => (b_Vt_letter_34 hS_4))) (g_a (b_Vt_entryHere hS) (fun r_5 G_5 S_5 hS_5 => (b_Vt_letter_20 hS_5)))
theorem b_Vt_letter_5 {K : Nat} {y_1 : Int32} {y_2 : Int32} {z_1 : Int32} {G : CG} {S : CS} (hS : byt S) : bG (fun x => x.2.2) (f_Vt_letter_5 K y_1 y_2 z_1 G S) := by
  unfold f_Vt_letter_5
  exact g_a (b_Vt_readsInodes hS) (fun r_2 G_2 S_2 hS_2 => (b_Vt_letter_8 hS_2))
theorem b_Vt_letter {K : Nat} {G0 : CG} {S : CS} {p0 : Int32} {p1 : Int32} (hS : byt S) : bG (fun x => x.2.2) (f_Vt_letter K G0 S p0 p1) := by
  unfold f_Vt_letter
  exact g_n (b_Vt_look hS) (fun r_1 G_1 S_1 hS_1 => (b_Vt_letter_5 hS_1))
theorem b_Vt_make_45 {K : Nat} {G : CG} {S : CS} (hS : byt S) : bG (fun x => x.2.2) (f_Vt_make_45 K G S) := by
  unfold f_Vt_make_45
  exact g_some hS
theorem b_Vt_make_16 {K : Nat} {y_1 : Int32} {y_2 : Int32} {G : CG} {S : CS} (hS : byt S) : bG (fun x => x.2.2) (f_Vt_make_16 K y_1 y_2 G S) := by
  unfold f_Vt_make_16
  exact g_c (b_Ed_readName hS) (fun r_4 S_4 hS_4 => g_if ((b_Vt_make_45 hS_4)) (g_c (b_Ed_clashes hS_4) (fun r_6 S_6 hS_6 => g_if (g_c (b_Ed_findSlots hS_6) (fun r_8 S_8 hS_8 => g_if (g_some hS_8) (g_b (b_Vt_changed hS_8) (fun S_10 hS_10 => g_c (b_Ed_addItem hS_10) (fun r_11 S_11 hS_11 => g_some hS_11))))) ((b_Vt_make_45 hS_6)))))
theorem b_Vt_make_13 {K : Nat} {y_1 : Int32} {y_2 : Int32} {z_1 : Int32} {G : CG} {S : CS} (hS : byt S) : bG (fun x => x.2.2) (f_Vt_make_13 K y_1 y_2 z_1 G S) := by
  unfold f_Vt_make_13
  exact g_a (b_Vt_wantSoundTable hS) (fun _ G_3 S_3 hS_3 => (b_Vt_make_16 hS_3))
theorem b_Vt_make {K : Nat} {G0 : CG} {S : CS} {p0 : Int32} (hS : byt S) : bG (fun x => x.2.2) (f_Vt_make K G0 S p0) := by
  unfold f_Vt_make
  exact g_c (b_Tp_useUp hS) (fun r_1 S_1 hS_1 => g_n (b_Vt_look hS_1) (fun r_2 G_2 S_2 hS_2 => (b_Vt_make_13 hS_2)))
theorem b_Vt_remove_13 {K : Nat} {z_0 : Int32} {G : CG} {S : CS} (hS : byt S) : bG (fun x => x.2.2) (f_Vt_remove_13 K z_0 G S) := by
  unfold f_Vt_remove_13
  exact g_c (b_Tr_countIn hS) (fun r_4 S_4 hS_4 => g_if (g_b (b_Vt_changed hS_4) (fun S_6 hS_6 => g_b (b_Ed_dropItem hS_6) (fun S_7 hS_7 => g_some hS_7))) (g_some hS_4))
theorem b_Vt_remove_8 {K : Nat} {y_1 : Int32} {G : CG} {S : CS} (hS : byt S) : bG (fun x => x.2.2) (f_Vt_remove_8 K y_1 G S) := by
  unfold f_Vt_remove_8
  exact g_a (b_Vt_itemHere hS) (fun r_3 G_3 S_3 hS_3 => (b_Vt_remove_13 hS_3))
theorem b_Vt_remove_5 {K : Nat} {y_1 : Int32} {z_1 : Int32} {G : CG} {S : CS} (hS : byt S) : bG (fun x => x.2.2) (f_Vt_remove_5 K y_1 z_1 G S) := by
  unfold f_Vt_remove_5
  exact g_a (b_Vt_wantSoundTable hS) (fun _ G_2 S_2 hS_2 => (b_Vt_remove_8 hS_2))
theorem b_Vt_remove {K : Nat} {G0 : CG} {S : CS} {p0 : Int32} (hS : byt S) : bG (fun x => x.2.2) (f_Vt_remove K G0 S p0) := by
  unfold f_Vt_remove
  exact g_n (b_Vt_look hS) (fun r_1 G_1 S_1 hS_1 => (b_Vt_remove_5 hS_1))
theorem b_Vt_run_117 {K : Nat} {rec_74 : Int32 → Int32 → Int32 → Int32 → CG → CS → Option (Except Nat Int32 × CG × CS)} {y_1 : Int32} {y_3 : Int32} {y_5 : Int32} {y_6 : Int32} {z_0 : Int32} {G : CG} {S : CS} (hrec_74 : ∀ (w0 : Int32) (w1 : Int32) (w2 : Int32) (w3 : Int32) (w4 : CG) (w5 : CS), byt w5 → bG (fun x => x.2.2) (rec_74 w0 w1 w2 w3 w4 w5)) (hS : byt S) : bG (fun x => x.2.2) (f_Vt_run_117 K rec_74 y_1 y_3 y_5 y_6 z_0 G S) := by
  unfold f_Vt_run_117
  exact g_lv (fun x_17 => (hrec_74 _ _ _ _ _ _ hS))
theorem b_Vt_run_142 {K : Nat} {z_0 : Int32} {G : CG} {S : CS} (hS : byt S) : bG (fun x => x.2.2) (f_Vt_run_142 K z_0 G S) := by
  unfold f_Vt_run_142
  exact g_ls hS (fun S_18 hS_18 => g_b (b_Vt_changed hS_18) (fun S_19 hS_19 => g_ls hS_19 (fun S_20 hS_20 => g_some hS_20)))
theorem b_Vt_run_124 {K : Nat} {y_1 : Int32} {y_5 : Int32} {G : CG} {S : CS} (hS : byt S) : bG (fun x => x.2.2) (f_Vt_run_124 K y_1 y_5 G S) := by
  unfold f_Vt_run_124
  exact g_b (b_Dk_supply hS) (fun S_15 hS_15 => g_n (b_Tu_turn hS_15) (fun r_16 G_16 S_16 hS_16 => (b_Vt_run_142 hS_16)))
theorem b_Vt_run_74 {K : Nat} : ∀ (k : Nat) (y_1 : Int32) (y_3 : Int32) (y_5 : Int32) (y_6 : Int32) (G : CG) (S : CS), byt S → bG (fun x => x.2.2) (f_Vt_run_74 K k y_1 y_3 y_5 y_6 G S) := by
  intro k
  induction k with
  | zero => intro y_1 y_3 y_5 y_6 G S _; rw [f_Vt_run_74]; exact g_none
  | succ k ih => intro y_1 y_3 y_5 y_6 G S hS; rw [f_Vt_run_74]; exact g_if ((b_Vt_run_124 hS)) (g_if ((b_Vt_run_124 hS)) (g_g (g_b (b_Dk_supply hS) (fun S_12 hS_12 => g_g (g_n (b_Tu_turn hS_12) (fun r_14 G_14 S_14 hS_14 => (b_Vt_run_117 (fun w0 w1 w2 w3 w4 w5 w6 => ih w0 w1 w2 w3 w4 w5 w6) hS_14)))))))
theorem b_Vt_run_69 {K : Nat} {y_1 : Int32} {y_3 : Int32} {z_0 : Int32} {G : CG} {S : CS} (hS : byt S) : bG (fun x => x.2.2) (f_Vt_run_69 K y_1 y_3 z_0 G S) := by
  unfold f_Vt_run_69
  exact (b_Vt_run_74 _ _ _ _ _ _ _ hS)
theorem b_Vt_run_52 {K : Nat} {y_1 : Int32} {y_2 : Int32} {y_3 : Int32} {y_4 : Int32} {G : CG} {S : CS} (hS : byt S) : bG (fun x => x.2.2) (f_Vt_run_52 K y_1 y_2 y_3 y_4 G S) := by
  unfold f_Vt_run_52
  exact g_if (g_c (b_In_groupSize hS) (fun r_8 S_8 hS_8 => (b_Vt_run_69 hS_8))) ((b_Vt_run_69 hS))
theorem b_Vt_run_14 {K : Nat} {y_1 : Int32} {y_2 : Int32} {y_3 : Int32} {z_0 : Int32} {G : CG} {S : CS} (hS : byt S) : bG (fun x => x.2.2) (f_Vt_run_14 K y_1 y_2 y_3 z_0 G S) := by
  unfold f_Vt_run_14
  exact g_if (g_some hS) (g_if ((b_Vt_run_52 hS)) (g_if ((b_Vt_run_52 hS)) (g_some hS)))
theorem b_Vt_run {K : Nat} {G0 : CG} {S : CS} {p0 : Int32} {p1 : Int32} (hS : byt S) : bG (fun x => x.2.2) (f_Vt_run K G0 S p0 p1) := by
  unfold f_Vt_run
  exact g_lv (fun x_1 => g_ls hS (fun S_2 hS_2 => g_n (b_Vt_look hS_2) (fun r_3 G_3 S_3 hS_3 => (b_Vt_run_14 hS_3))))
theorem b_Vt_stamp_13 {K : Nat} {y_2 : Int32} {y_3 : Int32} {y_4 : Int32} {z_0 : Int32} {G : CG} {S : CS} (hS : byt S) : bG (fun x => x.2.2) (f_Vt_stamp_13 K y_2 y_3 y_4 z_0 G S) := by
  unfold f_Vt_stamp_13
  exact g_c (b_Tr_spotOf hS) (fun r_4 S_4 hS_4 => g_c (b_Da_wouldFit hS_4) (fun r_5 S_5 hS_5 => g_if (g_some hS_5) (g_b (b_Vt_changed hS_5) (fun S_7 hS_7 => g_b (b_Ed_putStamp hS_7) (fun S_8 hS_8 => g_some hS_8)))))
theorem b_Vt_stamp_8 {K : Nat} {y_1 : Int32} {y_2 : Int32} {y_3 : Int32} {y_4 : Int32} {G : CG} {S : CS} (hS : byt S) : bG (fun x => x.2.2) (f_Vt_stamp_8 K y_1 y_2 y_3 y_4 G S) := by
  unfold f_Vt_stamp_8
  exact g_a (b_Vt_itemHere hS) (fun r_3 G_3 S_3 hS_3 => (b_Vt_stamp_13 hS_3))
theorem b_Vt_stamp_5 {K : Nat} {y_1 : Int32} {y_2 : Int32} {y_3 : Int32} {y_4 : Int32} {z_1 : Int32} {G : CG} {S : CS} (hS : byt S) : bG (fun x => x.2.2) (f_Vt_stamp_5 K y_1 y_2 y_3 y_4 z_1 G S) := by
  unfold f_Vt_stamp_5
  exact g_a (b_Vt_wantSoundTable hS) (fun _ G_2 S_2 hS_2 => (b_Vt_stamp_8 hS_2))
theorem b_Vt_stamp {K : Nat} {G0 : CG} {S : CS} {p0 : Int32} {p1 : Int32} {p2 : Int32} {p3 : Int32} (hS : byt S) : bG (fun x => x.2.2) (f_Vt_stamp K G0 S p0 p1 p2 p3) := by
  unfold f_Vt_stamp
  exact g_n (b_Vt_look hS) (fun r_1 G_1 S_1 hS_1 => (b_Vt_stamp_5 hS_1))
theorem b_Vt_up_48 {K : Nat} {z_1 : Int32} {G : CG} {S : CS} (hS : byt S) : bG (fun x => x.2.2) (f_Vt_up_48 K z_1 G S) := by
  unfold f_Vt_up_48
  exact g_ls hS (fun S_7 hS_7 => g_some hS_7)
theorem b_Vt_up_8 {K : Nat} {z_0 : Int32} {G : CG} {S : CS} (hS : byt S) : bG (fun x => x.2.2) (f_Vt_up_8 K z_0 G S) := by
  unfold f_Vt_up_8
  exact g_if (g_some hS) (g_if (g_c (b_Tr_parentOf hS) (fun r_5 S_5 hS_5 => (b_Vt_up_48 hS_5))) (g_c (b_In_parentOf hS) (fun r_6 S_6 hS_6 => (b_Vt_up_48 hS_6))))
theorem b_Vt_up_5 {K : Nat} {z_1 : Int32} {G : CG} {S : CS} (hS : byt S) : bG (fun x => x.2.2) (f_Vt_up_5 K z_1 G S) := by
  unfold f_Vt_up_5
  exact g_a (b_Vt_readsInodes hS) (fun r_2 G_2 S_2 hS_2 => (b_Vt_up_8 hS_2))
theorem b_Vt_up {K : Nat} {G0 : CG} {S : CS} (hS : byt S) : bG (fun x => x.2.2) (f_Vt_up K G0 S) := by
  unfold f_Vt_up
  exact g_n (b_Vt_look hS) (fun r_1 G_1 S_1 hS_1 => (b_Vt_up_5 hS_1))
theorem b_Vt_write_46 {K : Nat} : ∀ (k : Nat) (y_2 : Int32) (y_4 : Int32) (y_5 : Int32) (y_6 : Int32) (G : CG) (S : CS), byt S → bG (fun x => x.2.2) (f_Vt_write_46 K k y_2 y_4 y_5 y_6 G S) := by
  intro k
  induction k with
  | zero => intro y_2 y_4 y_5 y_6 G S _; rw [f_Vt_write_46]; exact g_none
  | succ k ih => intro y_2 y_4 y_5 y_6 G S hS; rw [f_Vt_write_46]; exact g_if (g_some hS) (g_c (b_Ed_placeBehind hS) (fun r_8 S_8 hS_8 => g_c (b_Tp_one hS_8) (fun r_9 S_9 hS_9 => g_b (b_Dk_putOne hS_9) (fun S_10 hS_10 => g_lv (fun x_11 => (ih _ _ _ _ _ _ hS_10))))))
theorem b_Vt_write_28 {K : Nat} {y_2 : Int32} {z_0 : Int32} {G : CG} {S : CS} (hS : byt S) : bG (fun x => x.2.2) (f_Vt_write_28 K y_2 z_0 G S) := by
  unfold f_Vt_write_28
  exact g_c (b_Ed_placeOnRoad hS) (fun r_6 S_6 hS_6 => (b_Vt_write_46 _ _ _ _ _ _ _ hS_6))
theorem b_Vt_write_21 {K : Nat} {y_2 : Int32} {z_0 : Int32} {G : CG} {S : CS} (hS : byt S) : bG (fun x => x.2.2) (f_Vt_write_21 K y_2 z_0 G S) := by
  unfold f_Vt_write_21
  exact g_a (b_Vt_lengthen hS) (fun r_5 G_5 S_5 hS_5 => (b_Vt_write_28 hS_5))
theorem b_Vt_write_16 {K : Nat} {y_1 : Int32} {y_2 : Int32} {G : CG} {S : CS} (hS : byt S) : bG (fun x => x.2.2) (f_Vt_write_16 K y_1 y_2 G S) := by
  unfold f_Vt_write_16
  exact g_a (b_Vt_fileHere hS) (fun r_4 G_4 S_4 hS_4 => (b_Vt_write_21 hS_4))
theorem b_Vt_write_13 {K : Nat} {y_1 : Int32} {y_2 : Int32} {z_1 : Int32} {G : CG} {S : CS} (hS : byt S) : bG (fun x => x.2.2) (f_Vt_write_13 K y_1 y_2 z_1 G S) := by
  unfold f_Vt_write_13
  exact g_a (b_Vt_wantSoundTable hS) (fun _ G_3 S_3 hS_3 => (b_Vt_write_16 hS_3))
theorem b_Vt_write {K : Nat} {G0 : CG} {S : CS} {p0 : Int32} (hS : byt S) : bG (fun x => x.2.2) (f_Vt_write K G0 S p0) := by
  unfold f_Vt_write
  exact g_c (b_Tp_useUp hS) (fun r_1 S_1 hS_1 => g_n (b_Vt_look hS_1) (fun r_2 G_2 S_2 hS_2 => (b_Vt_write_13 hS_2)))
