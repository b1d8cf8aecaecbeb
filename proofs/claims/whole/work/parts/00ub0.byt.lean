theorem b_Dk_one_26 {K : Nat} {G : CG} {S : CS} (hS : byt S) : bG Prod.snd (f_Dk_one_26 K G S) := by
  unfold f_Dk_one_26
  exact g_some hS
theorem b_Dk_one {K : Nat} {G : CG} {S : CS} {p0 : Int32} (hS : byt S) : bG Prod.snd (f_Dk_one K G S p0) := by
  unfold f_Dk_one
  exact g_if ((b_Dk_one_26 hS)) (g_if ((b_Dk_one_26 hS)) (g_g (g_some hS)))
theorem b_Wo_isShortName_85 {K : Nat} {G : CG} {rec_17 : Int32 → Int32 → Int32 → Int32 → CS → Option (Int32 × CS)} {y_1 : Int32} {y_2 : Int32} {y_3 : Int32} {y_4 : Int32} {S : CS} (hrec_17 : ∀ (w0 : Int32) (w1 : Int32) (w2 : Int32) (w3 : Int32) (w4 : CS), byt w4 → bG Prod.snd (rec_17 w0 w1 w2 w3 w4)) (hS : byt S) : bG Prod.snd (f_Wo_isShortName_85 K G rec_17 y_1 y_2 y_3 y_4 S) := by
  unfold f_Wo_isShortName_85
  exact g_lv (fun x_12 => (hrec_17 _ _ _ _ _ hS))
theorem b_Wo_isShortName_67 {K : Nat} {G : CG} {rec_17 : Int32 → Int32 → Int32 → Int32 → CS → Option (Int32 × CS)} {y_1 : Int32} {y_2 : Int32} {y_4 : Int32} {z_0 : Int32} {S : CS} (hrec_17 : ∀ (w0 : Int32) (w1 : Int32) (w2 : Int32) (w3 : Int32) (w4 : CS), byt w4 → bG Prod.snd (rec_17 w0 w1 w2 w3 w4)) (hS : byt S) : bG Prod.snd (f_Wo_isShortName_67 K G rec_17 y_1 y_2 y_4 z_0 S) := by
  unfold f_Wo_isShortName_67
  exact (b_Wo_isShortName_85 hrec_17 hS)
theorem b_Wo_isShortName_83 {K : Nat} {G : CG} {S : CS} (hS : byt S) : bG Prod.snd (f_Wo_isShortName_83 K G S) := by
  unfold f_Wo_isShortName_83
  exact g_some hS
theorem b_Wo_isShortName_50 {K : Nat} {G : CG} {rec_17 : Int32 → Int32 → Int32 → Int32 → CS → Option (Int32 × CS)} {y_1 : Int32} {y_2 : Int32} {y_4 : Int32} {y_5 : Int32} {z_0 : Int32} {S : CS} (hrec_17 : ∀ (w0 : Int32) (w1 : Int32) (w2 : Int32) (w3 : Int32) (w4 : CS), byt w4 → bG Prod.snd (rec_17 w0 w1 w2 w3 w4)) (hS : byt S) : bG Prod.snd (f_Wo_isShortName_50 K G rec_17 y_1 y_2 y_4 y_5 z_0 S) := by
  unfold f_Wo_isShortName_50
  exact g_if (g_if ((b_Wo_isShortName_67 hrec_17 hS)) ((b_Wo_isShortName_67 hrec_17 hS))) (g_if (g_p (fun r_9 => g_if ((b_Wo_isShortName_83 hS)) ((b_Wo_isShortName_85 hrec_17 hS)))) ((b_Wo_isShortName_83 hS)))
theorem b_Wo_isShortName_49 {K : Nat} {G : CG} {rec_17 : Int32 → Int32 → Int32 → Int32 → CS → Option (Int32 × CS)} {y_1 : Int32} {y_2 : Int32} {y_4 : Int32} {y_5 : Int32} {S : CS} (hrec_17 : ∀ (w0 : Int32) (w1 : Int32) (w2 : Int32) (w3 : Int32) (w4 : CS), byt w4 → bG Prod.snd (rec_17 w0 w1 w2 w3 w4)) (hS : byt S) : bG Prod.snd (f_Wo_isShortName_49 K G rec_17 y_1 y_2 y_4 y_5 S) := by
  unfold f_Wo_isShortName_49
  exact (b_Wo_isShortName_50 hrec_17 hS)
theorem b_Wo_isShortName_17 {K : Nat} {G : CG} : ∀ (k : Nat) (y_1 : Int32) (y_2 : Int32) (y_3 : Int32) (y_4 : Int32) (S : CS), byt S → bG Prod.snd (f_Wo_isShortName_17 K G k y_1 y_2 y_3 y_4 S) := by
  intro k
  induction k with
  | zero => intro y_1 y_2 y_3 y_4 S _; rw [f_Wo_isShortName_17]; exact g_none
  | succ k ih => intro y_1 y_2 y_3 y_4 S hS; rw [f_Wo_isShortName_17]; exact g_if (g_some hS) (g_c (b_Dk_one hS) (fun r_4 S_4 hS_4 => g_if ((b_Wo_isShortName_49 (fun w0 w1 w2 w3 w4 w5 => ih w0 w1 w2 w3 w4 w5) hS_4)) (g_if ((b_Wo_isShortName_49 (fun w0 w1 w2 w3 w4 w5 => ih w0 w1 w2 w3 w4 w5) hS_4)) ((b_Wo_isShortName_50 (fun w0 w1 w2 w3 w4 w5 => ih w0 w1 w2 w3 w4 w5) hS_4)))))
theorem b_Wo_isShortName {K : Nat} {G : CG} {S : CS} {p1 : Int32} {p2 : Int32} (hS : byt S) : bG Prod.snd (f_Wo_isShortName K G S p1 p2) := by
  unfold f_Wo_isShortName
  exact g_c (b_Dk_one hS) (fun r_1 S_1 hS_1 => g_if (g_some hS_1) ((b_Wo_isShortName_17 _ _ _ _ _ _ hS_1)))
theorem b_Wo_sum_4 {K : Nat} {G : CG} : ∀ (k : Nat) (y_1 : Int32) (y_2 : Int32) (y_3 : Int32) (S : CS), byt S → bG Prod.snd (f_Wo_sum_4 K G k y_1 y_2 y_3 S) := by
  intro k
  induction k with
  | zero => intro y_1 y_2 y_3 S _; rw [f_Wo_sum_4]; exact g_none
  | succ k ih => intro y_1 y_2 y_3 S hS; rw [f_Wo_sum_4]; exact g_if (g_some hS) (g_c (b_Dk_one hS) (fun r_2 S_2 hS_2 => g_lv (fun x_3 => g_lv (fun x_4 => (ih _ _ _ _ hS_2)))))
theorem b_Wo_sum {K : Nat} {G : CG} {S : CS} {p1 : Int32} (hS : byt S) : bG Prod.snd (f_Wo_sum K G S p1) := by
  unfold f_Wo_sum
  exact (b_Wo_sum_4 _ _ _ _ _ hS)
theorem b_Dk_two_15 {K : Nat} {G : CG} {S : CS} (hS : byt S) : bG Prod.snd (f_Dk_two_15 K G S) := by
  unfold f_Dk_two_15
  exact g_some hS
theorem b_Dk_two {K : Nat} {G : CG} {S : CS} {p0 : Int32} (hS : byt S) : bG Prod.snd (f_Dk_two K G S p0) := by
  unfold f_Dk_two
  exact g_if ((b_Dk_two_15 hS)) (g_if (g_g (g_g (g_some hS))) ((b_Dk_two_15 hS)))
theorem b_Da_fit_76 {K : Nat} {G : CG} {S : CS} (hS : byt S) : bG Prod.snd (f_Da_fit_76 K G S) := by
  unfold f_Da_fit_76
  exact g_some hS
theorem b_Da_fit {K : Nat} {G : CG} {S : CS} {p1 : Int32} (hS : byt S) : bG Prod.snd (f_Da_fit K G S p1) := by
  unfold f_Da_fit
  exact g_c (b_Dk_two hS) (fun r_1 S_1 hS_1 => g_c (b_Dk_two hS_1) (fun r_2 S_2 hS_2 => g_c (b_Dk_one hS_2) (fun r_3 S_3 hS_3 => g_p (fun r_4 => g_if ((b_Da_fit_76 hS_3)) (g_c (b_Dk_two hS_3) (fun r_6 S_6 hS_6 => g_p (fun r_7 => g_if ((b_Da_fit_76 hS_6)) (g_c (b_Dk_two hS_6) (fun r_9 S_9 hS_9 => g_p (fun r_10 => g_if ((b_Da_fit_76 hS_9)) (g_c (b_Dk_two hS_9) (fun r_12 S_12 hS_12 => g_p (fun r_13 => g_if ((b_Da_fit_76 hS_12)) (g_some hS_12))))))))))))))
theorem b_Da_wouldFit_67 {K : Nat} {G : CG} {S : CS} (hS : byt S) : bG Prod.snd (f_Da_wouldFit_67 K G S) := by
  unfold f_Da_wouldFit_67
  exact g_some hS
theorem b_Da_wouldFit_88 {K : Nat} {G : CG} {S : CS} (hS : byt S) : bG Prod.snd (f_Da_wouldFit_88 K G S) := by
  unfold f_Da_wouldFit_88
  exact g_some hS
theorem b_Da_wouldFit_123 {K : Nat} {G : CG} {S : CS} (hS : byt S) : bG Prod.snd (f_Da_wouldFit_123 K G S) := by
  unfold f_Da_wouldFit_123
  exact g_some hS
theorem b_Da_wouldFit {K : Nat} {G : CG} {S : CS} {p1 : Int32} {p2 : Int32} {p3 : Int32} {p4 : Int32} (hS : byt S) : bG Prod.snd (f_Da_wouldFit K G S p1 p2 p3 p4) := by
  unfold f_Da_wouldFit
  exact g_if (g_c (b_Dk_one hS) (fun r_2 S_2 hS_2 => g_p (fun r_3 => g_g (g_some hS_2)))) (g_if (g_p (fun r_6 => g_if ((b_Da_wouldFit_67 hS)) (g_if (g_some hS) ((b_Da_wouldFit_67 hS))))) (g_if (g_p (fun r_10 => g_if ((b_Da_wouldFit_88 hS)) (g_p (fun r_12 => g_if ((b_Da_wouldFit_88 hS)) (g_some hS))))) (g_if (g_c (b_Dk_two hS) (fun r_15 S_15 hS_15 => g_c (b_Dk_two hS_15) (fun r_16 S_16 hS_16 => g_p (fun r_17 => g_g (g_some hS_16))))) (g_if (g_if ((b_Da_wouldFit_123 hS)) (g_if ((b_Da_wouldFit_123 hS)) (g_some hS))) (g_some hS)))))
theorem b_Da_seconds_97 {K : Nat} {G : CG} {y_3 : Int32} {y_4 : Int32} {y_5 : Int32} {S : CS} (hS : byt S) : bG Prod.snd (f_Da_seconds_97 K G y_3 y_4 y_5 S) := by
  unfold f_Da_seconds_97
  exact g_p (fun r_12 => g_some hS)
theorem b_Da_seconds_75 {K : Nat} {G : CG} {y_1 : Int32} {S : CS} (hS : byt S) : bG Prod.snd (f_Da_seconds_75 K G y_1 S) := by
  unfold f_Da_seconds_75
  exact g_c (b_Dk_two hS) (fun r_10 S_10 hS_10 => g_c (b_Dk_two hS_10) (fun r_11 S_11 hS_11 => (b_Da_seconds_97 hS_11)))
theorem b_Da_seconds_64 {K : Nat} {G : CG} {y_1 : Int32} {y_2 : Int32} {y_3 : Int32} {y_4 : Int32} {z_0 : Int32} {S : CS} (hS : byt S) : bG Prod.snd (f_Da_seconds_64 K G y_1 y_2 y_3 y_4 z_0 S) := by
  unfold f_Da_seconds_64
  exact g_if ((b_Da_seconds_75 hS)) (g_if ((b_Da_seconds_75 hS)) ((b_Da_seconds_97 hS)))
theorem b_Da_seconds_42 {K : Nat} {G : CG} {y_1 : Int32} {y_2 : Int32} {y_3 : Int32} {z_0 : Int32} {S : CS} (hS : byt S) : bG Prod.snd (f_Da_seconds_42 K G y_1 y_2 y_3 z_0 S) := by
  unfold f_Da_seconds_42
  exact g_if ((b_Da_seconds_64 hS)) (g_c (b_Dk_one hS) (fun r_7 S_7 hS_7 => (b_Da_seconds_64 hS_7)))
theorem b_Da_seconds_24 {K : Nat} {G : CG} {y_1 : Int32} {y_2 : Int32} {z_0 : Int32} {S : CS} (hS : byt S) : bG Prod.snd (f_Da_seconds_24 K G y_1 y_2 z_0 S) := by
  unfold f_Da_seconds_24
  exact g_if ((b_Da_seconds_42 hS)) (g_c (b_Dk_two hS) (fun r_5 S_5 hS_5 => (b_Da_seconds_42 hS_5)))
theorem b_Da_seconds {K : Nat} {G : CG} {S : CS} {p1 : Int32} {p2 : Int32} (hS : byt S) : bG Prod.snd (f_Da_seconds K G S p1 p2) := by
  unfold f_Da_seconds
  exact g_if (g_c (b_Dk_two hS) (fun r_3 S_3 hS_3 => (b_Da_seconds_24 hS_3))) (g_c (b_Dk_two hS) (fun r_2 S_2 hS_2 => (b_Da_seconds_24 hS_2)))
theorem b_Dk_has_27 {K : Nat} {G : CG} {S : CS} (hS : byt S) : bG Prod.snd (f_Dk_has_27 K G S) := by
  unfold f_Dk_has_27
  exact g_some hS
theorem b_Dk_has {K : Nat} {G : CG} {S : CS} {p0 : Int32} {p1 : Int32} (hS : byt S) : bG Prod.snd (f_Dk_has K G S p0 p1) := by
  unfold f_Dk_has
  exact g_if ((b_Dk_has_27 hS)) (g_if ((b_Dk_has_27 hS)) (g_if ((b_Dk_has_27 hS)) (g_if ((b_Dk_has_27 hS)) (g_some hS))))
theorem b_Dk_four_15 {K : Nat} {G : CG} {S : CS} (hS : byt S) : bG Prod.snd (f_Dk_four_15 K G S) := by
  unfold f_Dk_four_15
  exact g_some hS
theorem b_Dk_four {K : Nat} {G : CG} {S : CS} {p0 : Int32} (hS : byt S) : bG Prod.snd (f_Dk_four K G S p0) := by
  unfold f_Dk_four
  exact g_if ((b_Dk_four_15 hS)) (g_if (g_g (g_g (g_g (g_g (g_some hS))))) ((b_Dk_four_15 hS)))
theorem b_Dk_putOne {K : Nat} {G : CG} {S : CS} {p0 : Int32} {p1 : Int32} (hS : byt S) : bG id (f_Dk_putOne K G S p0 p1) := by
  unfold f_Dk_putOne
  exact g_if (g_some hS) (g_if (g_some hS) (g_g (g_ls (byt_Du hS) (fun S_4 hS_4 => g_some hS_4))))
theorem b_Dk_putTwo {K : Nat} {G : CG} {S : CS} {p0 : Int32} {p1 : Int32} (hS : byt S) : bG id (f_Dk_putTwo K G S p0 p1) := by
  unfold f_Dk_putTwo
  exact g_if (g_some hS) (g_if (g_some hS) (g_g (g_ls (byt_Du hS) (fun S_4 hS_4 => g_g (g_ls (byt_Du hS_4) (fun S_6 hS_6 => g_some hS_6))))))
theorem b_Dk_putFour {K : Nat} {G : CG} {S : CS} {p0 : Int32} {p1 : Int32} (hS : byt S) : bG id (f_Dk_putFour K G S p0 p1) := by
  unfold f_Dk_putFour
  exact g_if (g_some hS) (g_if (g_some hS) (g_g (g_ls (byt_Du hS) (fun S_4 hS_4 => g_g (g_ls (byt_Du hS_4) (fun S_6 hS_6 => g_g (g_ls (byt_Du hS_6) (fun S_8 hS_8 => g_g (g_ls (byt_Du hS_8) (fun S_10 hS_10 => g_some hS_10))))))))))
theorem b_Dk_zero {K : Nat} {G : CG} {S : CS} {p0 : Int32} {p1 : Int32} (hS : byt S) : bG id (f_Dk_zero K G S p0 p1) := by
  unfold f_Dk_zero
  exact g_if (g_some hS) (g_if (g_some hS) (g_if (g_some hS) (g_if (g_some hS) (g_g (g_ls (byt_Df hS) (fun S_6 hS_6 => g_some hS_6))))))
theorem b_Dk_supply {K : Nat} {G : CG} {S : CS} {p0 : Int32} (hS : byt S) : bG id (f_Dk_supply K G S p0) := by
  unfold f_Dk_supply
  exact g_ls hS (fun S_1 hS_1 => g_some hS_1)
theorem b_Dk_isOn {K : Nat} {G : CG} {S : CS} (hS : byt S) : bG Prod.snd (f_Dk_isOn K G S) := by
  unfold f_Dk_isOn
  exact g_if (g_some hS) (g_some hS)
theorem b_Tp_prepare_2 {K : Nat} {G : CG} : ∀ (k : Nat) (y_1 : Int32) (y_2 : Int32) (y_3 : Int32) (S : CS), byt S → bG id (f_Tp_prepare_2 K G k y_1 y_2 y_3 S) := by
  intro k
  induction k with
  | zero => intro y_1 y_2 y_3 S _; rw [f_Tp_prepare_2]; exact g_none
  | succ k ih => intro y_1 y_2 y_3 S hS; rw [f_Tp_prepare_2]; exact g_if (g_some hS) (g_if (g_some hS) (g_if (g_some hS) (g_g (g_ls hS (fun S_5 hS_5 => g_lv (fun x_6 => (ih _ _ _ _ hS_5)))))))
theorem b_Tp_prepare {K : Nat} {G : CG} {S : CS} {p0 : Int32} {p1 : Int32} (hS : byt S) : bG id (f_Tp_prepare K G S p0 p1) := by
  unfold f_Tp_prepare
  exact (b_Tp_prepare_2 _ _ _ _ _ hS)
theorem b_Tp_append_22 {K : Nat} {G : CG} {S : CS} (hS : byt S) : bG Prod.snd (f_Tp_append_22 K G S) := by
  unfold f_Tp_append_22
  exact g_some hS
theorem b_Tp_append {K : Nat} {G : CG} {S : CS} {p0 : Int32} (hS : byt S) : bG Prod.snd (f_Tp_append K G S p0) := by
  unfold f_Tp_append
  exact g_if ((b_Tp_append_22 hS)) (g_if ((b_Tp_append_22 hS)) (g_if (g_g (g_ls hS (fun S_5 hS_5 => g_ls hS_5 (fun S_6 hS_6 => g_ls hS_6 (fun S_7 hS_7 => g_some hS_7))))) ((b_Tp_append_22 hS))))
theorem b_Tp_useUp {K : Nat} {G : CG} {S : CS} (hS : byt S) : bG Prod.snd (f_Tp_useUp K G S) := by
  unfold f_Tp_useUp
  exact g_lv (fun x_1 => g_ls hS (fun S_2 hS_2 => g_some hS_2))
theorem b_Tp_one_24 {K : Nat} {G : CG} {S : CS} (hS : byt S) : bG Prod.snd (f_Tp_one_24 K G S) := by
  unfold f_Tp_one_24
  exact g_some hS
theorem b_Tp_one {K : Nat} {G : CG} {S : CS} {p0 : Int32} (hS : byt S) : bG Prod.snd (f_Tp_one K G S p0) := by
  unfold f_Tp_one
  exact g_if ((b_Tp_one_24 hS)) (g_if ((b_Tp_one_24 hS)) (g_g (g_some hS)))
theorem b_Tp_isLabel_20 {K : Nat} {G : CG} {S : CS} (hS : byt S) : bG Prod.snd (f_Tp_isLabel_20 K G S) := by
  unfold f_Tp_isLabel_20
  exact g_some hS
theorem b_Tp_isLabel_52 {K : Nat} {G : CG} {rec_24 : Int32 → Int32 → CS → Option (Int32 × CS)} {y_1 : Int32} {y_2 : Int32} {S : CS} (hrec_24 : ∀ (w0 : Int32) (w1 : Int32) (w2 : CS), byt w2 → bG Prod.snd (rec_24 w0 w1 w2)) (hS : byt S) : bG Prod.snd (f_Tp_isLabel_52 K G rec_24 y_1 y_2 S) := by
  unfold f_Tp_isLabel_52
  exact g_lv (fun x_11 => (hrec_24 _ _ _ hS))
theorem b_Tp_isLabel_24 {K : Nat} {G : CG} : ∀ (k : Nat) (y_1 : Int32) (y_2 : Int32) (S : CS), byt S → bG Prod.snd (f_Tp_isLabel_24 K G k y_1 y_2 S) := by
  intro k
  induction k with
  | zero => intro y_1 y_2 S _; rw [f_Tp_isLabel_24]; exact g_none
  | succ k ih => intro y_1 y_2 S hS; rw [f_Tp_isLabel_24]; exact g_if (g_some hS) (g_c (b_Tp_one hS) (fun r_6 S_6 hS_6 => g_if ((b_Tp_isLabel_52 (fun w0 w1 w2 w3 => ih w0 w1 w2 w3) hS_6)) (g_c (b_Tp_one hS_6) (fun r_8 S_8 hS_8 => g_p (fun r_9 => g_if (g_some hS_8) ((b_Tp_isLabel_52 (fun w0 w1 w2 w3 => ih w0 w1 w2 w3) hS_8)))))))
theorem b_Tp_isLabel_22 {K : Nat} {G : CG} {y_1 : Int32} {S : CS} (hS : byt S) : bG Prod.snd (f_Tp_isLabel_22 K G y_1 S) := by
  unfold f_Tp_isLabel_22
  exact (b_Tp_isLabel_24 _ _ _ _ hS)
theorem b_Tp_isLabel {K : Nat} {G : CG} {S : CS} {p0 : Int32} (hS : byt S) : bG Prod.snd (f_Tp_isLabel K G S p0) := by
  unfold f_Tp_isLabel
  exact g_if ((b_Tp_isLabel_20 hS)) (g_if ((b_Tp_isLabel_22 hS)) (g_c (b_Tp_one hS) (fun r_3 S_3 hS_3 => g_if ((b_Tp_isLabel_20 hS_3)) ((b_Tp_isLabel_22 hS_3)))))
theorem b_Tb_clustersWith {K : Nat} {G : CG} {S : CS} {p0 : Int32} {p1 : Int32} {p2 : Int32} {p3 : Int32} (hS : byt S) : bG Prod.snd (f_Tb_clustersWith K G S p0 p1 p2 p3) := by
  unfold f_Tb_clustersWith
  exact g_if (g_g (g_some hS)) (g_some hS)
theorem b_Tb_leastLength_41 {K : Nat} {G : CG} {rec_3 : Int32 → Int32 → Int32 → Int32 → CS → Option (Int32 × CS)} {y_1 : Int32} {y_2 : Int32} {y_3 : Int32} {y_4 : Int32} {S : CS} (hrec_3 : ∀ (w0 : Int32) (w1 : Int32) (w2 : Int32) (w3 : Int32) (w4 : CS), byt w4 → bG Prod.snd (rec_3 w0 w1 w2 w3 w4)) (hS : byt S) : bG Prod.snd (f_Tb_leastLength_41 K G rec_3 y_1 y_2 y_3 y_4 S) := by
  unfold f_Tb_leastLength_41
  exact g_lv (fun x_7 => (hrec_3 _ _ _ _ _ hS))
theorem b_Tb_leastLength_3 {K : Nat} {G : CG} : ∀ (k : Nat) (y_1 : Int32) (y_2 : Int32) (y_3 : Int32) (y_4 : Int32) (S : CS), byt S → bG Prod.snd (f_Tb_leastLength_3 K G k y_1 y_2 y_3 y_4 S) := by
  intro k
  induction k with
  | zero => intro y_1 y_2 y_3 y_4 S _; rw [f_Tb_leastLength_3]; exact g_none
  | succ k ih => intro y_1 y_2 y_3 y_4 S hS; rw [f_Tb_leastLength_3]; exact g_if (g_some hS) (g_p (fun r_2 => g_if ((b_Tb_leastLength_41 (fun w0 w1 w2 w3 w4 w5 => ih w0 w1 w2 w3 w4 w5) hS)) (g_c (b_Tb_clustersWith hS) (fun r_4 S_4 hS_4 => g_p (fun r_5 => g_if ((b_Tb_leastLength_41 (fun w0 w1 w2 w3 w4 w5 => ih w0 w1 w2 w3 w4 w5) hS_4)) (g_some hS_4))))))
theorem b_Tb_leastLength {K : Nat} {G : CG} {S : CS} {p0 : Int32} {p1 : Int32} {p2 : Int32} (hS : byt S) : bG Prod.snd (f_Tb_leastLength K G S p0 p1 p2) := by
  unfold f_Tb_leastLength
  exact (b_Tb_leastLength_3 _ _ _ _ _ _ hS)
theorem b_Tb_writeFirstSectors_14 {K : Nat} {G : CG} {rec_3 : Int32 → Int32 → Int32 → Int32 → Int32 → Int32 → CS → Option (CS)} (hrec_3 : ∀ (w0 : Int32) (w1 : Int32) (w2 : Int32) (w3 : Int32) (w4 : Int32) (w5 : Int32) (w6 : CS), byt w6 → bG id (rec_3 w0 w1 w2 w3 w4 w5 w6)) : ∀ (k : Nat) (y_1 : Int32) (y_2 : Int32) (y_3 : Int32) (y_4 : Int32) (y_5 : Int32) (y_6 : Int32) (y_7 : Int32) (S : CS), byt S → bG id (f_Tb_writeFirstSectors_14 K G rec_3 k y_1 y_2 y_3 y_4 y_5 y_6 y_7 S) := by
  intro k
  induction k with
  | zero => intro y_1 y_2 y_3 y_4 y_5 y_6 y_7 S _; rw [f_Tb_writeFirstSectors_14]; exact g_none
  | succ k ih => intro y_1 y_2 y_3 y_4 y_5 y_6 y_7 S hS; rw [f_Tb_writeFirstSectors_14]; exact g_if (g_b (b_Dk_putTwo hS) (fun S_8 hS_8 => g_b (b_Dk_putOne hS_8) (fun S_9 hS_9 => g_b (b_Dk_putTwo hS_9) (fun S_10 hS_10 => g_b (b_Dk_putOne hS_10) (fun S_11 hS_11 => g_b (b_Dk_putFour hS_11) (fun S_12 hS_12 => g_b (b_Dk_putFour hS_12) (fun S_13 hS_13 => g_b (b_Dk_putFour hS_13) (fun S_14 hS_14 => g_b (b_Dk_putTwo hS_14) (fun S_15 hS_15 => g_b (b_Dk_putTwo hS_15) (fun S_16 hS_16 => g_b (b_Dk_putFour hS_16) (fun S_17 hS_17 => g_b (b_Dk_putTwo hS_17) (fun S_18 hS_18 => g_lv (fun x_19 => (hrec_3 _ _ _ _ _ _ _ hS_18)))))))))))))) (g_b (b_Dk_putOne hS) (fun S_20 hS_20 => g_lv (fun x_21 => (ih _ _ _ _ _ _ _ _ hS_20))))
theorem b_Tb_writeFirstSectors_3 {K : Nat} {G : CG} : ∀ (k : Nat) (y_1 : Int32) (y_2 : Int32) (y_3 : Int32) (y_4 : Int32) (y_5 : Int32) (y_6 : Int32) (S : CS), byt S → bG id (f_Tb_writeFirstSectors_3 K G k y_1 y_2 y_3 y_4 y_5 y_6 S) := by
  intro k
  induction k with
  | zero => intro y_1 y_2 y_3 y_4 y_5 y_6 S _; rw [f_Tb_writeFirstSectors_3]; exact g_none
  | succ k ih => intro y_1 y_2 y_3 y_4 y_5 y_6 S hS; rw [f_Tb_writeFirstSectors_3]; exact g_if (g_b (b_Dk_putFour hS) (fun S_2 hS_2 => g_b (b_Dk_putFour hS_2) (fun S_3 hS_3 => g_b (b_Dk_putFour hS_3) (fun S_4 hS_4 => g_b (b_Dk_putFour hS_4) (fun S_5 hS_5 => g_b (b_Dk_putFour hS_5) (fun S_6 hS_6 => g_some hS_6)))))) ((b_Tb_writeFirstSectors_14 (fun w0 w1 w2 w3 w4 w5 w6 w7 => ih w0 w1 w2 w3 w4 w5 w6 w7) _ _ _ _ _ _ _ _ _ hS))
theorem b_Tb_writeFirstSectors {K : Nat} {G : CG} {S : CS} {p0 : Int32} {p1 : Int32} {p2 : Int32} {p3 : Int32} {p4 : Int32} (hS : byt S) : bG id (f_Tb_writeFirstSectors K G S p0 p1 p2 p3 p4) := by
  unfold f_Tb_writeFirstSectors
  exact (b_Tb_writeFirstSectors_3 _ _ _ _ _ _ _ _ hS)
theorem b_Tb_link_33 {K : Nat} {G : CG} : ∀ (k : Nat) (y_1 : Int32) (y_2 : Int32) (y_3 : Int32) (S : CS), byt S → bG id (f_Tb_link_33 K G k y_1 y_2 y_3 S) := by
  intro k
  induction k with
  | zero => intro y_1 y_2 y_3 S _; rw [f_Tb_link_33]; exact g_none
  | succ k ih => intro y_1 y_2 y_3 S hS; rw [f_Tb_link_33]; exact g_if (g_some hS) (g_lv (fun x_7 => g_c (b_Dk_four hS) (fun r_8 S_8 hS_8 => g_b (b_Dk_putFour hS_8) (fun S_9 hS_9 => g_lv (fun x_10 => (ih _ _ _ _ hS_9))))))
theorem b_Tb_link {K : Nat} {G : CG} {S : CS} {p0 : Int32} {p1 : Int32} (hS : byt S) : bG id (f_Tb_link K G S p0 p1) := by
  unfold f_Tb_link
  exact g_if (g_some hS) (g_if (g_some hS) (g_if (g_g (g_ls hS (fun S_5 hS_5 => (b_Tb_link_33 _ _ _ _ _ hS_5)))) (g_some hS)))
theorem b_Tb_startTables {K : Nat} {G : CG} {S : CS} (hS : byt S) : bG id (f_Tb_startTables K G S) := by
  unfold f_Tb_startTables
  exact g_b (b_Tb_link hS) (fun S_1 hS_1 => g_b (b_Tb_link hS_1) (fun S_2 hS_2 => g_b (b_Tb_link hS_2) (fun S_3 hS_3 => g_some hS_3)))
theorem b_Tb_constantsFit_116 {K : Nat} {G : CG} {S : CS} (hS : byt S) : bG Prod.snd (f_Tb_constantsFit_116 K G S) := by
  unfold f_Tb_constantsFit_116
  exact g_some hS
theorem b_Tb_constantsFit {K : Nat} {G : CG} {S : CS} (hS : byt S) : bG Prod.snd (f_Tb_constantsFit K G S) := by
  unfold f_Tb_constantsFit
  exact g_c (b_Dk_two hS) (fun r_1 S_1 hS_1 => g_if (g_c (b_Dk_two hS_1) (fun r_3 S_3 hS_3 => g_if (g_c (b_Dk_two hS_3) (fun r_5 S_5 hS_5 => g_if (g_c (b_Dk_two hS_5) (fun r_7 S_7 hS_7 => g_if (g_c (b_Dk_four hS_7) (fun r_9 S_9 hS_9 => g_if (g_c (b_Dk_two hS_9) (fun r_11 S_11 hS_11 => g_if (g_c (b_Dk_two hS_11) (fun r_13 S_13 hS_13 => g_if (g_c (b_Dk_two hS_13) (fun r_15 S_15 hS_15 => g_if (g_some hS_15) ((b_Tb_constantsFit_116 hS_15)))) ((b_Tb_constantsFit_116 hS_13)))) ((b_Tb_constantsFit_116 hS_11)))) ((b_Tb_constantsFit_116 hS_9)))) ((b_Tb_constantsFit_116 hS_7)))) ((b_Tb_constantsFit_116 hS_5)))) ((b_Tb_constantsFit_116 hS_3)))) ((b_Tb_constantsFit_116 hS_1)))
theorem b_Tb_read_70 {K : Nat} {G : CG} {S : CS} (hS : byt S) : bG Prod.snd (f_Tb_read_70 K G S) := by
  unfold f_Tb_read_70
  exact g_some hS
theorem b_Tb_read_108 {K : Nat} {G : CG} {S : CS} (hS : byt S) : bG Prod.snd (f_Tb_read_108 K G S) := by
  unfold f_Tb_read_108
  exact g_some hS
theorem b_Tb_read_205 {K : Nat} {G : CG} {rec_156 : Int32 → Int32 → Int32 → CS → Option (Int32 × CS)} {y_2 : Int32} {y_6 : Int32} {y_7 : Int32} {z_1 : Int32} {z_2 : Int32} {S : CS} (hrec_156 : ∀ (w0 : Int32) (w1 : Int32) (w2 : Int32) (w3 : CS), byt w3 → bG Prod.snd (rec_156 w0 w1 w2 w3)) (hS : byt S) : bG Prod.snd (f_Tb_read_205 K G rec_156 y_2 y_6 y_7 z_1 z_2 S) := by
  unfold f_Tb_read_205
  exact g_g (g_ls hS (fun S_26 hS_26 => g_lv (fun x_27 => (hrec_156 _ _ _ _ hS_26))))
theorem b_Tb_read_156 {K : Nat} {G : CG} : ∀ (k : Nat) (y_2 : Int32) (y_6 : Int32) (y_7 : Int32) (S : CS), byt S → bG Prod.snd (f_Tb_read_156 K G k y_2 y_6 y_7 S) := by
  intro k
  induction k with
  | zero => intro y_2 y_6 y_7 S _; rw [f_Tb_read_156]; exact g_none
  | succ k ih => intro y_2 y_6 y_7 S hS; rw [f_Tb_read_156]; exact g_if (g_some hS) (g_if ((b_Tb_read_205 (fun w0 w1 w2 w3 w4 => ih w0 w1 w2 w3 w4) hS)) (g_c (b_Dk_four hS) (fun r_24 S_24 hS_24 => (b_Tb_read_205 (fun w0 w1 w2 w3 w4 => ih w0 w1 w2 w3 w4) hS_24))))
theorem b_Tb_read {K : Nat} {G : CG} {S : CS} (hS : byt S) : bG Prod.snd (f_Tb_read K G S) := by
  unfold f_Tb_read
  exact g_c (b_Dk_one hS) (fun r_1 S_1 hS_1 => g_c (b_Dk_two hS_1) (fun r_2 S_2 hS_2 => g_c (b_Dk_one hS_2) (fun r_3 S_3 hS_3 => g_c (b_Dk_four hS_3) (fun r_4 S_4 hS_4 => g_c (b_Dk_four hS_4) (fun r_5 S_5 hS_5 => g_c (b_Tb_constantsFit hS_5) (fun r_6 S_6 hS_6 => g_if ((b_Tb_read_70 hS_6)) (g_p (fun r_8 => g_if ((b_Tb_read_70 hS_6)) (g_c (b_Tb_clustersWith hS_6) (fun r_10 S_10 hS_10 => g_p (fun r_11 => g_if ((b_Tb_read_108 hS_10)) (g_if ((b_Tb_read_108 hS_10)) (g_if (g_ls hS_10 (fun S_15 hS_15 => g_ls hS_15 (fun S_16 hS_16 => g_ls hS_16 (fun S_17 hS_17 => g_ls hS_17 (fun S_18 hS_18 => g_ls hS_18 (fun S_19 hS_19 => g_ls hS_19 (fun S_20 hS_20 => g_ls hS_20 (fun S_21 hS_21 => (b_Tb_read_156 _ _ _ _ _ hS_21))))))))) ((b_Tb_read_108 hS_10)))))))))))))))
theorem b_Tb_entriesFit_22 {K : Nat} {G : CG} {S : CS} (hS : byt S) : bG Prod.snd (f_Tb_entriesFit_22 K G S) := by
  unfold f_Tb_entriesFit_22
  exact g_some hS
theorem b_Tb_entriesFit_143 {K : Nat} {G : CG} {S : CS} (hS : byt S) : bG Prod.snd (f_Tb_entriesFit_143 K G S) := by
  unfold f_Tb_entriesFit_143
  exact g_some hS
theorem b_Tb_entriesFit_115 {K : Nat} {G : CG} {rec_42 : Int32 → Int32 → CS → Option (Int32 × CS)} {y_1 : Int32} {y_2 : Int32} {y_3 : Int32} {z_0 : Int32} {S : CS} (hrec_42 : ∀ (w0 : Int32) (w1 : Int32) (w2 : CS), byt w2 → bG Prod.snd (rec_42 w0 w1 w2)) (hS : byt S) : bG Prod.snd (f_Tb_entriesFit_115 K G rec_42 y_1 y_2 y_3 z_0 S) := by
  unfold f_Tb_entriesFit_115
  exact g_if (g_c (b_Dk_four hS) (fun r_16 S_16 hS_16 => g_c (b_Dk_four hS_16) (fun r_17 S_17 hS_17 => g_if (g_lv (fun x_19 => (hrec_42 _ _ _ hS_17))) ((b_Tb_entriesFit_143 hS_17))))) ((b_Tb_entriesFit_143 hS))
theorem b_Tb_entriesFit_110 {K : Nat} {G : CG} {rec_42 : Int32 → Int32 → CS → Option (Int32 × CS)} {y_1 : Int32} {y_2 : Int32} {y_3 : Int32} {S : CS} (hrec_42 : ∀ (w0 : Int32) (w1 : Int32) (w2 : CS), byt w2 → bG Prod.snd (rec_42 w0 w1 w2)) (hS : byt S) : bG Prod.snd (f_Tb_entriesFit_110 K G rec_42 y_1 y_2 y_3 S) := by
  unfold f_Tb_entriesFit_110
  exact (b_Tb_entriesFit_115 hrec_42 hS)
theorem b_Tb_entriesFit_114 {K : Nat} {G : CG} {rec_42 : Int32 → Int32 → CS → Option (Int32 × CS)} {y_1 : Int32} {y_2 : Int32} {y_3 : Int32} {S : CS} (hrec_42 : ∀ (w0 : Int32) (w1 : Int32) (w2 : CS), byt w2 → bG Prod.snd (rec_42 w0 w1 w2)) (hS : byt S) : bG Prod.snd (f_Tb_entriesFit_114 K G rec_42 y_1 y_2 y_3 S) := by
  unfold f_Tb_entriesFit_114
  exact (b_Tb_entriesFit_115 hrec_42 hS)
theorem b_Tb_entriesFit_151 {K : Nat} {G : CG} {S : CS} (hS : byt S) : bG Prod.snd (f_Tb_entriesFit_151 K G S) := by
  unfold f_Tb_entriesFit_151
  exact g_some hS
theorem b_Tb_entriesFit_42 {K : Nat} {G : CG} : ∀ (k : Nat) (y_1 : Int32) (y_2 : Int32) (S : CS), byt S → bG Prod.snd (f_Tb_entriesFit_42 K G k y_1 y_2 S) := by
  intro k
  induction k with
  | zero => intro y_1 y_2 S _; rw [f_Tb_entriesFit_42]; exact g_none
  | succ k ih => intro y_1 y_2 S hS; rw [f_Tb_entriesFit_42]; exact g_if ((b_Tb_entriesFit_151 hS)) (g_if ((b_Tb_entriesFit_151 hS)) (g_lv (fun x_8 => g_g (g_if ((b_Tb_entriesFit_110 (fun w0 w1 w2 w3 => ih w0 w1 w2 w3) hS)) (g_g (g_if ((b_Tb_entriesFit_114 (fun w0 w1 w2 w3 => ih w0 w1 w2 w3) hS)) (g_g (g_if ((b_Tb_entriesFit_114 (fun w0 w1 w2 w3 => ih w0 w1 w2 w3) hS)) ((b_Tb_entriesFit_110 (fun w0 w1 w2 w3 => ih w0 w1 w2 w3) hS))))))))))
theorem b_Tb_entriesFit {K : Nat} {G : CG} {S : CS} (hS : byt S) : bG Prod.snd (f_Tb_entriesFit K G S) := by
  unfold f_Tb_entriesFit
  exact g_g (g_if (g_g (g_if (g_lv (fun x_5 => (b_Tb_entriesFit_42 _ _ _ _ hS))) ((b_Tb_entriesFit_22 hS)))) ((b_Tb_entriesFit_22 hS)))
theorem b_Tb_behind {K : Nat} {G : CG} {S : CS} (hS : byt S) : bG Prod.snd (f_Tb_behind K G S) := by
  unfold f_Tb_behind
  exact g_some hS
theorem b_Tb_hasCluster_28 {K : Nat} {G : CG} {S : CS} (hS : byt S) : bG Prod.snd (f_Tb_hasCluster_28 K G S) := by
  unfold f_Tb_hasCluster_28
  exact g_some hS
theorem b_Tb_hasCluster {K : Nat} {G : CG} {S : CS} {p0 : Int32} (hS : byt S) : bG Prod.snd (f_Tb_hasCluster K G S p0) := by
  unfold f_Tb_hasCluster
  exact g_if ((b_Tb_hasCluster_28 hS)) (g_if ((b_Tb_hasCluster_28 hS)) (g_if ((b_Tb_hasCluster_28 hS)) (g_some hS)))
theorem b_Tb_nextOf_33 {K : Nat} {G : CG} {S : CS} (hS : byt S) : bG Prod.snd (f_Tb_nextOf_33 K G S) := by
  unfold f_Tb_nextOf_33
  exact g_some hS
theorem b_Tb_nextOf {K : Nat} {G : CG} {S : CS} {p0 : Int32} (hS : byt S) : bG Prod.snd (f_Tb_nextOf K G S p0) := by
  unfold f_Tb_nextOf
  exact g_if ((b_Tb_nextOf_33 hS)) (g_if ((b_Tb_nextOf_33 hS)) (g_if ((b_Tb_nextOf_33 hS)) (g_g (g_some hS))))
theorem b_Tb_setGoal {K : Nat} {G : CG} {S : CS} {p0 : Int32} {p1 : Int32} (hS : byt S) : bG id (f_Tb_setGoal K G S p0 p1) := by
  unfold f_Tb_setGoal
  exact g_if (g_some hS) (g_if (g_some hS) (g_g (g_ls hS (fun S_4 hS_4 => g_some hS_4))))
theorem b_Tb_goalOf_22 {K : Nat} {G : CG} {S : CS} (hS : byt S) : bG Prod.snd (f_Tb_goalOf_22 K G S) := by
  unfold f_Tb_goalOf_22
  exact g_some hS
theorem b_Tb_goalOf {K : Nat} {G : CG} {S : CS} {p0 : Int32} (hS : byt S) : bG Prod.snd (f_Tb_goalOf K G S p0) := by
  unfold f_Tb_goalOf
  exact g_if ((b_Tb_goalOf_22 hS)) (g_if ((b_Tb_goalOf_22 hS)) (g_g (g_some hS)))
theorem b_Tb_isFree_37 {K : Nat} {G : CG} {S : CS} (hS : byt S) : bG Prod.snd (f_Tb_isFree_37 K G S) := by
  unfold f_Tb_isFree_37
  exact g_some hS
theorem b_Tb_isFree {K : Nat} {G : CG} {S : CS} {p0 : Int32} (hS : byt S) : bG Prod.snd (f_Tb_isFree K G S p0) := by
  unfold f_Tb_isFree
  exact g_if ((b_Tb_isFree_37 hS)) (g_if ((b_Tb_isFree_37 hS)) (g_if ((b_Tb_isFree_37 hS)) (g_g (g_if (g_some hS) ((b_Tb_isFree_37 hS))))))
theorem b_Tb_shows_16 {K : Nat} {G : CG} {S : CS} (hS : byt S) : bG Prod.snd (f_Tb_shows_16 K G S) := by
  unfold f_Tb_shows_16
  exact g_some hS
theorem b_Tb_shows {K : Nat} {G : CG} {S : CS} {p0 : Int32} (hS : byt S) : bG Prod.snd (f_Tb_shows K G S p0) := by
  unfold f_Tb_shows
  exact g_if ((b_Tb_shows_16 hS)) (g_if (g_g (g_c (b_Tb_nextOf hS) (fun r_4 S_4 hS_4 => g_if (g_some hS_4) (g_some hS_4)))) ((b_Tb_shows_16 hS)))
theorem b_Tb_clusterBytes {K : Nat} {G : CG} {S : CS} (hS : byt S) : bG Prod.snd (f_Tb_clusterBytes K G S) := by
  unfold f_Tb_clusterBytes
  exact g_some hS
theorem b_Tb_slotsOfCluster {K : Nat} {G : CG} {S : CS} (hS : byt S) : bG Prod.snd (f_Tb_slotsOfCluster K G S) := by
  unfold f_Tb_slotsOfCluster
  exact g_some hS
theorem b_Tb_place {K : Nat} {G : CG} {S : CS} {p0 : Int32} (hS : byt S) : bG Prod.snd (f_Tb_place K G S p0) := by
  unfold f_Tb_place
  exact g_some hS
theorem b_Tb_countFree_28 {K : Nat} {G : CG} {rec_4 : Int32 → Int32 → CS → Option (Int32 × CS)} {y_2 : Int32} {z_0 : Int32} {z_1 : Int32} {S : CS} (hrec_4 : ∀ (w0 : Int32) (w1 : Int32) (w2 : CS), byt w2 → bG Prod.snd (rec_4 w0 w1 w2)) (hS : byt S) : bG Prod.snd (f_Tb_countFree_28 K G rec_4 y_2 z_0 z_1 S) := by
  unfold f_Tb_countFree_28
  exact g_lv (fun x_4 => g_lv (fun x_5 => (hrec_4 _ _ _ hS)))
theorem b_Tb_countFree_4 {K : Nat} {G : CG} : ∀ (k : Nat) (y_1 : Int32) (y_2 : Int32) (S : CS), byt S → bG Prod.snd (f_Tb_countFree_4 K G k y_1 y_2 S) := by
  intro k
  induction k with
  | zero => intro y_1 y_2 S _; rw [f_Tb_countFree_4]; exact g_none
  | succ k ih => intro y_1 y_2 S hS; rw [f_Tb_countFree_4]; exact g_if (g_some hS) (g_c (b_Tb_isFree hS) (fun r_2 S_2 hS_2 => g_if ((b_Tb_countFree_28 (fun w0 w1 w2 w3 => ih w0 w1 w2 w3) hS_2)) ((b_Tb_countFree_28 (fun w0 w1 w2 w3 => ih w0 w1 w2 w3) hS_2))))
theorem b_Tb_countFree {K : Nat} {G : CG} {S : CS} (hS : byt S) : bG Prod.snd (f_Tb_countFree K G S) := by
  unfold f_Tb_countFree
  exact (b_Tb_countFree_4 _ _ _ _ hS)
theorem b_Tb_takeFree_2 {K : Nat} {G : CG} : ∀ (k : Nat) (y_1 : Int32) (S : CS), byt S → bG Prod.snd (f_Tb_takeFree_2 K G k y_1 S) := by
  intro k
  induction k with
  | zero => intro y_1 S _; rw [f_Tb_takeFree_2]; exact g_none
  | succ k ih => intro y_1 S hS; rw [f_Tb_takeFree_2]; exact g_if (g_some hS) (g_c (b_Tb_isFree hS) (fun r_2 S_2 hS_2 => g_if (g_lv (fun x_4 => (ih _ _ hS_2))) (g_b (b_Tb_link hS_2) (fun S_5 hS_5 => g_c (b_Tb_place hS_5) (fun r_6 S_6 hS_6 => g_c (b_Tb_clusterBytes hS_6) (fun r_7 S_7 hS_7 => g_b (b_Dk_zero hS_7) (fun S_8 hS_8 => g_some hS_8)))))))
theorem b_Tb_takeFree {K : Nat} {G : CG} {S : CS} (hS : byt S) : bG Prod.snd (f_Tb_takeFree K G S) := by
  unfold f_Tb_takeFree
  exact (b_Tb_takeFree_2 _ _ _ hS)
theorem b_Tr_has_16 {K : Nat} {G : CG} {S : CS} (hS : byt S) : bG Prod.snd (f_Tr_has_16 K G S) := by
  unfold f_Tr_has_16
  exact g_some hS
theorem b_Tr_has {K : Nat} {G : CG} {S : CS} {p0 : Int32} (hS : byt S) : bG Prod.snd (f_Tr_has K G S p0) := by
  unfold f_Tr_has
  exact g_if ((b_Tr_has_16 hS)) (g_if ((b_Tr_has_16 hS)) (g_some hS))
theorem b_Tr_place {K : Nat} {G : CG} {S : CS} {p0 : Int32} {p1 : Int32} {p2 : Int32} {p3 : Int32} {p4 : Int32} (hS : byt S) : bG id (f_Tr_place K G S p0 p1 p2 p3 p4) := by
  unfold f_Tr_place
  exact g_c (b_Tr_has hS) (fun r_1 S_1 hS_1 => g_if (g_some hS_1) (g_g (g_ls hS_1 (fun S_4 hS_4 => g_g (g_ls hS_4 (fun S_6 hS_6 => g_g (g_ls hS_6 (fun S_8 hS_8 => g_g (g_ls hS_8 (fun S_10 hS_10 => g_some hS_10))))))))))
theorem b_Tr_setSize {K : Nat} {G : CG} {S : CS} {p0 : Int32} {p1 : Int32} (hS : byt S) : bG id (f_Tr_setSize K G S p0 p1) := by
  unfold f_Tr_setSize
  exact g_c (b_Tr_has hS) (fun r_1 S_1 hS_1 => g_if (g_some hS_1) (g_g (g_ls hS_1 (fun S_4 hS_4 => g_some hS_4))))
theorem b_Tr_setBuilt {K : Nat} {G : CG} {S : CS} {p0 : Int32} {p1 : Int32} {p2 : Int32} (hS : byt S) : bG id (f_Tr_setBuilt K G S p0 p1 p2) := by
  unfold f_Tr_setBuilt
  exact g_c (b_Tr_has hS) (fun r_1 S_1 hS_1 => g_if (g_some hS_1) (g_g (g_ls hS_1 (fun S_4 hS_4 => g_g (g_ls hS_4 (fun S_6 hS_6 => g_some hS_6))))))
theorem b_Tr_isDirectory_24 {K : Nat} {G : CG} {S : CS} (hS : byt S) : bG Prod.snd (f_Tr_isDirectory_24 K G S) := by
  unfold f_Tr_isDirectory_24
  exact g_some hS
theorem b_Tr_isDirectory {K : Nat} {G : CG} {S : CS} {p0 : Int32} (hS : byt S) : bG Prod.snd (f_Tr_isDirectory K G S p0) := by
  unfold f_Tr_isDirectory
  exact g_c (b_Tr_has hS) (fun r_1 S_1 hS_1 => g_if ((b_Tr_isDirectory_24 hS_1)) (g_g (g_if ((b_Tr_isDirectory_24 hS_1)) (g_some hS_1))))
theorem b_Tr_countIn {K : Nat} {G : CG} {S : CS} {p0 : Int32} (hS : byt S) : bG Prod.snd (f_Tr_countIn K G S p0) := by
  unfold f_Tr_countIn
  exact g_c (b_Tr_has hS) (fun r_1 S_1 hS_1 => g_if (g_some hS_1) (g_g (g_some hS_1)))
theorem b_Tr_kid {K : Nat} {G : CG} {S : CS} {p0 : Int32} {p1 : Int32} (hS : byt S) : bG Prod.snd (f_Tr_kid K G S p0 p1) := by
  unfold f_Tr_kid
  exact g_c (b_Tr_has hS) (fun r_1 S_1 hS_1 => g_if (g_some hS_1) (g_g (g_some hS_1)))
theorem b_Tr_parentOf {K : Nat} {G : CG} {S : CS} {p0 : Int32} (hS : byt S) : bG Prod.snd (f_Tr_parentOf K G S p0) := by
  unfold f_Tr_parentOf
  exact g_c (b_Tr_has hS) (fun r_1 S_1 hS_1 => g_if (g_some hS_1) (g_g (g_some hS_1)))
theorem b_Tr_isReadOnly_23 {K : Nat} {G : CG} {S : CS} (hS : byt S) : bG Prod.snd (f_Tr_isReadOnly_23 K G S) := by
  unfold f_Tr_isReadOnly_23
  exact g_some hS
theorem b_Tr_isReadOnly {K : Nat} {G : CG} {S : CS} {p0 : Int32} (hS : byt S) : bG Prod.snd (f_Tr_isReadOnly K G S p0) := by
  unfold f_Tr_isReadOnly
  exact g_c (b_Tr_has hS) (fun r_1 S_1 hS_1 => g_if ((b_Tr_isReadOnly_23 hS_1)) (g_g (g_if ((b_Tr_isReadOnly_23 hS_1)) (g_some hS_1))))
theorem b_Tr_partsOf {K : Nat} {G : CG} {S : CS} {p0 : Int32} (hS : byt S) : bG Prod.snd (f_Tr_partsOf K G S p0) := by
  unfold f_Tr_partsOf
  exact g_c (b_Tr_has hS) (fun r_1 S_1 hS_1 => g_if (g_some hS_1) (g_g (g_some hS_1)))
theorem b_Tr_builtOf {K : Nat} {G : CG} {S : CS} {p0 : Int32} (hS : byt S) : bG Prod.snd (f_Tr_builtOf K G S p0) := by
  unfold f_Tr_builtOf
  exact g_c (b_Tr_has hS) (fun r_1 S_1 hS_1 => g_if (g_some hS_1) (g_g (g_some hS_1)))
theorem b_Tr_builtBlocksOf {K : Nat} {G : CG} {S : CS} {p0 : Int32} (hS : byt S) : bG Prod.snd (f_Tr_builtBlocksOf K G S p0) := by
  unfold f_Tr_builtBlocksOf
  exact g_c (b_Tr_has hS) (fun r_1 S_1 hS_1 => g_if (g_some hS_1) (g_g (g_some hS_1)))
theorem b_Tr_slotOf {K : Nat} {G : CG} {S : CS} {p0 : Int32} (hS : byt S) : bG Prod.snd (f_Tr_slotOf K G S p0) := by
  unfold f_Tr_slotOf
  exact g_c (b_Tr_has hS) (fun r_1 S_1 hS_1 => g_if (g_some hS_1) (g_g (g_some hS_1)))
theorem b_Tr_spotOf {K : Nat} {G : CG} {S : CS} {p0 : Int32} (hS : byt S) : bG Prod.snd (f_Tr_spotOf K G S p0) := by
  unfold f_Tr_spotOf
  exact g_c (b_Tr_has hS) (fun r_1 S_1 hS_1 => g_if (g_some hS_1) (g_g (g_some hS_1)))
theorem b_Tr_sizeOf {K : Nat} {G : CG} {S : CS} {p0 : Int32} (hS : byt S) : bG Prod.snd (f_Tr_sizeOf K G S p0) := by
  unfold f_Tr_sizeOf
  exact g_c (b_Tr_has hS) (fun r_1 S_1 hS_1 => g_if (g_some hS_1) (g_g (g_some hS_1)))
theorem b_Tr_firstOf {K : Nat} {G : CG} {S : CS} {p0 : Int32} (hS : byt S) : bG Prod.snd (f_Tr_firstOf K G S p0) := by
  unfold f_Tr_firstOf
  exact g_c (b_Tr_has hS) (fun r_1 S_1 hS_1 => g_if (g_some hS_1) (g_g (g_some hS_1)))
theorem b_Tr_beginKids {K : Nat} {G : CG} {S : CS} {p0 : Int32} (hS : byt S) : bG id (f_Tr_beginKids K G S p0) := by
  unfold f_Tr_beginKids
  exact g_c (b_Tr_has hS) (fun r_1 S_1 hS_1 => g_if (g_some hS_1) (g_g (g_ls hS_1 (fun S_4 hS_4 => g_some hS_4))))
theorem b_Tr_endKids {K : Nat} {G : CG} {S : CS} {p0 : Int32} (hS : byt S) : bG id (f_Tr_endKids K G S p0) := by
  unfold f_Tr_endKids
  exact g_c (b_Tr_has hS) (fun r_1 S_1 hS_1 => g_if (g_some hS_1) (g_g (g_g (g_ls hS_1 (fun S_5 hS_5 => g_some hS_5)))))
theorem b_Tr_isNamedAsRecord_22 {K : Nat} {G : CG} {S : CS} (hS : byt S) : bG Prod.snd (f_Tr_isNamedAsRecord_22 K G S) := by
  unfold f_Tr_isNamedAsRecord_22
  exact g_some hS
theorem b_Tr_isNamedAsRecord_26 {K : Nat} {G : CG} : ∀ (k : Nat) (y_1 : Int32) (y_2 : Int32) (S : CS), byt S → bG Prod.snd (f_Tr_isNamedAsRecord_26 K G k y_1 y_2 S) := by
  intro k
  induction k with
  | zero => intro y_1 y_2 S _; rw [f_Tr_isNamedAsRecord_26]; exact g_none
  | succ k ih => intro y_1 y_2 S hS; rw [f_Tr_isNamedAsRecord_26]; exact g_if (g_some hS) (g_g (g_g (g_p (fun r_10 => g_p (fun x_11 => g_p (fun r_12 => g_if (g_lv (fun x_14 => (ih _ _ _ hS))) (g_some hS)))))))
theorem b_Tr_isNamedAsRecord {K : Nat} {G : CG} {S : CS} {p0 : Int32} (hS : byt S) : bG Prod.snd (f_Tr_isNamedAsRecord K G S p0) := by
  unfold f_Tr_isNamedAsRecord
  exact g_c (b_Tr_has hS) (fun r_1 S_1 hS_1 => g_if ((b_Tr_isNamedAsRecord_22 hS_1)) (g_g (g_if ((b_Tr_isNamedAsRecord_26 _ _ _ _ hS_1)) ((b_Tr_isNamedAsRecord_22 hS_1)))))
theorem b_Tr_nameSize {K : Nat} {G : CG} {S : CS} {p0 : Int32} (hS : byt S) : bG Prod.snd (f_Tr_nameSize K G S p0) := by
  unfold f_Tr_nameSize
  exact g_c (b_Tr_has hS) (fun r_1 S_1 hS_1 => g_if (g_some hS_1) (g_g (g_some hS_1)))
theorem b_Tr_nameByte_22 {K : Nat} {G : CG} {S : CS} (hS : byt S) : bG Prod.snd (f_Tr_nameByte_22 K G S) := by
  unfold f_Tr_nameByte_22
  exact g_some hS
theorem b_Tr_nameByte_29 {K : Nat} {G : CG} : ∀ (k : Nat) (y_1 : Int32) (y_3 : Int32) (y_4 : Int32) (S : CS), byt S → bG Prod.snd (f_Tr_nameByte_29 K G k y_1 y_3 y_4 S) := by
  intro k
  induction k with
  | zero => intro y_1 y_3 y_4 S _; rw [f_Tr_nameByte_29]; exact g_none
  | succ k ih => intro y_1 y_3 y_4 S hS; rw [f_Tr_nameByte_29]; exact g_g (g_if (g_some hS) (g_g (g_g (g_lv (fun x_10 => g_p (fun r_11 => g_if (g_lv (fun x_13 => g_lv (fun x_14 => (ih _ _ _ _ hS)))) (g_p (fun r_15 => g_some hS))))))))
theorem b_Tr_nameByte {K : Nat} {G : CG} {S : CS} {p0 : Int32} {p1 : Int32} (hS : byt S) : bG Prod.snd (f_Tr_nameByte K G S p0 p1) := by
  unfold f_Tr_nameByte
  exact g_c (b_Tr_has hS) (fun r_1 S_1 hS_1 => g_if ((b_Tr_nameByte_22 hS_1)) (g_if ((b_Tr_nameByte_22 hS_1)) (g_g (g_if ((b_Tr_nameByte_29 _ _ _ _ _ hS_1)) ((b_Tr_nameByte_22 hS_1))))))
theorem b_In_isMarked {K : Nat} {G : CG} {S : CS} (hS : byt S) : bG Prod.snd (f_In_isMarked K G S) := by
  unfold f_In_isMarked
  exact g_c (b_Dk_four hS) (fun r_1 S_1 hS_1 => g_if (g_some hS_1) (g_some hS_1))
theorem b_In_markedSize {K : Nat} {G : CG} {S : CS} (hS : byt S) : bG Prod.snd (f_In_markedSize K G S) := by
  unfold f_In_markedSize
  exact g_c (b_Dk_four hS) (fun r_1 S_1 hS_1 => g_some hS_1)
theorem b_In_markedInodes {K : Nat} {G : CG} {S : CS} (hS : byt S) : bG Prod.snd (f_In_markedInodes K G S) := by
  unfold f_In_markedInodes
  exact g_c (b_Dk_four hS) (fun r_1 S_1 hS_1 => g_some hS_1)
theorem b_In_isThere_26 {K : Nat} {G : CG} {S : CS} (hS : byt S) : bG Prod.snd (f_In_isThere_26 K G S) := by
  unfold f_In_isThere_26
  exact g_some hS
theorem b_In_isThere {K : Nat} {G : CG} {S : CS} (hS : byt S) : bG Prod.snd (f_In_isThere K G S) := by
  unfold f_In_isThere
  exact g_c (b_In_isMarked hS) (fun r_1 S_1 hS_1 => g_if ((b_In_isThere_26 hS_1)) (g_c (b_Dk_two hS_1) (fun r_3 S_3 hS_3 => g_if (g_some hS_3) ((b_In_isThere_26 hS_3)))))
theorem b_In_groupSize {K : Nat} {G : CG} {S : CS} (hS : byt S) : bG Prod.snd (f_In_groupSize K G S) := by
  unfold f_In_groupSize
  exact g_c (b_Dk_four hS) (fun r_1 S_1 hS_1 => g_some hS_1)
theorem b_In_shows_19 {K : Nat} {G : CG} {S : CS} (hS : byt S) : bG Prod.snd (f_In_shows_19 K G S) := by
  unfold f_In_shows_19
  exact g_some hS
theorem b_In_shows {K : Nat} {G : CG} {S : CS} {p0 : Int32} (hS : byt S) : bG Prod.snd (f_In_shows K G S p0) := by
  unfold f_In_shows
  exact g_c (b_In_groupSize hS) (fun r_1 S_1 hS_1 => g_lv (fun x_2 => g_if ((b_In_shows_19 hS_1)) (g_if (g_g (g_lv (fun x_6 => g_g (g_c (b_Dk_four hS_1) (fun r_8 S_8 hS_8 => g_c (b_Dk_one hS_8) (fun r_9 S_9 hS_9 => g_if (g_some hS_9) (g_some hS_9))))))) ((b_In_shows_19 hS_1)))))
theorem b_In_inodePlace_21 {K : Nat} {G : CG} {S : CS} (hS : byt S) : bG Prod.snd (f_In_inodePlace_21 K G S) := by
  unfold f_In_inodePlace_21
  exact g_some hS
theorem b_In_inodePlace {K : Nat} {G : CG} {S : CS} {p0 : Int32} (hS : byt S) : bG Prod.snd (f_In_inodePlace K G S p0) := by
  unfold f_In_inodePlace
  exact g_c (b_Dk_four hS) (fun r_1 S_1 hS_1 => g_if ((b_In_inodePlace_21 hS_1)) (g_if (g_g (g_c (b_Dk_four hS_1) (fun r_5 S_5 hS_5 => g_g (g_some hS_5)))) ((b_In_inodePlace_21 hS_1))))
theorem b_In_blockOf {K : Nat} {G : CG} {S : CS} {p0 : Int32} {p1 : Int32} (hS : byt S) : bG Prod.snd (f_In_blockOf K G S p0 p1) := by
  unfold f_In_blockOf
  exact g_if (g_lv (fun x_2 => g_if (g_lv (fun x_4 => g_c (b_Dk_four hS) (fun r_5 S_5 hS_5 => g_c (b_Dk_four hS_5) (fun r_6 S_6 hS_6 => g_c (b_Dk_four hS_6) (fun r_7 S_7 hS_7 => g_some hS_7))))) (g_c (b_Dk_four hS) (fun r_8 S_8 hS_8 => g_c (b_Dk_four hS_8) (fun r_9 S_9 hS_9 => g_some hS_9))))) (g_c (b_Dk_four hS) (fun r_10 S_10 hS_10 => g_some hS_10))
theorem b_In_findEntry_56 {K : Nat} {G : CG} {rec_33 : Int32 → Int32 → Int32 → Int32 → CS → Option (Int32 × CS)} (hrec_33 : ∀ (w0 : Int32) (w1 : Int32) (w2 : Int32) (w3 : Int32) (w4 : CS), byt w4 → bG Prod.snd (rec_33 w0 w1 w2 w3 w4)) : ∀ (k : Nat) (y_2 : Int32) (y_3 : Int32) (y_4 : Int32) (y_5 : Int32) (y_6 : Int32) (y_7 : Int32) (S : CS), byt S → bG Prod.snd (f_In_findEntry_56 K G rec_33 k y_2 y_3 y_4 y_5 y_6 y_7 S) := by
  intro k
  induction k with
  | zero => intro y_2 y_3 y_4 y_5 y_6 y_7 S _; rw [f_In_findEntry_56]; exact g_none
  | succ k ih => intro y_2 y_3 y_4 y_5 y_6 y_7 S hS; rw [f_In_findEntry_56]; exact g_if (g_lv (fun x_10 => (hrec_33 _ _ _ _ _ hS))) (g_if (g_some hS) (g_ls hS (fun S_12 hS_12 => g_c (b_Dk_two hS_12) (fun r_13 S_13 hS_13 => g_lv (fun x_14 => (ih _ _ _ _ _ _ _ hS_13))))))
theorem b_In_findEntry_33 {K : Nat} {G : CG} : ∀ (k : Nat) (y_2 : Int32) (y_3 : Int32) (y_4 : Int32) (y_5 : Int32) (S : CS), byt S → bG Prod.snd (f_In_findEntry_33 K G k y_2 y_3 y_4 y_5 S) := by
  intro k
  induction k with
  | zero => intro y_2 y_3 y_4 y_5 S _; rw [f_In_findEntry_33]; exact g_none
  | succ k ih => intro y_2 y_3 y_4 y_5 S hS; rw [f_In_findEntry_33]; exact g_if (g_some hS) (g_c (b_In_blockOf hS) (fun r_7 S_7 hS_7 => g_lv (fun x_8 => (b_In_findEntry_56 (fun w0 w1 w2 w3 w4 w5 => ih w0 w1 w2 w3 w4 w5) _ _ _ _ _ _ _ _ hS_7))))
theorem b_In_findEntry {K : Nat} {G : CG} {S : CS} {p0 : Int32} {p1 : Int32} (hS : byt S) : bG Prod.snd (f_In_findEntry K G S p0 p1) := by
  unfold f_In_findEntry
  exact g_p (fun r_1 => g_c (b_In_inodePlace hS) (fun r_2 S_2 hS_2 => g_c (b_Dk_four hS_2) (fun r_3 S_3 hS_3 => g_lv (fun x_4 => g_ls hS_3 (fun S_5 hS_5 => (b_In_findEntry_33 _ _ _ _ _ _ hS_5))))))
theorem b_In_countIn {K : Nat} {G : CG} {S : CS} {p0 : Int32} (hS : byt S) : bG Prod.snd (f_In_countIn K G S p0) := by
  unfold f_In_countIn
  exact g_c (b_In_findEntry hS) (fun r_1 S_1 hS_1 => g_some hS_1)
theorem b_In_inodeOf {K : Nat} {G : CG} {S : CS} {p0 : Int32} (hS : byt S) : bG Prod.snd (f_In_inodeOf K G S p0) := by
  unfold f_In_inodeOf
  exact g_c (b_Dk_four hS) (fun r_1 S_1 hS_1 => g_some hS_1)
theorem b_In_parentOf {K : Nat} {G : CG} {S : CS} {p0 : Int32} (hS : byt S) : bG Prod.snd (f_In_parentOf K G S p0) := by
  unfold f_In_parentOf
  exact g_c (b_In_findEntry hS) (fun r_1 S_1 hS_1 => g_c (b_In_inodeOf hS_1) (fun r_2 S_2 hS_2 => g_if (g_some hS_2) (g_some hS_2)))
theorem b_In_nameByte_35 {K : Nat} {G : CG} {S : CS} (hS : byt S) : bG Prod.snd (f_In_nameByte_35 K G S) := by
  unfold f_In_nameByte_35
  exact g_some hS
theorem b_In_nameByte {K : Nat} {G : CG} {S : CS} {p0 : Int32} {p1 : Int32} (hS : byt S) : bG Prod.snd (f_In_nameByte K G S p0 p1) := by
  unfold f_In_nameByte
  exact g_if ((b_In_nameByte_35 hS)) (g_c (b_Dk_one hS) (fun r_2 S_2 hS_2 => g_if ((b_In_nameByte_35 hS_2)) (g_c (b_Dk_one hS_2) (fun r_4 S_4 hS_4 => g_some hS_4))))
theorem b_In_isDirectory {K : Nat} {G : CG} {S : CS} {p0 : Int32} (hS : byt S) : bG Prod.snd (f_In_isDirectory K G S p0) := by
  unfold f_In_isDirectory
  exact g_c (b_Dk_one hS) (fun r_1 S_1 hS_1 => g_if (g_some hS_1) (g_some hS_1))
theorem b_In_tell {K : Nat} {G : CG} {S : CS} {p0 : Int32} {p1 : Int32} (hS : byt S) : bG Prod.snd (f_In_tell K G S p0 p1) := by
  unfold f_In_tell
  exact g_c (b_In_inodeOf hS) (fun r_1 S_1 hS_1 => g_c (b_In_inodePlace hS_1) (fun r_2 S_2 hS_2 => g_if (g_c (b_In_isDirectory hS_2) (fun r_4 S_4 hS_4 => g_if (g_some hS_4) (g_some hS_4))) (g_if (g_c (b_Dk_two hS_2) (fun r_7 S_7 hS_7 => g_if (g_some hS_7) (g_some hS_7))) (g_if (g_c (b_Dk_four hS_2) (fun r_10 S_10 hS_10 => g_some hS_10)) (g_c (b_Dk_four hS_2) (fun r_11 S_11 hS_11 => g_some hS_11))))))
theorem b_In_fileByte_36 {K : Nat} {G : CG} {S : CS} (hS : byt S) : bG Prod.snd (f_In_fileByte_36 K G S) := by
  unfold f_In_fileByte_36
  exact g_some hS
theorem b_In_fileByte {K : Nat} {G : CG} {S : CS} {p0 : Int32} {p1 : Int32} (hS : byt S) : bG Prod.snd (f_In_fileByte K G S p0 p1) := by
  unfold f_In_fileByte
  exact g_c (b_In_inodeOf hS) (fun r_1 S_1 hS_1 => g_c (b_In_inodePlace hS_1) (fun r_2 S_2 hS_2 => g_c (b_In_isDirectory hS_2) (fun r_3 S_3 hS_3 => g_if (g_if ((b_In_fileByte_36 hS_3)) (g_c (b_Dk_four hS_3) (fun r_6 S_6 hS_6 => g_if (g_c (b_In_blockOf hS_6) (fun r_8 S_8 hS_8 => g_c (b_Dk_one hS_8) (fun r_9 S_9 hS_9 => g_some hS_9))) ((b_In_fileByte_36 hS_6))))) ((b_In_fileByte_36 hS_3)))))
theorem b_Rd_hasStrays_46 {K : Nat} {G : CG} {rec_2 : Int32 → CS → Option (Int32 × CS)} {y_1 : Int32} {S : CS} (hrec_2 : ∀ (w0 : Int32) (w1 : CS), byt w1 → bG Prod.snd (rec_2 w0 w1)) (hS : byt S) : bG Prod.snd (f_Rd_hasStrays_46 K G rec_2 y_1 S) := by
  unfold f_Rd_hasStrays_46
  exact g_lv (fun x_7 => (hrec_2 _ _ hS))
theorem b_Rd_hasStrays_52 {K : Nat} {G : CG} {S : CS} (hS : byt S) : bG Prod.snd (f_Rd_hasStrays_52 K G S) := by
  unfold f_Rd_hasStrays_52
  exact g_some hS
theorem b_Rd_hasStrays_2 {K : Nat} {G : CG} : ∀ (k : Nat) (y_1 : Int32) (S : CS), byt S → bG Prod.snd (f_Rd_hasStrays_2 K G k y_1 S) := by
  intro k
  induction k with
  | zero => intro y_1 S _; rw [f_Rd_hasStrays_2]; exact g_none
  | succ k ih => intro y_1 S hS; rw [f_Rd_hasStrays_2]; exact g_if ((b_Rd_hasStrays_52 hS)) (g_if ((b_Rd_hasStrays_52 hS)) (g_c (b_Tb_isFree hS) (fun r_3 S_3 hS_3 => g_if (g_g (g_if (g_some hS_3) ((b_Rd_hasStrays_46 (fun w0 w1 w2 => ih w0 w1 w2) hS_3)))) ((b_Rd_hasStrays_46 (fun w0 w1 w2 => ih w0 w1 w2) hS_3)))))
theorem b_Rd_hasStrays {K : Nat} {G : CG} {S : CS} (hS : byt S) : bG Prod.snd (f_Rd_hasStrays K G S) := by
  unfold f_Rd_hasStrays
  exact (b_Rd_hasStrays_2 _ _ _ hS)
theorem b_Rd_follow_Rdroad_41 {K : Nat} {G : CG} {S : CS} (hS : byt S) : bG Prod.snd (f_Rd_follow_Rdroad_41 K G S) := by
  unfold f_Rd_follow_Rdroad_41
  exact g_some hS
theorem b_Rd_follow_Rdroad_5 {K : Nat} {G : CG} : ∀ (k : Nat) (y_3 : Int32) (y_4 : Int32) (S : CS), byt S → bG Prod.snd (f_Rd_follow_Rdroad_5 K G k y_3 y_4 S) := by
  intro k
  induction k with
  | zero => intro y_3 y_4 S _; rw [f_Rd_follow_Rdroad_5]; exact g_none
  | succ k ih => intro y_3 y_4 S hS; rw [f_Rd_follow_Rdroad_5]; exact g_if (g_some hS) (g_c (b_Tb_nextOf hS) (fun r_2 S_2 hS_2 => g_if ((b_Rd_follow_Rdroad_41 hS_2)) (g_if ((b_Rd_follow_Rdroad_41 hS_2)) (g_g (g_if (g_g (g_ls hS_2 (fun S_8 hS_8 => g_g (g_ls hS_8 (fun S_10 hS_10 => g_c (b_Tb_nextOf hS_10) (fun r_11 S_11 hS_11 => g_if (g_lv (fun x_13 => (ih _ _ _ hS_11))) (g_some hS_11))))))) ((b_Rd_follow_Rdroad_41 hS_2)))))))
theorem b_Rd_follow_Rdroad {K : Nat} {G : CG} {S : CS} {p0 : Int32} (hS : byt S) : bG Prod.snd (f_Rd_follow_Rdroad K G S p0) := by
  unfold f_Rd_follow_Rdroad
  exact (b_Rd_follow_Rdroad_5 _ _ _ _ hS)
theorem b_Tb_slotPlace_Rdroad_22 {K : Nat} {G : CG} {S : CS} (hS : byt S) : bG Prod.snd (f_Tb_slotPlace_Rdroad_22 K G S) := by
  unfold f_Tb_slotPlace_Rdroad_22
  exact g_some hS
theorem b_Tb_slotPlace_Rdroad {K : Nat} {G : CG} {S : CS} {p1 : Int32} (hS : byt S) : bG Prod.snd (f_Tb_slotPlace_Rdroad K G S p1) := by
  unfold f_Tb_slotPlace_Rdroad
  exact g_c (b_Tb_slotsOfCluster hS) (fun r_1 S_1 hS_1 => g_if ((b_Tb_slotPlace_Rdroad_22 hS_1)) (g_if ((b_Tb_slotPlace_Rdroad_22 hS_1)) (g_g (g_if (g_g (g_g (g_c (b_Tb_place hS_1) (fun r_8 S_8 hS_8 => g_g (g_some hS_8))))) ((b_Tb_slotPlace_Rdroad_22 hS_1))))))
theorem b_Rd_firstCluster {K : Nat} {G : CG} {S : CS} {p0 : Int32} (hS : byt S) : bG Prod.snd (f_Rd_firstCluster K G S p0) := by
  unfold f_Rd_firstCluster
  exact g_c (b_Dk_two hS) (fun r_1 S_1 hS_1 => g_c (b_Dk_two hS_1) (fun r_2 S_2 hS_2 => g_some hS_2))
theorem b_Rd_isDots_34 {K : Nat} {G : CG} {rec_3 : Int32 → Int32 → Int32 → Int32 → CS → Option (Int32 × CS)} {y_1 : Int32} {y_2 : Int32} {y_3 : Int32} {y_4 : Int32} {z_0 : Int32} {z_1 : Int32} {S : CS} (hrec_3 : ∀ (w0 : Int32) (w1 : Int32) (w2 : Int32) (w3 : Int32) (w4 : CS), byt w4 → bG Prod.snd (rec_3 w0 w1 w2 w3 w4)) (hS : byt S) : bG Prod.snd (f_Rd_isDots_34 K G rec_3 y_1 y_2 y_3 y_4 z_0 z_1 S) := by
  unfold f_Rd_isDots_34
  exact g_if (g_lv (fun x_14 => (hrec_3 _ _ _ _ _ hS))) (g_some hS)
theorem b_Rd_isDots_121 {K : Nat} {G : CG} {S : CS} (hS : byt S) : bG Prod.snd (f_Rd_isDots_121 K G S) := by
  unfold f_Rd_isDots_121
  exact g_some hS
theorem b_Rd_isDots_89 {K : Nat} {G : CG} {y_3 : Int32} {z_0 : Int32} {S : CS} (hS : byt S) : bG Prod.snd (f_Rd_isDots_89 K G y_3 z_0 S) := by
  unfold f_Rd_isDots_89
  exact g_c (b_Dk_one hS) (fun r_9 S_9 hS_9 => g_if (g_c (b_Rd_firstCluster hS_9) (fun r_11 S_11 hS_11 => g_if (g_some hS_11) ((b_Rd_isDots_121 hS_11)))) ((b_Rd_isDots_121 hS_9)))
theorem b_Rd_isDots_3 {K : Nat} {G : CG} : ∀ (k : Nat) (y_1 : Int32) (y_2 : Int32) (y_3 : Int32) (y_4 : Int32) (S : CS), byt S → bG Prod.snd (f_Rd_isDots_3 K G k y_1 y_2 y_3 y_4 S) := by
  intro k
  induction k with
  | zero => intro y_1 y_2 y_3 y_4 S _; rw [f_Rd_isDots_3]; exact g_none
  | succ k ih => intro y_1 y_2 y_3 y_4 S hS; rw [f_Rd_isDots_3]; exact g_if (g_c (b_Tr_parentOf hS) (fun r_2 S_2 hS_2 => g_if (g_c (b_Tr_firstOf hS_2) (fun r_6 S_6 hS_6 => (b_Rd_isDots_89 hS_6))) (g_if ((b_Rd_isDots_89 hS_2)) (g_c (b_Tr_firstOf hS_2) (fun r_5 S_5 hS_5 => (b_Rd_isDots_89 hS_5)))))) (g_c (b_Dk_one hS) (fun r_7 S_7 hS_7 => g_if ((b_Rd_isDots_34 (fun w0 w1 w2 w3 w4 w5 => ih w0 w1 w2 w3 w4 w5) hS_7)) ((b_Rd_isDots_34 (fun w0 w1 w2 w3 w4 w5 => ih w0 w1 w2 w3 w4 w5) hS_7))))
theorem b_Rd_isDots {K : Nat} {G : CG} {S : CS} {p0 : Int32} {p1 : Int32} {p2 : Int32} (hS : byt S) : bG Prod.snd (f_Rd_isDots K G S p0 p1 p2) := by
  unfold f_Rd_isDots
  exact (b_Rd_isDots_3 _ _ _ _ _ _ hS)
theorem b_Rd_bitsFit_42 {K : Nat} {G : CG} {S : CS} (hS : byt S) : bG Prod.snd (f_Rd_bitsFit_42 K G S) := by
  unfold f_Rd_bitsFit_42
  exact g_some hS
theorem b_Rd_bitsFit_81 {K : Nat} {G : CG} {S : CS} (hS : byt S) : bG Prod.snd (f_Rd_bitsFit_81 K G S) := by
  unfold f_Rd_bitsFit_81
  exact g_some hS
theorem b_Rd_bitsFit_67 {K : Nat} {G : CG} {y_1 : Int32} {S : CS} (hS : byt S) : bG Prod.snd (f_Rd_bitsFit_67 K G y_1 S) := by
  unfold f_Rd_bitsFit_67
  exact g_c (b_Dk_four hS) (fun r_11 S_11 hS_11 => g_if ((b_Rd_bitsFit_81 hS_11)) (g_some hS_11))
theorem b_Rd_bitsFit_58 {K : Nat} {G : CG} {y_1 : Int32} {y_3 : Int32} {y_4 : Int32} {S : CS} (hS : byt S) : bG Prod.snd (f_Rd_bitsFit_58 K G y_1 y_3 y_4 S) := by
  unfold f_Rd_bitsFit_58
  exact g_if (g_if ((b_Rd_bitsFit_81 hS)) ((b_Rd_bitsFit_67 hS))) ((b_Rd_bitsFit_67 hS))
