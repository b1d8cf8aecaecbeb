theorem b_Pl_timesFit_15 {K : Nat} {G : CG} {rec_2 : Int32 → CS → Option (Int32 × CS)} (hrec_2 : ∀ (w0 : Int32) (w1 : CS), byt w1 → bG Prod.snd (rec_2 w0 w1)) : ∀ (k : Nat) (y_1 : Int32) (y_2 : Int32) (S : CS), byt S → bG Prod.snd (f_Pl_timesFit_15 K G rec_2 k y_1 y_2 S) := by
  intro k
  induction k with
  | zero => intro y_1 y_2 S _; rw [f_Pl_timesFit_15]; exact g_none
  | succ k ih => intro y_1 y_2 S hS; rw [f_Pl_timesFit_15]; exact g_if (g_lv (fun x_3 => (hrec_2 _ _ hS))) (g_c (b_Tr_spotOf hS) (fun r_4 S_4 hS_4 => g_c (b_Da_seconds hS_4) (fun r_5 S_5 hS_5 => g_if (g_lv (fun x_7 => (ih _ _ _ hS_5))) (g_some hS_5))))
theorem b_Pl_timesFit_2 {K : Nat} {G : CG} : ∀ (k : Nat) (y_1 : Int32) (S : CS), byt S → bG Prod.snd (f_Pl_timesFit_2 K G k y_1 S) := by
  intro k
  induction k with
  | zero => intro y_1 S _; rw [f_Pl_timesFit_2]; exact g_none
  | succ k ih => intro y_1 S hS; rw [f_Pl_timesFit_2]; exact g_if (g_some hS) ((b_Pl_timesFit_15 (fun w0 w1 w2 => ih w0 w1 w2) _ _ _ _ hS))
theorem b_Pl_timesFit {K : Nat} {G : CG} {S : CS} (hS : byt S) : bG Prod.snd (f_Pl_timesFit K G S) := by
  unfold f_Pl_timesFit
  exact (b_Pl_timesFit_2 _ _ _ hS)
theorem b_Pl_blockOfCluster {K : Nat} {G : CG} {S : CS} {p0 : Int32} (hS : byt S) : bG Prod.snd (f_Pl_blockOfCluster K G S p0) := by
  unfold f_Pl_blockOfCluster
  exact g_some hS
theorem b_Pl_addRooms_66 {K : Nat} {G : CG} {rec_2 : Int32 → Int32 → CS → Option (CS)} {y_1 : Int32} {y_2 : Int32} {S : CS} (hrec_2 : ∀ (w0 : Int32) (w1 : Int32) (w2 : CS), byt w2 → bG id (rec_2 w0 w1 w2)) (hS : byt S) : bG id (f_Pl_addRooms_66 K G rec_2 y_1 y_2 S) := by
  unfold f_Pl_addRooms_66
  exact g_lv (fun x_9 => (hrec_2 _ _ _ hS))
theorem b_Pl_addRooms_2 {K : Nat} {G : CG} : ∀ (k : Nat) (y_1 : Int32) (y_2 : Int32) (S : CS), byt S → bG id (f_Pl_addRooms_2 K G k y_1 y_2 S) := by
  intro k
  induction k with
  | zero => intro y_1 y_2 S _; rw [f_Pl_addRooms_2]; exact g_none
  | succ k ih => intro y_1 y_2 S hS; rw [f_Pl_addRooms_2]; exact g_if (g_some hS) (g_if (g_some hS) (g_g (g_if (g_if ((b_Pl_addRooms_66 (fun w0 w1 w2 w3 => ih w0 w1 w2 w3) hS)) (g_g (g_ls hS (fun S_7 hS_7 => g_ls hS_7 (fun S_8 hS_8 => (b_Pl_addRooms_66 (fun w0 w1 w2 w3 => ih w0 w1 w2 w3) hS_8)))))) ((b_Pl_addRooms_66 (fun w0 w1 w2 w3 => ih w0 w1 w2 w3) hS)))))
theorem b_Pl_addRooms {K : Nat} {G : CG} {S : CS} {p0 : Int32} (hS : byt S) : bG id (f_Pl_addRooms K G S p0) := by
  unfold f_Pl_addRooms
  exact (b_Pl_addRooms_2 _ _ _ _ hS)
theorem b_Pl_findRooms_41 {K : Nat} {G : CG} {rec_7 : Int32 → Int32 → CS → Option (CS)} {y_1 : Int32} {y_2 : Int32} {S : CS} (hrec_7 : ∀ (w0 : Int32) (w1 : Int32) (w2 : CS), byt w2 → bG id (rec_7 w0 w1 w2)) (hS : byt S) : bG id (f_Pl_findRooms_41 K G rec_7 y_1 y_2 S) := by
  unfold f_Pl_findRooms_41
  exact g_lv (fun x_9 => (hrec_7 _ _ _ hS))
theorem b_Pl_findRooms_7 {K : Nat} {G : CG} : ∀ (k : Nat) (y_1 : Int32) (y_2 : Int32) (S : CS), byt S → bG id (f_Pl_findRooms_7 K G k y_1 y_2 S) := by
  intro k
  induction k with
  | zero => intro y_1 y_2 S _; rw [f_Pl_findRooms_7]; exact g_none
  | succ k ih => intro y_1 y_2 S hS; rw [f_Pl_findRooms_7]; exact g_if (g_some hS) (g_c (b_Tb_isFree hS) (fun r_3 S_3 hS_3 => g_if ((b_Pl_findRooms_41 (fun w0 w1 w2 w3 => ih w0 w1 w2 w3) hS_3)) (g_g (g_if (g_c (b_Pl_blockOfCluster hS_3) (fun r_7 S_7 hS_7 => g_b (b_Pl_addRooms hS_7) (fun S_8 hS_8 => (b_Pl_findRooms_41 (fun w0 w1 w2 w3 => ih w0 w1 w2 w3) hS_8)))) ((b_Pl_findRooms_41 (fun w0 w1 w2 w3 => ih w0 w1 w2 w3) hS_3))))))
theorem b_Pl_findRooms {K : Nat} {G : CG} {S : CS} {p0 : Int32} (hS : byt S) : bG id (f_Pl_findRooms K G S p0) := by
  unfold f_Pl_findRooms
  exact g_ls hS (fun S_1 hS_1 => (b_Pl_findRooms_7 _ _ _ _ hS_1))
theorem b_Pl_hasFixed_46 {K : Nat} {G : CG} {rec_8 : Int32 → Int32 → CS → Option (Int32 × CS)} {y_2 : Int32} {y_3 : Int32} {S : CS} (hrec_8 : ∀ (w0 : Int32) (w1 : Int32) (w2 : CS), byt w2 → bG Prod.snd (rec_8 w0 w1 w2)) (hS : byt S) : bG Prod.snd (f_Pl_hasFixed_46 K G rec_8 y_2 y_3 S) := by
  unfold f_Pl_hasFixed_46
  exact g_lv (fun x_7 => (hrec_8 _ _ _ hS))
theorem b_Pl_hasFixed_8 {K : Nat} {G : CG} : ∀ (k : Nat) (y_2 : Int32) (y_3 : Int32) (S : CS), byt S → bG Prod.snd (f_Pl_hasFixed_8 K G k y_2 y_3 S) := by
  intro k
  induction k with
  | zero => intro y_2 y_3 S _; rw [f_Pl_hasFixed_8]; exact g_none
  | succ k ih => intro y_2 y_3 S hS; rw [f_Pl_hasFixed_8]; exact g_if (g_some hS) (g_if ((b_Pl_hasFixed_46 (fun w0 w1 w2 w3 => ih w0 w1 w2 w3) hS)) (g_if ((b_Pl_hasFixed_46 (fun w0 w1 w2 w3 => ih w0 w1 w2 w3) hS)) (g_g (g_if ((b_Pl_hasFixed_46 (fun w0 w1 w2 w3 => ih w0 w1 w2 w3) hS)) (g_some hS)))))
theorem b_Pl_hasFixed {K : Nat} {G : CG} {S : CS} {p0 : Int32} (hS : byt S) : bG Prod.snd (f_Pl_hasFixed K G S p0) := by
  unfold f_Pl_hasFixed
  exact g_c (b_Pl_blockOfCluster hS) (fun r_1 S_1 hS_1 => (b_Pl_hasFixed_8 _ _ _ _ hS_1))
theorem b_Pl_aim_111 {K : Nat} {G : CG} {rec_51 : Int32 → Int32 → Int32 → CS → Option (Int32 × CS)} {rec_82 : Int32 → Int32 → Int32 → Int32 → CS → Option (Int32 × CS)} {y_1 : Int32} {y_2 : Int32} {y_3 : Int32} {y_4 : Int32} {S : CS} (hrec_51 : ∀ (w0 : Int32) (w1 : Int32) (w2 : Int32) (w3 : CS), byt w3 → bG Prod.snd (rec_51 w0 w1 w2 w3)) (hrec_82 : ∀ (w0 : Int32) (w1 : Int32) (w2 : Int32) (w3 : Int32) (w4 : CS), byt w4 → bG Prod.snd (rec_82 w0 w1 w2 w3 w4)) (hS : byt S) : bG Prod.snd (f_Pl_aim_111 K G rec_51 rec_82 y_1 y_2 y_3 y_4 S) := by
  unfold f_Pl_aim_111
  exact g_lv (fun x_21 => (hrec_82 _ _ _ _ _ hS))
theorem b_Pl_aim_172 {K : Nat} {G : CG} {rec_51 : Int32 → Int32 → Int32 → CS → Option (Int32 × CS)} {y_1 : Int32} {y_2 : Int32} {y_3 : Int32} {S : CS} (hrec_51 : ∀ (w0 : Int32) (w1 : Int32) (w2 : Int32) (w3 : CS), byt w3 → bG Prod.snd (rec_51 w0 w1 w2 w3)) (hS : byt S) : bG Prod.snd (f_Pl_aim_172 K G rec_51 y_1 y_2 y_3 S) := by
  unfold f_Pl_aim_172
  exact g_lv (fun x_29 => (hrec_51 _ _ _ _ hS))
theorem b_Pl_aim_144 {K : Nat} {G : CG} {rec_51 : Int32 → Int32 → Int32 → CS → Option (Int32 × CS)} {y_1 : Int32} {y_2 : Int32} {y_3 : Int32} {y_4 : Int32} {z_1 : Int32} {z_2 : Int32} {S : CS} (hrec_51 : ∀ (w0 : Int32) (w1 : Int32) (w2 : Int32) (w3 : CS), byt w3 → bG Prod.snd (rec_51 w0 w1 w2 w3)) (hS : byt S) : bG Prod.snd (f_Pl_aim_144 K G rec_51 y_1 y_2 y_3 y_4 z_1 z_2 S) := by
  unfold f_Pl_aim_144
  exact g_b (b_Tb_setGoal hS) (fun S_23 hS_23 => g_if ((b_Pl_aim_172 hrec_51 hS_23)) (g_g (g_ls hS_23 (fun S_26 hS_26 => g_ls hS_26 (fun S_27 hS_27 => g_lv (fun x_28 => (b_Pl_aim_172 hrec_51 hS_27)))))))
theorem b_Pl_aim_129 {K : Nat} {G : CG} {rec_51 : Int32 → Int32 → Int32 → CS → Option (Int32 × CS)} {y_1 : Int32} {y_2 : Int32} {y_3 : Int32} {y_4 : Int32} {S : CS} (hrec_51 : ∀ (w0 : Int32) (w1 : Int32) (w2 : Int32) (w3 : CS), byt w3 → bG Prod.snd (rec_51 w0 w1 w2 w3)) (hS : byt S) : bG Prod.snd (f_Pl_aim_129 K G rec_51 y_1 y_2 y_3 y_4 S) := by
  unfold f_Pl_aim_129
  exact g_if ((b_Pl_aim_144 hrec_51 hS)) ((b_Pl_aim_144 hrec_51 hS))
theorem b_Pl_aim_117 {K : Nat} {G : CG} {rec_51 : Int32 → Int32 → Int32 → CS → Option (Int32 × CS)} {y_1 : Int32} {y_2 : Int32} {y_3 : Int32} {y_4 : Int32} {S : CS} (hrec_51 : ∀ (w0 : Int32) (w1 : Int32) (w2 : Int32) (w3 : CS), byt w3 → bG Prod.snd (rec_51 w0 w1 w2 w3)) (hS : byt S) : bG Prod.snd (f_Pl_aim_117 K G rec_51 y_1 y_2 y_3 y_4 S) := by
  unfold f_Pl_aim_117
  exact g_if ((b_Pl_aim_129 hrec_51 hS)) (g_if ((b_Pl_aim_129 hrec_51 hS)) (g_some hS))
theorem b_Pl_aim_82 {K : Nat} {G : CG} {rec_51 : Int32 → Int32 → Int32 → CS → Option (Int32 × CS)} (hrec_51 : ∀ (w0 : Int32) (w1 : Int32) (w2 : Int32) (w3 : CS), byt w3 → bG Prod.snd (rec_51 w0 w1 w2 w3)) : ∀ (k : Nat) (y_1 : Int32) (y_2 : Int32) (y_3 : Int32) (y_4 : Int32) (S : CS), byt S → bG Prod.snd (f_Pl_aim_82 K G rec_51 k y_1 y_2 y_3 y_4 S) := by
  intro k
  induction k with
  | zero => intro y_1 y_2 y_3 y_4 S _; rw [f_Pl_aim_82]; exact g_none
  | succ k ih => intro y_1 y_2 y_3 y_4 S hS; rw [f_Pl_aim_82]; exact g_if ((b_Pl_aim_117 hrec_51 hS)) (g_if ((b_Pl_aim_117 hrec_51 hS)) (g_c (b_Tb_isFree hS) (fun r_15 S_15 hS_15 => g_if ((b_Pl_aim_111 hrec_51 (fun w0 w1 w2 w3 w4 w5 => ih w0 w1 w2 w3 w4 w5) hS_15)) (g_c (b_Pl_hasFixed hS_15) (fun r_17 S_17 hS_17 => g_if ((b_Pl_aim_117 hrec_51 hS_17)) ((b_Pl_aim_111 hrec_51 (fun w0 w1 w2 w3 w4 w5 => ih w0 w1 w2 w3 w4 w5) hS_17)))))))
theorem b_Pl_aim_80 {K : Nat} {G : CG} {rec_51 : Int32 → Int32 → Int32 → CS → Option (Int32 × CS)} {y_1 : Int32} {y_2 : Int32} {y_3 : Int32} {z_0 : Int32} {S : CS} (hrec_51 : ∀ (w0 : Int32) (w1 : Int32) (w2 : Int32) (w3 : CS), byt w3 → bG Prod.snd (rec_51 w0 w1 w2 w3)) (hS : byt S) : bG Prod.snd (f_Pl_aim_80 K G rec_51 y_1 y_2 y_3 z_0 S) := by
  unfold f_Pl_aim_80
  exact (b_Pl_aim_82 hrec_51 _ _ _ _ _ _ hS)
theorem b_Pl_aim_79 {K : Nat} {G : CG} {rec_51 : Int32 → Int32 → Int32 → CS → Option (Int32 × CS)} {y_1 : Int32} {y_2 : Int32} {y_3 : Int32} {S : CS} (hrec_51 : ∀ (w0 : Int32) (w1 : Int32) (w2 : Int32) (w3 : CS), byt w3 → bG Prod.snd (rec_51 w0 w1 w2 w3)) (hS : byt S) : bG Prod.snd (f_Pl_aim_79 K G rec_51 y_1 y_2 y_3 S) := by
  unfold f_Pl_aim_79
  exact (b_Pl_aim_80 hrec_51 hS)
theorem b_Pl_aim_51 {K : Nat} {G : CG} : ∀ (k : Nat) (y_1 : Int32) (y_2 : Int32) (y_3 : Int32) (S : CS), byt S → bG Prod.snd (f_Pl_aim_51 K G k y_1 y_2 y_3 S) := by
  intro k
  induction k with
  | zero => intro y_1 y_2 y_3 S _; rw [f_Pl_aim_51]; exact g_none
  | succ k ih => intro y_1 y_2 y_3 S hS; rw [f_Pl_aim_51]; exact g_if (g_b (b_Pl_findRooms hS) (fun S_8 hS_8 => g_some hS_8)) (g_c (b_Tb_isFree hS) (fun r_9 S_9 hS_9 => g_if (g_c (b_Pl_hasFixed hS_9) (fun r_11 S_11 hS_11 => g_if ((b_Pl_aim_79 (fun w0 w1 w2 w3 w4 => ih w0 w1 w2 w3 w4) hS_11)) ((b_Pl_aim_80 (fun w0 w1 w2 w3 w4 => ih w0 w1 w2 w3 w4) hS_11)))) ((b_Pl_aim_79 (fun w0 w1 w2 w3 w4 => ih w0 w1 w2 w3 w4) hS_9))))
theorem b_Pl_aim_20 {K : Nat} {G : CG} : ∀ (k : Nat) (y_1 : Int32) (y_2 : Int32) (S : CS), byt S → bG Prod.snd (f_Pl_aim_20 K G k y_1 y_2 S) := by
  intro k
  induction k with
  | zero => intro y_1 y_2 S _; rw [f_Pl_aim_20]; exact g_none
  | succ k ih => intro y_1 y_2 S hS; rw [f_Pl_aim_20]; exact g_if (g_ls hS (fun S_3 hS_3 => (b_Pl_aim_51 _ _ _ _ _ hS_3))) (g_g (g_ls hS (fun S_5 hS_5 => g_lv (fun x_6 => (ih _ _ _ hS_5)))))
theorem b_Pl_aim {K : Nat} {G : CG} {S : CS} (hS : byt S) : bG Prod.snd (f_Pl_aim K G S) := by
  unfold f_Pl_aim
  exact g_lv (fun x_1 => (b_Pl_aim_20 _ _ _ _ hS))
theorem b_Pl_room_21 {K : Nat} {G : CG} {S : CS} (hS : byt S) : bG Prod.snd (f_Pl_room_21 K G S) := by
  unfold f_Pl_room_21
  exact g_some hS
theorem b_Pl_room {K : Nat} {G : CG} {S : CS} {p0 : Int32} (hS : byt S) : bG Prod.snd (f_Pl_room K G S p0) := by
  unfold f_Pl_room
  exact g_if ((b_Pl_room_21 hS)) (g_if ((b_Pl_room_21 hS)) (g_g (g_some hS)))
theorem b_Pl_addToList {K : Nat} {G : CG} {S : CS} {p0 : Int32} (hS : byt S) : bG id (f_Pl_addToList K G S p0) := by
  unfold f_Pl_addToList
  exact g_if (g_some hS) (g_g (g_ls hS (fun S_3 hS_3 => g_ls hS_3 (fun S_4 hS_4 => g_some hS_4))))
theorem b_Pl_listChain_121 {K : Nat} {G : CG} {rec_30 : Int32 → Int32 → Int32 → Int32 → Int32 → CS → Option (CS)} {y_3 : Int32} {y_4 : Int32} {y_5 : Int32} {y_6 : Int32} {y_7 : Int32} {S : CS} (hrec_30 : ∀ (w0 : Int32) (w1 : Int32) (w2 : Int32) (w3 : Int32) (w4 : Int32) (w5 : CS), byt w5 → bG id (rec_30 w0 w1 w2 w3 w4 w5)) (hS : byt S) : bG id (f_Pl_listChain_121 K G rec_30 y_3 y_4 y_5 y_6 y_7 S) := by
  unfold f_Pl_listChain_121
  exact g_c (b_Tb_nextOf hS) (fun r_14 S_14 hS_14 => g_lv (fun x_15 => (hrec_30 _ _ _ _ _ _ hS_14)))
theorem b_Pl_listChain_85 {K : Nat} {G : CG} {rec_30 : Int32 → Int32 → Int32 → Int32 → Int32 → CS → Option (CS)} (hrec_30 : ∀ (w0 : Int32) (w1 : Int32) (w2 : Int32) (w3 : Int32) (w4 : Int32) (w5 : CS), byt w5 → bG id (rec_30 w0 w1 w2 w3 w4 w5)) : ∀ (k : Nat) (y_3 : Int32) (y_4 : Int32) (y_5 : Int32) (y_6 : Int32) (y_7 : Int32) (y_8 : Int32) (y_9 : Int32) (S : CS), byt S → bG id (f_Pl_listChain_85 K G rec_30 k y_3 y_4 y_5 y_6 y_7 y_8 y_9 S) := by
  intro k
  induction k with
  | zero => intro y_3 y_4 y_5 y_6 y_7 y_8 y_9 S _; rw [f_Pl_listChain_85]; exact g_none
  | succ k ih => intro y_3 y_4 y_5 y_6 y_7 y_8 y_9 S hS; rw [f_Pl_listChain_85]; exact g_if ((b_Pl_listChain_121 hrec_30 hS)) (g_if ((b_Pl_listChain_121 hrec_30 hS)) (g_b (b_Pl_addToList hS) (fun S_11 hS_11 => g_lv (fun x_12 => g_lv (fun x_13 => (ih _ _ _ _ _ _ _ _ hS_11))))))
theorem b_Pl_listChain_80 {K : Nat} {G : CG} {rec_30 : Int32 → Int32 → Int32 → Int32 → Int32 → CS → Option (CS)} {y_3 : Int32} {y_4 : Int32} {y_5 : Int32} {y_6 : Int32} {y_7 : Int32} {z_0 : Int32} {S : CS} (hrec_30 : ∀ (w0 : Int32) (w1 : Int32) (w2 : Int32) (w3 : Int32) (w4 : Int32) (w5 : CS), byt w5 → bG id (rec_30 w0 w1 w2 w3 w4 w5)) (hS : byt S) : bG id (f_Pl_listChain_80 K G rec_30 y_3 y_4 y_5 y_6 y_7 z_0 S) := by
  unfold f_Pl_listChain_80
  exact (b_Pl_listChain_85 hrec_30 _ _ _ _ _ _ _ _ _ hS)
theorem b_Pl_listChain_30 {K : Nat} {G : CG} : ∀ (k : Nat) (y_3 : Int32) (y_4 : Int32) (y_5 : Int32) (y_6 : Int32) (y_7 : Int32) (S : CS), byt S → bG id (f_Pl_listChain_30 K G k y_3 y_4 y_5 y_6 y_7 S) := by
  intro k
  induction k with
  | zero => intro y_3 y_4 y_5 y_6 y_7 S _; rw [f_Pl_listChain_30]; exact g_none
  | succ k ih => intro y_3 y_4 y_5 y_6 y_7 S hS; rw [f_Pl_listChain_30]; exact g_if (g_some hS) (g_c (b_Tb_nextOf hS) (fun r_4 S_4 hS_4 => g_if (g_some hS_4) (g_c (b_Tb_goalOf hS_4) (fun r_6 S_6 hS_6 => g_if ((b_Pl_listChain_80 (fun w0 w1 w2 w3 w4 w5 w6 => ih w0 w1 w2 w3 w4 w5 w6) hS_6)) (g_c (b_Tb_goalOf hS_6) (fun r_8 S_8 hS_8 => (b_Pl_listChain_80 (fun w0 w1 w2 w3 w4 w5 w6 => ih w0 w1 w2 w3 w4 w5 w6) hS_8)))))))
theorem b_Pl_listChain {K : Nat} {G : CG} {S : CS} {p0 : Int32} {p1 : Int32} (hS : byt S) : bG id (f_Pl_listChain K G S p0 p1) := by
  unfold f_Pl_listChain
  exact g_lv (fun x_1 => g_lv (fun x_2 => (b_Pl_listChain_30 _ _ _ _ _ _ _ hS)))
theorem b_Pl_gather_152 {K : Nat} {G : CG} {rec_105 : Int32 → Int32 → CS → Option (CS)} {y_1 : Int32} {y_4 : Int32} {S : CS} (hrec_105 : ∀ (w0 : Int32) (w1 : Int32) (w2 : CS), byt w2 → bG id (rec_105 w0 w1 w2)) (hS : byt S) : bG id (f_Pl_gather_152 K G rec_105 y_1 y_4 S) := by
  unfold f_Pl_gather_152
  exact g_lv (fun x_26 => (hrec_105 _ _ _ hS))
theorem b_Pl_gather_158 {K : Nat} {G : CG} {y_1 : Int32} {S : CS} (hS : byt S) : bG id (f_Pl_gather_158 K G y_1 S) := by
  unfold f_Pl_gather_158
  exact g_if (g_some hS) (g_c (b_Tr_isDirectory hS) (fun r_21 S_21 hS_21 => g_if (g_c (b_Tr_firstOf hS_21) (fun r_23 S_23 hS_23 => g_c (b_Tr_sizeOf hS_23) (fun r_24 S_24 hS_24 => g_b (b_Pl_listChain hS_24) (fun S_25 hS_25 => g_some hS_25)))) (g_some hS_21)))
theorem b_Pl_gather_105 {K : Nat} {G : CG} : ∀ (k : Nat) (y_1 : Int32) (y_4 : Int32) (S : CS), byt S → bG id (f_Pl_gather_105 K G k y_1 y_4 S) := by
  intro k
  induction k with
  | zero => intro y_1 y_4 S _; rw [f_Pl_gather_105]; exact g_none
  | succ k ih => intro y_1 y_4 S hS; rw [f_Pl_gather_105]; exact g_if (g_if ((b_Pl_gather_158 hS)) (g_c (b_Tr_isDirectory hS) (fun r_16 S_16 hS_16 => g_if ((b_Pl_gather_152 (fun w0 w1 w2 w3 => ih w0 w1 w2 w3) hS_16)) (g_c (b_Tr_firstOf hS_16) (fun r_18 S_18 hS_18 => g_b (b_Pl_listChain hS_18) (fun S_19 hS_19 => (b_Pl_gather_152 (fun w0 w1 w2 w3 => ih w0 w1 w2 w3) hS_19))))))) ((b_Pl_gather_158 hS))
theorem b_Pl_gather_102 {K : Nat} {G : CG} {y_1 : Int32} {S : CS} (hS : byt S) : bG id (f_Pl_gather_102 K G y_1 S) := by
  unfold f_Pl_gather_102
  exact (b_Pl_gather_105 _ _ _ _ hS)
theorem b_Pl_gather_71 {K : Nat} {G : CG} : ∀ (k : Nat) (y_1 : Int32) (y_4 : Int32) (S : CS), byt S → bG id (f_Pl_gather_71 K G k y_1 y_4 S) := by
  intro k
  induction k with
  | zero => intro y_1 y_4 S _; rw [f_Pl_gather_71]; exact g_none
  | succ k ih => intro y_1 y_4 S hS; rw [f_Pl_gather_71]; exact g_if (g_if ((b_Pl_gather_102 hS)) (g_b (b_Pl_addToList hS) (fun S_12 hS_12 => g_lv (fun x_13 => (ih _ _ _ hS_12))))) ((b_Pl_gather_102 hS))
theorem b_Pl_gather_44 {K : Nat} {G : CG} : ∀ (k : Nat) (y_1 : Int32) (y_2 : Int32) (y_3 : Int32) (y_4 : Int32) (S : CS), byt S → bG id (f_Pl_gather_44 K G k y_1 y_2 y_3 y_4 S) := by
  intro k
  induction k with
  | zero => intro y_1 y_2 y_3 y_4 S _; rw [f_Pl_gather_44]; exact g_none
  | succ k ih => intro y_1 y_2 y_3 y_4 S hS; rw [f_Pl_gather_44]; exact g_if ((b_Pl_gather_71 _ _ _ _ hS)) (g_c (b_Pl_room hS) (fun r_7 S_7 hS_7 => g_b (b_Pl_addToList hS_7) (fun S_8 hS_8 => g_lv (fun x_9 => (ih _ _ _ _ _ hS_8)))))
theorem b_Pl_gather_40 {K : Nat} {G : CG} {y_1 : Int32} {y_2 : Int32} {z_0 : Int32} {S : CS} (hS : byt S) : bG id (f_Pl_gather_40 K G y_1 y_2 z_0 S) := by
  unfold f_Pl_gather_40
  exact (b_Pl_gather_44 _ _ _ _ _ _ hS)
theorem b_Pl_gather_22 {K : Nat} {G : CG} {y_1 : Int32} {z_0 : Int32} {S : CS} (hS : byt S) : bG id (f_Pl_gather_22 K G y_1 z_0 S) := by
  unfold f_Pl_gather_22
  exact g_if ((b_Pl_gather_40 hS)) (g_c (b_Tr_builtOf hS) (fun r_5 S_5 hS_5 => (b_Pl_gather_40 hS_5)))
theorem b_Pl_gather {K : Nat} {G : CG} {S : CS} {p0 : Int32} (hS : byt S) : bG id (f_Pl_gather K G S p0) := by
  unfold f_Pl_gather
  exact g_ls hS (fun S_1 hS_1 => g_if ((b_Pl_gather_22 hS_1)) (g_c (b_Tr_builtBlocksOf hS_1) (fun r_3 S_3 hS_3 => (b_Pl_gather_22 hS_3))))
theorem b_Pl_entriesOf_19 {K : Nat} {G : CG} {z_0 : Int32} {z_1 : Int32} {S : CS} (hS : byt S) : bG Prod.snd (f_Pl_entriesOf_19 K G z_0 z_1 S) := by
  unfold f_Pl_entriesOf_19
  exact g_some hS
theorem b_Pl_entriesOf {K : Nat} {G : CG} {S : CS} {p0 : Int32} (hS : byt S) : bG Prod.snd (f_Pl_entriesOf K G S p0) := by
  unfold f_Pl_entriesOf
  exact g_c (b_Tr_countIn hS) (fun r_1 S_1 hS_1 => g_if ((b_Pl_entriesOf_19 hS_1)) ((b_Pl_entriesOf_19 hS_1)))
theorem b_Pl_nameSize {K : Nat} {G : CG} {S : CS} {p0 : Int32} {p1 : Int32} (hS : byt S) : bG Prod.snd (f_Pl_nameSize K G S p0 p1) := by
  unfold f_Pl_nameSize
  exact g_if (g_c (b_Tr_countIn hS) (fun r_2 S_2 hS_2 => g_if (g_some hS_2) (g_c (b_Tr_kid hS_2) (fun r_5 S_5 hS_5 => g_c (b_Tr_nameSize hS_5) (fun r_6 S_6 hS_6 => g_some hS_6))))) (g_some hS)
theorem b_Pl_blocksBuilt_44 {K : Nat} {G : CG} {rec_7 : Int32 → Int32 → Int32 → Int32 → CS → Option (Int32 × CS)} {y_1 : Int32} {y_2 : Int32} {y_3 : Int32} {y_4 : Int32} {y_5 : Int32} {S : CS} (hrec_7 : ∀ (w0 : Int32) (w1 : Int32) (w2 : Int32) (w3 : Int32) (w4 : CS), byt w4 → bG Prod.snd (rec_7 w0 w1 w2 w3 w4)) (hS : byt S) : bG Prod.snd (f_Pl_blocksBuilt_44 K G rec_7 y_1 y_2 y_3 y_4 y_5 S) := by
  unfold f_Pl_blocksBuilt_44
  exact g_lv (fun x_7 => g_lv (fun x_8 => (hrec_7 _ _ _ _ _ hS)))
theorem b_Pl_blocksBuilt_7 {K : Nat} {G : CG} : ∀ (k : Nat) (y_1 : Int32) (y_2 : Int32) (y_3 : Int32) (y_4 : Int32) (S : CS), byt S → bG Prod.snd (f_Pl_blocksBuilt_7 K G k y_1 y_2 y_3 y_4 S) := by
  intro k
  induction k with
  | zero => intro y_1 y_2 y_3 y_4 S _; rw [f_Pl_blocksBuilt_7]; exact g_none
  | succ k ih => intro y_1 y_2 y_3 y_4 S hS; rw [f_Pl_blocksBuilt_7]; exact g_c (b_Pl_entriesOf hS) (fun r_1 S_1 hS_1 => g_if (g_some hS_1) (g_c (b_Pl_nameSize hS_1) (fun r_3 S_3 hS_3 => g_p (fun r_4 => g_if ((b_Pl_blocksBuilt_44 (fun w0 w1 w2 w3 w4 w5 => ih w0 w1 w2 w3 w4 w5) hS_3)) (g_lv (fun x_6 => (b_Pl_blocksBuilt_44 (fun w0 w1 w2 w3 w4 w5 => ih w0 w1 w2 w3 w4 w5) hS_3)))))))
theorem b_Pl_blocksBuilt {K : Nat} {G : CG} {S : CS} {p0 : Int32} (hS : byt S) : bG Prod.snd (f_Pl_blocksBuilt K G S p0) := by
  unfold f_Pl_blocksBuilt
  exact (b_Pl_blocksBuilt_7 _ _ _ _ _ _ hS)
theorem b_Pl_assign_76 {K : Nat} {G : CG} {rec_20 : Int32 → CS → Option (Int32 × CS)} {y_1 : Int32} {S : CS} (hrec_20 : ∀ (w0 : Int32) (w1 : CS), byt w1 → bG Prod.snd (rec_20 w0 w1)) (hS : byt S) : bG Prod.snd (f_Pl_assign_76 K G rec_20 y_1 S) := by
  unfold f_Pl_assign_76
  exact g_lv (fun x_19 => (hrec_20 _ _ hS))
theorem b_Pl_assign_149 {K : Nat} {G : CG} {rec_84 : Int32 → CS → Option (Int32 × CS)} {y_1 : Int32} {S : CS} (hrec_84 : ∀ (w0 : Int32) (w1 : CS), byt w1 → bG Prod.snd (rec_84 w0 w1)) (hS : byt S) : bG Prod.snd (f_Pl_assign_149 K G rec_84 y_1 S) := by
  unfold f_Pl_assign_149
  exact g_lv (fun x_20 => (hrec_84 _ _ hS))
theorem b_Pl_assign_84 {K : Nat} {G : CG} : ∀ (k : Nat) (y_1 : Int32) (S : CS), byt S → bG Prod.snd (f_Pl_assign_84 K G k y_1 S) := by
  intro k
  induction k with
  | zero => intro y_1 S _; rw [f_Pl_assign_84]; exact g_none
  | succ k ih => intro y_1 S hS; rw [f_Pl_assign_84]; exact g_if (g_if (g_some hS) (g_some hS)) (g_c (b_Tr_isDirectory hS) (fun r_13 S_13 hS_13 => g_if (g_b (b_Tr_setBuilt hS_13) (fun S_15 hS_15 => g_c (b_Tr_sizeOf hS_15) (fun r_16 S_16 hS_16 => g_p (fun r_17 => g_ls hS_16 (fun S_18 hS_18 => (b_Pl_assign_149 (fun w0 w1 w2 => ih w0 w1 w2) hS_18)))))) ((b_Pl_assign_149 (fun w0 w1 w2 => ih w0 w1 w2) hS_13))))
theorem b_Pl_assign_20 {K : Nat} {G : CG} : ∀ (k : Nat) (y_1 : Int32) (S : CS), byt S → bG Prod.snd (f_Pl_assign_20 K G k y_1 S) := by
  intro k
  induction k with
  | zero => intro y_1 S _; rw [f_Pl_assign_20]; exact g_none
  | succ k ih => intro y_1 S hS; rw [f_Pl_assign_20]; exact g_if ((b_Pl_assign_84 _ _ _ hS)) (g_c (b_Tr_isDirectory hS) (fun r_5 S_5 hS_5 => g_if ((b_Pl_assign_76 (fun w0 w1 w2 => ih w0 w1 w2) hS_5)) (g_c (b_Pl_blocksBuilt hS_5) (fun r_7 S_7 hS_7 => g_b (b_Tr_setBuilt hS_7) (fun S_8 hS_8 => g_p (fun r_9 => g_ls hS_8 (fun S_10 hS_10 => (b_Pl_assign_76 (fun w0 w1 w2 => ih w0 w1 w2) hS_10))))))))
theorem b_Pl_assign {K : Nat} {G : CG} {S : CS} (hS : byt S) : bG Prod.snd (f_Pl_assign K G S) := by
  unfold f_Pl_assign
  exact g_b (b_Pl_gather hS) (fun S_1 hS_1 => g_p (fun r_2 => g_ls hS_1 (fun S_3 hS_3 => (b_Pl_assign_20 _ _ _ hS_3))))
theorem b_Pl_isUsed_21 {K : Nat} {G : CG} {S : CS} (hS : byt S) : bG Prod.snd (f_Pl_isUsed_21 K G S) := by
  unfold f_Pl_isUsed_21
  exact g_some hS
theorem b_Pl_isUsed {K : Nat} {G : CG} {S : CS} {p0 : Int32} (hS : byt S) : bG Prod.snd (f_Pl_isUsed K G S p0) := by
  unfold f_Pl_isUsed
  exact g_if ((b_Pl_isUsed_21 hS)) (g_if ((b_Pl_isUsed_21 hS)) (g_g (g_if (g_some hS) ((b_Pl_isUsed_21 hS)))))
theorem b_Pl_freeBlocks_33 {K : Nat} {G : CG} {rec_4 : Int32 → Int32 → Int32 → CS → Option (Int32 × CS)} {y_1 : Int32} {y_3 : Int32} {z_0 : Int32} {z_1 : Int32} {S : CS} (hrec_4 : ∀ (w0 : Int32) (w1 : Int32) (w2 : Int32) (w3 : CS), byt w3 → bG Prod.snd (rec_4 w0 w1 w2 w3)) (hS : byt S) : bG Prod.snd (f_Pl_freeBlocks_33 K G rec_4 y_1 y_3 z_0 z_1 S) := by
  unfold f_Pl_freeBlocks_33
  exact g_lv (fun x_6 => g_lv (fun x_7 => (hrec_4 _ _ _ _ hS)))
theorem b_Pl_freeBlocks_4 {K : Nat} {G : CG} : ∀ (k : Nat) (y_1 : Int32) (y_2 : Int32) (y_3 : Int32) (S : CS), byt S → bG Prod.snd (f_Pl_freeBlocks_4 K G k y_1 y_2 y_3 S) := by
  intro k
  induction k with
  | zero => intro y_1 y_2 y_3 S _; rw [f_Pl_freeBlocks_4]; exact g_none
  | succ k ih => intro y_1 y_2 y_3 S hS; rw [f_Pl_freeBlocks_4]; exact g_c (b_Pl_blocksOf hS) (fun r_1 S_1 hS_1 => g_if (g_some hS_1) (g_c (b_Pl_firstBlock hS_1) (fun r_3 S_3 hS_3 => g_c (b_Pl_isUsed hS_3) (fun r_4 S_4 hS_4 => g_if ((b_Pl_freeBlocks_33 (fun w0 w1 w2 w3 w4 => ih w0 w1 w2 w3 w4) hS_4)) ((b_Pl_freeBlocks_33 (fun w0 w1 w2 w3 w4 => ih w0 w1 w2 w3 w4) hS_4))))))
theorem b_Pl_freeBlocks {K : Nat} {G : CG} {S : CS} {p0 : Int32} (hS : byt S) : bG Prod.snd (f_Pl_freeBlocks K G S p0) := by
  unfold f_Pl_freeBlocks
  exact (b_Pl_freeBlocks_4 _ _ _ _ _ hS)
theorem b_Pl_mark {K : Nat} {G : CG} {S : CS} {p0 : Int32} (hS : byt S) : bG id (f_Pl_mark K G S p0) := by
  unfold f_Pl_mark
  exact g_if (g_some hS) (g_if (g_some hS) (g_g (g_ls hS (fun S_4 hS_4 => g_some hS_4))))
theorem b_Pl_firstIndirect {K : Nat} {G : CG} {S : CS} {p0 : Int32} (hS : byt S) : bG Prod.snd (f_Pl_firstIndirect K G S p0) := by
  unfold f_Pl_firstIndirect
  exact g_if (g_some hS) (g_c (b_Tr_isDirectory hS) (fun r_2 S_2 hS_2 => g_if (g_c (b_Tr_builtOf hS_2) (fun r_4 S_4 hS_4 => g_some hS_4)) (g_c (b_Tr_builtOf hS_2) (fun r_5 S_5 hS_5 => g_some hS_5))))
theorem b_Pl_markUsed_82 {K : Nat} {G : CG} {rec_30 : Int32 → CS → Option (CS)} (hrec_30 : ∀ (w0 : Int32) (w1 : CS), byt w1 → bG id (rec_30 w0 w1)) : ∀ (k : Nat) (y_1 : Int32) (y_2 : Int32) (y_3 : Int32) (S : CS), byt S → bG id (f_Pl_markUsed_82 K G rec_30 k y_1 y_2 y_3 S) := by
  intro k
  induction k with
  | zero => intro y_1 y_2 y_3 S _; rw [f_Pl_markUsed_82]; exact g_none
  | succ k ih => intro y_1 y_2 y_3 S hS; rw [f_Pl_markUsed_82]; exact g_if (g_lv (fun x_19 => (hrec_30 _ _ hS))) (g_c (b_Pl_firstIndirect hS) (fun r_20 S_20 hS_20 => g_c (b_Pl_room hS_20) (fun r_21 S_21 hS_21 => g_b (b_Pl_mark hS_21) (fun S_22 hS_22 => g_lv (fun x_23 => (ih _ _ _ _ hS_22))))))
theorem b_Pl_markUsed_48 {K : Nat} {G : CG} {rec_30 : Int32 → CS → Option (CS)} (hrec_30 : ∀ (w0 : Int32) (w1 : CS), byt w1 → bG id (rec_30 w0 w1)) : ∀ (k : Nat) (y_1 : Int32) (y_2 : Int32) (S : CS), byt S → bG id (f_Pl_markUsed_48 K G rec_30 k y_1 y_2 S) := by
  intro k
  induction k with
  | zero => intro y_1 y_2 S _; rw [f_Pl_markUsed_48]; exact g_none
  | succ k ih => intro y_1 y_2 S hS; rw [f_Pl_markUsed_48]; exact g_if (g_p (fun r_14 => (b_Pl_markUsed_82 hrec_30 _ _ _ _ _ hS))) (g_g (g_b (b_Pl_mark hS) (fun S_16 hS_16 => g_lv (fun x_17 => (ih _ _ _ hS_16)))))
theorem b_Pl_markUsed_121 {K : Nat} {G : CG} : ∀ (k : Nat) (y_1 : Int32) (S : CS), byt S → bG id (f_Pl_markUsed_121 K G k y_1 S) := by
  intro k
  induction k with
  | zero => intro y_1 S _; rw [f_Pl_markUsed_121]; exact g_none
  | succ k ih => intro y_1 S hS; rw [f_Pl_markUsed_121]; exact g_if (g_some hS) (g_c (b_Pl_freeBlocks hS) (fun r_10 S_10 hS_10 => g_ls hS_10 (fun S_11 hS_11 => g_lv (fun x_12 => (ih _ _ hS_11)))))
theorem b_Pl_markUsed_30 {K : Nat} {G : CG} : ∀ (k : Nat) (y_1 : Int32) (S : CS), byt S → bG id (f_Pl_markUsed_30 K G k y_1 S) := by
  intro k
  induction k with
  | zero => intro y_1 S _; rw [f_Pl_markUsed_30]; exact g_none
  | succ k ih => intro y_1 S hS; rw [f_Pl_markUsed_30]; exact g_if (g_ls hS (fun S_7 hS_7 => (b_Pl_markUsed_121 _ _ _ hS_7))) (g_b (b_Pl_gather hS) (fun S_8 hS_8 => (b_Pl_markUsed_48 (fun w0 w1 w2 => ih w0 w1 w2) _ _ _ _ hS_8)))
theorem b_Pl_markUsed_2 {K : Nat} {G : CG} : ∀ (k : Nat) (y_1 : Int32) (S : CS), byt S → bG id (f_Pl_markUsed_2 K G k y_1 S) := by
  intro k
  induction k with
  | zero => intro y_1 S _; rw [f_Pl_markUsed_2]; exact g_none
  | succ k ih => intro y_1 S hS; rw [f_Pl_markUsed_2]; exact g_if ((b_Pl_markUsed_30 _ _ _ hS)) (g_g (g_g (g_ls hS (fun S_4 hS_4 => g_lv (fun x_5 => (ih _ _ hS_4))))))
theorem b_Pl_markUsed {K : Nat} {G : CG} {S : CS} (hS : byt S) : bG id (f_Pl_markUsed K G S) := by
  unfold f_Pl_markUsed
  exact (b_Pl_markUsed_2 _ _ _ hS)
theorem b_Pl_refusal_40 {K : Nat} {G : CG} {S : CS} (hS : byt S) : bG Prod.snd (f_Pl_refusal_40 K G S) := by
  unfold f_Pl_refusal_40
  exact g_some hS
theorem b_Pl_refusal_77 {K : Nat} {G : CG} {S : CS} (hS : byt S) : bG Prod.snd (f_Pl_refusal_77 K G S) := by
  unfold f_Pl_refusal_77
  exact g_some hS
theorem b_Pl_refusal {K : Nat} {G : CG} {S : CS} {p0 : Int32} {p1 : Int32} (hS : byt S) : bG Prod.snd (f_Pl_refusal K G S p0 p1) := by
  unfold f_Pl_refusal
  exact g_if (g_if (g_c (b_Pl_divide hS) (fun r_3 S_3 hS_3 => g_if ((b_Pl_refusal_40 hS_3)) (g_c (b_Pl_leastInodes hS_3) (fun r_5 S_5 hS_5 => g_c (b_Pl_layOut hS_5) (fun r_6 S_6 hS_6 => g_if ((b_Pl_refusal_40 hS_6)) (g_c (b_Pl_namesFit hS_6) (fun r_8 S_8 hS_8 => g_if (g_some hS_8) (g_c (b_Pl_timesFit hS_8) (fun r_10 S_10 hS_10 => g_if (g_some hS_10) (g_c (b_Pl_aim hS_10) (fun r_12 S_12 hS_12 => g_if ((b_Pl_refusal_77 hS_12)) (g_c (b_Pl_assign hS_12) (fun r_14 S_14 hS_14 => g_if ((b_Pl_refusal_77 hS_14)) (g_b (b_Pl_markUsed hS_14) (fun S_16 hS_16 => g_some hS_16))))))))))))))) (g_some hS)) (g_some hS)
theorem b_Pl_number {K : Nat} {G : CG} {S : CS} {p0 : Int32} (hS : byt S) : bG Prod.snd (f_Pl_number K G S p0) := by
  unfold f_Pl_number
  exact g_if (g_some hS) (g_if (g_some hS) (g_if (g_some hS) (g_if (g_some hS) (g_if (g_some hS) (g_some hS)))))
theorem b_Pl_recall_37 {K : Nat} {G : CG} {S : CS} (hS : byt S) : bG Prod.snd (f_Pl_recall_37 K G S) := by
  unfold f_Pl_recall_37
  exact g_some hS
theorem b_Pl_recall {K : Nat} {G : CG} {S : CS} {p0 : Int32} {p1 : Int32} (hS : byt S) : bG Prod.snd (f_Pl_recall K G S p0 p1) := by
  unfold f_Pl_recall
  exact g_c (b_Tb_read hS) (fun r_1 S_1 hS_1 => g_if ((b_Pl_recall_37 hS_1)) (g_c (b_Pl_divide hS_1) (fun r_3 S_3 hS_3 => g_if ((b_Pl_recall_37 hS_3)) (g_c (b_Pl_layOut hS_3) (fun r_5 S_5 hS_5 => g_if ((b_Pl_recall_37 hS_5)) (g_c (b_Pl_aim hS_5) (fun r_7 S_7 hS_7 => g_if ((b_Pl_recall_37 hS_7)) (g_some hS_7))))))))
theorem b_Pl_usedInodes {K : Nat} {G : CG} {S : CS} (hS : byt S) : bG Prod.snd (f_Pl_usedInodes K G S) := by
  unfold f_Pl_usedInodes
  exact g_some hS
theorem b_Pl_freeInodes {K : Nat} {G : CG} {S : CS} {p0 : Int32} (hS : byt S) : bG Prod.snd (f_Pl_freeInodes K G S p0) := by
  unfold f_Pl_freeInodes
  exact g_c (b_Pl_usedInodes hS) (fun r_1 S_1 hS_1 => g_lv (fun x_2 => g_some hS_1))
theorem b_Tu_recall_38 {K : Nat} {G : CG} {S : CS} (hS : byt S) : bG Prod.snd (f_Tu_recall_38 K G S) := by
  unfold f_Tu_recall_38
  exact g_some hS
theorem b_Tu_recall {K : Nat} {G : CG} {S : CS} (hS : byt S) : bG Prod.snd (f_Tu_recall K G S) := by
  unfold f_Tu_recall
  exact g_c (b_In_isMarked hS) (fun r_1 S_1 hS_1 => g_if ((b_Tu_recall_38 hS_1)) (g_c (b_In_markedSize hS_1) (fun r_3 S_3 hS_3 => g_c (b_In_markedInodes hS_3) (fun r_4 S_4 hS_4 => g_c (b_Pl_recall hS_4) (fun r_5 S_5 hS_5 => g_if ((b_Tu_recall_38 hS_5)) (g_some hS_5))))))
theorem b_Dk_load_Tublock {K : Nat} {G : CG} {S : CS} {p0 : Int32} {p2 : Int32} (hS : byt S) : bG id (f_Dk_load_Tublock K G S p0 p2) := by
  unfold f_Dk_load_Tublock
  exact g_c (b_Dk_has hS) (fun r_1 S_1 hS_1 => g_if (g_some hS_1) (g_if (g_some hS_1) (g_if (g_some hS_1) (g_g (g_ls (byt_Bc hS_1) (fun S_6 hS_6 => g_some hS_6))))))
theorem b_Dk_store_Tublock_48 {K : Nat} {G : CG} {y_1 : Int32} {y_3 : Int32} {S : CS} (hS : byt S) : bG id (f_Dk_store_Tublock_48 K G y_1 y_3 S) := by
  unfold f_Dk_store_Tublock_48
  exact g_g (g_ls (byt_Dc hS) (fun S_9 hS_9 => g_some hS_9))
theorem b_Dk_store_Tublock {K : Nat} {G : CG} {S : CS} {p0 : Int32} {p2 : Int32} (hS : byt S) : bG id (f_Dk_store_Tublock K G S p0 p2) := by
  unfold f_Dk_store_Tublock
  exact g_if (g_some hS) (g_c (b_Dk_has hS) (fun r_2 S_2 hS_2 => g_if (g_some hS_2) (g_if (g_some hS_2) (g_if (g_if ((b_Dk_store_Tublock_48 hS_2)) (g_ls hS_2 (fun S_7 hS_7 => (b_Dk_store_Tublock_48 hS_7)))) (g_some hS_2)))))
theorem b_Tu_copySector {K : Nat} {G : CG} {S : CS} {p0 : Int32} {p1 : Int32} (hS : byt S) : bG id (f_Tu_copySector K G S p0 p1) := by
  unfold f_Tu_copySector
  exact g_b (b_Dk_load_Tublock hS) (fun S_1 hS_1 => g_b (b_Dk_store_Tublock hS_1) (fun S_2 hS_2 => g_some hS_2))
theorem b_Tu_copyCluster_2 {K : Nat} {G : CG} : ∀ (k : Nat) (y_1 : Int32) (y_2 : Int32) (y_3 : Int32) (S : CS), byt S → bG id (f_Tu_copyCluster_2 K G k y_1 y_2 y_3 S) := by
  intro k
  induction k with
  | zero => intro y_1 y_2 y_3 S _; rw [f_Tu_copyCluster_2]; exact g_none
  | succ k ih => intro y_1 y_2 y_3 S hS; rw [f_Tu_copyCluster_2]; exact g_if (g_some hS) (g_b (b_Tu_copySector hS) (fun S_2 hS_2 => g_lv (fun x_3 => (ih _ _ _ _ hS_2))))
theorem b_Tu_copyCluster {K : Nat} {G : CG} {S : CS} {p0 : Int32} {p1 : Int32} (hS : byt S) : bG id (f_Tu_copyCluster K G S p0 p1) := by
  unfold f_Tu_copyCluster
  exact (b_Tu_copyCluster_2 _ _ _ _ _ hS)
theorem b_Tu_goBack_74 {K : Nat} {G : CG} {rec_27 : Int32 → Int32 → CS → Option (CS)} {y_1 : Int32} {y_2 : Int32} {S : CS} (hrec_27 : ∀ (w0 : Int32) (w1 : Int32) (w2 : CS), byt w2 → bG id (rec_27 w0 w1 w2)) (hS : byt S) : bG id (f_Tu_goBack_74 K G rec_27 y_1 y_2 S) := by
  unfold f_Tu_goBack_74
  exact g_lv (fun x_20 => (hrec_27 _ _ _ hS))
theorem b_Tu_goBack_80 {K : Nat} {G : CG} {y_1 : Int32} {S : CS} (hS : byt S) : bG id (f_Tu_goBack_80 K G y_1 S) := by
  unfold f_Tu_goBack_80
  exact g_b (b_Tu_copySector hS) (fun S_13 hS_13 => g_c (b_Pl_room hS_13) (fun r_14 S_14 hS_14 => g_b (b_Tu_copySector hS_14) (fun S_15 hS_15 => g_c (b_Pl_room hS_15) (fun r_16 S_16 hS_16 => g_b (b_Tu_copySector hS_16) (fun S_17 hS_17 => g_c (b_Pl_room hS_17) (fun r_18 S_18 hS_18 => g_b (b_Tu_copySector hS_18) (fun S_19 hS_19 => g_some hS_19)))))))
theorem b_Tu_goBack_27 {K : Nat} {G : CG} : ∀ (k : Nat) (y_1 : Int32) (y_2 : Int32) (S : CS), byt S → bG id (f_Tu_goBack_27 K G k y_1 y_2 S) := by
  intro k
  induction k with
  | zero => intro y_1 y_2 S _; rw [f_Tu_goBack_27]; exact g_none
  | succ k ih => intro y_1 y_2 S hS; rw [f_Tu_goBack_27]; exact g_if ((b_Tu_goBack_80 hS)) (g_c (b_Dk_isOn hS) (fun r_7 S_7 hS_7 => g_if ((b_Tu_goBack_80 hS_7)) (g_c (b_Tb_goalOf hS_7) (fun r_9 S_9 hS_9 => g_if ((b_Tu_goBack_74 (fun w0 w1 w2 w3 => ih w0 w1 w2 w3) hS_9)) (g_c (b_Tb_goalOf hS_9) (fun r_11 S_11 hS_11 => g_b (b_Tu_copyCluster hS_11) (fun S_12 hS_12 => (b_Tu_goBack_74 (fun w0 w1 w2 w3 => ih w0 w1 w2 w3) hS_12))))))))
theorem b_Tu_goBack {K : Nat} {G : CG} {S : CS} (hS : byt S) : bG id (f_Tu_goBack K G S) := by
  unfold f_Tu_goBack
  exact g_c (b_Tu_recall hS) (fun r_1 S_1 hS_1 => g_if (g_some hS_1) (g_c (b_Pl_room hS_1) (fun r_3 S_3 hS_3 => g_lv (fun x_4 => g_b (b_Tu_copySector hS_3) (fun S_5 hS_5 => (b_Tu_goBack_27 _ _ _ _ hS_5))))))
theorem b_Tu_empty {K : Nat} {G : CG} {S : CS} (hS : byt S) : bG id (f_Tu_empty K G S) := by
  unfold f_Tu_empty
  exact g_ls (byt_Bf hS) (fun S_1 hS_1 => g_some hS_1)
theorem b_Tu_keepSectors {K : Nat} {G : CG} {S : CS} (hS : byt S) : bG id (f_Tu_keepSectors K G S) := by
  unfold f_Tu_keepSectors
  exact g_c (b_Pl_room hS) (fun r_1 S_1 hS_1 => g_b (b_Tu_copySector hS_1) (fun S_2 hS_2 => g_c (b_Pl_room hS_2) (fun r_3 S_3 hS_3 => g_b (b_Tu_copySector hS_3) (fun S_4 hS_4 => g_c (b_Pl_room hS_4) (fun r_5 S_5 hS_5 => g_b (b_Tu_copySector hS_5) (fun S_6 hS_6 => g_c (b_Pl_room hS_6) (fun r_7 S_7 hS_7 => g_b (b_Tu_copySector hS_7) (fun S_8 hS_8 => g_c (b_Pl_room hS_8) (fun r_9 S_9 hS_9 => g_b (b_Tu_copySector hS_9) (fun S_10 hS_10 => g_b (b_Tu_empty hS_10) (fun S_11 hS_11 => g_c (b_Pl_room hS_11) (fun r_12 S_12 hS_12 => g_b (b_Dk_store_Tublock hS_12) (fun S_13 hS_13 => g_some hS_13)))))))))))))
theorem b_Tu_putTwo {K : Nat} {G : CG} {S : CS} {p0 : Int32} {p1 : Int32} (hS : byt S) : bG id (f_Tu_putTwo K G S p0 p1) := by
  unfold f_Tu_putTwo
  exact g_if (g_some hS) (g_if (g_some hS) (g_g (g_ls (byt_Bu hS) (fun S_4 hS_4 => g_g (g_ls (byt_Bu hS_4) (fun S_6 hS_6 => g_some hS_6))))))
theorem b_Tu_storeBlock {K : Nat} {G : CG} {S : CS} {p0 : Int32} (hS : byt S) : bG id (f_Tu_storeBlock K G S p0) := by
  unfold f_Tu_storeBlock
  exact g_b (b_Dk_store_Tublock hS) (fun S_1 hS_1 => g_b (b_Dk_store_Tublock hS_1) (fun S_2 hS_2 => g_some hS_2))
theorem b_Tu_putFour {K : Nat} {G : CG} {S : CS} {p0 : Int32} {p1 : Int32} (hS : byt S) : bG id (f_Tu_putFour K G S p0 p1) := by
  unfold f_Tu_putFour
  exact g_if (g_some hS) (g_if (g_some hS) (g_g (g_ls (byt_Bu hS) (fun S_4 hS_4 => g_g (g_ls (byt_Bu hS_4) (fun S_6 hS_6 => g_g (g_ls (byt_Bu hS_6) (fun S_8 hS_8 => g_g (g_ls (byt_Bu hS_8) (fun S_10 hS_10 => g_some hS_10))))))))))
theorem b_Tu_putOne {K : Nat} {G : CG} {S : CS} {p0 : Int32} {p1 : Int32} (hS : byt S) : bG id (f_Tu_putOne K G S p0 p1) := by
  unfold f_Tu_putOne
  exact g_if (g_some hS) (g_if (g_some hS) (g_g (g_ls (byt_Bu hS) (fun S_4 hS_4 => g_some hS_4))))
theorem b_Tu_putEntry_199 {K : Nat} {G : CG} {rec_142 : Int32 → Int32 → Int32 → Int32 → Int32 → Int32 → CS → Option (CS)} {y_1 : Int32} {y_3 : Int32} {y_4 : Int32} {y_5 : Int32} {y_6 : Int32} {y_7 : Int32} {z_0 : Int32} {S : CS} (hrec_142 : ∀ (w0 : Int32) (w1 : Int32) (w2 : Int32) (w3 : Int32) (w4 : Int32) (w5 : Int32) (w6 : CS), byt w6 → bG id (rec_142 w0 w1 w2 w3 w4 w5 w6)) (hS : byt S) : bG id (f_Tu_putEntry_199 K G rec_142 y_1 y_3 y_4 y_5 y_6 y_7 z_0 S) := by
  unfold f_Tu_putEntry_199
  exact g_b (b_Tu_putOne hS) (fun S_24 hS_24 => g_lv (fun x_25 => (hrec_142 _ _ _ _ _ _ _ hS_24)))
theorem b_Tu_putEntry_142 {K : Nat} {G : CG} : ∀ (k : Nat) (y_1 : Int32) (y_3 : Int32) (y_4 : Int32) (y_5 : Int32) (y_6 : Int32) (y_7 : Int32) (S : CS), byt S → bG id (f_Tu_putEntry_142 K G k y_1 y_3 y_4 y_5 y_6 y_7 S) := by
  intro k
  induction k with
  | zero => intro y_1 y_3 y_4 y_5 y_6 y_7 S _; rw [f_Tu_putEntry_142]; exact g_none
  | succ k ih => intro y_1 y_3 y_4 y_5 y_6 y_7 S hS; rw [f_Tu_putEntry_142]; exact g_if (g_some hS) (g_if (g_if (g_if ((b_Tu_putEntry_199 (fun w0 w1 w2 w3 w4 w5 w6 w7 => ih w0 w1 w2 w3 w4 w5 w6 w7) hS)) (g_p (fun x_22 => (b_Tu_putEntry_199 (fun w0 w1 w2 w3 w4 w5 w6 w7 => ih w0 w1 w2 w3 w4 w5 w6 w7) hS)))) (g_c (b_Tr_nameByte hS) (fun r_23 S_23 hS_23 => (b_Tu_putEntry_199 (fun w0 w1 w2 w3 w4 w5 w6 w7 => ih w0 w1 w2 w3 w4 w5 w6 w7) hS_23)))) ((b_Tu_putEntry_199 (fun w0 w1 w2 w3 w4 w5 w6 w7 => ih w0 w1 w2 w3 w4 w5 w6 w7) hS)))
theorem b_Tu_putEntry_136 {K : Nat} {G : CG} {y_1 : Int32} {y_3 : Int32} {y_4 : Int32} {y_5 : Int32} {y_6 : Int32} {z_1 : Int32} {z_2 : Int32} {S : CS} (hS : byt S) : bG id (f_Tu_putEntry_136 K G y_1 y_3 y_4 y_5 y_6 z_1 z_2 S) := by
  unfold f_Tu_putEntry_136
  exact g_b (b_Tu_putOne hS) (fun S_16 hS_16 => (b_Tu_putEntry_142 _ _ _ _ _ _ _ _ hS_16))
theorem b_Tu_putEntry_101 {K : Nat} {G : CG} {y_1 : Int32} {y_3 : Int32} {y_4 : Int32} {y_5 : Int32} {y_6 : Int32} {z_1 : Int32} {z_2 : Int32} {S : CS} (hS : byt S) : bG id (f_Tu_putEntry_101 K G y_1 y_3 y_4 y_5 y_6 z_1 z_2 S) := by
  unfold f_Tu_putEntry_101
  exact g_b (b_Tu_putFour hS) (fun S_12 hS_12 => g_b (b_Tu_putOne hS_12) (fun S_13 hS_13 => g_c (b_Tr_isDirectory hS_13) (fun r_14 S_14 hS_14 => g_if ((b_Tu_putEntry_136 hS_14)) ((b_Tu_putEntry_136 hS_14)))))
theorem b_Tu_putEntry_70 {K : Nat} {G : CG} {y_1 : Int32} {y_2 : Int32} {y_3 : Int32} {y_4 : Int32} {z_0 : Int32} {S : CS} (hS : byt S) : bG id (f_Tu_putEntry_70 K G y_1 y_2 y_3 y_4 z_0 S) := by
  unfold f_Tu_putEntry_70
  exact g_c (b_Pl_nameSize hS) (fun r_9 S_9 hS_9 => g_if ((b_Tu_putEntry_101 hS_9)) (g_p (fun r_11 => (b_Tu_putEntry_101 hS_9))))
theorem b_Tu_putEntry_24 {K : Nat} {G : CG} {y_1 : Int32} {y_2 : Int32} {y_3 : Int32} {z_0 : Int32} {S : CS} (hS : byt S) : bG id (f_Tu_putEntry_24 K G y_1 y_2 y_3 z_0 S) := by
  unfold f_Tu_putEntry_24
  exact g_if ((b_Tu_putEntry_70 hS)) (g_if (g_c (b_Tr_parentOf hS) (fun r_8 S_8 hS_8 => (b_Tu_putEntry_70 hS_8))) (g_if ((b_Tu_putEntry_70 hS)) (g_c (b_Tr_kid hS) (fun r_7 S_7 hS_7 => (b_Tu_putEntry_70 hS_7)))))
theorem b_Tu_putEntry_23 {K : Nat} {G : CG} {y_1 : Int32} {y_2 : Int32} {y_3 : Int32} {S : CS} (hS : byt S) : bG id (f_Tu_putEntry_23 K G y_1 y_2 y_3 S) := by
  unfold f_Tu_putEntry_23
  exact (b_Tu_putEntry_24 hS)
theorem b_Tu_putEntry {K : Nat} {G : CG} {S : CS} {p0 : Int32} {p1 : Int32} {p2 : Int32} (hS : byt S) : bG id (f_Tu_putEntry K G S p0 p1 p2) := by
  unfold f_Tu_putEntry
  exact g_if ((b_Tu_putEntry_23 hS)) (g_c (b_Tr_countIn hS) (fun r_2 S_2 hS_2 => g_if ((b_Tu_putEntry_23 hS_2)) ((b_Tu_putEntry_24 hS_2))))
theorem b_Tu_buildDirectory_94 {K : Nat} {G : CG} {rec_21 : Int32 → Int32 → Int32 → Int32 → Int32 → CS → Option (CS)} {y_1 : Int32} {y_2 : Int32} {y_3 : Int32} {y_5 : Int32} {y_6 : Int32} {S : CS} (hrec_21 : ∀ (w0 : Int32) (w1 : Int32) (w2 : Int32) (w3 : Int32) (w4 : Int32) (w5 : CS), byt w5 → bG id (rec_21 w0 w1 w2 w3 w4 w5)) (hS : byt S) : bG id (f_Tu_buildDirectory_94 K G rec_21 y_1 y_2 y_3 y_5 y_6 S) := by
  unfold f_Tu_buildDirectory_94
  exact g_b (b_Tu_putEntry hS) (fun S_16 hS_16 => g_b (b_Tu_putTwo hS_16) (fun S_17 hS_17 => g_lv (fun x_18 => g_lv (fun x_19 => (hrec_21 _ _ _ _ _ _ hS_17)))))
theorem b_Tu_buildDirectory_21 {K : Nat} {G : CG} : ∀ (k : Nat) (y_1 : Int32) (y_2 : Int32) (y_3 : Int32) (y_4 : Int32) (y_5 : Int32) (S : CS), byt S → bG id (f_Tu_buildDirectory_21 K G k y_1 y_2 y_3 y_4 y_5 S) := by
  intro k
  induction k with
  | zero => intro y_1 y_2 y_3 y_4 y_5 S _; rw [f_Tu_buildDirectory_21]; exact g_none
  | succ k ih => intro y_1 y_2 y_3 y_4 y_5 S hS; rw [f_Tu_buildDirectory_21]; exact g_c (b_Pl_entriesOf hS) (fun r_3 S_3 hS_3 => g_if (g_b (b_Tu_putTwo hS_3) (fun S_5 hS_5 => g_c (b_Pl_room hS_5) (fun r_6 S_6 hS_6 => g_b (b_Tu_storeBlock hS_6) (fun S_7 hS_7 => g_some hS_7)))) (g_c (b_Pl_nameSize hS_3) (fun r_8 S_8 hS_8 => g_p (fun r_9 => g_if ((b_Tu_buildDirectory_94 (fun w0 w1 w2 w3 w4 w5 w6 => ih w0 w1 w2 w3 w4 w5 w6) hS_8)) (g_b (b_Tu_putTwo hS_8) (fun S_11 hS_11 => g_c (b_Pl_room hS_11) (fun r_12 S_12 hS_12 => g_b (b_Tu_storeBlock hS_12) (fun S_13 hS_13 => g_b (b_Tu_empty hS_13) (fun S_14 hS_14 => g_lv (fun x_15 => (b_Tu_buildDirectory_94 (fun w0 w1 w2 w3 w4 w5 w6 => ih w0 w1 w2 w3 w4 w5 w6) hS_14)))))))))))
theorem b_Tu_buildDirectory {K : Nat} {G : CG} {S : CS} {p0 : Int32} (hS : byt S) : bG id (f_Tu_buildDirectory K G S p0) := by
  unfold f_Tu_buildDirectory
  exact g_c (b_Tr_builtOf hS) (fun r_1 S_1 hS_1 => g_b (b_Tu_empty hS_1) (fun S_2 hS_2 => (b_Tu_buildDirectory_21 _ _ _ _ _ _ _ hS_2)))
theorem b_Tu_putPointers_6 {K : Nat} {G : CG} : ∀ (k : Nat) (y_1 : Int32) (y_2 : Int32) (S : CS), byt S → bG id (f_Tu_putPointers_6 K G k y_1 y_2 S) := by
  intro k
  induction k with
  | zero => intro y_1 y_2 S _; rw [f_Tu_putPointers_6]; exact g_none
  | succ k ih => intro y_1 y_2 S hS; rw [f_Tu_putPointers_6]; exact g_if (g_some hS) (g_if (g_some hS) (g_g (g_b (b_Tu_putFour hS) (fun S_5 hS_5 => g_lv (fun x_6 => (ih _ _ _ hS_5))))))
theorem b_Tu_putPointers {K : Nat} {G : CG} {S : CS} {p0 : Int32} (hS : byt S) : bG id (f_Tu_putPointers K G S p0) := by
  unfold f_Tu_putPointers
  exact g_b (b_Tu_empty hS) (fun S_1 hS_1 => (b_Tu_putPointers_6 _ _ _ _ hS_1))
theorem b_Tu_buildIndirects_112 {K : Nat} {G : CG} : ∀ (k : Nat) (y_2 : Int32) (y_3 : Int32) (y_4 : Int32) (S : CS), byt S → bG id (f_Tu_buildIndirects_112 K G k y_2 y_3 y_4 S) := by
  intro k
  induction k with
  | zero => intro y_2 y_3 y_4 S _; rw [f_Tu_buildIndirects_112]; exact g_none
  | succ k ih => intro y_2 y_3 y_4 S hS; rw [f_Tu_buildIndirects_112]; exact g_if (g_some hS) (g_b (b_Tu_putPointers hS) (fun S_17 hS_17 => g_c (b_Pl_room hS_17) (fun r_18 S_18 hS_18 => g_b (b_Tu_storeBlock hS_18) (fun S_19 hS_19 => g_lv (fun x_20 => (ih _ _ _ _ hS_19))))))
theorem b_Tu_buildIndirects_109 {K : Nat} {G : CG} {y_2 : Int32} {y_3 : Int32} {S : CS} (hS : byt S) : bG id (f_Tu_buildIndirects_109 K G y_2 y_3 S) := by
  unfold f_Tu_buildIndirects_109
  exact (b_Tu_buildIndirects_112 _ _ _ _ _ hS)
theorem b_Tu_buildIndirects_62 {K : Nat} {G : CG} : ∀ (k : Nat) (y_2 : Int32) (y_3 : Int32) (y_4 : Int32) (S : CS), byt S → bG id (f_Tu_buildIndirects_62 K G k y_2 y_3 y_4 S) := by
  intro k
  induction k with
  | zero => intro y_2 y_3 y_4 S _; rw [f_Tu_buildIndirects_62]; exact g_none
  | succ k ih => intro y_2 y_3 y_4 S hS; rw [f_Tu_buildIndirects_62]; exact g_if (g_c (b_Pl_room hS) (fun r_11 S_11 hS_11 => g_b (b_Tu_storeBlock hS_11) (fun S_12 hS_12 => (b_Tu_buildIndirects_109 hS_12)))) (g_c (b_Pl_room hS) (fun r_13 S_13 hS_13 => g_b (b_Tu_putFour hS_13) (fun S_14 hS_14 => g_lv (fun x_15 => (ih _ _ _ _ hS_14)))))
theorem b_Tu_buildIndirects_50 {K : Nat} {G : CG} {y_2 : Int32} {y_3 : Int32} {S : CS} (hS : byt S) : bG id (f_Tu_buildIndirects_50 K G y_2 y_3 S) := by
  unfold f_Tu_buildIndirects_50
  exact g_if ((b_Tu_buildIndirects_109 hS)) (g_b (b_Tu_empty hS) (fun S_9 hS_9 => (b_Tu_buildIndirects_62 _ _ _ _ _ hS_9)))
theorem b_Tu_buildIndirects {K : Nat} {G : CG} {S : CS} {p0 : Int32} (hS : byt S) : bG id (f_Tu_buildIndirects K G S p0) := by
  unfold f_Tu_buildIndirects
  exact g_b (b_Pl_gather hS) (fun S_1 hS_1 => g_c (b_Pl_firstIndirect hS_1) (fun r_2 S_2 hS_2 => g_p (fun r_3 => g_if ((b_Tu_buildIndirects_50 hS_2)) (g_b (b_Tu_putPointers hS_2) (fun S_5 hS_5 => g_c (b_Pl_room hS_5) (fun r_6 S_6 hS_6 => g_b (b_Tu_storeBlock hS_6) (fun S_7 hS_7 => (b_Tu_buildIndirects_50 hS_7))))))))
theorem b_Tu_prepare_49 {K : Nat} {G : CG} {rec_2 : Int32 → CS → Option (CS)} {y_1 : Int32} {S : CS} (hrec_2 : ∀ (w0 : Int32) (w1 : CS), byt w1 → bG id (rec_2 w0 w1)) (hS : byt S) : bG id (f_Tu_prepare_49 K G rec_2 y_1 S) := by
  unfold f_Tu_prepare_49
  exact g_lv (fun x_9 => (hrec_2 _ _ hS))
theorem b_Tu_prepare_98 {K : Nat} {G : CG} {rec_61 : Int32 → CS → Option (CS)} {y_1 : Int32} {S : CS} (hrec_61 : ∀ (w0 : Int32) (w1 : CS), byt w1 → bG id (rec_61 w0 w1)) (hS : byt S) : bG id (f_Tu_prepare_98 K G rec_61 y_1 S) := by
  unfold f_Tu_prepare_98
  exact g_b (b_Tu_buildIndirects hS) (fun S_21 hS_21 => g_lv (fun x_22 => (hrec_61 _ _ hS_21)))
theorem b_Tu_prepare_109 {K : Nat} {G : CG} {S : CS} (hS : byt S) : bG id (f_Tu_prepare_109 K G S) := by
  unfold f_Tu_prepare_109
  exact g_b (b_Tu_empty hS) (fun S_16 hS_16 => g_b (b_Tu_putFour hS_16) (fun S_17 hS_17 => g_b (b_Tu_putFour hS_17) (fun S_18 hS_18 => g_b (b_Tu_putFour hS_18) (fun S_19 hS_19 => g_b (b_Dk_store_Tublock hS_19) (fun S_20 hS_20 => g_some hS_20)))))
theorem b_Tu_prepare_61 {K : Nat} {G : CG} : ∀ (k : Nat) (y_1 : Int32) (S : CS), byt S → bG id (f_Tu_prepare_61 K G k y_1 S) := by
  intro k
  induction k with
  | zero => intro y_1 S _; rw [f_Tu_prepare_61]; exact g_none
  | succ k ih => intro y_1 S hS; rw [f_Tu_prepare_61]; exact g_if ((b_Tu_prepare_109 hS)) (g_c (b_Dk_isOn hS) (fun r_11 S_11 hS_11 => g_if ((b_Tu_prepare_109 hS_11)) (g_c (b_Tr_isDirectory hS_11) (fun r_13 S_13 hS_13 => g_if ((b_Tu_prepare_98 (fun w0 w1 w2 => ih w0 w1 w2) hS_13)) (g_b (b_Tu_buildDirectory hS_13) (fun S_15 hS_15 => (b_Tu_prepare_98 (fun w0 w1 w2 => ih w0 w1 w2) hS_15)))))))
theorem b_Tu_prepare_55 {K : Nat} {G : CG} {S : CS} (hS : byt S) : bG id (f_Tu_prepare_55 K G S) := by
  unfold f_Tu_prepare_55
  exact g_b (b_Tu_keepSectors hS) (fun S_8 hS_8 => (b_Tu_prepare_61 _ _ _ hS_8))
theorem b_Tu_prepare_2 {K : Nat} {G : CG} : ∀ (k : Nat) (y_1 : Int32) (S : CS), byt S → bG id (f_Tu_prepare_2 K G k y_1 S) := by
  intro k
  induction k with
  | zero => intro y_1 S _; rw [f_Tu_prepare_2]; exact g_none
  | succ k ih => intro y_1 S hS; rw [f_Tu_prepare_2]; exact g_if ((b_Tu_prepare_55 hS)) (g_c (b_Dk_isOn hS) (fun r_2 S_2 hS_2 => g_if ((b_Tu_prepare_55 hS_2)) (g_c (b_Tb_goalOf hS_2) (fun r_4 S_4 hS_4 => g_if ((b_Tu_prepare_49 (fun w0 w1 w2 => ih w0 w1 w2) hS_4)) (g_c (b_Tb_goalOf hS_4) (fun r_6 S_6 hS_6 => g_b (b_Tu_copyCluster hS_6) (fun S_7 hS_7 => (b_Tu_prepare_49 (fun w0 w1 w2 => ih w0 w1 w2) hS_7))))))))
theorem b_Tu_prepare {K : Nat} {G : CG} {S : CS} (hS : byt S) : bG id (f_Tu_prepare K G S) := by
  unfold f_Tu_prepare
  exact (b_Tu_prepare_2 _ _ _ hS)
theorem b_Tu_putLabel_38 {K : Nat} {G : CG} : ∀ (k : Nat) (y_1 : Int32) (y_2 : Int32) (S : CS), byt S → bG id (f_Tu_putLabel_38 K G k y_1 y_2 S) := by
  intro k
  induction k with
  | zero => intro y_1 y_2 S _; rw [f_Tu_putLabel_38]; exact g_none
  | succ k ih => intro y_1 y_2 S hS; rw [f_Tu_putLabel_38]; exact g_if (g_some hS) (g_c (b_Dk_one hS) (fun r_6 S_6 hS_6 => g_b (b_Tu_putOne hS_6) (fun S_7 hS_7 => g_lv (fun x_8 => (ih _ _ _ hS_7)))))
theorem b_Tu_putLabel_36 {K : Nat} {G : CG} {y_1 : Int32} {S : CS} (hS : byt S) : bG id (f_Tu_putLabel_36 K G y_1 S) := by
  unfold f_Tu_putLabel_36
  exact (b_Tu_putLabel_38 _ _ _ _ hS)
theorem b_Tu_putLabel_3 {K : Nat} {G : CG} : ∀ (k : Nat) (y_1 : Int32) (S : CS), byt S → bG id (f_Tu_putLabel_3 K G k y_1 S) := by
  intro k
  induction k with
  | zero => intro y_1 S _; rw [f_Tu_putLabel_3]; exact g_none
  | succ k ih => intro y_1 S hS; rw [f_Tu_putLabel_3]; exact g_if ((b_Tu_putLabel_36 hS)) (g_c (b_Dk_one hS) (fun r_2 S_2 hS_2 => g_if (g_lv (fun x_4 => (ih _ _ hS_2))) ((b_Tu_putLabel_36 hS_2))))
theorem b_Tu_putLabel {K : Nat} {G : CG} {S : CS} (hS : byt S) : bG id (f_Tu_putLabel K G S) := by
  unfold f_Tu_putLabel
  exact (b_Tu_putLabel_3 _ _ _ hS)
theorem b_Tu_fillSuperblock {K : Nat} {G : CG} {S : CS} {p0 : Int32} (hS : byt S) : bG id (f_Tu_fillSuperblock K G S p0) := by
  unfold f_Tu_fillSuperblock
  exact g_b (b_Tu_empty hS) (fun S_1 hS_1 => g_b (b_Tu_putFour hS_1) (fun S_2 hS_2 => g_b (b_Tu_putFour hS_2) (fun S_3 hS_3 => g_b (b_Tu_putFour hS_3) (fun S_4 hS_4 => g_c (b_Pl_usedInodes hS_4) (fun r_5 S_5 hS_5 => g_b (b_Tu_putFour hS_5) (fun S_6 hS_6 => g_b (b_Tu_putFour hS_6) (fun S_7 hS_7 => g_b (b_Tu_putFour hS_7) (fun S_8 hS_8 => g_b (b_Tu_putFour hS_8) (fun S_9 hS_9 => g_b (b_Tu_putFour hS_9) (fun S_10 hS_10 => g_b (b_Tu_putTwo hS_10) (fun S_11 hS_11 => g_b (b_Tu_putTwo hS_11) (fun S_12 hS_12 => g_b (b_Tu_putTwo hS_12) (fun S_13 hS_13 => g_b (b_Tu_putTwo hS_13) (fun S_14 hS_14 => g_b (b_Tu_putFour hS_14) (fun S_15 hS_15 => g_b (b_Tu_putFour hS_15) (fun S_16 hS_16 => g_b (b_Tu_putTwo hS_16) (fun S_17 hS_17 => g_b (b_Tu_putTwo hS_17) (fun S_18 hS_18 => g_b (b_Tu_putFour hS_18) (fun S_19 hS_19 => g_c (b_Dk_four hS_19) (fun r_20 S_20 hS_20 => g_b (b_Tu_putFour hS_20) (fun S_21 hS_21 => g_if (g_some hS_21) (g_b (b_Tu_putLabel hS_21) (fun S_23 hS_23 => g_some hS_23)))))))))))))))))))))))
theorem b_Tu_directoriesOf_67 {K : Nat} {G : CG} {rec_4 : Int32 → Int32 → Int32 → CS → Option (Int32 × CS)} {y_1 : Int32} {y_3 : Int32} {z_0 : Int32} {z_1 : Int32} {S : CS} (hrec_4 : ∀ (w0 : Int32) (w1 : Int32) (w2 : Int32) (w3 : CS), byt w3 → bG Prod.snd (rec_4 w0 w1 w2 w3)) (hS : byt S) : bG Prod.snd (f_Tu_directoriesOf_67 K G rec_4 y_1 y_3 z_0 z_1 S) := by
  unfold f_Tu_directoriesOf_67
  exact g_lv (fun x_8 => g_lv (fun x_9 => (hrec_4 _ _ _ _ hS)))
theorem b_Tu_directoriesOf_66 {K : Nat} {G : CG} {rec_4 : Int32 → Int32 → Int32 → CS → Option (Int32 × CS)} {y_1 : Int32} {y_3 : Int32} {z_0 : Int32} {S : CS} (hrec_4 : ∀ (w0 : Int32) (w1 : Int32) (w2 : Int32) (w3 : CS), byt w3 → bG Prod.snd (rec_4 w0 w1 w2 w3)) (hS : byt S) : bG Prod.snd (f_Tu_directoriesOf_66 K G rec_4 y_1 y_3 z_0 S) := by
  unfold f_Tu_directoriesOf_66
  exact (b_Tu_directoriesOf_67 hrec_4 hS)
theorem b_Tu_directoriesOf_4 {K : Nat} {G : CG} : ∀ (k : Nat) (y_1 : Int32) (y_2 : Int32) (y_3 : Int32) (S : CS), byt S → bG Prod.snd (f_Tu_directoriesOf_4 K G k y_1 y_2 y_3 S) := by
  intro k
  induction k with
  | zero => intro y_1 y_2 y_3 S _; rw [f_Tu_directoriesOf_4]; exact g_none
  | succ k ih => intro y_1 y_2 y_3 S hS; rw [f_Tu_directoriesOf_4]; exact g_if (g_some hS) (g_p (fun r_2 => g_lv (fun x_3 => g_c (b_Tr_isDirectory hS) (fun r_4 S_4 hS_4 => g_if ((b_Tu_directoriesOf_66 (fun w0 w1 w2 w3 w4 => ih w0 w1 w2 w3 w4) hS_4)) (g_if ((b_Tu_directoriesOf_66 (fun w0 w1 w2 w3 w4 => ih w0 w1 w2 w3 w4) hS_4)) (g_if ((b_Tu_directoriesOf_66 (fun w0 w1 w2 w3 w4 => ih w0 w1 w2 w3 w4) hS_4)) ((b_Tu_directoriesOf_67 (fun w0 w1 w2 w3 w4 => ih w0 w1 w2 w3 w4) hS_4))))))))
theorem b_Tu_directoriesOf {K : Nat} {G : CG} {S : CS} {p0 : Int32} (hS : byt S) : bG Prod.snd (f_Tu_directoriesOf K G S p0) := by
  unfold f_Tu_directoriesOf
  exact (b_Tu_directoriesOf_4 _ _ _ _ _ hS)
theorem b_Tu_fillDescriptors_6 {K : Nat} {G : CG} : ∀ (k : Nat) (y_1 : Int32) (S : CS), byt S → bG id (f_Tu_fillDescriptors_6 K G k y_1 S) := by
  intro k
  induction k with
  | zero => intro y_1 S _; rw [f_Tu_fillDescriptors_6]; exact g_none
  | succ k ih => intro y_1 S hS; rw [f_Tu_fillDescriptors_6]; exact g_if (g_some hS) (g_lv (fun x_3 => g_c (b_Pl_mapBlock hS) (fun r_4 S_4 hS_4 => g_b (b_Tu_putFour hS_4) (fun S_5 hS_5 => g_c (b_Pl_mapBlock hS_5) (fun r_6 S_6 hS_6 => g_b (b_Tu_putFour hS_6) (fun S_7 hS_7 => g_c (b_Pl_mapBlock hS_7) (fun r_8 S_8 hS_8 => g_b (b_Tu_putFour hS_8) (fun S_9 hS_9 => g_c (b_Pl_freeBlocks hS_9) (fun r_10 S_10 hS_10 => g_b (b_Tu_putTwo hS_10) (fun S_11 hS_11 => g_c (b_Pl_freeInodes hS_11) (fun r_12 S_12 hS_12 => g_b (b_Tu_putTwo hS_12) (fun S_13 hS_13 => g_c (b_Tu_directoriesOf hS_13) (fun r_14 S_14 hS_14 => g_b (b_Tu_putTwo hS_14) (fun S_15 hS_15 => g_lv (fun x_16 => (ih _ _ hS_15))))))))))))))))
theorem b_Tu_fillDescriptors {K : Nat} {G : CG} {S : CS} (hS : byt S) : bG id (f_Tu_fillDescriptors K G S) := by
  unfold f_Tu_fillDescriptors
  exact g_b (b_Tu_empty hS) (fun S_1 hS_1 => (b_Tu_fillDescriptors_6 _ _ _ hS_1))
theorem b_Tu_dropBit {K : Nat} {G : CG} {S : CS} {p0 : Int32} (hS : byt S) : bG id (f_Tu_dropBit K G S p0) := by
  unfold f_Tu_dropBit
  exact g_lv (fun x_1 => g_if (g_some hS) (g_if (g_some hS) (g_g (g_g (g_ls (byt_Bu hS) (fun S_6 hS_6 => g_some hS_6))))))
theorem b_Tu_fillBlockMap_47 {K : Nat} {G : CG} {rec_10 : Int32 → Int32 → CS → Option (CS)} {y_1 : Int32} {y_2 : Int32} {S : CS} (hrec_10 : ∀ (w0 : Int32) (w1 : Int32) (w2 : CS), byt w2 → bG id (rec_10 w0 w1 w2)) (hS : byt S) : bG id (f_Tu_fillBlockMap_47 K G rec_10 y_1 y_2 S) := by
  unfold f_Tu_fillBlockMap_47
  exact g_lv (fun x_8 => (hrec_10 _ _ _ hS))
theorem b_Tu_fillBlockMap_10 {K : Nat} {G : CG} : ∀ (k : Nat) (y_1 : Int32) (y_2 : Int32) (S : CS), byt S → bG id (f_Tu_fillBlockMap_10 K G k y_1 y_2 S) := by
  intro k
  induction k with
  | zero => intro y_1 y_2 S _; rw [f_Tu_fillBlockMap_10]; exact g_none
  | succ k ih => intro y_1 y_2 S hS; rw [f_Tu_fillBlockMap_10]; exact g_c (b_Pl_blocksOf hS) (fun r_2 S_2 hS_2 => g_if (g_some hS_2) (g_c (b_Pl_firstBlock hS_2) (fun r_4 S_4 hS_4 => g_c (b_Pl_isUsed hS_4) (fun r_5 S_5 hS_5 => g_if (g_b (b_Tu_dropBit hS_5) (fun S_7 hS_7 => (b_Tu_fillBlockMap_47 (fun w0 w1 w2 w3 => ih w0 w1 w2 w3) hS_7))) ((b_Tu_fillBlockMap_47 (fun w0 w1 w2 w3 => ih w0 w1 w2 w3) hS_5))))))
theorem b_Tu_fillBlockMap {K : Nat} {G : CG} {S : CS} {p0 : Int32} (hS : byt S) : bG id (f_Tu_fillBlockMap K G S p0) := by
  unfold f_Tu_fillBlockMap
  exact g_ls (byt_Bf hS) (fun S_1 hS_1 => (b_Tu_fillBlockMap_10 _ _ _ _ hS_1))
theorem b_Tu_fillInodeMap_25 {K : Nat} {G : CG} : ∀ (k : Nat) (y_2 : Int32) (S : CS), byt S → bG id (f_Tu_fillInodeMap_25 K G k y_2 S) := by
  intro k
  induction k with
  | zero => intro y_2 S _; rw [f_Tu_fillInodeMap_25]; exact g_none
  | succ k ih => intro y_2 S hS; rw [f_Tu_fillInodeMap_25]; exact g_if (g_some hS) (g_b (b_Tu_dropBit hS) (fun S_5 hS_5 => g_lv (fun x_6 => (ih _ _ hS_5))))
theorem b_Tu_fillInodeMap {K : Nat} {G : CG} {S : CS} {p0 : Int32} (hS : byt S) : bG id (f_Tu_fillInodeMap K G S p0) := by
  unfold f_Tu_fillInodeMap
  exact g_ls (byt_Bf hS) (fun S_1 hS_1 => g_c (b_Pl_freeInodes hS_1) (fun r_2 S_2 hS_2 => g_lv (fun x_3 => (b_Tu_fillInodeMap_25 _ _ _ hS_2))))
theorem b_Tu_modeOf_29 {K : Nat} {G : CG} {y_1 : Int32} {z_0 : Int32} {S : CS} (hS : byt S) : bG Prod.snd (f_Tu_modeOf_29 K G y_1 z_0 S) := by
  unfold f_Tu_modeOf_29
  exact g_c (b_Tr_isReadOnly hS) (fun r_4 S_4 hS_4 => g_if (g_some hS_4) (g_some hS_4))
theorem b_Tu_modeOf {K : Nat} {G : CG} {S : CS} {p0 : Int32} (hS : byt S) : bG Prod.snd (f_Tu_modeOf K G S p0) := by
  unfold f_Tu_modeOf
  exact g_if (g_some hS) (g_c (b_Tr_isDirectory hS) (fun r_2 S_2 hS_2 => g_if ((b_Tu_modeOf_29 hS_2)) ((b_Tu_modeOf_29 hS_2))))
theorem b_Tu_linksOf_54 {K : Nat} {G : CG} {rec_17 : Int32 → Int32 → Int32 → CS → Option (Int32 × CS)} {y_1 : Int32} {y_3 : Int32} {z_0 : Int32} {z_1 : Int32} {S : CS} (hrec_17 : ∀ (w0 : Int32) (w1 : Int32) (w2 : Int32) (w3 : CS), byt w3 → bG Prod.snd (rec_17 w0 w1 w2 w3)) (hS : byt S) : bG Prod.snd (f_Tu_linksOf_54 K G rec_17 y_1 y_3 z_0 z_1 S) := by
  unfold f_Tu_linksOf_54
  exact g_lv (fun x_8 => g_lv (fun x_9 => (hrec_17 _ _ _ _ hS)))
theorem b_Tu_linksOf_17 {K : Nat} {G : CG} : ∀ (k : Nat) (y_1 : Int32) (y_2 : Int32) (y_3 : Int32) (S : CS), byt S → bG Prod.snd (f_Tu_linksOf_17 K G k y_1 y_2 y_3 S) := by
  intro k
  induction k with
  | zero => intro y_1 y_2 y_3 S _; rw [f_Tu_linksOf_17]; exact g_none
  | succ k ih => intro y_1 y_2 y_3 S hS; rw [f_Tu_linksOf_17]; exact g_c (b_Tr_countIn hS) (fun r_3 S_3 hS_3 => g_if (g_some hS_3) (g_c (b_Tr_kid hS_3) (fun r_5 S_5 hS_5 => g_c (b_Tr_isDirectory hS_5) (fun r_6 S_6 hS_6 => g_if ((b_Tu_linksOf_54 (fun w0 w1 w2 w3 w4 => ih w0 w1 w2 w3 w4) hS_6)) ((b_Tu_linksOf_54 (fun w0 w1 w2 w3 w4 => ih w0 w1 w2 w3 w4) hS_6))))))
theorem b_Tu_linksOf {K : Nat} {G : CG} {S : CS} {p0 : Int32} (hS : byt S) : bG Prod.snd (f_Tu_linksOf K G S p0) := by
  unfold f_Tu_linksOf
  exact g_c (b_Tr_isDirectory hS) (fun r_1 S_1 hS_1 => g_if (g_some hS_1) ((b_Tu_linksOf_17 _ _ _ _ _ hS_1)))
theorem b_Tu_fillInode_229 {K : Nat} {G : CG} : ∀ (k : Nat) (y_1 : Int32) (y_4 : Int32) (y_5 : Int32) (y_6 : Int32) (S : CS), byt S → bG id (f_Tu_fillInode_229 K G k y_1 y_4 y_5 y_6 S) := by
  intro k
  induction k with
  | zero => intro y_1 y_4 y_5 y_6 S _; rw [f_Tu_fillInode_229]; exact g_none
  | succ k ih => intro y_1 y_4 y_5 y_6 S hS; rw [f_Tu_fillInode_229]; exact g_if (g_some hS) (g_if (g_some hS) (g_c (b_Pl_room hS) (fun r_28 S_28 hS_28 => g_b (b_Tu_putFour hS_28) (fun S_29 hS_29 => g_lv (fun x_30 => (ih _ _ _ _ _ hS_29))))))
theorem b_Tu_fillInode_226 {K : Nat} {G : CG} {y_1 : Int32} {y_4 : Int32} {y_5 : Int32} {S : CS} (hS : byt S) : bG id (f_Tu_fillInode_226 K G y_1 y_4 y_5 S) := by
  unfold f_Tu_fillInode_226
  exact (b_Tu_fillInode_229 _ _ _ _ _ _ hS)
theorem b_Tu_fillInode_178 {K : Nat} {G : CG} : ∀ (k : Nat) (y_1 : Int32) (y_4 : Int32) (y_5 : Int32) (y_6 : Int32) (S : CS), byt S → bG id (f_Tu_fillInode_178 K G k y_1 y_4 y_5 y_6 S) := by
  intro k
  induction k with
  | zero => intro y_1 y_4 y_5 y_6 S _; rw [f_Tu_fillInode_178]; exact g_none
  | succ k ih => intro y_1 y_4 y_5 y_6 S hS; rw [f_Tu_fillInode_178]; exact g_if ((b_Tu_fillInode_226 hS)) (g_if ((b_Tu_fillInode_226 hS)) (g_g (g_b (b_Tu_putFour hS) (fun S_24 hS_24 => g_lv (fun x_25 => (ih _ _ _ _ _ hS_24))))))
theorem b_Tu_fillInode_142 {K : Nat} {G : CG} {y_1 : Int32} {y_2 : Int32} {y_4 : Int32} {y_5 : Int32} {S : CS} (hS : byt S) : bG id (f_Tu_fillInode_142 K G y_1 y_2 y_4 y_5 S) := by
  unfold f_Tu_fillInode_142
  exact g_c (b_Tu_linksOf hS) (fun r_13 S_13 hS_13 => g_b (b_Tu_putTwo hS_13) (fun S_14 hS_14 => g_b (b_Tu_putFour hS_14) (fun S_15 hS_15 => (b_Tu_fillInode_178 _ _ _ _ _ _ hS_15))))
theorem b_Tu_fillInode_102 {K : Nat} {G : CG} : ∀ (k : Nat) (y_1 : Int32) (y_2 : Int32) (y_4 : Int32) (y_5 : Int32) (y_6 : Int32) (S : CS), byt S → bG id (f_Tu_fillInode_102 K G k y_1 y_2 y_4 y_5 y_6 S) := by
  intro k
  induction k with
  | zero => intro y_1 y_2 y_4 y_5 y_6 S _; rw [f_Tu_fillInode_102]; exact g_none
  | succ k ih => intro y_1 y_2 y_4 y_5 y_6 S hS; rw [f_Tu_fillInode_102]; exact g_if ((b_Tu_fillInode_142 hS)) (g_c (b_Tr_spotOf hS) (fun r_17 S_17 hS_17 => g_c (b_Da_seconds hS_17) (fun r_18 S_18 hS_18 => g_b (b_Tu_putFour hS_18) (fun S_19 hS_19 => g_lv (fun x_20 => (ih _ _ _ _ _ _ hS_19))))))
theorem b_Tu_fillInode_92 {K : Nat} {G : CG} {y_1 : Int32} {y_2 : Int32} {y_4 : Int32} {y_5 : Int32} {z_1 : Int32} {z_2 : Int32} {S : CS} (hS : byt S) : bG id (f_Tu_fillInode_92 K G y_1 y_2 y_4 y_5 z_1 z_2 S) := by
  unfold f_Tu_fillInode_92
  exact g_b (b_Tu_putFour hS) (fun S_11 hS_11 => g_if ((b_Tu_fillInode_142 hS_11)) ((b_Tu_fillInode_102 _ _ _ _ _ _ _ hS_11)))
theorem b_Tu_fillInode_29 {K : Nat} {G : CG} {y_1 : Int32} {y_2 : Int32} {z_0 : Int32} {S : CS} (hS : byt S) : bG id (f_Tu_fillInode_29 K G y_1 y_2 z_0 S) := by
  unfold f_Tu_fillInode_29
  exact g_p (fun r_5 => g_c (b_Pl_firstIndirect hS) (fun r_6 S_6 hS_6 => g_c (b_Tu_modeOf hS_6) (fun r_7 S_7 hS_7 => g_b (b_Tu_putTwo hS_7) (fun S_8 hS_8 => g_if ((b_Tu_fillInode_92 hS_8)) (g_c (b_Tr_sizeOf hS_8) (fun r_10 S_10 hS_10 => (b_Tu_fillInode_92 hS_10)))))))
theorem b_Tu_fillInode_28 {K : Nat} {G : CG} {y_1 : Int32} {y_2 : Int32} {S : CS} (hS : byt S) : bG id (f_Tu_fillInode_28 K G y_1 y_2 S) := by
  unfold f_Tu_fillInode_28
  exact (b_Tu_fillInode_29 hS)
theorem b_Tu_fillInode {K : Nat} {G : CG} {S : CS} {p0 : Int32} {p1 : Int32} (hS : byt S) : bG id (f_Tu_fillInode K G S p0 p1) := by
  unfold f_Tu_fillInode
  exact g_b (b_Pl_gather hS) (fun S_1 hS_1 => g_if ((b_Tu_fillInode_28 hS_1)) (g_c (b_Tr_isDirectory hS_1) (fun r_3 S_3 hS_3 => g_if ((b_Tu_fillInode_29 hS_3)) ((b_Tu_fillInode_28 hS_3)))))
theorem b_Tu_fillInodes_86 {K : Nat} {G : CG} {rec_6 : Int32 → Int32 → CS → Option (CS)} {y_1 : Int32} {y_2 : Int32} {S : CS} (hrec_6 : ∀ (w0 : Int32) (w1 : Int32) (w2 : CS), byt w2 → bG id (rec_6 w0 w1 w2)) (hS : byt S) : bG id (f_Tu_fillInodes_86 K G rec_6 y_1 y_2 S) := by
  unfold f_Tu_fillInodes_86
  exact g_lv (fun x_11 => (hrec_6 _ _ _ hS))
theorem b_Tu_fillInodes_6 {K : Nat} {G : CG} : ∀ (k : Nat) (y_1 : Int32) (y_2 : Int32) (S : CS), byt S → bG id (f_Tu_fillInodes_6 K G k y_1 y_2 S) := by
  intro k
  induction k with
  | zero => intro y_1 y_2 S _; rw [f_Tu_fillInodes_6]; exact g_none
  | succ k ih => intro y_1 y_2 S hS; rw [f_Tu_fillInodes_6]; exact g_if (g_some hS) (g_lv (fun x_3 => g_if (g_b (b_Tu_fillInode hS) (fun S_10 hS_10 => (b_Tu_fillInodes_86 (fun w0 w1 w2 w3 => ih w0 w1 w2 w3) hS_10))) (g_if (g_b (b_Tu_fillInode hS) (fun S_9 hS_9 => (b_Tu_fillInodes_86 (fun w0 w1 w2 w3 => ih w0 w1 w2 w3) hS_9))) (g_if ((b_Tu_fillInodes_86 (fun w0 w1 w2 w3 => ih w0 w1 w2 w3) hS)) (g_if ((b_Tu_fillInodes_86 (fun w0 w1 w2 w3 => ih w0 w1 w2 w3) hS)) (g_b (b_Tu_fillInode hS) (fun S_8 hS_8 => (b_Tu_fillInodes_86 (fun w0 w1 w2 w3 => ih w0 w1 w2 w3) hS_8))))))))
theorem b_Tu_fillInodes {K : Nat} {G : CG} {S : CS} {p0 : Int32} (hS : byt S) : bG id (f_Tu_fillInodes K G S p0) := by
  unfold f_Tu_fillInodes
  exact g_b (b_Tu_empty hS) (fun S_1 hS_1 => (b_Tu_fillInodes_6 _ _ _ _ hS_1))
theorem b_Tu_putFixed_95 {K : Nat} {G : CG} {rec_2 : Int32 → CS → Option (CS)} (hrec_2 : ∀ (w0 : Int32) (w1 : CS), byt w1 → bG id (rec_2 w0 w1)) : ∀ (k : Nat) (y_1 : Int32) (y_2 : Int32) (y_3 : Int32) (S : CS), byt S → bG id (f_Tu_putFixed_95 K G rec_2 k y_1 y_2 y_3 S) := by
  intro k
  induction k with
  | zero => intro y_1 y_2 y_3 S _; rw [f_Tu_putFixed_95]; exact g_none
  | succ k ih => intro y_1 y_2 y_3 S hS; rw [f_Tu_putFixed_95]; exact g_if (g_lv (fun x_22 => (hrec_2 _ _ hS))) (g_b (b_Tu_fillInodes hS) (fun S_23 hS_23 => g_b (b_Tu_storeBlock hS_23) (fun S_24 hS_24 => g_lv (fun x_25 => (ih _ _ _ _ hS_24)))))
theorem b_Tu_putFixed_62 {K : Nat} {G : CG} {rec_2 : Int32 → CS → Option (CS)} {y_1 : Int32} {S : CS} (hrec_2 : ∀ (w0 : Int32) (w1 : CS), byt w1 → bG id (rec_2 w0 w1)) (hS : byt S) : bG id (f_Tu_putFixed_62 K G rec_2 y_1 S) := by
  unfold f_Tu_putFixed_62
  exact g_c (b_Pl_mapBlock hS) (fun r_16 S_16 hS_16 => g_b (b_Tu_fillBlockMap hS_16) (fun S_17 hS_17 => g_b (b_Tu_storeBlock hS_17) (fun S_18 hS_18 => g_b (b_Tu_fillInodeMap hS_18) (fun S_19 hS_19 => g_b (b_Tu_storeBlock hS_19) (fun S_20 hS_20 => (b_Tu_putFixed_95 hrec_2 _ _ _ _ _ hS_20))))))
theorem b_Tu_putFixed_150 {K : Nat} {G : CG} {S : CS} (hS : byt S) : bG id (f_Tu_putFixed_150 K G S) := by
  unfold f_Tu_putFixed_150
  exact g_b (b_Tu_fillDescriptors hS) (fun S_11 hS_11 => g_b (b_Tu_storeBlock hS_11) (fun S_12 hS_12 => g_b (b_Tu_fillSuperblock hS_12) (fun S_13 hS_13 => g_b (b_Dk_store_Tublock hS_13) (fun S_14 hS_14 => g_b (b_Dk_store_Tublock hS_14) (fun S_15 hS_15 => g_some hS_15)))))
theorem b_Tu_putFixed_2 {K : Nat} {G : CG} : ∀ (k : Nat) (y_1 : Int32) (S : CS), byt S → bG id (f_Tu_putFixed_2 K G k y_1 S) := by
  intro k
  induction k with
  | zero => intro y_1 S _; rw [f_Tu_putFixed_2]; exact g_none
  | succ k ih => intro y_1 S hS; rw [f_Tu_putFixed_2]; exact g_if ((b_Tu_putFixed_150 hS)) (g_c (b_Dk_isOn hS) (fun r_2 S_2 hS_2 => g_if ((b_Tu_putFixed_150 hS_2)) (g_if ((b_Tu_putFixed_62 (fun w0 w1 w2 => ih w0 w1 w2) hS_2)) (g_b (b_Tu_fillSuperblock hS_2) (fun S_5 hS_5 => g_c (b_Pl_firstBlock hS_5) (fun r_6 S_6 hS_6 => g_b (b_Tu_storeBlock hS_6) (fun S_7 hS_7 => g_b (b_Tu_fillDescriptors hS_7) (fun S_8 hS_8 => g_c (b_Pl_firstBlock hS_8) (fun r_9 S_9 hS_9 => g_b (b_Tu_storeBlock hS_9) (fun S_10 hS_10 => (b_Tu_putFixed_62 (fun w0 w1 w2 => ih w0 w1 w2) hS_10)))))))))))
theorem b_Tu_putFixed {K : Nat} {G : CG} {S : CS} (hS : byt S) : bG id (f_Tu_putFixed K G S) := by
  unfold f_Tu_putFixed
  exact (b_Tu_putFixed_2 _ _ _ hS)
theorem b_Vt_feed {K : Nat} {G : CG} {S : CS} {p0 : Int32} {p1 : Int32} {p2 : Int32} {p3 : Int32} {p4 : Int32} (hS : byt S) : bG id (f_Vt_feed K G S p0 p1 p2 p3 p4) := by
  unfold f_Vt_feed
  exact g_b (b_Tp_prepare hS) (fun S_1 hS_1 => g_b (b_Tp_prepare hS_1) (fun S_2 hS_2 => g_b (b_Tp_prepare hS_2) (fun S_3 hS_3 => g_b (b_Tp_prepare hS_3) (fun S_4 hS_4 => g_b (b_Tp_prepare hS_4) (fun S_5 hS_5 => g_some hS_5)))))
theorem b_Vt_end {K : Nat} {G : CG} {S : CS} {p0 : Int32} (hS : byt S) : bG Prod.snd (f_Vt_end K G S p0) := by
  unfold f_Vt_end
  exact g_c (b_Tp_append hS) (fun r_1 S_1 hS_1 => g_some hS_1)
theorem b_Vt_clear {K : Nat} {G : CG} {S : CS} (hS : byt S) : bG id (f_Vt_clear K G S) := by
  unfold f_Vt_clear
  exact g_c (b_Tp_useUp hS) (fun r_1 S_1 hS_1 => g_some hS_1)
theorem b_Vt_changed {K : Nat} {G : CG} {S : CS} (hS : byt S) : bG id (f_Vt_changed K G S) := by
  unfold f_Vt_changed
  exact g_ls hS (fun S_1 hS_1 => g_some hS_1)
theorem b_Vt_poke_30 {K : Nat} {G : CG} {S : CS} (hS : byt S) : bG Prod.snd (f_Vt_poke_30 K G S) := by
  unfold f_Vt_poke_30
  exact g_some hS
theorem b_Vt_poke {K : Nat} {G : CG} {S : CS} {p0 : Int32} {p1 : Int32} {p2 : Int32} (hS : byt S) : bG Prod.snd (f_Vt_poke K G S p0 p1 p2) := by
  unfold f_Vt_poke
  exact g_if (g_c (b_Dk_has hS) (fun r_2 S_2 hS_2 => g_if ((b_Vt_poke_30 hS_2)) (g_if ((b_Vt_poke_30 hS_2)) (g_if ((b_Vt_poke_30 hS_2)) (g_b (b_Dk_putOne hS_2) (fun S_6 hS_6 => g_b (b_Vt_changed hS_6) (fun S_7 hS_7 => g_ls hS_7 (fun S_8 hS_8 => g_some hS_8)))))))) ((b_Vt_poke_30 hS))
theorem b_Vt_fail_22 {K : Nat} {G : CG} {S : CS} (hS : byt S) : bG Prod.snd (f_Vt_fail_22 K G S) := by
  unfold f_Vt_fail_22
  exact g_some hS
