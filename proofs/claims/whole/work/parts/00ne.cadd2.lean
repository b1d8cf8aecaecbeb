/-! An item more in the class. -/
def adS (S : CS) (n : Nat) (a b : Int32) : CS := ((((((((((S.u_v_Tr_count (nI (n + 1))).u_w_Tr_parent (upd S.w_Tr_parent n a)).u_w_Tr_bits (upd S.w_Tr_bits n b)).u_w_Tr_size (upd S.w_Tr_size n 0)).u_w_Tr_kids (upd S.w_Tr_kids n 0)).u_w_Tr_kidCount (upd S.w_Tr_kidCount n 0)).u_w_Tr_built (upd S.w_Tr_built n 0)).u_w_Tr_builtBlocks (upd S.w_Tr_builtBlocks n 0)).u_w_Tr_nameAt (upd S.w_Tr_nameAt n S.v_Tr_pooled)).u_w_Tr_nameLength (upd S.w_Tr_nameLength n 0)).u_w_Tr_nameBytes (upd S.w_Tr_nameBytes n 0)
theorem qC_add22 {K N n : Nat} {a b : Int32} {G : CG} {S : CS} (hG : gOk N G) (hc : S.v_Tr_count = nI n) (hn : n < G.l_parent) : f_Tr_addItem_22 K a b G S = some (nI n, G, adS S n a b) := by
  obtain ⟨g0, ⟨g1, g2, g3, g4, g5, g6, g7, g8, g9, g10, g11, g12, g13⟩, ga, gb, -⟩ := hG
  have hcl : S.v_Tr_count.toNatClampNeg = n := by rw [hc]; exact nI_clamp (by omega)
  have hin : ∀ m, m = G.l_parent → lf_in S.v_Tr_count m := fun m hm => by rw [hc, hm]; exact q_in hn (by omega)
  have key : wp (f_Tr_addItem_22 K a b G S) (fun r => r = (S.v_Tr_count, G, ((((((((((S.u_v_Tr_count (S.v_Tr_count + 1)).u_w_Tr_parent (upd S.w_Tr_parent S.v_Tr_count.toNatClampNeg a)).u_w_Tr_bits (upd S.w_Tr_bits S.v_Tr_count.toNatClampNeg b)).u_w_Tr_size (upd S.w_Tr_size S.v_Tr_count.toNatClampNeg 0)).u_w_Tr_kids (upd S.w_Tr_kids S.v_Tr_count.toNatClampNeg 0)).u_w_Tr_kidCount (upd S.w_Tr_kidCount S.v_Tr_count.toNatClampNeg 0)).u_w_Tr_built (upd S.w_Tr_built S.v_Tr_count.toNatClampNeg 0)).u_w_Tr_builtBlocks (upd S.w_Tr_builtBlocks S.v_Tr_count.toNatClampNeg 0)).u_w_Tr_nameAt (upd S.w_Tr_nameAt S.v_Tr_count.toNatClampNeg S.v_Tr_pooled)).u_w_Tr_nameLength (upd S.w_Tr_nameLength S.v_Tr_count.toNatClampNeg 0)).u_w_Tr_nameBytes (upd S.w_Tr_nameBytes S.v_Tr_count.toNatClampNeg 0))) := by
    unfold f_Tr_addItem_22
    exact wp_l (wp_l (wp_g (hin _ rfl) (wp_l (wp_g (hin _ g3) (wp_l (wp_g (hin _ g2) (wp_l (wp_g (hin _ g7) (wp_l (wp_g (hin _ g8) (wp_l (wp_g (hin _ g12) (wp_l (wp_g (hin _ g13) (wp_l (wp_g (hin _ g9) (wp_l (wp_g (hin _ g10) (wp_l (wp_g (hin _ g11) (wp_l (wp_i rfl)))))))))))))))))))))) 
  obtain ⟨x, e1, e2⟩ := key
  rw [e1, e2, hcl, hc, nI_1]
  rfl
/-- how many cells and slots the rows may have cost -/
abbrev gLim (t : Nat) (G : CG) : Prop := G.gc ≤ (G.l_parent - 64) + (G.l_pool - 1024) + t ∧ G.gs ≤ 28 * (G.l_parent - 64) + 2 * G.l_pool + 6 * t
/-- n items: how the rows of one more are made; those before stay -/
abbrev adR (S S' : CS) (n : Nat) (a b : Int32) : Prop := coC S' = coC S ∧ (S'.v_Tr_label = S.v_Tr_label ∧ S'.v_Tr_pooled = S.v_Tr_pooled ∧ S'.w_Tr_pool = S.w_Tr_pool) ∧ (S'.w_Rd_taken = S.w_Rd_taken ∧ S'.w_Rd_road = S.w_Rd_road ∧ S'.w_Rd_fileRoad = S.w_Rd_fileRoad ∧ S'.w_Rd_units = S.w_Rd_units ∧ S'.v_Rd_parts = S.v_Rd_parts ∧ S'.v_Rd_toCome = S.v_Rd_toCome ∧ S'.v_Rd_sum = S.v_Rd_sum) ∧ S'.v_Tr_count = nI (n + 1) ∧ (∀ j, j < n → S'.w_Tr_parent j = S.w_Tr_parent j ∧ S'.w_Tr_first j = S.w_Tr_first j ∧ S'.w_Tr_size j = S.w_Tr_size j ∧ S'.w_Tr_bits j = S.w_Tr_bits j ∧ S'.w_Tr_spot j = S.w_Tr_spot j ∧ S'.w_Tr_slot j = S.w_Tr_slot j ∧ S'.w_Tr_parts j = S.w_Tr_parts j ∧ S'.w_Tr_kids j = S.w_Tr_kids j ∧ S'.w_Tr_kidCount j = S.w_Tr_kidCount j ∧ S'.w_Tr_nameAt j = S.w_Tr_nameAt j ∧ S'.w_Tr_nameLength j = S.w_Tr_nameLength j ∧ S'.w_Tr_nameBytes j = S.w_Tr_nameBytes j) ∧ S'.w_Tr_parent n = a ∧ S'.w_Tr_bits n = b ∧ S'.w_Tr_size n = 0 ∧ S'.w_Tr_kids n = 0 ∧ S'.w_Tr_kidCount n = 0 ∧ S'.w_Tr_nameAt n = S.v_Tr_pooled ∧ S'.w_Tr_nameLength n = 0 ∧ S'.w_Tr_nameBytes n = 0
theorem adS_R {S S0 : CS} {n : Nat} {a b : Int32} (h : aEq n S0 S) : adR S0 (adS S n a b) n a b := by
  obtain ⟨c1, c2⟩ := h
  refine ⟨(show coC (adS S n a b) = coC S from rfl).trans (coT_C c1), ⟨(Eq.trans (b := S.v_Tr_label) rfl (coT_v_Tr_label c1)), (Eq.trans (b := S.v_Tr_pooled) rfl (coT_v_Tr_pooled c1)), (Eq.trans (b := S.w_Tr_pool) rfl (coT_w_Tr_pool c1))⟩, ⟨(Eq.trans (b := S.w_Rd_taken) rfl (coT_w_Rd_taken c1)), (Eq.trans (b := S.w_Rd_road) rfl (coT_w_Rd_road c1)), (Eq.trans (b := S.w_Rd_fileRoad) rfl (coT_w_Rd_fileRoad c1)), (Eq.trans (b := S.w_Rd_units) rfl (coT_w_Rd_units c1)), (Eq.trans (b := S.v_Rd_parts) rfl (coT_v_Rd_parts c1)), (Eq.trans (b := S.v_Rd_toCome) rfl (coT_v_Rd_toCome c1)), (Eq.trans (b := S.v_Rd_sum) rfl (coT_v_Rd_sum c1))⟩, rfl, fun j hj => ?_, pk_us, pk_us, pk_us, pk_us, pk_us, (show (adS S n a b).w_Tr_nameAt n = S.v_Tr_pooled from pk_us).trans (coT_v_Tr_pooled c1), pk_us, pk_us⟩
  obtain ⟨f0, f1, f2, f3, f4, f5, f6, f7, f8, f9, f10, f11, -, -⟩ := c2 j hj
  have ne : j ≠ n := by omega
  exact ⟨(pk_un ne).trans f0, f1, (pk_un ne).trans f2, (pk_un ne).trans f3, f4, f5, f6, (pk_un ne).trans f7, (pk_un ne).trans f8, (pk_un ne).trans f9, (pk_un ne).trans f10, (pk_un ne).trans f11⟩
theorem aEq_rf (n : Nat) (S : CS) : aEq n S S := ⟨rfl, fun j hj => ⟨rfl, rfl, rfl, rfl, rfl, rfl, rfl, rfl, rfl, rfl, rfl, rfl, rfl, rfl⟩⟩
theorem ar_1 {gc gp gl gc1 gl1 t n : Nat} (h : gc ≤ gl - 64 + (gp - 1024) + t) (h1 : gc1 = gc + 14) (h2 : gl1 = 2 * n) (h3 : n = gl) (h4 : 64 ≤ gl) : gc1 ≤ gl1 - 64 + (gp - 1024) + t := by omega
theorem ar_2 {gs gp gl gs1 gl1 t n : Nat} (h : gs ≤ 28 * (gl - 64) + 2 * gp + 6 * t) (h1 : gs1 = gs + 14 * (2 * n)) (h2 : gl1 = 2 * n) (h3 : n = gl) (h4 : 64 ≤ gl) : gs1 ≤ 28 * (gl1 - 64) + 2 * gp + 6 * t := by omega
theorem ar_3 {l n : Nat} (h : l = 2 * n) (h1 : 64 ≤ n) (h2 : n ≤ 4100) : 64 ≤ l ∧ l ≤ 9000 ∧ n < l := by omega
theorem qC_addItem {K N n t : Nat} {a b : Int32} {G : CG} {S : CS} (hG : gOk N G) (hc : S.v_Tr_count = nI n) (hn : n ≤ G.l_parent) (hn2 : n ≤ 4100) (hlim : gLim t G) : ∃ G' S', f_Tr_addItem K G S a b = some (nI n, G', S') ∧ gOk N G' ∧ n < G'.l_parent ∧ G'.l_pool = G.l_pool ∧ gLim t G' ∧ adR S S' n a b := by
  unfold f_Tr_addItem
  have hGG := hG
  obtain ⟨g0, ⟨g1, g2, g3, g4, g5, g6, g7, g8, g9, g10, g11, g12, g13⟩, ga, gb, gc, gd⟩ := hGG
  rw [hc]
  by_cases w : n < G.l_parent
  · rw [if_pos (nI_lt w (by omega)), qC_add22 hG hc w]
    exact ⟨G, adS S n a b, rfl, hG, w, rfl, hlim, adS_R (aEq_rf n S)⟩
  · have e : n = G.l_parent := by omega
    rw [if_neg (nI_nlt (by omega) (by omega)), show (2 : Int32) = nI 2 from rfl, pk_mul]
    obtain ⟨G1, S1, w1, ⟨w2, v1, v2, v3, v4, l0, l1, l2, l3, l4, l5, l6, l7, l8, l9, l10, l11, l12, l13⟩⟩ := qC_widen (K := K) (S := S) (n := 2 * n) hG (by omega) (by omega)
    rw [w1]
    clear w1
    obtain ⟨k1, k2, k3⟩ := ar_3 l0 (by omega) hn2
    have hG1 : gOk N G1 := ⟨v1.trans g0, ⟨l1.trans l0.symm, l2.trans l0.symm, l3.trans l0.symm, l4.trans l0.symm, l5.trans l0.symm, l6.trans l0.symm, l7.trans l0.symm, l8.trans l0.symm, l9.trans l0.symm, l10.trans l0.symm, l11.trans l0.symm, l12.trans l0.symm, l13.trans l0.symm⟩, k1, k2, by rw [v4]; exact gc, by rw [v4]; exact gd⟩
    have hc1 : S1.v_Tr_count = nI n := (coT_v_Tr_count w2.1).trans hc
    have hlast : f_Tr_addItem_22 K a b G1 S1 = some (nI n, G1, adS S1 n a b) := qC_add22 hG1 hc1 k3
    refine ⟨G1, adS S1 n a b, hlast, hG1, k3, v4, ⟨?_, ?_⟩, adS_R (by rw [e]; exact w2)⟩
    · rw [v4]; exact ar_1 hlim.1 v2 l0 e ga
    · rw [v4]; exact ar_2 hlim.2 v3 l0 e ga
