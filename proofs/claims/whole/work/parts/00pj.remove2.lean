theorem qC_slotN {K N s : Nat} {D : Nat → Int32} {ch : List Nat} {G : CG} {S : CS} (hG : G.n = N) (hc0 : S.v_Tb_cluster = nI (hc D)) (ha0 : S.v_Tb_start = nI (ha D)) (h : hdOk N D) (hN : N ≤ 1024) (hcl : ∀ x ∈ ch, isCl N D x) (hl : ch.length < N / 2 + 2) (hr0 : S.v_Ed_roadLength = nI ch.length) (hf : ∀ q, q < ch.length → S.w_Ed_road q = nI (ch.getD q 0)) (hs : s < ch.length * 16 * hc D) : f_Ed_slotPlace K G S (nI s) = some (nI (plS D ch s), S) := by
  have hC := (hd_facts h hN).1
  obtain ⟨p1, p2, p3, p4⟩ := plS_lt h hN hcl hs
  have hq : s / (16 * hc D) < ch.length := by rw [Nat.div_lt_iff_lt_mul (by omega), ← Nat.mul_assoc]; exact hs
  have hs1 : s < 514 * 16 * hc D := Nat.lt_of_lt_of_le hs (Nat.mul_le_mul_right _ (Nat.mul_le_mul_right _ (by omega)))
  have hs2 : ch.length * (16 * hc D) ≤ 514 * (16 * hc D) := Nat.mul_le_mul_right _ (by omega)
  have hs3 : s < ch.length * (16 * hc D) := by rw [← Nat.mul_assoc]; exact hs
  have e16 : S.v_Tb_cluster * 16 = nI (16 * hc D) := by rw [hc0, show (16 : Int32) = nI 16 from rfl, pk_mul, Nat.mul_comm]
  have ed : nI s / nI (16 * hc D) = nI (s / (16 * hc D)) := pk_div (by omega) (by omega) (by omega)
  have hne : ¬ nI (16 * hc D) = 0 := nI_ne0 (by omega) (by omega)
  have hpl : f_Tb_place K G S (nI (ch.getD (s / (16 * hc D)) 0)) = some (nI (plC D (ch.getD (s / (16 * hc D)) 0)), S) := by
    unfold f_Tb_place plC
    rw [ha0, hc0, show (2 : Int32) = nI 2 from rfl, pk_sub (hcl _ p3).1, pk_mul, nI_add, show (512 : Int32) = nI 512 from rfl, pk_mul, Nat.mul_comm]
  unfold f_Ed_slotPlace f_Tb_slotPlace_Edroad f_Tb_slotsOfCluster
  rw [e16, q_c, hr0, pk_mul, if_neg (nI_ge hs3 (by omega)), e16, q_c, if_neg (show ¬ nI (16 * hc D) < 1 from nI_nlt (b := 1) (by omega) (by omega)), if_neg (nI_pos (by omega))]
  simp only [q_g hne]
  rw [ed, hG, if_pos (nI_lt (by omega) (by omega)), q_g (q_in (by omega) (by omega)), nI_clamp (by omega), hf _ hq, hpl, q_c, ← ed, pk_rem (by omega) (by omega) (by omega), show (32 : Int32) = nI 32 from rfl, pk_mul, nI_add, q_c]
  unfold plS plC
  rw [Nat.mul_comm 32]
theorem qC_dropL {K N : Nat} {D : Nat → Int32} {ch : List Nat} {G : CG} (hK : 1000 ≤ K) (hG : G.n = N) (hN1 : 256 ≤ N) (h : hdOk N D) (hN : N ≤ 1024) (hcl : ∀ x ∈ ch, isCl N D x) (hl : ch.length < N / 2 + 2) : ∀ (d i k : Nat) (S : CS), i + d = ch.length → d < k → S.v_Ed_roadLength = nI ch.length → (∀ q, q < ch.length → S.w_Ed_road q = nI (ch.getD q 0)) → S.v_Tb_before = nI (hv D) → S.v_Tb_copies = nI (hy D) → S.v_Tb_length = nI (hz D) → S.v_Tb_clusters = nI (hk N D) → ∃ f, f_Ed_dropItem_98 K G k (nI i) S = some ((S.u_w_Tb_next f).u_w_Dk_bytes (lks D S.w_Dk_bytes (frL (ch.drop i)))) := by
  intro d
  induction d with
  | zero =>
    intro i k S h1 h2 h3 h4 h5 h6 h7 h8
    obtain ⟨k, rfl⟩ : ∃ m, k = m + 1 := ⟨k - 1, by omega⟩
    refine ⟨S.w_Tb_next, ?_⟩
    rw [f_Ed_dropItem_98, h3, if_pos (nI_le (by omega) (by omega)), List.drop_of_length_le (by omega)]
    rfl
  | succ d ih =>
    intro i k S h1 h2 h3 h4 h5 h6 h7 h8
    obtain ⟨k, rfl⟩ : ∃ m, k = m + 1 := ⟨k - 1, by omega⟩
    have hi : i < ch.length := by omega
    have hmem : ch.getD i 0 ∈ ch := by
      rw [List.getD_eq_getElem?_getD, List.getElem?_eq_getElem hi]
      exact List.getElem_mem hi
    have hlk := qC_lk (K := K) (S := S) (x := ch.getD i 0) (v := 0) hK hG hN1 h hN (by have := (hcl _ hmem).2; omega) (by decide) h5 h6 h7 h8
    obtain ⟨f, e⟩ := ih (i + 1) k ((S.u_w_Tb_next (upd S.w_Tb_next (ch.getD i 0) (nI 0))).u_w_Dk_bytes (lk D S.w_Dk_bytes (ch.getD i 0) 0)) (by omega) (by omega) h3 h4 h5 h6 h7 h8
    refine ⟨f, ?_⟩
    rw [f_Ed_dropItem_98, h3, if_neg (nI_ge hi (by omega)), hG, q_g (q_in (by omega) (by omega)), nI_clamp (by omega), h4 i hi, show (0 : Int32) = nI 0 from rfl, hlk, q_b, show (1 : Int32) = nI 1 from rfl, nI_add, q_l, e, drop_get hi]
    rfl
/-- what dropItem does when its slots are marked -/
def drpF (K : Nat) (G : CG) (y_2 : Int32) (S : CS) : Option CS := lf_c (f_Tr_firstOf K G S y_2) fun r_8 S_8 => lf_c (f_Tb_road_Edroad K G S_8 r_8) fun r_9 S_9 => lf_l (S_9.u_v_Ed_roadLength (r_9)) fun S_10 => f_Ed_dropItem_98 K G K 0 S_10
theorem qC_mark {K N sl : Nat} {D : Nat → Int32} {ch : List Nat} {G : CG} (hG : G.n = N) (hN1 : 256 ≤ N) (h : hdOk N D) (hN : N ≤ 1024) (hcl : ∀ x ∈ ch, isCl N D x) (hl : ch.length < N / 2 + 2) (hsl : sl < ch.length * 16 * hc D) (y2 : Int32) : ∀ (d s k : Nat) (S : CS), s + d = sl + 1 → d < k → S.v_Tb_cluster = nI (hc D) → S.v_Tb_start = nI (ha D) → S.v_Ed_roadLength = nI ch.length → (∀ q, q < ch.length → S.w_Ed_road q = nI (ch.getD q 0)) → f_Ed_dropItem_44 K G k y2 (nI sl) (nI s) S = drpF K G y2 (S.u_w_Dk_bytes (mk S.w_Dk_bytes (slR D ch s d))) := by
  have hC := (hd_facts h hN).1
  have hs1 : sl < 514 * 16 * hc D := Nat.lt_of_lt_of_le hsl (Nat.mul_le_mul_right _ (Nat.mul_le_mul_right _ (by omega)))
  intro d
  induction d with
  | zero =>
    intro s k S h1 h2 h3 h4 h5 h6
    obtain ⟨k, rfl⟩ : ∃ m, k = m + 1 := ⟨k - 1, by omega⟩
    rw [f_Ed_dropItem_44, if_pos (nI_lt (by omega) (by omega))]
    rfl
  | succ d ih =>
    intro s k S h1 h2 h3 h4 h5 h6
    obtain ⟨k, rfl⟩ : ∃ m, k = m + 1 := ⟨k - 1, by omega⟩
    have hs : s < ch.length * 16 * hc D := by omega
    obtain ⟨p1, p2, p3⟩ := plS_in (k := 0) h hN hcl hs (by decide)
    rw [f_Ed_dropItem_44, if_neg (nI_nlt (by omega) (by omega)), qC_slotN hG h3 h4 h hN hcl hl h5 h6 hs, q_c, show (229 : Int32) = nI 229 from rfl, qC_put1 hG hN1 hN (by omega), q_b, show (1 : Int32) = nI 1 from rfl, nI_add, q_l]
    rw [ih (s + 1) k (S.u_w_Dk_bytes (st S.w_Dk_bytes (plS D ch s) 229 1)) (by omega) (by omega) h3 h4 h5 h6]
    rfl
