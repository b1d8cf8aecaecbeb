/-- the entries put by one cluster more -/
def grL (ch : List Nat) (x : Nat) : List (Nat × Nat) := if ch.length = 0 then [(x, 268435455)] else [(x, 268435455), (ch.getD (ch.length - 1) 0, x)]
theorem qC_gr {K N x : Nat} {D : Nat → Int32} {e : Nat → Nat} {G : CG} {S : CS} {ch : List Nat} (hK : 5000 ≤ K) (hN1 : 256 ≤ N) (h : hdOk N D) (hN : N ≤ 1024) (he : ∀ y, e y < 2 ^ 28) (hS : nxR N D e G S) (h1 : S.v_Tb_before = nI (hv D)) (h2 : S.v_Tb_copies = nI (hy D)) (h3 : S.v_Tb_length = nI (hz D)) (h4 : S.v_Tb_cluster = nI (hc D)) (h5 : S.v_Tb_start = nI (ha D)) (hx : frst e 2 x) (hxl : x < hk N D + 2) (hl : S.v_Ed_roadLength = nI ch.length) (hll : ch.length < N / 2 + 2) (hch : ∀ q, q < ch.length → S.w_Ed_road q = nI (ch.getD q 0)) (hcl : ∀ y ∈ ch, isCl N D y) : ∃ f g, f_Ed_lengthenRoad K G S = some ((((S.u_w_Tb_next g).u_w_Dk_bytes (if ch.length = 0 then zr (lk D S.w_Dk_bytes x 268435455) (plC D x) (512 * hc D) else lk D (zr (lk D S.w_Dk_bytes x 268435455) (plC D x) (512 * hc D)) (ch.getD (ch.length - 1) 0) x)).u_w_Ed_road f).u_v_Ed_roadLength (nI (ch.length + 1))) ∧ (∀ q, q < (ch ++ [x]).length → f q = nI ((ch ++ [x]).getD q 0)) ∧ ∀ y, y < hk N D + 2 → g y = nI (lkV (grL ch x) y (e y)) := by
  have hf := hd_facts h hN
  have road : ∀ q, q < (ch ++ [x]).length → upd S.w_Ed_road ch.length (nI x) q = nI ((ch ++ [x]).getD q 0) := fun q hq => by
    rw [List.length_append] at hq
    have hq : q < ch.length + 1 := hq
    by_cases w : q = ch.length
    · rw [w, pk_us, List.getD_eq_getElem?_getD, List.getElem?_append_right (Nat.le_refl _), Nat.sub_self]
      rfl
    · rw [pk_un w, List.getD_eq_getElem?_getD, List.getElem?_append_left (by omega), ← List.getD_eq_getElem?_getD]
      exact hch q (by omega)
  have nx1 : ∀ y, y < hk N D + 2 → upd S.w_Tb_next x (nI 268435455) y = nI (if y = x then 268435455 else e y) := fun y hy0 => by
    by_cases w : y = x
    · rw [w, pk_us, if_pos rfl]
    · rw [pk_un w, if_neg w]; exact hS.2.2 y hy0
  unfold f_Ed_lengthenRoad f_Ed_lengthenRoad_47
  rw [qC_take hK hN1 h hN he hS h1 h2 h3 h4 h5 hx hxl, q_c]
  generalize hX1 : zr (lk D S.w_Dk_bytes x 268435455) (plC D x) (512 * hc D) = X1
  obtain ⟨S2, e2⟩ : ∃ S2, (S.u_w_Tb_next (upd S.w_Tb_next x (nI 268435455))).u_w_Dk_bytes X1 = S2 := ⟨_, rfl⟩
  have a1 : S2.v_Ed_roadLength = nI ch.length := by rw [← e2]; exact hl
  have a2 : S2.w_Ed_road = S.w_Ed_road := by rw [← e2]; rfl
  have a3 : S2.w_Dk_bytes = X1 := by rw [← e2]; rfl
  have a4 : S2.w_Tb_next = upd S.w_Tb_next x (nI 268435455) := by rw [← e2]; rfl
  rw [e2, a1, hS.1, if_pos (nI_lt hll (by omega))]
  by_cases g : ch.length = 0
  · refine ⟨upd S.w_Ed_road ch.length (nI x), upd S.w_Tb_next x (nI 268435455), ?_, road, fun y hy0 => ?_⟩
    · rw [if_pos (show nI ch.length ≤ 0 by rw [g]; decide), q_g (q_in hll (by omega)), nI_clamp (by omega), q_l, a2, show (S2.u_w_Ed_road (upd S.w_Ed_road ch.length (nI x))).v_Ed_roadLength = nI ch.length from a1, show (1 : Int32) = nI 1 from rfl, nI_add, q_l, if_pos g, ← e2]
    · unfold grL
      rw [if_pos g, nx1 y hy0]
      rfl
  · have hi1 : ch.length - 1 < ch.length := by omega
    have hmem : ch.getD (ch.length - 1) 0 ∈ ch := by
      rw [List.getD_eq_getElem?_getD, List.getElem?_eq_getElem hi1]
      exact List.getElem_mem hi1
    have hll2 := (hcl _ hmem).2
    have hlk := qC_lk (K := K) (S := S2) (x := ch.getD (ch.length - 1) 0) (v := x) (by omega) hS.1 hN1 h hN (by omega) (by omega) (by rw [← e2]; exact h1) (by rw [← e2]; exact h2) (by rw [← e2]; exact h3) (by rw [← e2]; exact hS.2.1)
    refine ⟨upd S.w_Ed_road ch.length (nI x), upd (upd S.w_Tb_next x (nI 268435455)) (ch.getD (ch.length - 1) 0) (nI x), ?_, road, fun y hy0 => ?_⟩
    · rw [if_neg (show ¬ nI ch.length ≤ 0 from nI_nle (by omega) (by omega)), show (1 : Int32) = nI 1 from rfl, pk_sub (by omega), q_g (q_in (by omega) (by omega)), nI_clamp (by omega), a2, hch _ hi1, hlk, q_b, show ((S2.u_w_Tb_next (upd S2.w_Tb_next (ch.getD (ch.length - 1) 0) (nI x))).u_w_Dk_bytes (lk D S2.w_Dk_bytes (ch.getD (ch.length - 1) 0) x)).v_Ed_roadLength = nI ch.length from a1, q_g (q_in hll (by omega)), nI_clamp (by omega), q_l, if_neg g, a3, a4]
      rw [show (((S2.u_w_Tb_next (upd (upd S.w_Tb_next x (nI 268435455)) (ch.getD (ch.length - 1) 0) (nI x))).u_w_Dk_bytes (lk D X1 (ch.getD (ch.length - 1) 0) x)).u_w_Ed_road (upd ((S2.u_w_Tb_next (upd (upd S.w_Tb_next x (nI 268435455)) (ch.getD (ch.length - 1) 0) (nI x))).u_w_Dk_bytes (lk D X1 (ch.getD (ch.length - 1) 0) x)).w_Ed_road ch.length (nI x))).v_Ed_roadLength = nI ch.length from a1, nI_add, q_l, show ((S2.u_w_Tb_next (upd (upd S.w_Tb_next x (nI 268435455)) (ch.getD (ch.length - 1) 0) (nI x))).u_w_Dk_bytes (lk D X1 (ch.getD (ch.length - 1) 0) x)).w_Ed_road = S.w_Ed_road from a2, ← e2]
      rfl
    · unfold grL
      rw [if_neg g]
      show _ = nI (if y = ch.getD (ch.length - 1) 0 then x else if y = x then 268435455 else e y)
      by_cases w : y = ch.getD (ch.length - 1) 0
      · rw [w, pk_us, if_pos rfl]
      · rw [pk_un w, if_neg w]; exact nx1 y hy0
