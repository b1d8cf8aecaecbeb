/-! There, or not yet. -/
theorem sbL_sig {gi B fr fi P I g id : Nat} {by0 : Nat → Nat} : o2 (sbL Zd gi B fr fi P I g id by0) 56 = 61267 := by
  have key : ∀ q, q = 56 ∨ q = 57 → o1 (sbL Zd gi B fr fi P I g id by0) q = 61267 / 256 ^ (q - 56) % 256 := fun q hq => by
    unfold sbL
    rw [nbX_o1, if_neg (by omega)]
    unfold sbX
    rw [st_out (by omega), st_out (by omega), st_out (by omega), st_out (by omega), st_out (by omega), st_out (by omega), st_out (by omega), st_out (by omega), st_o1, if_pos (by omega)]
  unfold o2
  rw [key 56 (by omega), key 57 (by omega)]
theorem cl_there {K N : Nat} {D : Nat → Int32} {fks : List Nat} {z : SS} {A H k B P g0 r to : Nat} {gl : Nat → Nat} {E : Nat → Int32} {G : CG} {S : CS} (h : pPl N D fks (sIt z) A H k B P g0 r to gl) (hE : dTh N D fks z A H k B P g0 r gl E) (hG : G.n = N) (hS : S.w_Dk_bytes = E) : f_In_isThere K G S = some (1, S) := by
  obtain ⟨m1, -, -⟩ := cl_marked (K := K) h hE.1 hG hS
  have hN := h.1.2.1
  unfold f_In_isThere
  have e : o2 E 1080 = 61267 := by
    have a := hE.2 (2, _) (by unfold fxZ fxL; exact List.mem_append_right _ (List.mem_append_right _ (List.mem_cons_of_mem _ (List.mem_singleton.mpr rfl))))
    have a1 := a 56 (by decide)
    have a2 := a 57 (by decide)
    have a1 : o1 E 1080 = _ := a1
    have a2 : o1 E 1081 = _ := a2
    have s := sbL_sig (gi := g0 * (8 * r)) (B := B) (fr := B - 1 - (g0 * (4 + r) + (bdN N fks D (sIt z) A H + kpN N D (sIt z) A H))) (fi := g0 * (8 * r) - (10 + (sIt z).length)) (P := P) (I := 8 * r) (g := 0) (id := o4 D 67) (by0 := lby D (sLb z))
    unfold o2 at s ⊢
    rw [a1, a2]
    exact s
  rw [m1, q_c, if_neg (show ¬ (1 : Int32) = 0 by decide), show (1080 : Int32) = nI 1080 from rfl, rV2 E hG hS hN.2 (by omega), q_c, e, if_pos (by decide)]
theorem cl_notYet {K N : Nat} {D : Nat → Int32} {fks : List Nat} {z : SS} {A H k B P g0 r to : Nat} {gl : Nat → Nat} {E : Nat → Int32} {G : CG} {S : CS} (h : pPl N D fks (sIt z) A H k B P g0 r to gl) (hE : dNt N D fks z A H k P g0 r gl E) (hG : G.n = N) (hS : S.w_Dk_bytes = E) : f_In_isThere K G S = some (0, S) ∧ f_In_isMarked K G S = some (1, S) := by
  obtain ⟨m1, -, -⟩ := cl_marked (K := K) h hE.1 hG hS
  have hN := h.1.2.1
  refine ⟨?_, m1⟩
  unfold f_In_isThere
  have e : o2 E 1080 = 0 := by
    unfold o2
    rw [hE.2 1080 (by omega) (by omega), hE.2 (1080 + 1) (by omega) (by omega), h.1.2.2.2 1080 (by omega), h.1.2.2.2 (1080 + 1) (by omega)]
  rw [m1, q_c, if_neg (show ¬ (1 : Int32) = 0 by decide), show (1080 : Int32) = nI 1080 from rfl, rV2 E hG hS hN.2 (by omega), q_c, e, if_neg (by decide)]
  rfl
