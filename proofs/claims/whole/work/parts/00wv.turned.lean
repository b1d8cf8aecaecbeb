/-! The class on a volume that is turned: it is there, and its groups' size is read back. -/
theorem sbL_per {gi B fr fi P I g id : Nat} {by0 : Nat → Nat} (hP : P < 2 ^ 32) : o4 (sbL Zd gi B fr fi P I g id by0) 32 = P := by
  have key : ∀ k, k < 4 → o1 (sbL Zd gi B fr fi P I g id by0) (32 + k) = o1 (st Zd 32 P 4) (32 + k) := fun k hk0 => by
    unfold sbL
    rw [nbX_o1, if_neg (by omega)]
    unfold sbX
    rw [st_out (by omega), st_out (by omega), st_out (by omega), st_out (by omega), st_out (by omega), st_out (by omega), st_out (by omega), st_out (by omega), st_out (by omega), st_out (by omega), st_out (by omega), st_out (by omega), st_o1, if_pos (by omega), st_o1, if_pos (by omega)]
  rw [o4_sh key, st_o4 hP]
theorem cl_gsz {K N : Nat} {D : Nat → Int32} {fks : List Nat} {z : SS} {A H k B P g0 r to : Nat} {gl : Nat → Nat} {E : Nat → Int32} {G : CG} {S : CS} (h : pPl N D fks (sIt z) A H k B P g0 r to gl) (hE : dTh N D fks z A H k B P g0 r gl E) (hG : G.n = N) (hS : S.w_Dk_bytes = E) : f_In_groupSize K G S = some (nI P, S) := by
  have hN := h.1.2.1
  have hP2 : P < 2 ^ 32 := by rcases h.2.2.1.1.2.2.2.2.1 with q | q | q <;> omega
  have e : o4 E 1056 = P := by
    have a := hE.2 (2, _) (by unfold fxZ fxL; exact List.mem_append_right _ (List.mem_append_right _ (List.mem_cons_of_mem _ (List.mem_singleton.mpr rfl))))
    have s := sbL_per (gi := g0 * (8 * r)) (B := B) (fr := B - 1 - (g0 * (4 + r) + (bdN N fks D (sIt z) A H + kpN N D (sIt z) A H))) (fi := g0 * (8 * r) - (10 + (sIt z).length)) (P := P) (I := 8 * r) (g := 0) (id := o4 D 67) (by0 := lby D (sLb z)) hP2
    rw [← s]
    refine o4_sh fun k hk0 => ?_
    have := a (32 + k) (by omega)
    rw [show 512 * (2, sbL Zd (g0 * (8 * r)) B (B - 1 - (g0 * (4 + r) + (bdN N fks D (sIt z) A H + kpN N D (sIt z) A H))) (g0 * (8 * r) - (10 + (sIt z).length)) P (8 * r) 0 (o4 D 67) (lby D (sLb z))).1 + (32 + k) = 1056 + k from (by show 512 * 2 + (32 + k) = 1056 + k; omega)] at this
    exact this
  unfold f_In_groupSize
  rw [show (1056 : Int32) = nI 1056 from rfl, rV4 E hG hS hN.2 (by omega), q_c, e]
theorem cl_lookB {K N : Nat} {D : Nat → Int32} {fks : List Nat} {z : SS} {A H k B P g0 r to : Nat} {gl : Nat → Nat} {E : Nat → Int32} {G : CG} {S : CS} (h : pPl N D fks (sIt z) A H k B P g0 r to gl) (hE : dTh N D fks z A H k B P g0 r gl E) (hG : G.n = N) (hS : S.w_Dk_bytes = E) : f_Vt_look K G S = some (2, G, S) := by
  unfold f_Vt_look
  rw [cl_there h hE hG hS, q_c, if_neg (show ¬ (1 : Int32) = 0 by decide)]
