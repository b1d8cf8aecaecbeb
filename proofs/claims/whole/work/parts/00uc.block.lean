/-! The turner's block, and its writes to the disk. -/
theorem qU_1 {K p a : Nat} {G : CG} {S : CS} (hp : p < 1024) : f_Tu_putOne K G S (nI p) (nI a) = some (S.u_w_Tu_block (st S.w_Tu_block p a 1)) := by
  unfold f_Tu_putOne
  rw [if_neg (nI_pos (by omega)), show (1024 : Int32) = nI 1024 from rfl, if_neg (nI_ge (by omega) (by omega)), q_g (q_in (by omega) (by omega)), q_l, nI_clamp (by omega)]
  show some _ = some (S.u_w_Tu_block (upd S.w_Tu_block (p + 0) (wb (nI (a / 256 ^ 0)))))
  rw [Nat.pow_zero, Nat.div_one, Nat.add_zero]
theorem qU_2 {K p a : Nat} {G : CG} {S : CS} (hp : p + 1 < 1024) (ha0 : a < 2 ^ 32) : f_Tu_putTwo K G S (nI p) (nI a) = some (S.u_w_Tu_block (st S.w_Tu_block p a 2)) := by
  unfold f_Tu_putTwo
  have e8 : vp_nar .byte ((nI a >>> ((8 : Int32) &&& 31)).toInt8.toInt32) = wb (nI (a / 256 ^ 1)) := wb_ub (by rw [show ((8 : Int32)) = nI 8 from rfl, shr_ub ha0 (Or.inl rfl), ub_nI])
  rw [if_neg (nI_pos (by omega)), show (1022 : Int32) = nI 1022 from rfl, if_neg (nI_nlt (by omega) (by omega)), q_g (q_in (by omega) (by omega)), q_l, nI_clamp (by omega), show (1 : Int32) = nI 1 from rfl, nI_add, q_g (q_in (by omega) (by omega)), q_l, nI_clamp (by omega), e8]
  show some _ = some (S.u_w_Tu_block (upd (upd S.w_Tu_block (p + 0) (wb (nI (a / 256 ^ 0)))) (p + 1) (wb (nI (a / 256 ^ 1)))))
  rw [Nat.pow_zero, Nat.div_one, Nat.add_zero]
  rfl
theorem qU_4 {K p a : Nat} {G : CG} {S : CS} (hp : p + 3 < 1024) (ha0 : a < 2 ^ 32) : f_Tu_putFour K G S (nI p) (nI a) = some (S.u_w_Tu_block (st S.w_Tu_block p a 4)) := by
  unfold f_Tu_putFour
  have e8 : vp_nar .byte ((nI a >>> ((8 : Int32) &&& 31)).toInt8.toInt32) = wb (nI (a / 256 ^ 1)) := wb_ub (by rw [show ((8 : Int32)) = nI 8 from rfl, shr_ub ha0 (Or.inl rfl), ub_nI])
  have e16 : vp_nar .byte ((nI a >>> ((16 : Int32) &&& 31)).toInt8.toInt32) = wb (nI (a / 256 ^ 2)) := wb_ub (by rw [show ((16 : Int32)) = nI 16 from rfl, shr_ub ha0 (Or.inr (Or.inl rfl)), ub_nI])
  have e24 : vp_nar .byte ((nI a >>> ((24 : Int32) &&& 31)).toInt8.toInt32) = wb (nI (a / 256 ^ 3)) := wb_ub (by rw [show ((24 : Int32)) = nI 24 from rfl, shr_ub ha0 (Or.inr (Or.inr rfl)), ub_nI])
  rw [if_neg (nI_pos (by omega)), show (1020 : Int32) = nI 1020 from rfl, if_neg (nI_nlt (by omega) (by omega)), show (1 : Int32) = nI 1 from rfl, show (2 : Int32) = nI 2 from rfl, show (3 : Int32) = nI 3 from rfl, nI_add, nI_add, nI_add, q_g (q_in (by omega) (by omega)), q_l, q_g (q_in (by omega) (by omega)), q_l, q_g (q_in (by omega) (by omega)), q_l, q_g (q_in (by omega) (by omega)), q_l, nI_clamp (by omega), nI_clamp (by omega), nI_clamp (by omega), nI_clamp (by omega), e8, e16, e24]
  show some _ = some (S.u_w_Tu_block (upd (upd (upd (upd S.w_Tu_block (p + 0) (wb (nI (a / 256 ^ 0)))) (p + 1) (wb (nI (a / 256 ^ 1)))) (p + 2) (wb (nI (a / 256 ^ 2)))) (p + 3) (wb (nI (a / 256 ^ 3)))))
  rw [Nat.pow_zero, Nat.div_one, Nat.add_zero]
  rfl
def zB (Z : Nat → Int32) : Nat → Int32 := ar_fill Z 0 1024 (vp_nar .byte 0)
theorem zB_o1 {Z : Nat → Int32} {j : Nat} (h : j < 1024) : o1 (zB Z) j = 0 := by
  show ub (if 0 ≤ j ∧ j < 1024 then vp_nar .byte 0 else Z j) = 0
  rw [if_pos ⟨Nat.zero_le _, h⟩]
  decide
theorem qU_empty {K : Nat} {G : CG} {S : CS} : f_Tu_empty K G S = some (S.u_w_Tu_block (zB S.w_Tu_block)) := rfl
/-! Power: none is endless, some w is power for w writes. -/
def pI (p : Option Nat) : Int32 := match p with
  | none => -1
  | some w => nI w
def pD (p : Option Nat) : Option Nat := match p with
  | none => none
  | some w => some (w - 1)
abbrev pOk (p : Option Nat) : Prop := ∀ w, p = some w → w < 2 ^ 31
/-- 512 bytes of Y, from a on, come to sector s -/
def wS (E : Nat → Int32) (s : Nat) (Y : Nat → Int32) (a : Nat) : Nat → Int32 := va_cpy Y E a (512 * s) 512
theorem wS_o1 {E Y : Nat → Int32} {s a q : Nat} : o1 (wS E s Y a) q = if 512 * s ≤ q ∧ q < 512 * s + 512 then o1 Y (a + (q - 512 * s)) else o1 E q := by
  show ub (if 512 * s ≤ q ∧ q < 512 * s + 512 then Y (a + (q - 512 * s)) else E q) = if 512 * s ≤ q ∧ q < 512 * s + 512 then ub (Y (a + (q - 512 * s))) else ub (E q)
  by_cases w : 512 * s ≤ q ∧ q < 512 * s + 512
  · rw [if_pos w, if_pos w]
  · rw [if_neg w, if_neg w]
noncomputable def aW (p : Option Nat) (E : Nat → Int32) (s : Nat) (Y : Nat → Int32) (a : Nat) : Nat → Int32 := cif (p = some 0) E (wS E s Y a)
theorem qU_has {K N s : Nat} {G : CG} {S : CS} (hN : N ≤ 1024) (hs : s < N) (h : S.v_Dk_sectors = nI N) : f_Dk_has K G S (nI s) 0 = some (1, S) := by
  unfold f_Dk_has
  rw [if_neg (nI_pos (by omega)), h, if_neg (nI_ge (by omega) (by omega)), if_neg (by decide), if_neg (by decide)]
theorem pD_ok {p : Option Nat} (h : pOk p) : pOk (pD p) := by
  intro w e
  cases p with
  | none => cases e
  | some v =>
    have := h v rfl
    cases e
    omega
theorem qU_store {K N s a : Nat} {G : CG} {S : CS} {p : Option Nat} (hG : G.n = N) (hN : N ≤ 1024) (hs : s < N) (ha0 : a ≤ 512) (h : S.v_Dk_sectors = nI N) (hb : byt S) (hp : S.v_Dk_power = pI p) (hpo : pOk p) : f_Dk_store_Tublock K G S (nI s) (nI a) = some ((S.u_w_Dk_bytes (aW p S.w_Dk_bytes s S.w_Tu_block a)).u_v_Dk_power (pI (pD p))) := by
  have h48 : ∀ S' : CS, S'.w_Tu_block = S.w_Tu_block → f_Dk_store_Tublock_48 K G (nI s) (nI a) S' = some (S'.u_w_Dk_bytes (wS S'.w_Dk_bytes s S'.w_Tu_block a)) := fun S' e => by
    unfold f_Dk_store_Tublock_48
    have e512 : (512 : Int32).toNatClampNeg = 512 := by decide
    have es : (nI s * 512).toNatClampNeg = 512 * s := by
      rw [show (512 : Int32) = nI 512 from rfl, pk_mul, nI_clamp (by omega), Nat.mul_comm]
    have ea : (nI a).toNatClampNeg = a := nI_clamp (by omega)
    rw [q_g ⟨nI_pos (by omega), by rw [show (512 : Int32) = nI 512 from rfl, pk_mul]; exact nI_pos (by omega), by decide, by rw [e512, ea]; omega, by rw [e512, es, hG]; omega, fun i _ => by rw [e]; exact hb.2 _⟩, q_l, e512, es, ea]
    rfl
  unfold f_Dk_store_Tublock
  rw [hp]
  cases p with
  | none =>
    rw [if_neg (show ¬ pI none = 0 by decide), qU_has hN hs h, q_c, if_neg (show ¬ (1 : Int32) = 0 by decide), if_neg (nI_pos (by omega)), show ((1024 : Int32) - 512) = nI 512 from rfl, if_pos (nI_le (by omega) (by omega)), hp, if_pos (show pI none ≤ 0 by decide), h48 S rfl]
    unfold aW
    rw [cif_f (by intro y; cases y)]
    show some _ = some ((S.u_w_Dk_bytes _).u_v_Dk_power (-1))
    rw [show (-1 : Int32) = S.v_Dk_power from hp.symm]
    rfl
  | some w =>
    have hw := hpo w rfl
    by_cases g : w = 0
    · rw [g, if_pos (show pI (some 0) = 0 from rfl)]
      unfold aW
      rw [cif_t rfl]
      show some S = some ((S.u_w_Dk_bytes S.w_Dk_bytes).u_v_Dk_power (nI 0))
      rw [show nI 0 = S.v_Dk_power by rw [hp, g]; rfl]
      rfl
    · have e0 : ¬ pI (some w) = 0 := nI_ne0 (by omega) (by omega)
      rw [if_neg e0, qU_has hN hs h, q_c, if_neg (show ¬ (1 : Int32) = 0 by decide), if_neg (nI_pos (by omega)), show ((1024 : Int32) - 512) = nI 512 from rfl, if_pos (nI_le (by omega) (by omega)), hp, if_neg (show ¬ pI (some w) ≤ 0 from nI_nle (by omega) (by omega)), q_l, h48 (S.u_v_Dk_power (pI (some w) - 1)) rfl]
      unfold aW
      rw [cif_f (by intro y; cases y; exact g rfl)]
      show some _ = some ((S.u_w_Dk_bytes (wS S.w_Dk_bytes s S.w_Tu_block a)).u_v_Dk_power (nI (w - 1)))
      rw [show pI (some w) - 1 = nI (w - 1) from pk_sub (b := 1) (by omega)]
      rfl
theorem qU_load {K N s : Nat} {G : CG} {S : CS} (hG : G.n = N) (hN : N ≤ 1024) (hs : s < N) (h : S.v_Dk_sectors = nI N) (hb : byt S) : f_Dk_load_Tublock K G S (nI s) 0 = some (S.u_w_Tu_block (va_cpy S.w_Dk_bytes S.w_Tu_block (512 * s) 0 512)) := by
  have e512 : (512 : Int32).toNatClampNeg = 512 := by decide
  have e0 : (0 : Int32).toNatClampNeg = 0 := by decide
  have es : (nI s * 512).toNatClampNeg = 512 * s := by
    rw [show (512 : Int32) = nI 512 from rfl, pk_mul, nI_clamp (by omega), Nat.mul_comm]
  unfold f_Dk_load_Tublock
  rw [qU_has hN hs h, q_c, if_neg (show ¬ (1 : Int32) = 0 by decide), if_neg (by decide), if_neg (by decide), q_g ⟨by rw [show (512 : Int32) = nI 512 from rfl, pk_mul]; exact nI_pos (by omega), by decide, by decide, by rw [e512, es, hG]; omega, by rw [e512, e0]; decide, fun i _ => hb.1 _⟩, q_l, e512, es, e0]
