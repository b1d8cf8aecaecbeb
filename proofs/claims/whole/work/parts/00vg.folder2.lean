/-! A directory laid by the reference. -/
abbrev tnM (N : Nat) (D : Nat → Int32) (fks : List Nat) (its : List It) (A H k B P g0 r : Nat) (gl : Nat → Nat) (rm : List Nat) (T : MS) : Prop := trM N D fks its T ∧ (plN A H k B P g0 r ∧ plM A H k B P g0 r T ∧ T.v_inodes = nI (8 * r) ∧ 1 ≤ r ∧ 10 + its.length ≤ g0 * (8 * r)) ∧ bdA T rm ∧ (∀ c, c < 560 → T.v_moved c = nI (gl c)) ∧ (T.v_parent 0 = 0 ∧ ipa (itr its 0) = 0 ∧ ∀ i, i < its.length → isDr D its i → ipa (itr its i) < its.length) ∧ ∀ j, 1 ≤ j → j < its.length → daysP D (isp (itr its j))
theorem ql_mode {K N i : Nat} {D : Nat → Int32} {fks : List Nat} {its : List It} {T : MS} (h : trM N D fks its T) (hi : i < its.length) : f_Mo_mode K T (nI i) = some (nI (moN D its i), T) := by
  have hN := h.1.2
  have hM := h.2.1
  have hT := h.2.2.1
  have ho := h.2.2.2.1
  unfold f_Mo_mode f_Mo_mode_17 f_Mo_mode_46 f_Mo_mode_47 moN
  rw [qM_isFolder hM.1 hN hT ho hi, q_c]
  have key : ∀ z, z < 2 ^ 31 → 128 ≤ z → (if nI i ≤ 0 then some (nI z - 0, T) else lf_g (lf_in (nI i) 4200) (lf_c (f_Mo_one K T ((T.v_at (nI i).toNatClampNeg) + 11)) fun r_5 S_5 => if (r_5 &&& 1) = 1 then some (nI z - 128, S_5) else some (nI z - 0, S_5))) = some (nI (z - (if btI D its i % 2 = 1 then 128 else 0)), T) := fun z hz hz2 => by
    have hl := ho.2.1
    by_cases g : i = 0
    · rw [if_pos (show nI i ≤ 0 by rw [g]; decide), show btI D its i = 16 from if_pos g, if_neg (by decide), Nat.sub_zero, show nI z - 0 = nI z from Int32.sub_zero _]
    · have hp := (ho.2.2.2.2 i (by omega) hi).1
      have ha := (hT.2.2.1 i (by omega) hi).1
      have e1 : nI (o1 D (isp (itr its i) + 11)) &&& 1 = nI (o1 D (isp (itr its i) + 11) % 2) := pk_andN (by have := o1_lt D (isp (itr its i) + 11); omega) 1 rfl
      rw [if_neg (show ¬ nI i ≤ 0 from nI_nle (by omega) (by omega)), q_g (q_in (by omega) (by decide)), nI_clamp (by omega), ha, show (11 : Int32) = nI 11 from rfl, nI_add, rM1 D hM.1 (by omega), q_c, e1, show btI D its i = o1 D (isp (itr its i) + 11) from if_neg g]
      by_cases w : o1 D (isp (itr its i) + 11) % 2 = 1
      · rw [w, if_pos (show nI 1 = 1 from rfl), if_pos rfl, show nI z - 128 = nI (z - 128) from pk_sub (b := 128) hz2]
      · rw [show o1 D (isp (itr its i) + 11) % 2 = 0 by omega, if_neg (show ¬ nI 0 = 1 by decide), if_neg (by decide), Nat.sub_zero, show nI z - 0 = nI z from Int32.sub_zero _]
  by_cases w : isDr D its i
  · rw [b01_t (show i = 0 ∨ o1 D (isp (itr its i) + 11) / 16 % 2 = 1 from w), if_neg (show ¬ nI 1 = 0 by decide), cif_t w]
    exact key 16877 (by decide) (by decide)
  · rw [b01_f (show ¬ (i = 0 ∨ o1 D (isp (itr its i) + 11) / 16 % 2 = 1) from w), if_pos (show nI 0 = 0 from rfl), cif_f w]
    exact key 33188 (by decide) (by decide)
theorem ql_num {K i : Nat} {T : MS} (hi : i < 4300) : f_Mo_numberOf K T (nI i) = some (nI (nmr i), T) := by
  unfold f_Mo_numberOf nmr
  by_cases w : i = 0
  · rw [w, if_pos (show nI 0 = 0 from rfl), if_pos rfl]; rfl
  · rw [if_neg (nI_ne0 (by omega) (by omega)), if_neg w, show (11 : Int32) = nI 11 from rfl, nI_add]
theorem rmF_getD (rm : List Nat) : ∀ d a s, s < d → (rmF rm a d).getD s 0 = rm.getD (a + s) 0 := by
  intro d
  induction d with
  | zero => intro a s h; exact absurd h (Nat.not_lt_zero _)
  | succ d ih =>
    intro a s h
    rw [rmF]
    cases s with
    | zero => rfl
    | succ s =>
      show (rmF rm (a + 1) d).getD s 0 = _
      rw [ih (a + 1) s (by omega), show a + 1 + s = a + (s + 1) by omega]
theorem tx_pt {K : Nat} {T : MS} {sz : Nat} {nb : Nat → Nat} (h : ∀ q, q < sz → nb q = 46) : txR K T (-2) sz nb := Or.inl ⟨rfl, h⟩
theorem tx_kid {K N j : Nat} {D : Nat → Int32} {fks : List Nat} {its : List It} {T : MS} (hK : 1000 ≤ K) (h : trM N D fks its T) (h1 : 1 ≤ j) (hj : j < its.length) : txR K T (nI j) (tsz (inm (itr its j))) (nbV (inm (itr its j))) := by
  have hl := h.2.2.2.1.2.1
  have hs := tsz_le (inm (itr its j))
  have hs2 := (h.2.2.2.1.2.2.2.2 j h1 hj).2.2.2.2.1
  refine Or.inr ⟨Int32.le_of_lt (Int32.not_le.mp (nI_nleM (by omega))), fun q hq F U n R => ?_⟩
  rw [qM_text (T := qS T F U n R) hK h.2.2.1 h.2.2.2.1 h1 hj, if_neg (nI_pos (by omega)), nI_clamp (by omega), nbL_some _ _ hq]
  rfl
theorem tx_rec {K : Nat} {T : MS} : txR K T (-1) 7 (fun q => rcN.getD q 0) := by
  refine Or.inr ⟨by decide, fun q hq F U n R => ?_⟩
  unfold f_Mo_text
  rw [if_pos rfl, if_neg (nI_pos (by omega)), if_neg (show ¬ (7 : Int32) ≤ nI q from nI_ge (b := 7) (by omega) (by omega)), rcN_at hq, q_b]
