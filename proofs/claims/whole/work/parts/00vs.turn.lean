/-! The reference turns. -/
theorem ql_turn2 {K : Nat} {T : MS} : ∀ (d q w : Nat) (F : Nat → Int32), q + d = 524288 → d < w → (∀ x, x < q → o1 F x = 0) → ∃ F', f_Mo_turn_2 K w (nI q) (T.u_v_fresh F) = f_Mo_turn_23 K K 0 (T.u_v_fresh F') ∧ ∀ x, x < 524288 → o1 F' x = 0 := by
  intro d
  induction d with
  | zero =>
    intro q w F e1 e2 h
    obtain ⟨w, rfl⟩ : ∃ m, w = m + 1 := ⟨w - 1, by omega⟩
    obtain rfl : q = 524288 := by omega
    refine ⟨F, ?_, h⟩
    rw [f_Mo_turn_2, if_pos (show (524288 : Int32) ≤ nI 524288 from nI_le (a := 524288) (by omega) (by omega))]
  | succ d ih =>
    intro q w F e1 e2 h
    obtain ⟨w, rfl⟩ : ∃ m, w = m + 1 := ⟨w - 1, by omega⟩
    obtain ⟨F', a1, a2⟩ := ih (q + 1) w (upd F q (vp_nar .byte 0)) (by omega) (by omega) (fun x hx => by
      by_cases c : x = q
      · rw [c, o1_upd_s]; decide
      · rw [o1_upd_n c]; exact h x (by omega))
    refine ⟨F', ?_, a2⟩
    rw [f_Mo_turn_2, if_neg (show ¬ (524288 : Int32) ≤ nI q from nI_ge (b := 524288) (by omega) (by omega)), q_g (q_in (by omega) (by decide)), nI_clamp (by omega), q_l, nI_1, q_l]
    exact a1
theorem ql_turn23 {K B : Nat} {T : MS} {fx : Nat → Prop} (hB : B ≤ 512) (hb : T.v_blocks = nI B) (hf : ∀ b, b < 512 → T.v_fixed b = b01 (fx b)) : ∀ (d q w : Nat) (U : Nat → Int32), q + d = 512 → d < w → (∀ x, x < q → U x = b01 (x < B ∧ fx x)) → ∃ U', f_Mo_turn_23 K w (nI q) (T.u_v_used U) = (f_Mo_makeRecord K ((T.u_v_used U').u_v_next 0)).bind (fun S_7 => f_Mo_turn_75 K K 0 S_7) ∧ uM U' (fun c => c < B ∧ fx c) := by
  intro d
  induction d with
  | zero =>
    intro q w U e1 e2 h
    obtain ⟨w, rfl⟩ : ∃ m, w = m + 1 := ⟨w - 1, by omega⟩
    obtain rfl : q = 512 := by omega
    refine ⟨U, ?_, h⟩
    rw [f_Mo_turn_23, if_pos (show (512 : Int32) ≤ nI 512 from nI_le (a := 512) (by omega) (by omega)), q_l]
  | succ d ih =>
    intro q w U e1 e2 h
    obtain ⟨w, rfl⟩ : ∃ m, w = m + 1 := ⟨w - 1, by omega⟩
    have step : ∀ v : Int32, vp_nar .boolean v = b01 (q < B ∧ fx q) → ∃ U', f_Mo_turn_57 K (f_Mo_turn_23 K w) (nI q) (nI q) v (T.u_v_used U) = (f_Mo_makeRecord K ((T.u_v_used U').u_v_next 0)).bind (fun S_7 => f_Mo_turn_75 K K 0 S_7) ∧ uM U' (fun c => c < B ∧ fx c) := fun v hv => by
      obtain ⟨U', a1, a2⟩ := ih (q + 1) w (upd U q (vp_nar .boolean v)) (by omega) (by omega) (fun x hx => by
        by_cases c : x = q
        · rw [c, pk_us, hv]
        · rw [pk_un c]; exact h x (by omega))
      refine ⟨U', ?_, a2⟩
      unfold f_Mo_turn_57
      rw [q_g (q_in (by omega) (by decide)), q_l, nI_clamp (by omega), nI_1, q_l]
      exact a1
    rw [f_Mo_turn_23, if_neg (show ¬ (512 : Int32) ≤ nI q from nI_ge (b := 512) (by omega) (by omega)), show (T.u_v_used U).v_blocks = nI B from hb]
    unfold f_Mo_turn_56
    by_cases c : B ≤ q
    · rw [if_pos (nI_le c (by omega))]
      exact step 0 (by rw [b01_f (fun y => by omega)]; rfl)
    · have hfq : (T.u_v_used U).v_fixed (nI q).toNatClampNeg = b01 (fx q) := by rw [nI_clamp (by omega)]; exact hf q (by omega)
      rw [if_neg (nI_ge (by omega) (by omega)), q_g (q_in (by omega) (by decide)), hfq]
      by_cases c2 : fx q
      · rw [b01_t c2, if_neg (show ¬ nI 1 = 0 by decide)]
        exact step 1 (by rw [b01_t ⟨by omega, c2⟩]; rfl)
      · rw [b01_f c2, if_pos (show nI 0 = 0 from rfl)]
        exact step 0 (by rw [b01_f (fun y => c2 y.2)]; rfl)
theorem gsz_in {A H k B P g0 r g : Nat} (h : plN A H k B P g0 r) (hg : g < g0) : 1 + g * P + gSz B P g0 g = if g + 1 < g0 then 1 + (g + 1) * P else B := by
  obtain ⟨y1, y2, y3, y4, y5, y6, y7⟩ := gr_le h hg
  unfold gSz at *
  by_cases c : g + 1 < g0
  · rw [if_neg (by omega), if_pos c, Nat.succ_mul]; omega
  · rw [if_pos (by omega), if_neg c]; omega
theorem ql_turn135 {K : Nat} {A H k B P g0 r : Nat} {T : MS} {us : Nat → Prop} (hK : 2000 ≤ K) (hpl : plN A H k B P g0 r) (hT : plM A H k B P g0 r T) (hU : uM T.v_used us) : f_Mo_turn_135 K K 0 0 T = f_Mo_turn_160 K K (lN (cntP (fun b => ¬ us b) B - cntP (fun b => ¬ us b) 1)) 0 T := by
  have hB := hpl.2.2.2.1
  have hg8 := hpl.2.2.2.2.2.1
  have hg1 : 1 ≤ g0 ∧ g0 ≤ 8 := by rcases hpl.2.2.2.2.1 with q | q | q <;> rw [q] at hg8 <;> omega
  have key : ∀ (d g w : Nat), g + d = g0 → d < w → f_Mo_turn_135 K w (lN (cntP (fun b => ¬ us b) (if g < g0 then 1 + g * P else B) - cntP (fun b => ¬ us b) 1)) (nI g) T = f_Mo_turn_160 K K (lN (cntP (fun b => ¬ us b) B - cntP (fun b => ¬ us b) 1)) 0 T := by
    intro d
    induction d with
    | zero =>
      intro g w e1 e2
      obtain ⟨w, rfl⟩ : ∃ m, w = m + 1 := ⟨w - 1, by omega⟩
      rw [f_Mo_turn_135, hT.2.2.2.2.2.1, if_pos (nI_le (by omega) (by omega)), if_neg (by omega)]
    | succ d ih =>
      intro g w e1 e2
      obtain ⟨w, rfl⟩ : ∃ m, w = m + 1 := ⟨w - 1, by omega⟩
      have hg : g < g0 := by omega
      have nx := ih (g + 1) w (by omega) (by omega)
      have hgs := gsz_in hpl hg
      have hm1 := cntP_mono (p := fun b => ¬ us b) (a := 1) (g * P)
      have hm2 := cntP_mono (p := fun b => ¬ us b) (a := 1 + g * P) (gSz B P g0 g)
      have hcl := cntP_le (fun b => ¬ us b) (1 + g * P + gSz B P g0 g)
      have hgr := gr_le hpl hg
      have hfr : frB us B P g0 g < 2 ^ 31 := by unfold frB; omega
      rw [f_Mo_turn_135, hT.2.2.2.2.2.1, if_neg (nI_ge (by omega) (by omega)), ql_freeB (by omega) hpl hT hg hU, q_c, nI_l hfr, lN_add, q_l, nI_1, q_l, if_pos hg]
      rw [← hgs] at nx
      unfold frB
      rw [show cntP (fun b => ¬ us b) (1 + g * P) - cntP (fun b => ¬ us b) 1 + (cntP (fun b => ¬ us b) (1 + g * P + gSz B P g0 g) - cntP (fun b => ¬ us b) (1 + g * P)) = cntP (fun b => ¬ us b) (1 + g * P + gSz B P g0 g) - cntP (fun b => ¬ us b) 1 by omega]
      exact nx
  have := key g0 0 K (by omega) (by omega)
  rw [if_pos (by omega), Nat.zero_mul, Nat.add_zero, Nat.sub_self] at this
  exact this
