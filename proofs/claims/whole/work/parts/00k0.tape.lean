/-! The functions, first of all the tape: feed, end, clear, fail. -/
theorem pu_g {α : Type} {P : Prop} [Decidable P] {a : Option α} (h : P) : lf_g P a = a := if_pos h
theorem pu_in {j n : Nat} (h : j < n) (hn : n < 2 ^ 31) : lf_in (nI j) n := vp_in_nI h hn
def pu_fb (w : Int32) (i : Nat) : Int32 := vp_nar .byte ((w >>> ((24 - (8 * nI i)) &&& 31)).toInt8.toInt32)
theorem pu_prep2 {K : Nat} {G : CG} (w : Int32) (a : Nat) (ha : a + 4 ≤ 20) : ∀ (d i k : Nat) (S : CS), i + d = 4 → d < k → f_Tp_prepare_2 K G k (nI a) w (nI i) S = some (S.u_w_Tp_ready (fun j => if a + i ≤ j ∧ j < a + 4 then pu_fb w (j - a) else S.w_Tp_ready j)) := by
  intro d
  induction d with
  | zero =>
    intro i k S hi hk
    obtain ⟨k, rfl⟩ : ∃ m, k = m + 1 := ⟨k - 1, by omega⟩
    obtain rfl : i = 4 := by omega
    rw [f_Tp_prepare_2, if_pos (show (4 : Int32) ≤ nI 4 by decide)]
    have e : (fun j => if a + 4 ≤ j ∧ j < a + 4 then pu_fb w (j - a) else S.w_Tp_ready j) = S.w_Tp_ready := funext (fun j => if_neg (by omega))
    rw [e]
    rfl
  | succ d ih =>
    intro i k S hi hk
    obtain ⟨k, rfl⟩ : ∃ m, k = m + 1 := ⟨k - 1, by omega⟩
    have e1 : ¬ (4 : Int32) ≤ nI i := nI_ge (a := i) (b := 4) (by omega) (by decide)
    have e2 : ¬ nI a < 0 := nI_pos (by omega)
    have e3 : nI a + nI i = nI (a + i) := nI_add a i
    have e4 : ¬ (20 : Int32) ≤ nI a + nI i := by rw [e3]; exact nI_ge (a := a + i) (b := 20) (by omega) (by decide)
    have e5 : lf_in (nI a + nI i) 20 := by rw [e3]; exact pu_in (by omega) (by decide)
    rw [f_Tp_prepare_2, if_neg e1, if_neg e2, if_neg e4, pu_g e5]
    show f_Tp_prepare_2 K G k (nI a) w (nI i + 1) (S.u_w_Tp_ready (upd S.w_Tp_ready (nI a + nI i).toNatClampNeg (pu_fb w i))) = _
    rw [nI_1 i, ih (i + 1) k _ (by omega) (by omega), e3, nI_clamp (by omega)]
    show some (S.u_w_Tp_ready _) = some (S.u_w_Tp_ready _)
    congr 2
    funext j
    show (if a + (i + 1) ≤ j ∧ j < a + 4 then pu_fb w (j - a) else upd S.w_Tp_ready (a + i) (pu_fb w i) j) = _
    unfold upd
    by_cases h1 : j = a + i
    · rw [if_neg (by omega), if_pos h1, if_pos (by omega), h1, Nat.add_sub_cancel_left]
    · by_cases h2 : a + (i + 1) ≤ j ∧ j < a + 4
      · rw [if_pos h2, if_pos (by omega)]
      · rw [if_neg h2, if_neg h1, if_neg (by omega)]
theorem pu_prep {K : Nat} {G : CG} (hK : 5 ≤ K) (S : CS) (w : Int32) (a : Nat) (ha : a + 4 ≤ 20) : f_Tp_prepare K G S (nI a) w = some (S.u_w_Tp_ready (fun j => if a ≤ j ∧ j < a + 4 then pu_fb w (j - a) else S.w_Tp_ready j)) := pu_prep2 w a ha 4 0 K S rfl (by omega)
/-- which of the five ints byte j comes from -/
def pu_sel (p0 p1 p2 p3 p4 : Int32) (j : Nat) : Int32 := if j < 4 then p0 else if j < 8 then p1 else if j < 12 then p2 else if j < 16 then p3 else p4
def pu_fd (p0 p1 p2 p3 p4 : Int32) (j : Nat) : Int32 := pu_fb (pu_sel p0 p1 p2 p3 p4 j) (j % 4)
theorem pu_feedV {K : Nat} {G : CG} (hK : 5 ≤ K) (S : CS) (p0 p1 p2 p3 p4 : Int32) : f_Vt_feed K G S p0 p1 p2 p3 p4 = some (S.u_w_Tp_ready (fun j => if j < 20 then pu_fd p0 p1 p2 p3 p4 j else S.w_Tp_ready j)) := by
  unfold f_Vt_feed
  have h0 := fun S w => pu_prep (G := G) hK S w 0 (by omega)
  have h1 := fun S w => pu_prep (G := G) hK S w 4 (by omega)
  have h2 := fun S w => pu_prep (G := G) hK S w 8 (by omega)
  have h3 := fun S w => pu_prep (G := G) hK S w 12 (by omega)
  have h4 := fun S w => pu_prep (G := G) hK S w 16 (by omega)
  rw [show (0 : Int32) = nI 0 by decide, h0]
  show (f_Tp_prepare K G _ 4 p1).bind _ = _
  rw [show (4 : Int32) = nI 4 by decide, h1]
  show (f_Tp_prepare K G _ 8 p2).bind _ = _
  rw [show (8 : Int32) = nI 8 by decide, h2]
  show (f_Tp_prepare K G _ 12 p3).bind _ = _
  rw [show (12 : Int32) = nI 12 by decide, h3]
  show (f_Tp_prepare K G _ 16 p4).bind _ = _
  rw [show (16 : Int32) = nI 16 by decide, h4]
  show some (S.u_w_Tp_ready _) = some (S.u_w_Tp_ready _)
  congr 2
  funext j
  show (if 16 ≤ j ∧ j < 16 + 4 then pu_fb p4 (j - 16) else if 12 ≤ j ∧ j < 12 + 4 then pu_fb p3 (j - 12) else if 8 ≤ j ∧ j < 8 + 4 then pu_fb p2 (j - 8) else if 4 ≤ j ∧ j < 4 + 4 then pu_fb p1 (j - 4) else if 0 ≤ j ∧ j < 0 + 4 then pu_fb p0 (j - 0) else S.w_Tp_ready j) = _
  unfold pu_fd pu_sel
  by_cases g : j < 20
  · rw [if_pos g]
    by_cases g4 : j < 4
    · rw [if_neg (by omega), if_neg (by omega), if_neg (by omega), if_neg (by omega), if_pos (by omega), if_pos g4, show j - 0 = j % 4 by omega]
    · by_cases g8 : j < 8
      · rw [if_neg (by omega), if_neg (by omega), if_neg (by omega), if_pos (by omega), if_neg g4, if_pos g8, show j - 4 = j % 4 by omega]
      · by_cases g12 : j < 12
        · rw [if_neg (by omega), if_neg (by omega), if_pos (by omega), if_neg g4, if_neg g8, if_pos g12, show j - 8 = j % 4 by omega]
        · by_cases g16 : j < 16
          · rw [if_neg (by omega), if_pos (by omega), if_neg g4, if_neg g8, if_neg g12, if_pos g16, show j - 12 = j % 4 by omega]
          · rw [if_pos (by omega), if_neg g4, if_neg g8, if_neg g12, if_neg g16, show j - 16 = j % 4 by omega]
  · rw [if_neg g, if_neg (by omega), if_neg (by omega), if_neg (by omega), if_neg (by omega), if_neg (by omega)]
theorem pu_feedM8 {K : Nat} (p0 p1 p2 p3 p4 : Int32) : ∀ (d i k : Nat) (T : MS), i + d = 20 → d < k → f_Mo_feed_8 K k p0 p1 p2 p3 p4 (nI i) T = some ((T.u_v_ready (fun j => if i ≤ j ∧ j < 20 then pu_fd p0 p1 p2 p3 p4 j else T.v_ready j)).u_v_fed 1) := by
  intro d
  induction d with
  | zero =>
    intro i k T hi hk
    obtain ⟨k, rfl⟩ : ∃ m, k = m + 1 := ⟨k - 1, by omega⟩
    obtain rfl : i = 20 := by omega
    rw [f_Mo_feed_8, if_pos (show (20 : Int32) ≤ nI 20 by decide)]
    have e : (fun j => if 20 ≤ j ∧ j < 20 then pu_fd p0 p1 p2 p3 p4 j else T.v_ready j) = T.v_ready := funext (fun j => if_neg (by omega))
    rw [e]
    rfl
  | succ d ih =>
    intro i k T hi hk
    obtain ⟨k, rfl⟩ : ∃ m, k = m + 1 := ⟨k - 1, by omega⟩
    have e1 : ¬ (20 : Int32) ≤ nI i := nI_ge (a := i) (b := 20) (by omega) (by decide)
    have e5 : lf_in (nI i) 20 := pu_in (by omega) (by decide)
    have e6 : nI i - nI i / 4 * 4 = nI (i % 4) := pk_rem (d := 4) (by omega) (by decide) (by decide)
    have key : ∀ z : Int32, z = pu_sel p0 p1 p2 p3 p4 i → f_Mo_feed_61 K (f_Mo_feed_8 K k) p0 p1 p2 p3 p4 (nI i) z T = some ((T.u_v_ready (fun j => if i ≤ j ∧ j < 20 then pu_fd p0 p1 p2 p3 p4 j else T.v_ready j)).u_v_fed 1) := by
      intro z hz
      rw [f_Mo_feed_61, pu_g e5, e6]
      show f_Mo_feed_8 K k p0 p1 p2 p3 p4 (nI i + 1) (T.u_v_ready (upd T.v_ready (nI i).toNatClampNeg (pu_fb z (i % 4)))) = _
      rw [nI_1 i, ih (i + 1) k _ (by omega) (by omega), nI_clamp (by omega)]
      show some ((T.u_v_ready _).u_v_fed 1) = some ((T.u_v_ready _).u_v_fed 1)
      congr 3
      funext j
      show (if i + 1 ≤ j ∧ j < 20 then pu_fd p0 p1 p2 p3 p4 j else upd T.v_ready i (pu_fb z (i % 4)) j) = _
      unfold upd
      by_cases h1 : j = i
      · rw [if_neg (by omega), if_pos h1, if_pos (by omega), h1, pu_fd, hz]
      · by_cases h2 : i + 1 ≤ j ∧ j < 20
        · rw [if_pos h2, if_pos (by omega)]
        · rw [if_neg h2, if_neg h1, if_neg (by omega)]
    have c4 : (4 : Int32) ≤ nI i ↔ 4 ≤ i := nI_leI (a := 4) (by omega) (by omega)
    have c8 : (8 : Int32) ≤ nI i ↔ 8 ≤ i := nI_leI (a := 8) (by omega) (by omega)
    have c12 : (12 : Int32) ≤ nI i ↔ 12 ≤ i := nI_leI (a := 12) (by omega) (by omega)
    have c16 : (16 : Int32) ≤ nI i ↔ 16 ≤ i := nI_leI (a := 16) (by omega) (by omega)
    rw [f_Mo_feed_8, if_neg e1]
    by_cases g4 : i < 4
    · rw [if_neg (fun z => absurd (c4.mp z) (by omega))]
      exact key p0 (by rw [pu_sel, if_pos g4])
    · rw [if_pos (c4.mpr (by omega))]
      by_cases g8 : i < 8
      · rw [if_neg (fun z => absurd (c8.mp z) (by omega))]
        exact key p1 (by rw [pu_sel, if_neg g4, if_pos g8])
      · rw [if_pos (c8.mpr (by omega))]
        by_cases g12 : i < 12
        · rw [if_neg (fun z => absurd (c12.mp z) (by omega))]
          exact key p2 (by rw [pu_sel, if_neg g4, if_neg g8, if_pos g12])
        · rw [if_pos (c12.mpr (by omega))]
          by_cases g16 : i < 16
          · rw [if_neg (fun z => absurd (c16.mp z) (by omega))]
            exact key p3 (by rw [pu_sel, if_neg g4, if_neg g8, if_neg g12, if_pos g16])
          · rw [if_pos (c16.mpr (by omega))]
            exact key p4 (by rw [pu_sel, if_neg g4, if_neg g8, if_neg g12, if_neg g16])
theorem pu_feedM {K : Nat} (hK : 21 ≤ K) (T : MS) (p0 p1 p2 p3 p4 : Int32) : f_Mo_feed K T p0 p1 p2 p3 p4 = some (((T.u_v_thrown 0).u_v_ready (fun j => if j < 20 then pu_fd p0 p1 p2 p3 p4 j else T.v_ready j)).u_v_fed 1) := by
  have h := pu_feedM8 (K := K) p0 p1 p2 p3 p4 20 0 K (T.u_v_thrown 0) rfl (by omega)
  have e : (fun j => if 0 ≤ j ∧ j < 20 then pu_fd p0 p1 p2 p3 p4 j else (T.u_v_thrown 0).v_ready j) = (fun j => if j < 20 then pu_fd p0 p1 p2 p3 p4 j else T.v_ready j) := by
    funext j
    by_cases g : j < 20
    · rw [if_pos ⟨Nat.zero_le _, g⟩, if_pos g]
    · rw [if_neg (fun z => g z.2), if_neg g]; rfl
  rw [e] at h
  exact h

/-! the tape of both: the same bytes, the same that are ready -/
def iv_tape (S : CS) (T : MS) : Prop := ∃ k : Nat, k ≤ 4096 ∧ S.v_Tp_used = nI k ∧ T.v_taped = nI k ∧ (∀ j, j < k → S.w_Tp_bytes j = T.v_tape j) ∧ (∀ j, j < 20 → S.w_Tp_ready j = (if T.v_fed = 0 then 0 else T.v_ready j)) ∧ ∀ j, j < 20 → fits .byte (.int (S.w_Tp_ready j)) = true
theorem pu_fbf (w : Int32) (i : Nat) : fits .byte (.int (pu_fb w i)) = true := by
  unfold pu_fb
  rw [show vp_nar .byte ((w >>> ((24 - (8 * nI i)) &&& 31)).toInt8.toInt32) = ((w >>> ((24 - (8 * nI i)) &&& 31)).toInt8.toInt32) from Value.int.inj (pk_nb _)]
  exact pk_fb _
theorem iv_feed {K : Nat} {G : CG} {S : CS} {T : MS} (hK : 21 ≤ K) (h : iv_tape S T) (p0 p1 p2 p3 p4 : Int32) : ∃ S' T', f_Vt_feed K G S p0 p1 p2 p3 p4 = some S' ∧ f_Mo_feed K T p0 p1 p2 p3 p4 = some T' ∧ iv_tape S' T' := by
  refine ⟨_, _, pu_feedV (by omega) S p0 p1 p2 p3 p4, pu_feedM hK T p0 p1 p2 p3 p4, ?_⟩
  obtain ⟨k, h1, h2, h3, h4, -, -⟩ := h
  refine ⟨k, h1, h2, h3, h4, fun j hj => ?_, fun j hj => ?_⟩
  · show (if j < 20 then pu_fd p0 p1 p2 p3 p4 j else S.w_Tp_ready j) = (if (1 : Int32) = 0 then 0 else if j < 20 then pu_fd p0 p1 p2 p3 p4 j else T.v_ready j)
    rw [if_pos hj, if_neg (by decide), if_pos hj]
  · show fits .byte (.int (if j < 20 then pu_fd p0 p1 p2 p3 p4 j else S.w_Tp_ready j)) = true
    rw [if_pos hj]
    exact pu_fbf _ _
theorem iv_clear {K : Nat} {G : CG} {S : CS} {T : MS} (h : iv_tape S T) : ∃ S' T', f_Vt_clear K G S = some S' ∧ f_Mo_clear K T = some T' ∧ iv_tape S' T' := by
  obtain ⟨k, -, -, -, -, h5, h6⟩ := h
  exact ⟨S.u_v_Tp_used 0, (T.u_v_thrown 0).u_v_taped 0, rfl, rfl, 0, by omega, rfl, rfl, fun j hj => absurd hj (Nat.not_lt_zero _), h5, h6⟩
