/-! The tape, and the runs that fail: end, feed, clear, fail. -/
theorem fits_nar {x : Int32} (h : fits .byte (.int x) = true) : vp_nar .byte x = x := by
  rw [vp_nar_byte]
  have h1 : (-128 : Int32).toInt = -128 := by decide
  have h2 : (127 : Int32).toInt = 127 := by decide
  simp only [fits, Bool.and_eq_true, decide_eq_true_eq, Int32.le_iff_toInt_le, h1, h2] at h
  apply Int32.toInt_inj.mp
  rw [Int8.toInt_toInt32, Int32.toInt_toInt8, Int.bmod_eq_of_le (by omega) (by omega)]
/-- the lowest byte of what is put -/
theorem ub_b8 (x : Int32) : ub (vp_nar .byte (x.toInt8.toInt32)) = ub x := by
  rw [pk_vb]
  unfold ub
  rw [Int8.toBitVec_toInt32, Int32.toBitVec_toInt8, BitVec.toNat_signExtend, BitVec.toNat_setWidth]
  have e : (x.toBitVec.signExtend 8).toNat = x.toBitVec.toNat % 256 := by
    rw [BitVec.toNat_signExtend, BitVec.toNat_setWidth]
    split <;> omega
  rw [e]
  split <;> omega
def tpS (S : CS) (a b : Nat → Int32) (c : Int32) : CS := ((S.u_w_Tp_bytes a).u_w_Tp_ready b).u_v_Tp_used c
def tpT (T : MS) (a b : Nat → Int32) (c d : Int32) : MS := ((((T.u_v_tape a).u_v_ready b).u_v_taped c).u_v_fed d).u_v_thrown 0
theorem tp_feed {K : Nat} {G : CG} {S : CS} {T : MS} (hK : 21 ≤ K) (h : iv_tape S T) (p0 p1 p2 p3 p4 : Int32) : ∃ a b c a' b' c' d', f_Vt_feed K G S p0 p1 p2 p3 p4 = some (tpS S a b c) ∧ f_Mo_feed K T p0 p1 p2 p3 p4 = some (tpT T a' b' c' d') ∧ iv_tape (tpS S a b c) (tpT T a' b' c' d') ∧ c = S.v_Tp_used := by
  obtain ⟨S', T', e1, e2, h'⟩ := iv_feed (G := G) hK h p0 p1 p2 p3 p4
  have f1 := pu_feedV (K := K) (G := G) (by omega) S p0 p1 p2 p3 p4
  have f2 := pu_feedM (K := K) hK T p0 p1 p2 p3 p4
  refine ⟨S.w_Tp_bytes, fun j => if j < 20 then pu_fd p0 p1 p2 p3 p4 j else S.w_Tp_ready j, S.v_Tp_used, T.v_tape, fun j => if j < 20 then pu_fd p0 p1 p2 p3 p4 j else T.v_ready j, T.v_taped, 1, f1, f2, ?_, rfl⟩
  rw [f1] at e1
  rw [f2] at e2
  cases e1
  cases e2
  exact h'
theorem tp_clear {K : Nat} {G : CG} {S : CS} {T : MS} (h : iv_tape S T) : ∃ a b c a' b' c' d', f_Vt_clear K G S = some (tpS S a b c) ∧ f_Mo_clear K T = some (tpT T a' b' c' d') ∧ iv_tape (tpS S a b c) (tpT T a' b' c' d') ∧ c = nI 0 := by
  obtain ⟨k, -, -, -, -, h5, h6⟩ := h
  exact ⟨S.w_Tp_bytes, S.w_Tp_ready, 0, T.v_tape, T.v_ready, 0, T.v_fed, rfl, rfl, ⟨0, by omega, rfl, rfl, fun j hj => absurd hj (Nat.not_lt_zero _), h5, h6⟩, rfl⟩
theorem tp_end {K : Nat} {G : CG} {S : CS} {T : MS} (hK : 1000 ≤ K) (h : iv_tape S T) (p0 : Int32) : ∃ r a b c a' b' c' d', f_Vt_end K G S p0 = some (r, tpS S a b c) ∧ f_Mo_end K T p0 = some (r, tpT T a' b' c' d') ∧ iv_tape (tpS S a b c) (tpT T a' b' c' d') ∧ ∃ k k', S.v_Tp_used = nI k ∧ c = nI k' ∧ k' ≤ k + 20 := by
  have hh := h
  obtain ⟨k, k1, k2, k3, k4, k5, k6⟩ := h
  have no : ∃ a b c a' b' c' d', some ((-1 : Int32), S) = some (-1, tpS S a b c) ∧ some ((-1 : Int32), T.u_v_thrown 0) = some (-1, tpT T a' b' c' d') ∧ iv_tape (tpS S a b c) (tpT T a' b' c' d') ∧ ∃ k k', S.v_Tp_used = nI k ∧ c = nI k' ∧ k' ≤ k + 20 := ⟨S.w_Tp_bytes, S.w_Tp_ready, S.v_Tp_used, T.v_tape, T.v_ready, T.v_taped, T.v_fed, rfl, rfl, hh, k, k, k2, k2, by omega⟩
  unfold f_Vt_end f_Tp_append f_Tp_append_22 f_Mo_end f_Mo_end_27
  rw [q_l (T.u_v_thrown 0)]
  by_cases w1 : p0 < 0
  · rw [if_pos w1, if_pos w1, q_c]; exact ⟨-1, no⟩
  rw [if_neg w1, if_neg w1]
  by_cases w2 : 20 < p0
  · rw [if_pos w2, if_pos w2, q_c]; exact ⟨-1, no⟩
  rw [if_neg w2, if_neg w2]
  obtain ⟨n, n1, rfl⟩ := nI_of w1
  have n2 : n ≤ 20 := Nat.le_of_not_lt (fun y => w2 (nI_lt (a := 20) y n1))
  have e1 : S.v_Tp_used + nI n = nI (k + n) := by rw [k2, nI_add]
  have e2 : (T.u_v_thrown 0).v_taped + nI n = nI (k + n) := by show T.v_taped + nI n = _; rw [k3, nI_add]
  rw [e1, e2]
  by_cases w3 : k + n ≤ 4096
  rotate_left
  · have hw : ¬ nI (k + n) ≤ 4096 := nI_ge (a := 4096) (by omega) (by omega)
    rw [if_neg hw, if_neg hw, q_c]; exact ⟨-1, no⟩
  have hw : nI (k + n) ≤ 4096 := nI_le (b := 4096) w3 (by decide)
  have hcn : (nI n).toNatClampNeg = n := nI_clamp (by omega)
  have hc0 : (0 : Int32).toNatClampNeg = 0 := rfl
  have hcu : S.v_Tp_used.toNatClampNeg = k := by rw [k2]; exact nI_clamp (by omega)
  rw [if_pos hw, if_pos hw, hcn, hc0, hcu, q_g ⟨by decide, by rw [k2]; exact nI_pos (by omega), w1, by omega, by omega, fun i hi => by rw [Nat.zero_add]; exact k6 i (by omega)⟩, q_l, q_l, q_l, q_c]
  have hS : (((S.u_w_Tp_bytes (va_cpy S.w_Tp_ready S.w_Tp_bytes 0 k n)).u_w_Tp_ready (ar_fill (S.u_w_Tp_bytes (va_cpy S.w_Tp_ready S.w_Tp_bytes 0 k n)).w_Tp_ready 0 20 (vp_nar .byte 0))).u_v_Tp_used (((S.u_w_Tp_bytes (va_cpy S.w_Tp_ready S.w_Tp_bytes 0 k n)).u_w_Tp_ready (ar_fill (S.u_w_Tp_bytes (va_cpy S.w_Tp_ready S.w_Tp_bytes 0 k n)).w_Tp_ready 0 20 (vp_nar .byte 0))).v_Tp_used + nI n)) = tpS S (va_cpy S.w_Tp_ready S.w_Tp_bytes 0 k n) (ar_fill S.w_Tp_ready 0 20 (vp_nar .byte 0)) (nI (k + n)) := by
    rw [← e1]; rfl
  rw [hS]
  -- the reference's loop
  have loop : ∀ (d i kk : Nat) (U : MS), i + d = n → d < kk → (∃ f, U = ((T.u_v_thrown 0).u_v_tape f).u_v_taped (nI (k + i)) ∧ (∀ j, j < k → f j = T.v_tape j) ∧ (∀ j, j < i → f (k + j) = S.w_Tp_ready j)) → ∃ f, f_Mo_end_31 K kk (nI n) (nI i) U = some (nI (k + n), (((T.u_v_thrown 0).u_v_tape f).u_v_taped (nI (k + n))).u_v_fed 0) ∧ (∀ j, j < k → f j = T.v_tape j) ∧ (∀ j, j < n → f (k + j) = S.w_Tp_ready j) := by
    intro d
    induction d with
    | zero =>
      intro i kk U g1 g2 ⟨f, hU, hf1, hf2⟩
      obtain ⟨kk, rfl⟩ : ∃ q, kk = q + 1 := ⟨kk - 1, by omega⟩
      obtain rfl : i = n := by omega
      refine ⟨f, ?_, hf1, hf2⟩
      rw [f_Mo_end_31, if_pos (Int32.le_refl _), q_l, hU]
      rfl
    | succ d ih =>
      intro i kk U g1 g2 ⟨f, hU, hf1, hf2⟩
      obtain ⟨kk, rfl⟩ : ∃ q, kk = q + 1 := ⟨kk - 1, by omega⟩
      have u1 : U.v_fed = T.v_fed := by rw [hU]; rfl
      have u2 : U.v_taped = nI (k + i) := by rw [hU]; rfl
      have u3 : U.v_ready = T.v_ready := by rw [hU]; rfl
      have u4 : U.v_tape = f := by rw [hU]; rfl
      have hr := k5 i (by omega)
      have hfit := k6 i (by omega)
      have step : ∀ x : Int32, x = S.w_Tp_ready i → ∃ f, f_Mo_end_61 K (f_Mo_end_31 K kk) (nI n) (nI i) (nI (k + i)) x U = some (nI (k + n), (((T.u_v_thrown 0).u_v_tape f).u_v_taped (nI (k + n))).u_v_fed 0) ∧ (∀ j, j < k → f j = T.v_tape j) ∧ (∀ j, j < n → f (k + j) = S.w_Tp_ready j) := by
        intro x hx
        unfold f_Mo_end_61
        rw [q_g (q_in (by omega) (by decide)), q_l, q_l, q_l, nI_1, nI_clamp (by omega), hx, fits_nar hfit, u4]
        refine ih (i + 1) kk _ (by omega) (by omega) ⟨upd f (k + i) (S.w_Tp_ready i), ?_, fun j hj => ?_, fun j hj => ?_⟩
        · rw [hU]
          show ((T.u_v_thrown 0).u_v_tape (upd f (k + i) (S.w_Tp_ready i))).u_v_taped (nI (k + i) + 1) = _
          rw [nI_1]; rfl
        · rw [pk_un (by omega)]; exact hf1 j hj
        · by_cases y : j = i
          · rw [y, pk_us]
          · rw [pk_un (by omega)]; exact hf2 j (by omega)
      rw [f_Mo_end_31, if_neg (nI_ge (by omega) (by omega)), u1, u2, u3]
      by_cases y : T.v_fed = 0
      · rw [if_pos y] at hr ⊢
        exact step 0 hr.symm
      · rw [if_neg y] at hr ⊢
        rw [q_g (q_in (by omega) (by decide)), nI_clamp (by omega)]
        exact step _ hr.symm
  obtain ⟨f, q1, q2, q3⟩ := loop n 0 K (T.u_v_thrown 0) (by omega) (by omega) ⟨T.v_tape, by rw [Nat.add_zero, ← k3]; rfl, fun _ _ => rfl, fun j hj => absurd hj (Nat.not_lt_zero _)⟩
  rw [show (0 : Int32) = nI 0 from rfl] at *
  rw [q1]
  refine ⟨nI (k + n), va_cpy S.w_Tp_ready S.w_Tp_bytes 0 k n, ar_fill S.w_Tp_ready 0 20 (vp_nar .byte 0), nI (k + n), f, T.v_ready, nI (k + n), 0, rfl, rfl, ⟨k + n, w3, rfl, rfl, fun j hj => ?_, fun j hj => ?_, fun j hj => ?_⟩, k, k + n, k2, rfl, by omega⟩
  · show va_cpy S.w_Tp_ready S.w_Tp_bytes 0 k n j = f j
    by_cases y : j < k
    · rw [pk_cpy_out (Or.inl y), q2 j y, k4 j y]
    · obtain ⟨i, rfl⟩ : ∃ i, j = k + i := ⟨j - k, by omega⟩
      rw [pk_cpy_in (by omega) (by omega), q3 i (by omega), Nat.add_sub_cancel_left, Nat.zero_add]
  · show ar_fill S.w_Tp_ready 0 20 (vp_nar .byte 0) j = (if (0 : Int32) = 0 then 0 else T.v_ready j)
    unfold ar_fill
    rw [if_pos ⟨Nat.zero_le _, hj⟩, if_pos rfl]
    rfl
  · show fits .byte (.int (ar_fill S.w_Tp_ready 0 20 (vp_nar .byte 0) j)) = true
    unfold ar_fill
    rw [if_pos ⟨Nat.zero_le _, hj⟩]
    decide
def flS (S : CS) (a b : Nat → Int32) (c : Int32) : CS := ((S.u_w_Vt_failAsks a).u_w_Vt_failWrites b).u_v_Vt_fails c
theorem fl_fail {K : Nat} {G : CG} {S : CS} {T : MS} (h : flR S T) (p0 p1 : Int32) : ∃ r a b c d, f_Vt_fail K G S p0 p1 = some (r, flS S a b c) ∧ f_Mo_fail K T p0 p1 = some (r, (T.u_v_thrown 0).u_v_told d) ∧ flR (flS S a b c) ((T.u_v_thrown 0).u_v_told d) := by
  have hh := h
  obtain ⟨f, f1, f2, f3, f4⟩ := h
  have no : ∃ a b c d, some ((0 : Int32), S) = some (0, flS S a b c) ∧ some ((0 : Int32), T.u_v_thrown 0) = some (0, (T.u_v_thrown 0).u_v_told d) ∧ flR (flS S a b c) ((T.u_v_thrown 0).u_v_told d) := ⟨S.w_Vt_failAsks, S.w_Vt_failWrites, S.v_Vt_fails, T.v_told, rfl, rfl, hh⟩
  unfold f_Vt_fail f_Vt_fail_9 f_Vt_fail_22 f_Mo_fail f_Mo_fail_27
  rw [q_l (T.u_v_thrown 0)]
  have main : (p0 = 0 ∨ p0 = 1) → ∃ r a b c d, (if p1 < 0 then some ((0 : Int32), S) else (if S.v_Vt_fails < 16 then (lf_g (lf_in S.v_Vt_fails 16) (lf_l (S.u_w_Vt_failAsks (upd S.w_Vt_failAsks S.v_Vt_fails.toNatClampNeg p0)) fun S_6 => lf_g (lf_in S_6.v_Vt_fails 16) (lf_l (S_6.u_w_Vt_failWrites (upd S_6.w_Vt_failWrites S_6.v_Vt_fails.toNatClampNeg p1)) fun S_8 => lf_l (S_8.u_v_Vt_fails (S_8.v_Vt_fails + 1)) fun S_9 => some (1, S_9)))) else some (0, S))) = some (r, flS S a b c) ∧ (if p1 < 0 then some ((0 : Int32), T.u_v_thrown 0) else (if (T.u_v_thrown 0).v_told = 16 then some (0, T.u_v_thrown 0) else (lf_l ((T.u_v_thrown 0).u_v_told ((T.u_v_thrown 0).v_told + 1)) fun S_6 => some (1, S_6)))) = some (r, (T.u_v_thrown 0).u_v_told d) ∧ flR (flS S a b c) ((T.u_v_thrown 0).u_v_told d) := by
    intro hp
    by_cases w : p1 < 0
    · rw [if_pos w, if_pos w]; exact ⟨0, no⟩
    rw [if_neg w, if_neg w]
    have ht : (T.u_v_thrown 0).v_told = nI f := f3
    by_cases y : f = 16
    · rw [if_neg (show ¬ S.v_Vt_fails < 16 by rw [f2, y]; decide), if_pos (by rw [ht, y]; rfl)]; exact ⟨0, no⟩
    · have hin : lf_in S.v_Vt_fails 16 := by rw [f2]; exact q_in (by omega) (by decide)
      have hcl : S.v_Vt_fails.toNatClampNeg = f := by rw [f2]; exact nI_clamp (by omega)
      rw [if_pos (show S.v_Vt_fails < 16 by rw [f2]; exact nI_lt (b := 16) (by omega) (by decide)), if_neg (fun z : (T.u_v_thrown 0).v_told = 16 => by rw [ht] at z; exact y ((nI_eq (b := 16) (by omega) (by decide)).mp z)), ht]
      obtain ⟨q, q1, rfl⟩ := nI_of w
      refine ⟨1, upd S.w_Vt_failAsks f p0, upd S.w_Vt_failWrites f (nI q), nI (f + 1), nI (f + 1), ?_, ?_, f + 1, by omega, rfl, rfl, fun j hj => ?_⟩
      · rw [q_g hin]
        show lf_g (lf_in S.v_Vt_fails 16) (some ((1 : Int32), ((S.u_w_Vt_failAsks (upd S.w_Vt_failAsks S.v_Vt_fails.toNatClampNeg p0)).u_w_Vt_failWrites (upd S.w_Vt_failWrites S.v_Vt_fails.toNatClampNeg (nI q))).u_v_Vt_fails (S.v_Vt_fails + 1))) = _
        rw [q_g hin, hcl, f2, nI_1]
        rfl
      · show some ((1 : Int32), (T.u_v_thrown 0).u_v_told (nI f + 1)) = _
        rw [nI_1]
      · show (upd S.w_Vt_failAsks f p0 j = nI 0 ∨ upd S.w_Vt_failAsks f p0 j = nI 1) ∧ ∃ w, w < 2 ^ 31 ∧ upd S.w_Vt_failWrites f (nI q) j = nI w
        by_cases z : j = f
        · rw [z, pk_us, pk_us]
          exact ⟨hp, q, q1, rfl⟩
        · rw [pk_un z, pk_un z]
          exact f4 j (by omega)
  by_cases w0 : p0 = 0
  · rw [if_pos w0, if_neg (show ¬ p0 < 0 by rw [w0]; decide), if_neg (show ¬ 1 < p0 by rw [w0]; decide)]
    exact main (Or.inl w0)
  rw [if_neg w0]
  by_cases w1 : p0 = 1
  · rw [if_pos w1, if_neg (show ¬ p0 < 0 by rw [w1]; decide), if_neg (show ¬ 1 < p0 by rw [w1]; decide)]
    exact main (Or.inr w1)
  rw [if_neg w1]
  by_cases w2 : p0 < 0
  · rw [if_pos w2]; exact ⟨0, no⟩
  rw [if_neg w2, if_pos (show 1 < p0 by
    obtain ⟨n, n1, rfl⟩ := nI_of w2
    exact nI_lt (a := 1) (Nat.lt_of_not_le (fun y => by
      rcases (show n = 0 ∨ n = 1 by omega) with z | z
      · exact w0 (by rw [z]; rfl)
      · exact w1 (by rw [z]; rfl))) n1)]
  exact ⟨0, no⟩
