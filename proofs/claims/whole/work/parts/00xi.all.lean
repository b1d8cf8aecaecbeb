set_option maxHeartbeats 200000
/-! One invariant for both phases, and what every call does to it. -/
def pot (m k t : Nat) : Prop := 40 * m + 2 * k ≤ 200 * t + 2080
theorem pot_t {m k t : Nat} (h : pot m k t) : pot m k (t + 1) := by unfold pot at *; omega
theorem pot_m {m k t m' : Nat} (h : pot m k t) (h2 : m' ≤ m + 3) : pot m' k (t + 1) := by unfold pot at *; omega
theorem pot_k {m k t k' : Nat} (h : pot m k t) (h2 : k' ≤ k + 20) : pot m k' (t + 1) := by unfold pot at *; omega
theorem pot_mk {m n t m' : Nat} (h : pot m n t) (h2 : m' ≤ m + (n / 26 + 5)) : pot m' 0 (t + 1) := by unfold pot at *; omega
theorem pot_wr {m n t m' : Nat} (h : pot m n t) (h2 : m' ≤ m + (n / 32 + 3)) : pot m' 0 (t + 1) := by unfold pot at *; omega
theorem pot_0 {m k t : Nat} (h : pot m k t) : pot m 0 (t + 1) := by unfold pot at *; omega
theorem pot_f (t : Nat) : pot 51 0 t := by unfold pot; omega
theorem pot_lim {m k t : Nat} (h : pot m k t) (ht : t < 512) : m + 140 ≤ 4000 ∧ k < 2 ^ 31 := by unfold pot at h; omega
theorem tp_endX {K : Nat} {G : CG} {S : CS} {T : MS} (hK : 1000 ≤ K) (h : iv_tape S T) (p0 : Int32) : ∃ r a b c a' b' c' d', f_Vt_end K G S p0 = some (r, tpS S a b c) ∧ f_Mo_end K T p0 = some (r, tpT T a' b' c' d') ∧ iv_tape (tpS S a b c) (tpT T a' b' c' d') ∧ ∃ k k', (k ≤ 4096 ∧ k' ≤ 4096) ∧ S.v_Tp_used = nI k ∧ c = nI k' ∧ k' ≤ k + 20 := by
  have hh := h
  obtain ⟨k, k1, k2, k3, k4, k5, k6⟩ := h
  have no : ∃ a b c a' b' c' d', some ((-1 : Int32), S) = some (-1, tpS S a b c) ∧ some ((-1 : Int32), T.u_v_thrown 0) = some (-1, tpT T a' b' c' d') ∧ iv_tape (tpS S a b c) (tpT T a' b' c' d') ∧ ∃ k k', (k ≤ 4096 ∧ k' ≤ 4096) ∧ S.v_Tp_used = nI k ∧ c = nI k' ∧ k' ≤ k + 20 := ⟨S.w_Tp_bytes, S.w_Tp_ready, S.v_Tp_used, T.v_tape, T.v_ready, T.v_taped, T.v_fed, rfl, rfl, hh, k, k, ⟨k1, k1⟩, k2, k2, by omega⟩
  unfold f_Vt_end f_Tp_append f_Tp_append_22 f_Mo_end f_Mo_end_27
  rw [q_l (T.u_v_thrown 0)]
  by_cases w1 : p0 < 0
  · rw [if_pos w1, if_pos w1, q_c]; exact ⟨-1, no⟩
  rw [if_neg w1, if_neg w1]
  by_cases w2 : 20 < p0
  · rw [if_pos w2, if_pos w2, q_c]; exact ⟨-1, no⟩
  rw [if_neg w2, if_neg w2]
  obtain ⟨n, n1, rfl⟩ := nI_of w1
  have n2 : n ≤ 20 := Nat.le_of_not_lt (fun y => w2 (nI_lt (a := 20) y n1))
  have e1 : S.v_Tp_used + nI n = nI (k + n) := by rw [k2, nI_add]
  have e2 : (T.u_v_thrown 0).v_taped + nI n = nI (k + n) := by show T.v_taped + nI n = _; rw [k3, nI_add]
  rw [e1, e2]
  by_cases w3 : k + n ≤ 4096
  rotate_left
  · have hw : ¬ nI (k + n) ≤ 4096 := nI_ge (a := 4096) (by omega) (by omega)
    rw [if_neg hw, if_neg hw, q_c]; exact ⟨-1, no⟩
  have hw : nI (k + n) ≤ 4096 := nI_le (b := 4096) w3 (by decide)
  have hcn : (nI n).toNatClampNeg = n := nI_clamp (by omega)
  have hc0 : (0 : Int32).toNatClampNeg = 0 := rfl
  have hcu : S.v_Tp_used.toNatClampNeg = k := by rw [k2]; exact nI_clamp (by omega)
  rw [if_pos hw, if_pos hw, hcn, hc0, hcu, q_g ⟨by decide, by rw [k2]; exact nI_pos (by omega), w1, by omega, by omega, fun i hi => by rw [Nat.zero_add]; exact k6 i (by omega)⟩, q_l, q_l, q_l, q_c]
  have hS : (((S.u_w_Tp_bytes (va_cpy S.w_Tp_ready S.w_Tp_bytes 0 k n)).u_w_Tp_ready (ar_fill (S.u_w_Tp_bytes (va_cpy S.w_Tp_ready S.w_Tp_bytes 0 k n)).w_Tp_ready 0 20 (vp_nar .byte 0))).u_v_Tp_used (((S.u_w_Tp_bytes (va_cpy S.w_Tp_ready S.w_Tp_bytes 0 k n)).u_w_Tp_ready (ar_fill (S.u_w_Tp_bytes (va_cpy S.w_Tp_ready S.w_Tp_bytes 0 k n)).w_Tp_ready 0 20 (vp_nar .byte 0))).v_Tp_used + nI n)) = tpS S (va_cpy S.w_Tp_ready S.w_Tp_bytes 0 k n) (ar_fill S.w_Tp_ready 0 20 (vp_nar .byte 0)) (nI (k + n)) := by
    rw [← e1]; rfl
  rw [hS]
  -- the reference's loop
  have loop : ∀ (d i kk : Nat) (U : MS), i + d = n → d < kk → (∃ f, U = ((T.u_v_thrown 0).u_v_tape f).u_v_taped (nI (k + i)) ∧ (∀ j, j < k → f j = T.v_tape j) ∧ (∀ j, j < i → f (k + j) = S.w_Tp_ready j)) → ∃ f, f_Mo_end_31 K kk (nI n) (nI i) U = some (nI (k + n), (((T.u_v_thrown 0).u_v_tape f).u_v_taped (nI (k + n))).u_v_fed 0) ∧ (∀ j, j < k → f j = T.v_tape j) ∧ (∀ j, j < n → f (k + j) = S.w_Tp_ready j) := by
    intro d
    induction d with
    | zero =>
      intro i kk U g1 g2 ⟨f, hU, hf1, hf2⟩
      obtain ⟨kk, rfl⟩ : ∃ q, kk = q + 1 := ⟨kk - 1, by omega⟩
      obtain rfl : i = n := by omega
      refine ⟨f, ?_, hf1, hf2⟩
      rw [f_Mo_end_31, if_pos (Int32.le_refl _), q_l, hU]
      rfl
    | succ d ih =>
      intro i kk U g1 g2 ⟨f, hU, hf1, hf2⟩
      obtain ⟨kk, rfl⟩ : ∃ q, kk = q + 1 := ⟨kk - 1, by omega⟩
      have u1 : U.v_fed = T.v_fed := by rw [hU]; rfl
      have u2 : U.v_taped = nI (k + i) := by rw [hU]; rfl
      have u3 : U.v_ready = T.v_ready := by rw [hU]; rfl
      have u4 : U.v_tape = f := by rw [hU]; rfl
      have hr := k5 i (by omega)
      have hfit := k6 i (by omega)
      have step : ∀ x : Int32, x = S.w_Tp_ready i → ∃ f, f_Mo_end_61 K (f_Mo_end_31 K kk) (nI n) (nI i) (nI (k + i)) x U = some (nI (k + n), (((T.u_v_thrown 0).u_v_tape f).u_v_taped (nI (k + n))).u_v_fed 0) ∧ (∀ j, j < k → f j = T.v_tape j) ∧ (∀ j, j < n → f (k + j) = S.w_Tp_ready j) := by
        intro x hx
        unfold f_Mo_end_61
        rw [q_g (q_in (by omega) (by decide)), q_l, q_l, q_l, nI_1, nI_clamp (by omega), hx, fits_nar hfit, u4]
        refine ih (i + 1) kk _ (by omega) (by omega) ⟨upd f (k + i) (S.w_Tp_ready i), ?_, fun j hj => ?_, fun j hj => ?_⟩
        · rw [hU]
          show ((T.u_v_thrown 0).u_v_tape (upd f (k + i) (S.w_Tp_ready i))).u_v_taped (nI (k + i) + 1) = _
          rw [nI_1]; rfl
        · rw [pk_un (by omega)]; exact hf1 j hj
        · by_cases y : j = i
          · rw [y, pk_us]
          · rw [pk_un (by omega)]; exact hf2 j (by omega)
      rw [f_Mo_end_31, if_neg (nI_ge (by omega) (by omega)), u1, u2, u3]
      by_cases y : T.v_fed = 0
      · rw [if_pos y] at hr ⊢
        exact step 0 hr.symm
      · rw [if_neg y] at hr ⊢
        rw [q_g (q_in (by omega) (by decide)), nI_clamp (by omega)]
        exact step _ hr.symm
  obtain ⟨f, q1, q2, q3⟩ := loop n 0 K (T.u_v_thrown 0) (by omega) (by omega) ⟨T.v_tape, by rw [Nat.add_zero, ← k3]; rfl, fun _ _ => rfl, fun j hj => absurd hj (Nat.not_lt_zero _)⟩
  rw [show (0 : Int32) = nI 0 from rfl] at *
  rw [q1]
  refine ⟨nI (k + n), va_cpy S.w_Tp_ready S.w_Tp_bytes 0 k n, ar_fill S.w_Tp_ready 0 20 (vp_nar .byte 0), nI (k + n), f, T.v_ready, nI (k + n), 0, rfl, rfl, ⟨k + n, w3, rfl, rfl, fun j hj => ?_, fun j hj => ?_, fun j hj => ?_⟩, k, k + n, ⟨k1, w3⟩, k2, rfl, by omega⟩
  · show va_cpy S.w_Tp_ready S.w_Tp_bytes 0 k n j = f j
    by_cases y : j < k
    · rw [pk_cpy_out (Or.inl y), q2 j y, k4 j y]
    · obtain ⟨i, rfl⟩ : ∃ i, j = k + i := ⟨j - k, by omega⟩
      rw [pk_cpy_in (by omega) (by omega), q3 i (by omega), Nat.add_sub_cancel_left, Nat.zero_add]
  · show ar_fill S.w_Tp_ready 0 20 (vp_nar .byte 0) j = (if (0 : Int32) = 0 then 0 else T.v_ready j)
    unfold ar_fill
    rw [if_pos ⟨Nat.zero_le _, hj⟩, if_pos rfl]
    rfl
  · show fits .byte (.int (ar_fill S.w_Tp_ready 0 20 (vp_nar .byte 0) j)) = true
    unfold ar_fill
    rw [if_pos ⟨Nat.zero_le _, hj⟩]
    decide
abbrev INV (K N t : Nat) (G : CG) (S : CS) (T : MS) : Prop := byt S ∧ ∃ m k D E, (S.v_Tp_used = nI k ∧ pot m k t) ∧ (ivA N t m D E G S T ∨ ivB K N t m D E G S T)
theorem mkIA {K N t m k : Nat} {D E : Nat → Int32} {G : CG} {S : CS} {T : MS} (hb : byt S) (hk0 : S.v_Tp_used = nI k) (hp : pot m k t) (h : ivA N t m D E G S T) : INV K N t G S T := ⟨hb, m, k, D, E, ⟨hk0, hp⟩, Or.inl h⟩
theorem mkIB {K N t m k : Nat} {D E : Nat → Int32} {G : CG} {S : CS} {T : MS} (hb : byt S) (hk0 : S.v_Tp_used = nI k) (hp : pot m k t) (h : ivB K N t m D E G S T) : INV K N t G S T := ⟨hb, m, k, D, E, ⟨hk0, hp⟩, Or.inr h⟩
theorem bG3 {α : Type} {o : Option (α × CG × CS)} {r : α} {G : CG} {S : CS} (hb : bG (fun x => x.2.2) o) (a : o = some (r, G, S)) : byt S := hb (r, G, S) a
theorem bG2 {α : Type} {o : Option (α × CS)} {r : α} {S : CS} (hb : bG Prod.snd o) (a : o = some (r, S)) : byt S := hb (r, S) a
theorem bG1 {o : Option CS} {S : CS} (hb : bG id o) (a : o = some S) : byt S := hb S a
theorem rsl_up {cod : Nat → Nat} {ok : Nat → Prop} {X : Option (Except Nat Int32 × CG × CS)} {Y : Option (Int32 × MS)} {I J : CG → CS → MS → Prop} (h : rsl cod ok X Y I) (hb : bG (fun x => x.2.2) X) (f : ∀ G S T, byt S → I G S T → J G S T) : rsl cod ok X Y J := by
  rcases h with ⟨r, G', S', T', a, b, c, d⟩ | ⟨e, y, G', S', T', a, b, c, d, i⟩
  · exact Or.inl ⟨r, G', S', T', a, b, c, f _ _ _ (bG3 hb a) d⟩
  · exact Or.inr ⟨e, y, G', S', T', a, b, c, d, f _ _ _ (bG3 hb a) i⟩
theorem rslL_up {cod : Nat → Nat} {ok : Nat → Prop} {X : Option (Except Nat Int64 × CG × CS)} {Y : Option (Int64 × MS)} {I J : CG → CS → MS → Prop} (h : rslL cod ok X Y I) (hb : bG (fun x => x.2.2) X) (f : ∀ G S T, byt S → I G S T → J G S T) : rslL cod ok X Y J := by
  rcases h with ⟨r, G', S', T', a, b, c, d⟩ | ⟨e, y, G', S', T', a, b, c, d, i⟩
  · exact Or.inl ⟨r, G', S', T', a, b, c, f _ _ _ (bG3 hb a) d⟩
  · exact Or.inr ⟨e, y, G', S', T', a, b, c, d, f _ _ _ (bG3 hb a) i⟩
theorem rslU_up {cod : Nat → Nat} {ok : Nat → Prop} {X : Option (Except Nat Unit × CG × CS)} {Y : Option MS} {I J : CG → CS → MS → Prop} (h : rslU cod ok X Y I) (hb : bG (fun x => x.2.2) X) (f : ∀ G S T, byt S → I G S T → J G S T) : rslU cod ok X Y J := by
  rcases h with ⟨G', S', T', a, b, c, d⟩ | ⟨e, G', S', T', a, b, c, d, i⟩
  · exact Or.inl ⟨G', S', T', a, b, c, f _ _ _ (bG3 hb a) d⟩
  · exact Or.inr ⟨e, G', S', T', a, b, c, d, f _ _ _ (bG3 hb a) i⟩
theorem opI_kind {K N t : Nat} {G : CG} {S : CS} {T : MS} (hK : 600000 ≤ K) (ht : t < 512) (h : INV K N t G S T) : ∃ r G' S' T', f_Vt_kind K G S = some (r, G', S') ∧ f_Mo_kind K T = some (r, T') ∧ INV K N (t + 1) G' S' T' := by
  obtain ⟨hb, m, k, D, E, ⟨hk0, hp⟩, h | h⟩ := h
  · obtain ⟨r, G', S', T', a1, a2, a3, a4⟩ := opX_kind (K := K) (Nat.le_trans (by decide) hK) h
    exact ⟨r, G', S', T', a1, a2, mkIA (bG3 (b_Vt_kind hb) a1) (a4.trans hk0) (pot_t hp) (ivA_t a3)⟩
  · obtain ⟨r, G', S', T', a1, a2, a3, a4⟩ := opB_kind (K := K) h
    exact ⟨r, G', S', T', a1, a2, mkIB (bG3 (b_Vt_kind hb) a1) (a4.trans hk0) (pot_t hp) (ivB_t a3)⟩
theorem opI_fault {K N t : Nat} {G : CG} {S : CS} {T : MS} (hK : 600000 ≤ K) (ht : t < 512) (h : INV K N t G S T) : ∃ r G' S' T', f_Vt_fault K G S = some (r, G', S') ∧ f_Mo_fault K T = some (r, T') ∧ INV K N (t + 1) G' S' T' := by
  obtain ⟨hb, m, k, D, E, ⟨hk0, hp⟩, h | h⟩ := h
  · obtain ⟨r, G', S', T', a1, a2, a3, a4⟩ := opX_fault (K := K) (Nat.le_trans (by decide) hK) h
    exact ⟨r, G', S', T', a1, a2, mkIA (bG3 (b_Vt_fault hb) a1) (a4.trans hk0) (pot_t hp) (ivA_t a3)⟩
  · obtain ⟨r, G', S', T', a1, a2, a3, a4⟩ := opB_fault (K := K) h
    exact ⟨r, G', S', T', a1, a2, mkIB (bG3 (b_Vt_fault hb) a1) (a4.trans hk0) (pot_t hp) (ivB_t a3)⟩
theorem opI_byteAt {K N t : Nat} {G : CG} {S : CS} {T : MS} (hK : 600000 ≤ K) (ht : t < 512) (h : INV K N t G S T) (a b : Int32) : ∃ r G' S' T', f_Vt_byteAt K G S a b = some (r, G', S') ∧ f_Mo_byteAt K T a b = some (r, T') ∧ INV K N (t + 1) G' S' T' := by
  obtain ⟨hb, m, k, D, E, ⟨hk0, hp⟩, h | h⟩ := h
  · obtain ⟨r, G', S', T', a1, a2, a3, a4⟩ := opX_byteAt (K := K) (Nat.le_trans (by decide) hK) h a b
    exact ⟨r, G', S', T', a1, a2, mkIA (bG3 (b_Vt_byteAt hb) a1) (a4.trans hk0) (pot_t hp) (ivA_t a3)⟩
  · obtain ⟨r, G', S', T', a1, a2, a3, a4⟩ := opB_byteAt (K := K) h a b
    exact ⟨r, G', S', T', a1, a2, mkIB (bG3 (b_Vt_byteAt hb) a1) (a4.trans hk0) (pot_t hp) (ivB_t a3)⟩
theorem opI_plan {K N t : Nat} {G : CG} {S : CS} {T : MS} (hK : 600000 ≤ K) (ht : t < 512) (h : INV K N t G S T) (a b : Int32) : ∃ r G' S' T', f_Vt_plan K G S a b = some (r, G', S') ∧ f_Mo_plan K T a b = some (r, T') ∧ INV K N (t + 1) G' S' T' := by
  obtain ⟨hb, m, k, D, E, ⟨hk0, hp⟩, h | h⟩ := h
  · obtain ⟨r, G', S', T', a1, a2, -, a3, a4⟩ := opA_plan (K := K) (Nat.le_trans (by decide) hK) h a b
    exact ⟨r, G', S', T', a1, a2, mkIA (bG3 (b_Vt_plan hb) a1) (a4.trans hk0) (pot_t hp) a3⟩
  · obtain ⟨r, G', S', T', a1, a2, a3, a4⟩ := opB_plan (K := K) h a b
    exact ⟨r, G', S', T', a1, a2, mkIB (bG3 (b_Vt_plan hb) a1) (a4.trans hk0) (pot_t hp) (ivB_t a3)⟩
theorem opI_target {K N t : Nat} {G : CG} {S : CS} {T : MS} (hK : 600000 ≤ K) (ht : t < 512) (h : INV K N t G S T) (a b : Int32) : ∃ r G' S' T', f_Vt_target K G S a b = some (r, G', S') ∧ f_Mo_target K T a b = some (r, T') ∧ INV K N (t + 1) G' S' T' := by
  obtain ⟨hb, m, k, D, E, ⟨hk0, hp⟩, h | h⟩ := h
  · obtain ⟨r, G', S', T', a1, a2, -, a3, a4⟩ := opA_target (K := K) (Nat.le_trans (by decide) hK) h a b
    exact ⟨r, G', S', T', a1, a2, mkIA (bG3 (b_Vt_target hb) a1) (a4.trans hk0) (pot_t hp) a3⟩
  · obtain ⟨r, G', S', T', a1, a2, a3, a4⟩ := opB_target (K := K) h a b
    exact ⟨r, G', S', T', a1, a2, mkIB (bG3 (b_Vt_target hb) a1) (a4.trans hk0) (pot_t hp) (ivB_t a3)⟩
theorem opI_poke {K N t : Nat} {G : CG} {S : CS} {T : MS} (hK : 600000 ≤ K) (ht : t < 512) (h : INV K N t G S T) (a b c : Int32) : ∃ r S' T', f_Vt_poke K G S a b c = some (r, S') ∧ f_Mo_poke K T a b c = some (r, T') ∧ INV K N (t + 1) G S' T' := by
  obtain ⟨hb, m, k, D, E, ⟨hk0, hp⟩, h | h⟩ := h
  · obtain ⟨r, S', T', D', E', m', a1, a2, a3, a4, a5⟩ := opA_poke (K := K) (Nat.le_trans (by decide) hK) h (by have := (pot_lim hp ht).1; clear h; omega) a b c
    exact ⟨r, S', T', a1, a2, mkIA (bG2 (b_Vt_poke hb) a1) (a5.trans hk0) (pot_m hp (Nat.le_trans a4 (Nat.add_le_add_left (by decide) _))) (ivA_t a3)⟩
  · obtain ⟨a1, a2, a3⟩ := opB_poke (K := K) h a b c
    exact ⟨_, _, _, a1, a2, mkIB (bG2 (b_Vt_poke hb) a1) hk0 (pot_t hp) (ivB_t a3)⟩
theorem opI_end {K N t : Nat} {G : CG} {S : CS} {T : MS} (hK : 600000 ≤ K) (ht : t < 512) (h : INV K N t G S T) (p0 : Int32) : ∃ r S' T', f_Vt_end K G S p0 = some (r, S') ∧ f_Mo_end K T p0 = some (r, T') ∧ INV K N (t + 1) G S' T' := by
  obtain ⟨hb, m, k, D, E, ⟨hk0, hp⟩, h | h⟩ := h
  · obtain ⟨r, a, b, c, a', b', c', d', e1, e2, e3, k1, k2, ⟨w1, w2⟩, w3, w4, w5⟩ := tp_endX (K := K) (G := G) (Nat.le_trans (by decide) hK) h.1.2.2.2.1 p0
    have e5 : k1 = k := (nI_eq (a := k1) (b := k) (Nat.lt_of_le_of_lt w1 (by decide)) (pot_lim hp ht).2).mp (w3.symm.trans hk0)
    rw [e5] at w5
    exact ⟨r, _, _, e1, e2, mkIA (bG2 (b_Vt_end hb) e1) w4 (pot_k hp w5) (ivA_t (ivA_tp h e3))⟩
  · obtain ⟨r, a, b, c, a', b', c', d', e1, e2, e3, k1, k2, ⟨w1, w2⟩, w3, w4, w5⟩ := tp_endX (K := K) (G := G) (Nat.le_trans (by decide) hK) h.1.1.2.2.2.1 p0
    have e5 : k1 = k := (nI_eq (a := k1) (b := k) (Nat.lt_of_le_of_lt w1 (by decide)) (pot_lim hp ht).2).mp (w3.symm.trans hk0)
    rw [e5] at w5
    exact ⟨r, _, _, e1, e2, mkIB (bG2 (b_Vt_end hb) e1) w4 (pot_k hp w5) (ivB_t (ivB_tp h e3))⟩
theorem opI_fail {K N t : Nat} {G : CG} {S : CS} {T : MS} (hK : 600000 ≤ K) (ht : t < 512) (h : INV K N t G S T) (a b : Int32) : ∃ r S' T', f_Vt_fail K G S a b = some (r, S') ∧ f_Mo_fail K T a b = some (r, T') ∧ INV K N (t + 1) G S' T' := by
  obtain ⟨hb, m, k, D, E, ⟨hk0, hp⟩, h | h⟩ := h
  · obtain ⟨r, S', T', a1, a2, -, a3, a4⟩ := opA_fail (K := K) h a b
    exact ⟨r, S', T', a1, a2, mkIA (bG2 (b_Vt_fail hb) a1) (a4.trans hk0) (pot_t hp) a3⟩
  · obtain ⟨r, S', T', a1, a2, a3, a4⟩ := opB_fail (K := K) h a b
    exact ⟨r, S', T', a1, a2, mkIB (bG2 (b_Vt_fail hb) a1) (a4.trans hk0) (pot_t hp) a3⟩
theorem opI_feed {K N t : Nat} {G : CG} {S : CS} {T : MS} (hK : 600000 ≤ K) (ht : t < 512) (h : INV K N t G S T) (a b c d e : Int32) : ∃ S' T', f_Vt_feed K G S a b c d e = some S' ∧ f_Mo_feed K T a b c d e = some T' ∧ INV K N (t + 1) G S' T' := by
  obtain ⟨hb, m, k, D, E, ⟨hk0, hp⟩, h | h⟩ := h
  · obtain ⟨S', T', a1, a2, -, a3, a4⟩ := opA_feed (K := K) (Nat.le_trans (by decide) hK) h a b c d e
    exact ⟨S', T', a1, a2, mkIA (bG1 (b_Vt_feed hb) a1) (a4.trans hk0) (pot_t hp) a3⟩
  · obtain ⟨S', T', a1, a2, a3, a4⟩ := opB_feed (K := K) (Nat.le_trans (by decide) hK) h a b c d e
    exact ⟨S', T', a1, a2, mkIB (bG1 (b_Vt_feed hb) a1) (a4.trans hk0) (pot_t hp) a3⟩
theorem opI_clear {K N t : Nat} {G : CG} {S : CS} {T : MS} (hK : 600000 ≤ K) (ht : t < 512) (h : INV K N t G S T) : ∃ S' T', f_Vt_clear K G S = some S' ∧ f_Mo_clear K T = some T' ∧ INV K N (t + 1) G S' T' := by
  obtain ⟨hb, m, k, D, E, ⟨hk0, hp⟩, h | h⟩ := h
  · obtain ⟨S', T', a1, a2, -, a3, a4⟩ := opA_clear (K := K) h
    exact ⟨S', T', a1, a2, mkIA (bG1 (b_Vt_clear hb) a1) a4 (pot_0 hp) a3⟩
  · obtain ⟨S', T', a1, a2, a3, a4⟩ := opB_clear (K := K) h
    exact ⟨S', T', a1, a2, mkIB (bG1 (b_Vt_clear hb) a1) a4 (pot_0 hp) a3⟩
theorem opI_items {K N t : Nat} {G : CG} {S : CS} {T : MS} (hK : 600000 ≤ K) (ht : t < 512) (h : INV K N t G S T) : rsl (fun _ => 1) (fun e => e = 1) (f_Vt_items K G S) (f_Mo_items K T) (INV K N (t + 1)) := by
  obtain ⟨hb, m, k, D, E, ⟨hk0, hp⟩, h | h⟩ := h
  · exact rsl_up (opA_items (K := K) (Nat.le_trans (by decide) hK) h) (b_Vt_items hb) (fun G' S' T' b' ⟨i1, i2⟩ => mkIA b' ((coV_v_Tp_used i2).trans hk0) (pot_t hp) i1)
  · exact rsl_up (opB_items (K := K) (Nat.le_trans (by decide) hK) h) (b_Vt_items hb) (fun G' S' T' b' ⟨i1, i2⟩ => mkIB b' (i2.trans hk0) (pot_t hp) i1)
theorem opI_letter {K N t : Nat} {G : CG} {S : CS} {T : MS} (hK : 600000 ≤ K) (ht : t < 512) (h : INV K N t G S T) (a b : Int32) : rsl (fun e => e) (fun e => e = 1 ∨ e = 2) (f_Vt_letter K G S a b) (f_Mo_letter K T a b) (INV K N (t + 1)) := by
  obtain ⟨hb, m, k, D, E, ⟨hk0, hp⟩, h | h⟩ := h
  · exact rsl_up (opA_letter (K := K) (Nat.le_trans (by decide) hK) h a b) (b_Vt_letter hb) (fun G' S' T' b' ⟨i1, i2⟩ => mkIA b' ((coV_v_Tp_used i2).trans hk0) (pot_t hp) i1)
  · exact rsl_up (opB_letter (K := K) (Nat.le_trans (by decide) hK) h a b) (b_Vt_letter hb) (fun G' S' T' b' ⟨i1, i2⟩ => mkIB b' (i2.trans hk0) (pot_t hp) i1)
theorem opI_about {K N t : Nat} {G : CG} {S : CS} {T : MS} (hK : 600000 ≤ K) (ht : t < 512) (h : INV K N t G S T) (a b : Int32) : rslL (fun e => if e = 0 then 3 else e) (fun e => e = 0 ∨ e = 1 ∨ e = 2) (f_Vt_about K G S a b) (f_Mo_about K T a b) (INV K N (t + 1)) := by
  obtain ⟨hb, m, k, D, E, ⟨hk0, hp⟩, h | h⟩ := h
  · exact rslL_up (opA_about (K := K) (Nat.le_trans (by decide) hK) h a b) (b_Vt_about hb) (fun G' S' T' b' ⟨i1, i2⟩ => mkIA b' ((coV_v_Tp_used i2).trans hk0) (pot_t hp) i1)
  · exact rslL_up (opB_about (K := K) (Nat.le_trans (by decide) hK) h a b) (b_Vt_about hb) (fun G' S' T' b' ⟨i1, i2⟩ => mkIB b' (i2.trans hk0) (pot_t hp) i1)
theorem opI_content {K N t : Nat} {G : CG} {S : CS} {T : MS} (hK : 600000 ≤ K) (ht : t < 512) (h : INV K N t G S T) (a b : Int32) : rsl (fun e => e) (fun e => e = 1 ∨ e = 2) (f_Vt_content K G S a b) (f_Mo_content K T a b) (INV K N (t + 1)) := by
  obtain ⟨hb, m, k, D, E, ⟨hk0, hp⟩, h | h⟩ := h
  · exact rsl_up (opA_content (K := K) (Nat.le_trans (by decide) hK) h a b) (b_Vt_content hb) (fun G' S' T' b' ⟨i1, i2⟩ => mkIA b' (i2.trans hk0) (pot_t hp) i1)
  · exact rsl_up (opB_content (K := K) (Nat.le_trans (by decide) hK) h a b) (b_Vt_content hb) (fun G' S' T' b' ⟨i1, i2⟩ => mkIB b' (i2.trans hk0) (pot_t hp) i1)
theorem opI_enter {K N t : Nat} {G : CG} {S : CS} {T : MS} (hK : 600000 ≤ K) (ht : t < 512) (h : INV K N t G S T) (a : Int32) : rsl (fun e => if e = 0 then 3 else e) (fun e => e = 0 ∨ e = 1 ∨ e = 2) (f_Vt_enter K G S a) (f_Mo_enter K T a) (INV K N (t + 1)) := by
  obtain ⟨hb, m, k, D, E, ⟨hk0, hp⟩, h | h⟩ := h
  · exact rsl_up (opA_enter (K := K) (Nat.le_trans (by decide) hK) h a) (b_Vt_enter hb) (fun G' S' T' b' ⟨i1, i2⟩ => mkIA b' (i2.trans hk0) (pot_t hp) i1)
  · exact rsl_up (opB_enter (K := K) (Nat.le_trans (by decide) hK) h a) (b_Vt_enter hb) (fun G' S' T' b' ⟨i1, i2⟩ => mkIB b' (i2.trans hk0) (pot_t hp) i1)
theorem opI_up {K N t : Nat} {G : CG} {S : CS} {T : MS} (hK : 600000 ≤ K) (ht : t < 512) (h : INV K N t G S T) : rsl (fun _ => 1) (fun e => e = 1) (f_Vt_up K G S) (f_Mo_up K T) (INV K N (t + 1)) := by
  obtain ⟨hb, m, k, D, E, ⟨hk0, hp⟩, h | h⟩ := h
  · exact rsl_up (opA_up (K := K) (Nat.le_trans (by decide) hK) h) (b_Vt_up hb) (fun G' S' T' b' ⟨i1, i2⟩ => mkIA b' (i2.trans hk0) (pot_t hp) i1)
  · exact rsl_up (opB_up (K := K) (Nat.le_trans (by decide) hK) h) (b_Vt_up hb) (fun G' S' T' b' ⟨i1, i2⟩ => mkIB b' (i2.trans hk0) (pot_t hp) i1)
theorem opI_grow {K N t : Nat} {G : CG} {S : CS} {T : MS} (hK : 600000 ≤ K) (ht : t < 512) (h : INV K N t G S T) (a b c : Int32) : rsl cod4 (fun e => e ≤ 3) (f_Vt_grow K G S a b c) (f_Mo_grow K T a b c) (INV K N (t + 1)) := by
  obtain ⟨hb, m, k, D, E, ⟨hk0, hp⟩, h | h⟩ := h
  · exact rsl_up (opA_grow (K := K) (Nat.le_trans (by decide) hK) h (by have := (pot_lim hp ht).1; clear h; omega) a b c) (b_Vt_grow hb) (fun G' S' T' b' ⟨m', D', E', i0, i1, i2⟩ => mkIA b' (i2.trans hk0) (pot_m hp i0) i1)
  · obtain ⟨G', S', T', y, a1, a2, a3, a4, a5⟩ := opB_grow (K := K) h a b c
    exact Or.inr ⟨1, y, G', S', T', a1, a2, by decide, a3, mkIB (bG3 (b_Vt_grow hb) a1) (a5.trans hk0) (pot_t hp) a4⟩
theorem opI_cut {K N t : Nat} {G : CG} {S : CS} {T : MS} (hK : 600000 ≤ K) (ht : t < 512) (h : INV K N t G S T) (a b : Int32) : rsl (fun e => if e = 0 then 3 else e) (fun e => e = 0 ∨ e = 1 ∨ e = 2) (f_Vt_cut K G S a b) (f_Mo_cut K T a b) (INV K N (t + 1)) := by
  obtain ⟨hb, m, k, D, E, ⟨hk0, hp⟩, h | h⟩ := h
  · exact rsl_up (opA_cut (K := K) (Nat.le_trans (by decide) hK) h (by have := (pot_lim hp ht).1; clear h; omega) a b) (b_Vt_cut hb) (fun G' S' T' b' ⟨m', D', E', i0, i1, i2⟩ => mkIA b' (i2.trans hk0) (pot_m hp (Nat.le_trans i0 (Nat.add_le_add_left (by decide) _))) i1)
  · obtain ⟨G', S', T', y, a1, a2, a3, a4, a5⟩ := opB_cut (K := K) h a b
    exact Or.inr ⟨1, y, G', S', T', a1, a2, Or.inr (Or.inl rfl), a3, mkIB (bG3 (b_Vt_cut hb) a1) (a5.trans hk0) (pot_t hp) a4⟩
theorem opI_remove {K N t : Nat} {G : CG} {S : CS} {T : MS} (hK : 600000 ≤ K) (ht : t < 512) (h : INV K N t G S T) (a : Int32) : rslU (fun e => if e = 0 then 3 else e) (fun e => e = 0 ∨ e = 1 ∨ e = 2) (f_Vt_remove K G S a) (f_Mo_remove K T a) (INV K N (t + 1)) := by
  obtain ⟨hb, m, k, D, E, ⟨hk0, hp⟩, h | h⟩ := h
  · exact rslU_up (opA_remove (K := K) (Nat.le_trans (by decide) hK) h a) (b_Vt_remove hb) (fun G' S' T' b' ⟨D', E', i1, i2⟩ => mkIA b' (i2.trans hk0) (pot_t hp) i1)
  · obtain ⟨G', S', T', a1, a2, a3, a4, a5⟩ := opB_remove (K := K) h a
    exact Or.inr ⟨1, G', S', T', a1, a2, Or.inr (Or.inl rfl), a3, mkIB (bG3 (b_Vt_remove hb) a1) (a5.trans hk0) (pot_t hp) a4⟩
theorem opI_stamp {K N t : Nat} {G : CG} {S : CS} {T : MS} (hK : 600000 ≤ K) (ht : t < 512) (h : INV K N t G S T) (a b c d : Int32) : rslU (fun e => if e = 0 then 3 else e) (fun e => e = 0 ∨ e = 1 ∨ e = 2) (f_Vt_stamp K G S a b c d) (f_Mo_stamp K T a b c d) (INV K N (t + 1)) := by
  obtain ⟨hb, m, k, D, E, ⟨hk0, hp⟩, h | h⟩ := h
  · exact rslU_up (opA_stamp (K := K) (Nat.le_trans (by decide) hK) h (by have := (pot_lim hp ht).1; clear h; omega) a b c d) (b_Vt_stamp hb) (fun G' S' T' b' ⟨m', D', E', i0, i1, i2⟩ => mkIA b' (i2.trans hk0) (pot_m hp (Nat.le_trans i0 (Nat.add_le_add_left (by decide) _))) i1)
  · obtain ⟨G', S', T', a1, a2, a3, a4, a5⟩ := opB_stamp (K := K) h a b c d
    exact Or.inr ⟨1, G', S', T', a1, a2, Or.inr (Or.inl rfl), a3, mkIB (bG3 (b_Vt_stamp hb) a1) (a5.trans hk0) (pot_t hp) a4⟩
theorem opI_write {K N t : Nat} {G : CG} {S : CS} {T : MS} (hK : 600000 ≤ K) (ht : t < 512) (h : INV K N t G S T) (a : Int32) : rsl cod4 (fun e => e ≤ 3) (f_Vt_write K G S a) (f_Mo_write K T a) (INV K N (t + 1)) := by
  obtain ⟨hb, m, k, D, E, ⟨hk0, hp⟩, h | h⟩ := h
  · obtain ⟨n, n1, n2, r⟩ := opA_write (K := K) (Nat.le_trans (by decide) hK) h (pot_lim hp ht).1 a
    have e1 : n = k := (nI_eq (a := n) (b := k) (Nat.lt_of_le_of_lt n1 (by decide)) (pot_lim hp ht).2).mp (n2.symm.trans hk0)
    rw [e1] at r
    exact rsl_up r (b_Vt_write hb) (fun G' S' T' b' ⟨m', D', E', i0, i1, i2⟩ => mkIA b' i2 (pot_wr hp i0) i1)
  · obtain ⟨G', S', T', y, a1, a2, a3, a4, a5⟩ := opB_write (K := K) h a
    exact Or.inr ⟨1, y, G', S', T', a1, a2, by decide, a3, mkIB (bG3 (b_Vt_write hb) a1) a5 (pot_0 hp) a4⟩
theorem opI_make {K N t dr : Nat} {G : CG} {S : CS} {T : MS} (hK : 600000 ≤ K) (ht : t < 512) (h : INV K N t G S T) (hdr : dr = 0 ∨ dr = 1) : rsl codM (fun e => e ≤ 3 ∧ e ≠ 2) (f_Vt_make K G S (nI dr)) (f_Mo_make K T (nI dr)) (INV K N (t + 1)) := by
  obtain ⟨hb, m, k, D, E, ⟨hk0, hp⟩, h | h⟩ := h
  · obtain ⟨n, n1, n2, r⟩ := opA_make (K := K) (Nat.le_trans (by decide) hK) h (by have := (pot_lim hp ht).1; clear h; omega) hdr
    have e1 : n = k := (nI_eq (a := n) (b := k) (Nat.lt_of_le_of_lt n1 (by decide)) (pot_lim hp ht).2).mp (n2.symm.trans hk0)
    rw [e1] at r
    exact rsl_up r (b_Vt_make hb) (fun G' S' T' b' ⟨m', D', E', i0, i1, i2⟩ => mkIA b' i2 (pot_mk hp i0) i1)
  · obtain ⟨G', S', T', y, a1, a2, a3, a4, a5⟩ := opB_make (K := K) (Nat.le_trans (by decide) hK) h (nI dr)
    exact Or.inr ⟨1, y, G', S', T', a1, a2, by decide, a3, mkIB (bG3 (b_Vt_make hb) a1) a5 (pot_0 hp) a4⟩
theorem opI_run {K N t : Nat} {G : CG} {S : CS} {T : MS} (hK : 600000 ≤ K) (ht : t < 512) (h : INV K N t G S T) (a b : Int32) : rsl codM (fun e => e ≤ 1) (f_Vt_run K G S a b) (f_Mo_run K T a b) (INV K N (t + 1)) := by
  obtain ⟨hb, m, k, D, E, ⟨hk0, hp⟩, h | h⟩ := h
  · exact rsl_up (opA_run (K := K) hK h hb a b) (b_Vt_run hb) (fun G' S' T' b' ⟨i1, i2, E', i3⟩ => i3.elim (fun y => mkIA b' (i1.trans hk0) (pot_t hp) y) (fun y => mkIB b' (i1.trans hk0) (pot_t hp) ⟨y.1, heB_0 y.2.1 y.2.2⟩))
  · exact rsl_up (opB_run (K := K) hK h a b) (b_Vt_run hb) (fun G' S' T' b' ⟨i1, i2, E', i3⟩ => i3.elim (fun y => mkIA b' (i1.trans hk0) (pot_t hp) y) (fun y => mkIB b' (i1.trans hk0) (pot_t hp) y))
theorem opI_format {K N t : Nat} {G : CG} {S : CS} {T : MS} (hK : 600000 ≤ K) (ht : t < 512) (h : INV K N t G S T) (a b c d : Int32) : rsl (fun _ => 1) (fun e => e = 0) (f_Vt_format K G S a b c d) (f_Mo_format K T a b c d) (INV K N (t + 1)) := by
  obtain ⟨hb, m, k, D, E, ⟨hk0, hp⟩, h | h⟩ := h
  · obtain ⟨⟨h0, h1, h2, h4, h5, h6, h7, h8, h9⟩, ⟨hg, hg2⟩, hl, hc0⟩ := id h
    rcases opF_format (K := K) (G := G) (S := S) (T := T) (N := N) (t := t) hK ⟨h0, h1, h4, h5, h9, hg, hg2⟩ a b c d with ⟨a1, y, a2⟩ | ⟨r, S', T', D', E', a1, a2, a3, a4, a5⟩
    · exact Or.inr ⟨0, y, _, _, _, a1, a2, rfl, rfl, mkIA (bG3 (b_Vt_format hb) a1) rfl (pot_0 hp) (ivA_made (ivA_thr (ivA_t0 (ivA_thr h 0)) 1))⟩
    · exact Or.inl ⟨r, G, S', T', a1, a2, a3, mkIA (bG3 (b_Vt_format hb) a1) a5 (pot_f _) (ivA_t a4)⟩
  · obtain ⟨⟨⟨h0, h1, h2, h4, h5, h6, h7, h8⟩, ⟨hg, hg2⟩, hl, hc0⟩, he⟩ := id h
    rcases opF_format (K := K) (G := G) (S := S) (T := T) (N := N) (t := t) hK ⟨h0, h1, h4, h5, h8, hg, hg2⟩ a b c d with ⟨a1, y, a2⟩ | ⟨r, S', T', D', E', a1, a2, a3, a4, a5⟩
    · exact Or.inr ⟨0, y, _, _, _, a1, a2, rfl, rfl, mkIB (bG3 (b_Vt_format hb) a1) rfl (pot_0 hp) (ivB_made (ivB_thr (ivB_t0 (ivB_thr h 0)) 1))⟩
    · exact Or.inl ⟨r, G, S', T', a1, a2, a3, mkIA (bG3 (b_Vt_format hb) a1) a5 (pot_f _) (ivA_t a4)⟩
