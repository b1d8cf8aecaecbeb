/-! Sector 0. -/
theorem q_iA {α : Type} {a b : Prop} [Decidable a] [Decidable b] {x y : α} : (if a then (if b then x else y) else y) = if a ∧ b then x else y := by
  by_cases h : a <;> by_cases g : b <;> simp only [h, g, if_true, if_false, and_self, and_true, and_false, false_and, true_and]
theorem q_iO {α : Type} {a b : Prop} [Decidable a] [Decidable b] {x y : α} : (if a then x else (if b then x else y)) = if a ∨ b then x else y := by
  by_cases h : a <;> by_cases g : b <;> simp only [h, g, if_true, if_false, or_self, or_true, or_false, false_or, true_or]
theorem q_iN {α : Type} {a b : Prop} [Decidable a] [Decidable b] {x y : α} : (if a then y else (if b then x else y)) = if ¬ a ∧ b then x else y := by
  by_cases h : a <;> by_cases g : b <;> simp only [h, g, if_true, if_false, and_self, and_true, and_false, false_and, true_and, not_true, not_false_iff]
theorem q_iB {α : Type} {a b : Prop} [Decidable a] [Decidable b] {x y : α} : (if a then (if b then y else x) else y) = if a ∧ ¬ b then x else y := by
  by_cases h : a <;> by_cases g : b <;> simp only [h, g, if_true, if_false, and_self, and_true, and_false, false_and, true_and, not_true, not_false_iff]
theorem q_iD {α : Type} {a b c : Prop} [Decidable a] [Decidable b] [Decidable c] {x y : α} : (if a then (if b then x else y) else (if c then x else y)) = if (a ∧ b) ∨ (¬ a ∧ c) then x else y := by
  by_cases h : a <;> by_cases g : b <;> by_cases k : c <;> simp only [h, g, k, if_true, if_false, and_self, and_true, and_false, false_and, true_and, not_true, not_false_iff, or_self, or_true, or_false, false_or, true_or]
theorem q_iC {α : Type} {a b : Prop} [Decidable a] [Decidable b] {x y : α} (h : a ↔ b) : (if a then x else y) = if b then x else y := by
  by_cases g : a
  · rw [if_pos g, if_pos (h.mp g)]
  · rw [if_neg g, if_neg (fun q => g (h.mpr q))]
theorem rM1 (D : Nat → Int32) {K : Nat} {T : MS} {p : Nat} (hD : T.v_disk = D) (h : p < 524288) : f_Mo_one K T (nI p) = some (nI (o1 D p), T) := by subst hD; exact qM_one T h
theorem rM2 (D : Nat → Int32) {K : Nat} {T : MS} {p : Nat} (hD : T.v_disk = D) (h : p + 1 < 524288) : f_Mo_two K T (nI p) = some (nI (o2 D p), T) := by subst hD; exact qM_two T h
theorem rM4 (D : Nat → Int32) {K : Nat} {T : MS} {p : Nat} (hD : T.v_disk = D) (h : p + 3 < 524288) : f_Mo_four K T (nI p) = some (nI (o4 D p), T) := by subst hD; exact qM_four T h
theorem rV1 (D : Nat → Int32) {K N : Nat} {G : CG} {S : CS} {p : Nat} (hG : G.n = N) (hD : S.w_Dk_bytes = D) (hN : N ≤ 1024) (h : p < 512 * N) : f_Dk_one K G S (nI p) = some (nI (o1 D p), S) := by subst hD; subst hG; exact qV_one S h hN
theorem rV2 (D : Nat → Int32) {K N : Nat} {G : CG} {S : CS} {p : Nat} (hG : G.n = N) (hD : S.w_Dk_bytes = D) (hN : N ≤ 1024) (h : p + 1 < 512 * N) : f_Dk_two K G S (nI p) = some (nI (o2 D p), S) := by subst hD; subst hG; exact qV_two S h hN
theorem rV4 (D : Nat → Int32) {K N : Nat} {G : CG} {S : CS} {p : Nat} (hG : G.n = N) (hD : S.w_Dk_bytes = D) (hN : N ≤ 1024) (h : p + 3 < 512 * N) : f_Dk_four K G S (nI p) = some (nI (o4 D p), S) := by subst hD; subst hG; exact qV_four S h hN
def hc (D : Nat → Int32) : Nat := o1 D 13
def hv (D : Nat → Int32) : Nat := o2 D 14
def hy (D : Nat → Int32) : Nat := o1 D 16
def hz (D : Nat → Int32) : Nat := o4 D 36
def hr (D : Nat → Int32) : Nat := o4 D 44
def ha (D : Nat → Int32) : Nat := hv D + hy D * hz D
def hk (N : Nat) (D : Nat → Int32) : Nat := (N - ha D) / hc D
abbrev hdA (N : Nat) (D : Nat → Int32) : Prop := o2 D 11 = 512 ∧ (hc D = 2 ∨ hc D = 4 ∨ hc D = 8) ∧ (8 ≤ hv D ∧ hv D ≤ 64) ∧ (hy D = 1 ∨ hy D = 2) ∧ o2 D 17 = 0 ∧ o2 D 19 = 0 ∧ o2 D 22 = 0 ∧ o4 D 32 = N ∧ (1 ≤ hz D ∧ hz D ≤ 32) ∧ o2 D 48 = 1 ∧ o2 D 50 = 6 ∧ o2 D 510 = 43605
abbrev hdB (N : Nat) (D : Nat → Int32) : Prop := ha D < N ∧ 4 ≤ hk N D ∧ hk N D + 2 ≤ 128 * hz D ∧ 2 ≤ hr D ∧ hr D ≤ hk N D + 1
abbrev hdOk (N : Nat) (D : Nat → Int32) : Prop := hdA N D ∧ hdB N D
/-- the five numbers of sector 0 come to the fields -/
def mH (D : Nat → Int32) (T : MS) : MS := ((((T.u_v_c (nI (hc D))).u_v_v (nI (hv D))).u_v_y (nI (hy D))).u_v_z (nI (hz D))).u_v_root (nI (hr D))
theorem hd_le {N : Nat} {D : Nat → Int32} (hA : hdA N D) : ha D ≤ 128 := by
  obtain ⟨-, hC, hV, hY, -, -, -, -, hZ, -⟩ := hA
  unfold ha
  rcases hY with h | h <;> rw [h] <;> omega
theorem qM_isCl {K k x : Nat} {T : MS} (hk : T.v_k = nI k) (h1 : k < 2 ^ 30) (hx : x < 2 ^ 32) : f_Mo_isCluster K T (nI x) = some (if 2 ≤ x ∧ x ≤ k + 1 then 1 else 0, T) := by
  have e1 : nI x < 2 ↔ x < 2 ∨ 2 ^ 31 ≤ x := q_ltW hx (by decide)
  have e2 : T.v_k + 1 < nI x ↔ k + 1 < x ∧ x < 2 ^ 31 := by
    rw [hk, nI_1, ← Int32.not_le, q_leV hx (by omega)]
    omega
  rw [f_Mo_isCluster]
  by_cases g1 : x < 2 ∨ 2 ^ 31 ≤ x
  · rw [if_pos (e1.mpr g1), if_neg (by omega)]
    rfl
  · rw [if_neg (fun h => g1 (e1.mp h))]
    by_cases g2 : k + 1 < x
    · rw [if_pos (e2.mpr (by omega)), if_neg (by omega)]
      rfl
    · rw [if_neg (fun h => absurd (e2.mp h) (by omega)), if_pos (by omega)]
theorem qM_head216 {K N : Nat} {D : Nat → Int32} {T : MS} (hN : T.v_n = nI N) (h1 : 256 ≤ N) (h2 : N ≤ 1024) (hA : hdA N D) : f_Mo_head_216 K 1 (mH D T) = some (if hdB N D then 1 else 0, ((mH D T).u_v_a (nI (ha D))).u_v_k (nI (hk N D))) := by
  have hle := hd_le hA
  obtain ⟨-, hC, hV, hY, -, -, -, -, hZ, -⟩ := hA
  have hk1 : hk N D < 1025 := Nat.lt_of_le_of_lt (Nat.div_le_self _ _) (by omega)
  have hR : hr D < 2 ^ 32 := o4_lt D 44
  have e1 : (mH D T).v_v + (mH D T).v_y * (mH D T).v_z = nI (ha D) := by
    show nI (hv D) + nI (hy D) * nI (hz D) = _
    rw [pk_mul, nI_add]
    rfl
  have e2 : (T.v_n - nI (ha D)) / nI (hc D) = nI (hk N D) := by
    rw [hN, pk_sub (by omega), pk_div (by omega) (by omega) (by omega)]
    rfl
  have e3 : ¬ nI (hc D) = 0 := nI_ne0 (by omega) (by omega)
  have e4 : nI N ≤ nI (ha D) ↔ N ≤ ha D := nI_leI (by omega) (by omega)
  have e5 : nI (hk N D) < nI 4 ↔ hk N D < 4 := nI_ltI (by omega) (by omega)
  have e6 : nI 128 * nI (hz D) < nI (hk N D) + nI 2 ↔ 128 * hz D < hk N D + 2 := by
    rw [pk_mul, nI_add]
    exact nI_ltI (by omega) (by omega)
  rw [f_Mo_head_216, if_neg (by decide), e1, q_l, q_g (show ¬ ((mH D T).u_v_a (nI (ha D))).v_c = 0 from e3)]
  show lf_l (((mH D T).u_v_a (nI (ha D))).u_v_k ((T.v_n - nI (ha D)) / nI (hc D))) _ = _
  rw [e2, q_l]
  show (if T.v_n ≤ nI (ha D) then _ else (if nI (hk N D) < nI 4 then _ else (if nI 128 * nI (hz D) < nI (hk N D) + nI 2 then _ else _))) = _
  rw [hN]
  by_cases g1 : N ≤ ha D
  · rw [if_pos (e4.mpr g1), if_neg (by unfold hdB; omega)]
    rfl
  rw [if_neg (fun h => g1 (e4.mp h))]
  by_cases g2 : hk N D < 4
  · rw [if_pos (e5.mpr g2), if_neg (by unfold hdB; omega)]
    rfl
  rw [if_neg (fun h => g2 (e5.mp h))]
  by_cases g3 : 128 * hz D < hk N D + 2
  · rw [if_pos (e6.mpr g3), if_neg (by unfold hdB; omega)]
    rfl
  rw [if_neg (fun h => g3 (e6.mp h))]
  show lf_c (f_Mo_isCluster K (((mH D T).u_v_a (nI (ha D))).u_v_k (nI (hk N D))) (nI (hr D))) _ = _
  rw [qM_isCl (k := hk N D) rfl (by omega) hR, q_c]
  by_cases g4 : 2 ≤ hr D ∧ hr D ≤ hk N D + 1
  · rw [if_pos g4, if_neg (by decide), if_pos (by unfold hdB; omega)]
  · rw [if_neg g4, if_pos rfl, if_neg (by unfold hdB; omega)]
    rfl
theorem qM_he0 {K N : Nat} {D : Nat → Int32} {T : MS} (hD : T.v_disk = D) (hN : T.v_n = nI N) (h2 : N ≤ 1024) : f_Mo_head K T = lf_c (f_Mo_two K (mH D T) 11) fun r_11 S_11 => if r_11 = 512 then (if S_11.v_c = 2 then (f_Mo_head_87 K S_11) else (if S_11.v_c = 4 then (f_Mo_head_87 K S_11) else (if S_11.v_c = 8 then (f_Mo_head_87 K S_11) else (f_Mo_head_215 K S_11)))) else (f_Mo_head_215 K S_11) := by
  have c11 := o2_lt D 11
  have c17 := o2_lt D 17
  have c19 := o2_lt D 19
  have c22 := o2_lt D 22
  have c48 := o2_lt D 48
  have c50 := o2_lt D 50
  have c510 := o2_lt D 510
  have c32 := o4_lt D 32
  have b1 : hc D < 256 := o1_lt D 13
  have b2 : hv D < 65536 := o2_lt D 14
  have b3 : hy D < 256 := o1_lt D 16
  have b4 : hz D < 2 ^ 32 := o4_lt D 36
  have m1 : (mH D T).v_z = nI (hz D) := rfl
  have m2 : (mH D T).v_n = nI N := hN
  have m3 : (mH D T).v_y = nI (hy D) := rfl
  have m4 : (mH D T).v_v = nI (hv D) := rfl
  have m5 : (mH D T).v_c = nI (hc D) := rfl
  rw [f_Mo_head, q_lit, rM1 D hD (by decide), q_c, q_l, q_lit]
  rw [rM2 D (T := T.u_v_c (nI (o1 D 13))) hD (by decide), q_c, q_l, q_lit]
  rw [rM1 D (T := (T.u_v_c (nI (o1 D 13))).u_v_v (nI (o2 D 14))) hD (by decide), q_c, q_l, q_lit]
  rw [rM4 D (T := ((T.u_v_c (nI (o1 D 13))).u_v_v (nI (o2 D 14))).u_v_y (nI (o1 D 16))) hD (by decide), q_c, q_l, q_lit]
  rw [rM4 D (T := (((T.u_v_c (nI (o1 D 13))).u_v_v (nI (o2 D 14))).u_v_y (nI (o1 D 16))).u_v_z (nI (o4 D 36))) hD (by decide), q_c, q_l]
  rfl
theorem qM_he1 {K N : Nat} {D : Nat → Int32} {T : MS} (hD : T.v_disk = D) (hN : T.v_n = nI N) (h2 : N ≤ 1024) : f_Mo_head_121 K (mH D T) = if o2 D 17 = 0 ∧ o2 D 19 = 0 ∧ o2 D 22 = 0 ∧ o4 D 32 = N ∧ (1 ≤ hz D ∧ hz D ≤ 32) ∧ o2 D 48 = 1 ∧ o2 D 50 = 6 ∧ o2 D 510 = 43605 then f_Mo_head_216 K 1 (mH D T) else f_Mo_head_215 K (mH D T) := by
  have c11 := o2_lt D 11
  have c17 := o2_lt D 17
  have c19 := o2_lt D 19
  have c22 := o2_lt D 22
  have c48 := o2_lt D 48
  have c50 := o2_lt D 50
  have c510 := o2_lt D 510
  have c32 := o4_lt D 32
  have b1 : hc D < 256 := o1_lt D 13
  have b2 : hv D < 65536 := o2_lt D 14
  have b3 : hy D < 256 := o1_lt D 16
  have b4 : hz D < 2 ^ 32 := o4_lt D 36
  have m1 : (mH D T).v_z = nI (hz D) := rfl
  have m2 : (mH D T).v_n = nI N := hN
  have m3 : (mH D T).v_y = nI (hy D) := rfl
  have m4 : (mH D T).v_v = nI (hv D) := rfl
  have m5 : (mH D T).v_c = nI (hc D) := rfl
  simp (disch := first | (with_unfolding_all exact id hD) | omega) only [f_Mo_head_121, q_lit, rM2 D, rM4 D, q_c, m1, m2, q_eqW]
  generalize f_Mo_head_216 K (nI 1) (mH D T) = X
  generalize f_Mo_head_215 K (mH D T) = Y
  have g1 : nI (hz D) < nI 1 ↔ hz D < 1 ∨ 2 ^ 31 ≤ hz D := q_ltW (by omega) (by decide)
  have g2 : nI 32 < nI (hz D) ↔ 32 < hz D ∧ hz D < 2 ^ 31 := by rw [← Int32.not_le, q_leV (by omega) (by decide)]; omega
  simp only [g1, g2, q_iA, q_iN]
  exact q_iC (by omega)
theorem qM_he2 {K N : Nat} {D : Nat → Int32} {T : MS} (hD : T.v_disk = D) (hN : T.v_n = nI N) (h2 : N ≤ 1024) : f_Mo_head_87 K (mH D T) = if (8 ≤ hv D ∧ hv D ≤ 64) ∧ (hy D = 1 ∨ hy D = 2) ∧ o2 D 17 = 0 ∧ o2 D 19 = 0 ∧ o2 D 22 = 0 ∧ o4 D 32 = N ∧ (1 ≤ hz D ∧ hz D ≤ 32) ∧ o2 D 48 = 1 ∧ o2 D 50 = 6 ∧ o2 D 510 = 43605 then f_Mo_head_216 K 1 (mH D T) else f_Mo_head_215 K (mH D T) := by
  have c11 := o2_lt D 11
  have c17 := o2_lt D 17
  have c19 := o2_lt D 19
  have c22 := o2_lt D 22
  have c48 := o2_lt D 48
  have c50 := o2_lt D 50
  have c510 := o2_lt D 510
  have c32 := o4_lt D 32
  have b1 : hc D < 256 := o1_lt D 13
  have b2 : hv D < 65536 := o2_lt D 14
  have b3 : hy D < 256 := o1_lt D 16
  have b4 : hz D < 2 ^ 32 := o4_lt D 36
  have m1 : (mH D T).v_z = nI (hz D) := rfl
  have m2 : (mH D T).v_n = nI N := hN
  have m3 : (mH D T).v_y = nI (hy D) := rfl
  have m4 : (mH D T).v_v = nI (hv D) := rfl
  have m5 : (mH D T).v_c = nI (hc D) := rfl
  have t1 := qM_he1 (K := K) hD hN h2
  simp (disch := omega) only [f_Mo_head_87, q_lit, t1, m3, m4, nI_eq, nI_ltI]
  generalize f_Mo_head_216 K (nI 1) (mH D T) = X
  generalize f_Mo_head_215 K (mH D T) = Y
  simp only [q_iA, q_iN, q_iD]
  exact q_iC (by omega)
theorem qM_head0 {K N : Nat} {D : Nat → Int32} {T : MS} (hD : T.v_disk = D) (hN : T.v_n = nI N) (h2 : N ≤ 1024) : f_Mo_head K T = if hdA N D then f_Mo_head_216 K 1 (mH D T) else f_Mo_head_215 K (mH D T) := by
  have c11 := o2_lt D 11
  have c17 := o2_lt D 17
  have c19 := o2_lt D 19
  have c22 := o2_lt D 22
  have c48 := o2_lt D 48
  have c50 := o2_lt D 50
  have c510 := o2_lt D 510
  have c32 := o4_lt D 32
  have b1 : hc D < 256 := o1_lt D 13
  have b2 : hv D < 65536 := o2_lt D 14
  have b3 : hy D < 256 := o1_lt D 16
  have b4 : hz D < 2 ^ 32 := o4_lt D 36
  have m1 : (mH D T).v_z = nI (hz D) := rfl
  have m2 : (mH D T).v_n = nI N := hN
  have m3 : (mH D T).v_y = nI (hy D) := rfl
  have m4 : (mH D T).v_v = nI (hv D) := rfl
  have m5 : (mH D T).v_c = nI (hc D) := rfl
  have t2 := qM_he2 (K := K) hD hN h2
  rw [qM_he0 hD hN h2]
  simp (disch := first | (with_unfolding_all exact id hD) | omega) only [q_lit, rM2 D, q_c, t2, m5, nI_eq]
  generalize f_Mo_head_216 K (nI 1) (mH D T) = X
  generalize f_Mo_head_215 K (mH D T) = Y
  unfold hdA
  simp only [q_iA, q_iN, q_iD]
  exact q_iC (by omega)
theorem qM_head {K N : Nat} {D : Nat → Int32} {T : MS} (hD : T.v_disk = D) (hN : T.v_n = nI N) (h1 : 256 ≤ N) (h2 : N ≤ 1024) : (hdOk N D → f_Mo_head K T = some (1, ((mH D T).u_v_a (nI (ha D))).u_v_k (nI (hk N D)))) ∧ (¬ hdOk N D → ∃ a k, f_Mo_head K T = some (0, ((mH D T).u_v_a a).u_v_k k)) := by
  rw [qM_head0 hD hN h2]
  by_cases h : hdA N D
  · rw [if_pos h, qM_head216 hN h1 h2 h]
    refine ⟨fun g => by rw [if_pos g.2], fun g => ⟨_, _, by rw [if_neg (fun q => g ⟨h, q⟩)]⟩⟩
  · rw [if_neg h]
    exact ⟨fun g => absurd g.1 h, fun _ => ⟨T.v_a, T.v_k, rfl⟩⟩
