theorem qC_zero {K N q n : Nat} {G : CG} {S : CS} (hG : G.n = N) (hN : N ≤ 1024) (h : q + n ≤ 512 * N) : f_Dk_zero K G S (nI q) (nI n) = some (S.u_w_Dk_bytes (zr S.w_Dk_bytes q n)) := by
  unfold f_Dk_zero
  have hc1 : (nI q).toNatClampNeg = q := nI_clamp (by omega)
  have hc2 : (nI (q + n)).toNatClampNeg = q + n := nI_clamp (by omega)
  rw [if_neg (nI_pos (by omega)), if_neg (nI_pos (by omega)), hG, if_neg (nI_nlt (by omega) (by omega)), pk_sub (by omega), if_neg (nI_nlt (by omega) (by omega)), nI_add, q_g ⟨by omega, nI_pos (by omega), nI_pos (by omega), by rw [hc1, hc2]; omega, by rw [hc2]; exact h⟩, q_l, hc1, hc2]
  rfl
/-- the first free cluster from s on -/
abbrev frst (e : Nat → Nat) (s x : Nat) : Prop := s ≤ x ∧ e x = 0 ∧ ∀ y, s ≤ y → y < x → e y ≠ 0
theorem frst_ex {e : Nat → Nat} : ∀ (d s : Nat), 1 ≤ cntF e d s → ∃ x, frst e s x ∧ x < s + d := by
  intro d
  induction d with
  | zero => intro s h; exact absurd h (by rw [cntF]; decide)
  | succ d ih =>
    intro s h
    by_cases w : e s = 0
    · exact ⟨s, ⟨Nat.le_refl _, w, fun y g1 g2 => by omega⟩, by omega⟩
    · rw [cntF, if_neg w, Nat.zero_add] at h
      obtain ⟨x, ⟨g1, g2, g3⟩, g4⟩ := ih (s + 1) h
      refine ⟨x, ⟨by omega, g2, fun y y1 y2 => ?_⟩, by omega⟩
      by_cases u : y = s
      · rw [u]; exact w
      · exact g3 y (by omega) y2
theorem qM_take {K N x : Nat} {D : Nat → Int32} {e : Nat → Nat} {T : MS} (hK : 5000 ≤ K) (h : hdOk N D) (hN : N ≤ 1024) (he : ∀ y, e y < 2 ^ 28) (hent : ∀ y, y < hk N D + 2 → f_Mo_entry K T (nI y) = some (nI (e y), T)) (h1 : T.v_v = nI (hv D)) (h2 : T.v_y = nI (hy D)) (h3 : T.v_z = nI (hz D)) (h4 : T.v_c = nI (hc D)) (h5 : T.v_a = nI (ha D)) (hx : frst e 2 x) (hxl : x < hk N D + 2) : f_Mo_take K T = some (nI x, T.u_v_disk (zr (lk D T.v_disk x 268435455) (plC D x) (512 * hc D))) := by
  have hf := hd_facts h hN
  have hC := hf.1
  have lp : ∀ (d y k : Nat), y + d = x → d < k → 2 ≤ y → f_Mo_take_2 K k (nI y) T = some (nI x, T.u_v_disk (zr (lk D T.v_disk x 268435455) (plC D x) (512 * hc D))) := by
    intro d
    induction d with
    | zero =>
      intro y k g1 g2 g3
      obtain ⟨k, rfl⟩ : ∃ m, k = m + 1 := ⟨k - 1, by omega⟩
      obtain rfl : y = x := by omega
      rw [f_Mo_take_2, hent y hxl, q_c, hx.2.1, if_pos (show nI 0 = 0 from rfl), show (268435455 : Int32) = nI 268435455 from rfl, qM_lk (by omega) h hN hxl (by decide) h1 h2 h3, q_b, show (0 : Int32) = nI 0 from rfl]
      rw [qM_zero h hN ⟨g3, by omega⟩ (512 * hc D) 0 K (lk D T.v_disk y 268435455) (T.u_v_disk (lk D T.v_disk y 268435455)) (by omega) (by omega) h4 h5 (zr_0 _ _).symm]
      rfl
    | succ d ih =>
      intro y k g1 g2 g3
      obtain ⟨k, rfl⟩ : ∃ m, k = m + 1 := ⟨k - 1, by omega⟩
      have hey := he y
      have hne := hx.2.2 y g3 (by omega)
      rw [f_Mo_take_2, hent y (by omega), q_c, if_neg (nI_ne0 (by omega) (by omega)), show (1 : Int32) = nI 1 from rfl, nI_add, q_l]
      exact ih (y + 1) k (by omega) (by omega) (by omega)
  unfold f_Mo_take
  have := hx.1
  exact lp (x - 2) 2 K (by omega) (by omega) (by omega)
theorem qC_take {K N x : Nat} {D : Nat → Int32} {e : Nat → Nat} {G : CG} {S : CS} (hK : 5000 ≤ K) (hN1 : 256 ≤ N) (h : hdOk N D) (hN : N ≤ 1024) (he : ∀ y, e y < 2 ^ 28) (hS : nxR N D e G S) (h1 : S.v_Tb_before = nI (hv D)) (h2 : S.v_Tb_copies = nI (hy D)) (h3 : S.v_Tb_length = nI (hz D)) (h4 : S.v_Tb_cluster = nI (hc D)) (h5 : S.v_Tb_start = nI (ha D)) (hx : frst e 2 x) (hxl : x < hk N D + 2) : f_Tb_takeFree K G S = some (nI x, (S.u_w_Tb_next (upd S.w_Tb_next x (nI 268435455))).u_w_Dk_bytes (zr (lk D S.w_Dk_bytes x 268435455) (plC D x) (512 * hc D))) := by
  have hf := hd_facts h hN
  have hC := hf.1
  have lp : ∀ (d y k : Nat), y + d = x → d < k → 2 ≤ y → f_Tb_takeFree_2 K G k (nI y) S = some (nI x, (S.u_w_Tb_next (upd S.w_Tb_next x (nI 268435455))).u_w_Dk_bytes (zr (lk D S.w_Dk_bytes x 268435455) (plC D x) (512 * hc D))) := by
    intro d
    induction d with
    | zero =>
      intro y k g1 g2 g3
      obtain ⟨k, rfl⟩ : ∃ m, k = m + 1 := ⟨k - 1, by omega⟩
      obtain rfl : y = x := by omega
      have hlk := qC_lk (K := K) (S := S) (x := y) (v := 268435455) (by omega) hS.1 hN1 h hN hxl (by decide) h1 h2 h3 hS.2.1
      have hpl := plC_lt (j := 512 * hc D - 1) h hN ⟨g3, by omega⟩ (by omega)
      rw [f_Tb_takeFree_2, hS.2.1, show (2 : Int32) = nI 2 from rfl, nI_add, if_neg (nI_ge hxl (by omega)), qC_isFr h hN hS he g3 hxl, q_c, b01_t hx.2.1, if_neg (show ¬ nI 1 = 0 by decide), show (268435455 : Int32) = nI 268435455 from rfl, hlk, q_b]
      generalize hS2 : (S.u_w_Tb_next (upd S.w_Tb_next y (nI 268435455))).u_w_Dk_bytes (lk D S.w_Dk_bytes y 268435455) = S2
      have hP : f_Tb_place K G S2 (nI y) = some (nI (plC D y), S2) := by
        unfold f_Tb_place plC
        rw [show S2.v_Tb_start = nI (ha D) from by rw [← hS2]; exact h5, show S2.v_Tb_cluster = nI (hc D) from by rw [← hS2]; exact h4, show (2 : Int32) = nI 2 from rfl, pk_sub g3, pk_mul, nI_add, show (512 : Int32) = nI 512 from rfl, pk_mul, Nat.mul_comm]
      have hB : f_Tb_clusterBytes K G S2 = some (nI (512 * hc D), S2) := by
        unfold f_Tb_clusterBytes
        rw [show S2.v_Tb_cluster = nI (hc D) from by rw [← hS2]; exact h4, show (512 : Int32) = nI 512 from rfl, pk_mul, Nat.mul_comm]
      rw [hP, q_c, hB, q_c, qC_zero hS.1 hN (by omega), q_b, ← hS2]
      rfl
    | succ d ih =>
      intro y k g1 g2 g3
      obtain ⟨k, rfl⟩ : ∃ m, k = m + 1 := ⟨k - 1, by omega⟩
      have hne := hx.2.2 y g3 (by omega)
      rw [f_Tb_takeFree_2, hS.2.1, show (2 : Int32) = nI 2 from rfl, nI_add, if_neg (nI_ge (by omega) (by omega)), qC_isFr h hN hS he g3 (by omega), q_c, b01_f hne, if_pos (show nI 0 = 0 from rfl), show (1 : Int32) = nI 1 from rfl, nI_add, q_l]
      exact ih (y + 1) k (by omega) (by omega) (by omega)
  unfold f_Tb_takeFree
  have := hx.1
  exact lp (x - 2) 2 K (by omega) (by omega) (by omega)
