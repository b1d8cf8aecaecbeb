/-! Loops. -/
theorem q_iZ {α : Type} (x y : α) {b : Prop} [Decidable b] : (if b then y else x) = if ¬ b then x else y := by
  by_cases h : b
  · rw [if_pos h, if_neg (fun g => g h)]
  · rw [if_neg h, if_pos h]
theorem lp {σ β : Type} {F : Nat → Nat → σ → β} {Inv : Nat → σ → Prop} {Post : β → Prop} {n : Nat} (hs : ∀ i s k, i < n → Inv i s → (∃ s', Inv (i + 1) s' ∧ F (k + 1) i s = F k (i + 1) s') ∨ Post (F (k + 1) i s)) (he : ∀ s k, Inv n s → Post (F (k + 1) n s)) : ∀ d i k s, i + d = n → d < k → Inv i s → Post (F k i s) := by
  intro d
  induction d with
  | zero =>
    intro i k s h1 h2 h3
    obtain ⟨k, rfl⟩ : ∃ m, k = m + 1 := ⟨k - 1, by omega⟩
    obtain rfl : i = n := h1
    exact he s k h3
  | succ d ih =>
    intro i k s h1 h2 h3
    obtain ⟨k, rfl⟩ : ∃ m, k = m + 1 := ⟨k - 1, by omega⟩
    rcases hs i s k (by omega) h3 with ⟨s', h4, h5⟩ | h4
    · rw [h5]
      exact ih (i + 1) k s' (by omega) (by omega) h4
    · exact h4
theorem lpA {β : Type} {F : Nat → Nat → β} {P : Nat → Prop} {n : Nat} {good bad : β} (h1 : ∀ i k, i < n → P i → F (k + 1) i = F k (i + 1)) (h2 : ∀ i k, i < n → ¬ P i → F (k + 1) i = bad) (h3 : ∀ k, F (k + 1) n = good) {k : Nat} (hk : n < k) : ((∀ j, j < n → P j) → F k 0 = good) ∧ ((¬ ∀ j, j < n → P j) → F k 0 = bad) := by
  have key := lp (σ := Unit) (F := fun k i _ => F k i) (Inv := fun i _ => ∀ j, j < i → P j) (Post := fun r => ((∀ j, j < n → P j) → r = good) ∧ ((¬ ∀ j, j < n → P j) → r = bad)) (n := n) (fun i _ k hi hI => by
    by_cases g : P i
    · exact Or.inl ⟨(), fun j hj => (Nat.lt_succ_iff_lt_or_eq.mp hj).elim (hI j) (fun e => e ▸ g), h1 i k hi g⟩
    · exact Or.inr ⟨fun h => absurd (h i hi) g, fun _ => h2 i k hi g⟩) (fun _ k hI => ⟨fun _ => h3 k, fun h => absurd hI h⟩)
  exact key n 0 k () (by omega) hk (fun j hj => absurd hj (Nat.not_lt_zero j))
/-- an entry of the first table, lowest 28 bits -/
def ent (D : Nat → Int32) (x : Nat) : Nat := o4 D (512 * hv D + 4 * x) % 2 ^ 28
theorem ent_lt (D : Nat → Int32) (x : Nat) : ent D x < 2 ^ 28 := Nat.mod_lt _ (by decide)
theorem q_low (a : Nat) : nI a &&& 268435455 = nI (a % 2 ^ 28) := by
  rw [show (268435455 : Int32) = nI 268435455 from rfl, q_and, show 268435455 = 2 ^ 28 - 1 from rfl, Nat.and_two_pow_sub_one_eq_mod]
abbrev isCl (N : Nat) (D : Nat → Int32) (x : Nat) : Prop := 2 ≤ x ∧ x ≤ hk N D + 1
theorem hd_facts {N : Nat} {D : Nat → Int32} (h : hdOk N D) (h2 : N ≤ 1024) : (hc D = 2 ∨ hc D = 4 ∨ hc D = 8) ∧ 8 ≤ hv D ∧ hv D ≤ 64 ∧ (hy D = 1 ∨ hy D = 2) ∧ 1 ≤ hz D ∧ hz D ≤ 32 ∧ ha D = hv D + hy D * hz D ∧ ha D ≤ 128 ∧ ha D < N ∧ 4 ≤ hk N D ∧ hk N D + 2 ≤ 128 * hz D ∧ 2 ≤ hr D ∧ hr D ≤ hk N D + 1 ∧ ha D + hk N D * hc D ≤ N ∧ hk N D < 512 ∧ hk N D + 2 < N / 2 + 2 := by
  have hle := hd_le h.1
  obtain ⟨⟨-, hC, hV, hY, -, -, -, -, hZ, -⟩, hB⟩ := h
  obtain ⟨b1, b2, b3, b4, b5⟩ := hB
  have e : hk N D * hc D ≤ N - ha D := Nat.div_mul_le_self _ _
  have e2 : hk N D * 2 ≤ hk N D * hc D := Nat.mul_le_mul_left _ (by omega)
  have e3 : hv D ≤ ha D := Nat.le_add_right _ _
  refine ⟨hC, hV.1, hV.2, hY, hZ.1, hZ.2, rfl, hle, b1, b2, b3, b4, b5, by omega, by omega, by omega⟩
/-- what sector 0 and the first table say comes to the fields -/
def cH (N : Nat) (D : Nat → Int32) (S : CS) : CS := (((((((S.u_v_Tb_cluster (nI (hc D))).u_v_Tb_before (nI (hv D))).u_v_Tb_copies (nI (hy D))).u_v_Tb_length (nI (hz D))).u_v_Tb_root (nI (hr D))).u_v_Tb_start (nI (ha D))).u_v_Tb_clusters (nI (hk N D)))
def cNx (N : Nat) (D : Nat → Int32) (f : Nat → Int32) (m : Nat) : Nat → Int32 := fun j => if j < m then (if j < hk N D + 2 then nI (ent D j) else 0) else f j
def cT (N : Nat) (D : Nat → Int32) (S : CS) : CS := (cH N D S).u_w_Tb_next (cNx N D S.w_Tb_next (N / 2 + 2))
theorem qV_read156 {K N : Nat} {G : CG} {D : Nat → Int32} {S : CS} (hK : 1000 ≤ K) (hG : G.n = N) (hD : S.w_Dk_bytes = D) (h2 : N ≤ 1024) (h : hdOk N D) : f_Tb_read_156 K G K (nI (hv D)) (nI (hk N D)) 0 (cH N D S) = some (1, cT N D S) := by
  obtain ⟨hC, v1, v2, hY, z1, z2, a1, a2, a3, k1, k2, r1, r2, k3, k4, k5⟩ := hd_facts h h2
  have hY2 : hv D + hz D ≤ ha D := by rw [a1]; rcases hY with e | e <;> rw [e] <;> omega
  refine lp (F := fun k i S => f_Tb_read_156 K G k (nI (hv D)) (nI (hk N D)) (nI i) S) (Inv := fun i s => s = (cH N D S).u_w_Tb_next (cNx N D S.w_Tb_next i)) (Post := fun r => r = some (1, cT N D S)) (n := N / 2 + 2) ?_ ?_ (N / 2 + 2) 0 K _ (by omega) (by omega) ?_
  · intro i s k hi hI
    left
    refine ⟨(cH N D S).u_w_Tb_next (cNx N D S.w_Tb_next (i + 1)), rfl, ?_⟩
    have e1 : ¬ nI (G.n / 2 + 2) ≤ nI i := by rw [hG]; exact nI_ge hi (by omega)
    have e2 : lf_in (nI i) (G.n / 2 + 2) := by rw [hG]; exact q_in hi (by omega)
    have e3 : ∀ x, cNx N D S.w_Tb_next (i + 1) = x → s.u_w_Tb_next x = (cH N D S).u_w_Tb_next x := fun x _ => by rw [hI]; rfl
    have e4 : upd s.w_Tb_next i (if i < hk N D + 2 then nI (ent D i) else 0) = cNx N D S.w_Tb_next (i + 1) := by
      rw [hI]
      funext j
      show (if j = i then _ else cNx N D S.w_Tb_next i j) = _
      unfold cNx
      by_cases g : j = i
      · rw [if_pos g, g, if_pos (show i < i + 1 by omega)]
      · rw [if_neg g]
        by_cases g2 : j < i
        · rw [if_pos g2, if_pos (show j < i + 1 by omega)]
        · rw [if_neg g2, if_neg (show ¬ j < i + 1 by omega)]
    rw [f_Tb_read_156, if_neg e1]
    by_cases g : i < hk N D + 2
    · rw [if_neg (show ¬ nI (hk N D) + 2 ≤ nI i from by rw [show (2 : Int32) = nI 2 from rfl, nI_add]; exact nI_ge g (by omega))]
      rw [show nI (hv D) * 512 + 4 * nI i = nI (512 * hv D + 4 * i) from by rw [show (512 : Int32) = nI 512 from rfl, show (4 : Int32) = nI 4 from rfl, pk_mul, pk_mul, nI_add, Nat.mul_comm]]
      rw [rV4 D hG (by rw [hI]; exact hD) h2 (by omega), q_c, q_low, f_Tb_read_205, q_g e2, q_l, q_l, nI_1, nI_clamp (by omega)]
      rw [if_pos g] at e4
      rw [show nI (o4 D (512 * hv D + 4 * i) % 2 ^ 28) = nI (ent D i) from rfl, e4, e3 _ rfl]
    · rw [if_pos (show nI (hk N D) + 2 ≤ nI i from by rw [show (2 : Int32) = nI 2 from rfl, nI_add]; exact nI_le (by omega) (by omega))]
      rw [f_Tb_read_205, q_g e2, q_l, q_l, nI_1, nI_clamp (by omega)]
      rw [if_neg g] at e4
      rw [e4, e3 _ rfl]
  · intro s k hI
    rw [f_Tb_read_156, if_pos (by rw [hG]; exact Int32.le_refl _), hI]
    rfl
  · show cH N D S = (cH N D S).u_w_Tb_next (cNx N D S.w_Tb_next 0)
    rw [show cNx N D S.w_Tb_next 0 = S.w_Tb_next from funext (fun j => if_neg (by omega))]
    rfl
theorem qV_const {K N : Nat} {G : CG} {D : Nat → Int32} {S : CS} (hG : G.n = N) (hD : S.w_Dk_bytes = D) (h1 : 256 ≤ N) (h2 : N ≤ 1024) (hs : S.v_Dk_sectors = nI N) : f_Tb_constantsFit K G S = some (if o2 D 11 = 512 ∧ o2 D 17 = 0 ∧ o2 D 19 = 0 ∧ o2 D 22 = 0 ∧ o4 D 32 = N ∧ o2 D 48 = 1 ∧ o2 D 50 = 6 ∧ o2 D 510 = 43605 then 1 else 0, S) := by
  have c11 := o2_lt D 11
  have c17 := o2_lt D 17
  have c19 := o2_lt D 19
  have c22 := o2_lt D 22
  have c48 := o2_lt D 48
  have c50 := o2_lt D 50
  have c510 := o2_lt D 510
  have c32 := o4_lt D 32
  have e : f_Tb_constantsFit K G S = if o2 D 11 = 512 ∧ o2 D 17 = 0 ∧ o2 D 19 = 0 ∧ o2 D 22 = 0 ∧ o4 D 32 = N ∧ o2 D 48 = 1 ∧ o2 D 50 = 6 ∧ o2 D 510 = 43605 then some (1, S) else some (0, S) := by
    simp (disch := first | assumption | omega) only [f_Tb_constantsFit, f_Tb_constantsFit_116, q_lit, rV2 D, rV4 D, q_c, hs, q_eqW, q_iA]
  rw [e]
  split <;> rfl
theorem qV_numbers {K c v y z : Nat} (hc : c < 256) (hv : v < 65536) (hy : y < 256) (hz : z < 2 ^ 32) : f_Tb_numbersFit K (nI c) (nI v) (nI y) (nI z) = some (if (c = 2 ∨ c = 4 ∨ c = 8) ∧ (8 ≤ v ∧ v ≤ 64) ∧ (y = 1 ∨ y = 2) ∧ (1 ≤ z ∧ z ≤ 32) then 1 else 0) := by
  have g1 : nI z < nI 1 ↔ z < 1 ∨ 2 ^ 31 ≤ z := q_ltW (by omega) (by decide)
  have g2 : nI 32 < nI z ↔ 32 < z ∧ z < 2 ^ 31 := by rw [← Int32.not_le, q_leV (by omega) (by decide)]; omega
  have e : f_Tb_numbersFit K (nI c) (nI v) (nI y) (nI z) = if (c = 2 ∨ c = 4 ∨ c = 8) ∧ (8 ≤ v ∧ v ≤ 64) ∧ (y = 1 ∨ y = 2) ∧ (1 ≤ z ∧ z ≤ 32) then some 1 else some 0 := by
    simp (disch := omega) only [f_Tb_numbersFit, f_Tb_numbersFit_16, f_Tb_numbersFit_38, f_Tb_numbersFit_53, q_lit, g1, g2, nI_eq, nI_ltI, q_iZ (some (nI 1)) (some (nI 0)), q_iA, q_iN, q_iD]
    exact q_iC (by omega)
  rw [e]
  split <;> rfl
theorem qV_read {K N : Nat} {G : CG} {D : Nat → Int32} {S : CS} (hK : 1000 ≤ K) (hG : G.n = N) (hD : S.w_Dk_bytes = D) (h1 : 256 ≤ N) (h2 : N ≤ 1024) (hs : S.v_Dk_sectors = nI N) : (hdOk N D → f_Tb_read K G S = some (1, cT N D S)) ∧ (¬ hdOk N D → f_Tb_read K G S = some (0, S)) := by
  have b1 : o1 D 13 < 256 := o1_lt D 13
  have b2 : o2 D 14 < 65536 := o2_lt D 14
  have b3 : o1 D 16 < 256 := o1_lt D 16
  have b4 : o4 D 36 < 2 ^ 32 := o4_lt D 36
  have b5 : o4 D 44 < 2 ^ 32 := o4_lt D 44
  have rd : f_Tb_read K G S = if (o2 D 11 = 512 ∧ o2 D 17 = 0 ∧ o2 D 19 = 0 ∧ o2 D 22 = 0 ∧ o4 D 32 = N ∧ o2 D 48 = 1 ∧ o2 D 50 = 6 ∧ o2 D 510 = 43605) ∧ ((o1 D 13 = 2 ∨ o1 D 13 = 4 ∨ o1 D 13 = 8) ∧ (8 ≤ o2 D 14 ∧ o2 D 14 ≤ 64) ∧ (o1 D 16 = 1 ∨ o1 D 16 = 2) ∧ (1 ≤ o4 D 36 ∧ o4 D 36 ≤ 32)) then lf_c (f_Tb_clustersWith K G S (nI (o1 D 13)) (nI (o2 D 14)) (nI (o1 D 16)) (nI (o4 D 36))) (fun r_10 S_10 => (f_Tb_isEnough K r_10 (nI (o4 D 36))).bind fun r_11 => if r_11 = 0 then (f_Tb_read_108 K G S_10) else (if (nI (o4 D 44)) < 2 then (f_Tb_read_108 K G S_10) else (if (nI (o4 D 44)) ≤ (r_10 + 1) then (lf_l (S_10.u_v_Tb_cluster (nI (o1 D 13))) fun S_15 => lf_l (S_15.u_v_Tb_before (nI (o2 D 14))) fun S_16 => lf_l (S_16.u_v_Tb_copies (nI (o1 D 16))) fun S_17 => lf_l (S_17.u_v_Tb_length (nI (o4 D 36))) fun S_18 => lf_l (S_18.u_v_Tb_root (nI (o4 D 44))) fun S_19 => lf_l (S_19.u_v_Tb_start ((nI (o2 D 14)) + ((nI (o1 D 16)) * (nI (o4 D 36))))) fun S_20 => lf_l (S_20.u_v_Tb_clusters (r_10)) fun S_21 => f_Tb_read_156 K G K (nI (o2 D 14)) r_10 0 S_21) else (f_Tb_read_108 K G S_10)))) else some (0, S) := by
    rw [f_Tb_read, show (13 : Int32) = nI 13 from rfl, rV1 D hG hD h2 (by omega), q_c, show (14 : Int32) = nI 14 from rfl, rV2 D hG hD h2 (by omega), q_c, show (16 : Int32) = nI 16 from rfl, rV1 D hG hD h2 (by omega), q_c, show (36 : Int32) = nI 36 from rfl, rV4 D hG hD h2 (by omega), q_c, show (44 : Int32) = nI 44 from rfl, rV4 D hG hD h2 (by omega), q_c, qV_const hG hD h1 h2 hs, q_c, qV_numbers b1 b2 b3 b4, q_b]
    by_cases g : (o2 D 11 = 512 ∧ o2 D 17 = 0 ∧ o2 D 19 = 0 ∧ o2 D 22 = 0 ∧ o4 D 32 = N ∧ o2 D 48 = 1 ∧ o2 D 50 = 6 ∧ o2 D 510 = 43605)
    · rw [if_pos g, if_neg (by decide)]
      by_cases g2 : ((o1 D 13 = 2 ∨ o1 D 13 = 4 ∨ o1 D 13 = 8) ∧ (8 ≤ o2 D 14 ∧ o2 D 14 ≤ 64) ∧ (o1 D 16 = 1 ∨ o1 D 16 = 2) ∧ (1 ≤ o4 D 36 ∧ o4 D 36 ≤ 32))
      · rw [if_pos g2, if_neg (by decide), if_pos ⟨g, g2⟩]
      · rw [if_neg g2, if_pos rfl, if_neg (fun z => g2 z.2)]
        rfl
    · rw [if_neg g, if_pos rfl, if_neg (fun z => g z.1)]
      rfl
  rw [rd]
  by_cases g : hdA N D
  · have hle := hd_le g
    rw [if_pos (by unfold hdA hc hv hy hz at g; omega)]
    have hk1 : hk N D < 1025 := Nat.lt_of_le_of_lt (Nat.div_le_self _ _) (by omega)
    have cw : f_Tb_clustersWith K G S (nI (o1 D 13)) (nI (o2 D 14)) (nI (o1 D 16)) (nI (o4 D 36)) = some (nI (hk N D), S) := by
      obtain ⟨-, hC, hV, hY, -, -, -, -, hZ, -⟩ := g
      unfold ha hv hy hz at hle
      unfold hc hv hz at *
      rw [f_Tb_clustersWith, if_pos (show (1 : Int32) ≤ nI (o1 D 13) from nI_le (a := 1) (by omega) (by omega)), q_g (nI_ne0 (by omega) (by omega)), hs, pk_mul, pk_sub (by omega), pk_sub (by omega), pk_div (by omega) (by omega) (by omega), Nat.sub_sub]
      rfl
    have hz2 : hz D ≤ 32 := g.2.2.2.2.2.2.2.2.1.2
    have e5 : nI (hk N D) < nI 4 ↔ hk N D < 4 := nI_ltI (by omega) (by omega)
    have e6 : nI 128 * nI (hz D) < nI (hk N D) + nI 2 ↔ 128 * hz D < hk N D + 2 := by
      rw [pk_mul, nI_add]
      exact nI_ltI (by omega) (by omega)
    have e7 : nI (hr D) < nI 2 ↔ hr D < 2 ∨ 2 ^ 31 ≤ hr D := q_ltW b5 (by decide)
    have e8 : nI (hr D) ≤ nI (hk N D) + 1 ↔ hr D ≤ hk N D + 1 ∨ 2 ^ 31 ≤ hr D := by rw [nI_1]; exact q_leV b5 (by omega)
    have en : f_Tb_isEnough K (nI (hk N D)) (nI (hz D)) = some (if 4 ≤ hk N D ∧ hk N D + 2 ≤ 128 * hz D then 1 else 0) := by
      show (if nI (hk N D) < nI 4 then some 0 else if nI 128 * nI (hz D) < nI (hk N D) + nI 2 then some 0 else some 1) = _
      by_cases i1 : hk N D < 4
      · rw [if_pos (e5.mpr i1), if_neg (by omega)]
      · rw [if_neg (fun z => i1 (e5.mp z))]
        by_cases i2 : 128 * hz D < hk N D + 2
        · rw [if_pos (e6.mpr i2), if_neg (by omega)]
        · rw [if_neg (fun z => i2 (e6.mp z)), if_pos (by omega)]
    have han : ha D < N := by omega
    have st : ∀ P : Prop, (P ↔ hdB N D) → (lf_c (some (nI (hk N D), S)) (fun r_10 S_10 => (f_Tb_isEnough K r_10 (nI (o4 D 36))).bind fun r_11 => if r_11 = 0 then (f_Tb_read_108 K G S_10) else (if (nI (o4 D 44)) < 2 then (f_Tb_read_108 K G S_10) else (if (nI (o4 D 44)) ≤ (r_10 + 1) then (lf_l (S_10.u_v_Tb_cluster (nI (o1 D 13))) fun S_15 => lf_l (S_15.u_v_Tb_before (nI (o2 D 14))) fun S_16 => lf_l (S_16.u_v_Tb_copies (nI (o1 D 16))) fun S_17 => lf_l (S_17.u_v_Tb_length (nI (o4 D 36))) fun S_18 => lf_l (S_18.u_v_Tb_root (nI (o4 D 44))) fun S_19 => lf_l (S_19.u_v_Tb_start ((nI (o2 D 14)) + ((nI (o1 D 16)) * (nI (o4 D 36))))) fun S_20 => lf_l (S_20.u_v_Tb_clusters (r_10)) fun S_21 => f_Tb_read_156 K G K (nI (o2 D 14)) r_10 0 S_21) else (f_Tb_read_108 K G S_10)))) = if hdB N D then some (1, cT N D S) else some (0, S)) := by
      intro P _
      rw [q_c]
      change (f_Tb_isEnough K (nI (hk N D)) (nI (hz D))).bind (fun r_11 => if r_11 = 0 then f_Tb_read_108 K G S else if nI (hr D) < nI 2 then f_Tb_read_108 K G S else if nI (hr D) ≤ nI (hk N D) + 1 then _ else f_Tb_read_108 K G S) = _
      rw [en, q_b]
      by_cases i1 : 4 ≤ hk N D ∧ hk N D + 2 ≤ 128 * hz D
      · rw [if_pos i1, if_neg (by decide)]
        by_cases i2 : hr D < 2 ∨ 2 ^ 31 ≤ hr D
        · rw [if_pos (e7.mpr i2), if_neg (by unfold hdB; omega)]
          rfl
        · rw [if_neg (fun z => i2 (e7.mp z))]
          by_cases i3 : hr D ≤ hk N D + 1
          · rw [if_pos (e8.mpr (Or.inl i3)), if_pos (by unfold hdB; omega)]
            rw [q_l, q_l, q_l, q_l, q_l, q_l, q_l, pk_mul, nI_add]
            exact qV_read156 hK hG hD h2 ⟨g, by unfold hdB; omega⟩
          · rw [if_neg (fun z => by rcases e8.mp z with q | q <;> omega), if_neg (by unfold hdB; omega)]
            rfl
      · rw [if_neg i1, if_pos rfl, if_neg (by unfold hdB; omega)]
        rfl
    rw [cw, st _ Iff.rfl]
    exact ⟨fun h => if_pos h.2, fun h => if_neg (fun q => h ⟨g, q⟩)⟩
  · rw [if_neg (by unfold hdA hc hv hy hz at g; omega)]
    exact ⟨fun h => absurd h.1 g, fun _ => rfl⟩
