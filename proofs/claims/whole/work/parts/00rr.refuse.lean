/-! The plan: what is refused. -/
theorem br_num {N P items : Nat} {D : Nat → Int32} (ho : hdOk N D) (hN1 : 256 ≤ N) (hN : N ≤ 1024) (hev : ha D % 2 = 0) (hP : P = 64 ∨ P = 128 ∨ P = 256) (hit : items ≤ 4200) : ha D = 2 * (ha D / 2) ∧ hc D = 2 * (hc D / 2) ∧ plN (ha D / 2) (hc D / 2) (hk N D) (N / 2) P ((N / 2 - 1 + P - 1) / P) ((10 + items + 8 * ((N / 2 - 1 + P - 1) / P) - 1) / (8 * ((N / 2 - 1 + P - 1) / P))) ∧ 1 ≤ (10 + items + 8 * ((N / 2 - 1 + P - 1) / P) - 1) / (8 * ((N / 2 - 1 + P - 1) / P)) ∧ 1 ≤ (N / 2 - 1 + P - 1) / P ∧ (N / 2 - 1 + P - 1) / P ≤ 8 := by
  obtain ⟨hC, v1, v2, hY, z1, z2, a1, a2, a3, k1, k2, r1, r2, k3, k4, k5⟩ := hd_facts ho hN
  have hY1 : 1 ≤ hy D * hz D := Nat.mul_pos (by omega) (by omega)
  have hG : 1 ≤ (N / 2 - 1 + P - 1) / P ∧ (N / 2 - 1 + P - 1) / P ≤ 8 := by rcases hP with e | e | e <;> rw [e] <;> omega
  have hc2 : hc D = 2 * (hc D / 2) := by omega
  have hkk : hk N D * hc D = 2 * (hk N D * (hc D / 2)) := by
    rw [Nat.mul_left_comm, ← hc2]
  refine ⟨by omega, hc2, ⟨by omega, by omega, k4, by omega, hP, rfl, ?_, by omega⟩, ?_, hG⟩
  · generalize (N / 2 - 1 + P - 1) / P = g at *
    have : (10 + items + 8 * g - 1) / (8 * g) ≤ 10 + items + 8 * g - 1 := Nat.div_le_self _ _
    have h2 : (10 + items + 8 * g - 1) / (8 * g) ≤ (10 + items + 8 * g - 1) / 8 := Nat.div_le_div_left (by omega) (by decide)
    omega
  · generalize (N / 2 - 1 + P - 1) / P = g at *
    exact Nat.div_pos (by omega) (by omega)
theorem br_tree {N m hh : Nat} {D E : Nat → Int32} {fks : List Nat} {z : SS} {G : CG} {S : CS} {T : MS} (hN1 : 256 ≤ N) (hN : N ≤ 1024) (v : tv N m D E fks z hh G S T) (hH : agH D E) : trM N D fks (sIt z) T ∧ trC N D (mp0 D) fks (sIt z) (hk N D) (ent D) G S ∧ (∀ i, i < (sIt z).length → (chI N D (sIt z) i).Nodup ∧ ∀ x ∈ chI N D (sIt z) i, (2 ≤ x ∧ x < hk N D + 2) ∧ ent D x ≠ 0) ∧ (∀ i j, i < (sIt z).length → j < (sIt z).length → i ≠ j → ∀ x ∈ chI N D (sIt z) i, x ∉ chI N D (sIt z) j) ∧ (∀ i, i < (sIt z).length → ¬ isDr D (sIt z) i → fbN D (sIt z) i ≤ (chI N D (sIt z) i).length * (hc D / 2)) ∧ (∀ j, 1 ≤ j → j < (sIt z).length → daysP D (isp (itr (sIt z) j))) := by
  have hf := hd_facts v.2.2.2.1 hN
  have hSI := v.2.2.2.2.2.2.1
  obtain ⟨tt, cS⟩ := v.2.1.2.2.1
  have hnd : ∀ i, i < (sIt z).length → (chI N D (sIt z) i).Nodup ∧ (chI N D (sIt z) i).length ≤ hk N D := fun i hi => by
    by_cases d : isDr D (sIt z) i
    · have hfo := (hSI.2.2.1 i hi (Or.inr hi)).1 d
      exact ⟨(fol_spec _ _ _ _ hfo).2.2.2.1, (fo_all v.2.2.2.1 hN hfo).1⟩
    · have i1 : 1 ≤ i := Nat.one_le_iff_ne_zero.mpr fun e => d (Or.inl e)
      obtain ⟨s1, s2, s3, s4, s5, s6, s7⟩ := file_ch hN v i1 hi (fun y => d (Or.inr y))
      refine ⟨s6, ?_⟩
      have hcl := chI_cl hSI hi
      exact nd_cl s6 (fun x hx => (hcl x hx).1)
  have hcl : ∀ i, i < (sIt z).length → ∀ x ∈ chI N D (sIt z) i, (2 ≤ x ∧ x < hk N D + 2) ∧ ent D x ≠ 0 := fun i hi x hx => by
    have := chI_cl hSI hi x hx
    exact ⟨⟨this.1.1, by have := this.1.2; omega⟩, this.2⟩
  have hdis : ∀ i j, i < (sIt z).length → j < (sIt z).length → i ≠ j → ∀ x ∈ chI N D (sIt z) i, x ∉ chI N D (sIt z) j := fun i j hi hj hij => hSI.2.2.2.1 i j hi hj (Or.inr hi) (Or.inr hj) hij
  have hsz : ∀ i, i < (sIt z).length → ¬ isDr D (sIt z) i → szI D (sIt z) i = o4 D (isp (itr (sIt z) i) + 28) ∧ o4 D (isp (itr (sIt z) i) + 28) < 2 ^ 22 ∧ o4 D (isp (itr (sIt z) i) + 28) ≤ (chI N D (sIt z) i).length * (512 * hc D) := fun i hi d => by
    have i1 : 1 ≤ i := Nat.one_le_iff_ne_zero.mpr fun e => d (Or.inl e)
    have hdn : ¬ o1 D (isp (itr (sIt z) i) + 11) / 16 % 2 = 1 := fun y => d (Or.inr y)
    obtain ⟨s1, s2, s3, s4, s5, s6, s7⟩ := file_ch hN v i1 hi hdn
    have hle : o4 D (isp (itr (sIt z) i) + 28) ≤ (chI N D (sIt z) i).length * (512 * hc D) := by rw [s7]; exact le_ceil (by have := hf.1; omega)
    have hle2 : (chI N D (sIt z) i).length * (512 * hc D) ≤ 514 * 4096 := Nat.mul_le_mul s2 (by have := hf.1; omega)
    exact ⟨(if_neg (show ¬ i = 0 from Nat.one_le_iff_ne_zero.mp i1)).trans (if_neg hdn), by clear v hSI cS; omega, hle⟩
  have hich := fun j hj => item_ch hN v (j := j) hj
  have hok := v.2.2.2.2.2.1.1
  have hfl := v.1.1.2.2.2.2.2.1
  have hkd := v.2.2.2.2.2.2.2.1
  refine ⟨⟨⟨v.2.2.2.1, hN⟩, v.1.1.1, v.1.1.2.1, hok, v.1.1.2.2.2.2.1, hkd, hfl, fun j hj => ⟨(hich j hj).1, (hich j hj).2.2.1, (hich j hj).2.2.2⟩, fun j hj d => (hsz j hj d).2.1⟩, ⟨cS.2.2.2.2.1.1, cS.1, cS.2.2.2.2.1.2.2.1, hok, fun j hj => ?_, ⟨hkd, hfl⟩, fun j hj => ⟨(hnd j hj).2, (hich j hj).2.2.1, lke_of _ _ (hich j hj).2.2.2 (fun y hy0 => (hcl j hj y hy0).2)⟩, fun j hj d => by rw [(hsz j hj d).1]; exact (hsz j hj d).2.1, ?_⟩, fun i hi => ⟨(hnd i hi).1, hcl i hi⟩, hdis, fun i hi d => ?_, fun j j1 hj => (hSI.2.1 j j1 hj).2.2.2.1.2.2.1⟩
  · have e := cS.2.2.2.1 j hj
    refine ⟨?_, fun d => ?_⟩
    · rw [e.2]
      unfold kcD
      rw [if_pos (by rw [hfl]; exact hj)]
    · rw [e.1]
      unfold ksD
      rw [cif_t ⟨by rw [hfl]; exact hj, d⟩]
  · rw [← alC_len]
    exact nd_cl (alC_nd (fun i hi => (hnd i hi).1) hdis _ (Nat.le_refl _)) (fun x hx => by
      obtain ⟨i, i1, i2⟩ := (alC_mem _).mp hx
      have := (hcl i i1 x i2).1
      exact ⟨this.1, by have := this.2; clear v hSI cS; omega⟩)
  · have h3 := (hsz i hi d).2.2
    have h1 := (hsz i hi d).1
    unfold fbN
    rw [h1]
    have e : (chI N D (sIt z) i).length * (512 * hc D) = (chI N D (sIt z) i).length * (hc D / 2) * 1024 := by
      rw [Nat.mul_assoc]
      congr 1
      have := hf.1
      clear v hSI cS
      omega
    rw [e] at h3
    clear v hSI cS
    generalize (chI N D (sIt z) i).length * (hc D / 2) = u at *
    omega
theorem qC_divide {K P B : Nat} {G : CG} {S : CS} (hP : P = 64 ∨ P = 128 ∨ P = 256) (hB : 128 ≤ B ∧ B ≤ 512) (hS : S.v_Pl_blocks = nI B) : f_Pl_divide K G S (nI P) = some (1, (S.u_v_Pl_size (nI P)).u_v_Pl_groups (nI ((B - 1 + P - 1) / P))) := by
  have h22 : f_Pl_divide_22 K G (nI P) S = some (1, (S.u_v_Pl_size (nI P)).u_v_Pl_groups (nI ((B - 1 + P - 1) / P))) := by
    unfold f_Pl_divide_22
    rw [q_l, q_g (nI_ne0 (by omega) (by omega)), show (S.u_v_Pl_size (nI P)).v_Pl_blocks = nI B from hS, show (S.u_v_Pl_size (nI P)).v_Pl_size = nI P from rfl, show (1 : Int32) = nI 1 from rfl, pk_sub (by omega), nI_add, pk_sub (by omega), pk_div (by omega) (by omega) (by omega), q_l]
  unfold f_Pl_divide
  rw [h22]
  rcases hP with e | e | e
  · rw [if_pos (show nI P = 64 by rw [e]; rfl)]
  · rw [if_neg (show ¬ nI P = 64 by rw [e]; decide), if_pos (show nI P = 128 by rw [e]; rfl)]
  · rw [if_neg (show ¬ nI P = 64 by rw [e]; decide), if_neg (show ¬ nI P = 128 by rw [e]; decide), if_pos (show nI P = 256 by rw [e]; rfl)]
theorem qC_least {K g0 items : Nat} {G : CG} {S : CS} (hg : 1 ≤ g0) (hg8 : g0 ≤ 8) (hi : items ≤ 4200) (h1 : S.v_Pl_groups = nI g0) (h2 : S.v_Tr_count = nI items) : f_Pl_leastInodes K G S = some (nI (8 * ((10 + items + 8 * g0 - 1) / (8 * g0))), S) := by
  have hq : (10 + items + g0 - 1) / g0 ≤ 10 + items + g0 - 1 := Nat.div_le_self _ _
  unfold f_Pl_leastInodes f_Pl_leastInodes_38
  rw [h2, show (11 : Int32) = nI 11 from rfl, nI_add, show (1 : Int32) = nI 1 from rfl, pk_sub (by omega), show 11 + items - 1 = 10 + items by omega, q_l, h1, if_pos (nI_le hg (by omega)), q_g (nI_ne0 (by omega) (by omega)), nI_add, pk_sub (by omega), pk_div (by omega) (by omega) (by omega), show (7 : Int32) = nI 7 from rfl, nI_add, show (8 : Int32) = nI 8 from rfl, pk_div (by omega) (by decide) (by decide), pk_mul, ar_ino _ _ hg, Nat.mul_comm]
/-- what both hold where nothing is refused -/
abbrev plR (N : Nat) (D : Nat → Int32) (S' : CS) (T' : MS) : Prop := (S'.v_Pl_groups = T'.v_groups ∧ S'.v_Pl_inodes = T'.v_inodes ∧ S'.v_Pl_groups * (4 + S'.v_Pl_inodes / 8) = T'.v_fixedBlocks ∧ S'.v_Pl_moves = T'.v_moves ∧ S'.v_Pl_built = T'.v_builds ∧ S'.v_Pl_free = T'.v_blocks - 1 - T'.v_fixedBlocks - T'.v_builds - T'.v_kept) ∧ ∃ gl : Nat → Nat, (∀ c, 2 ≤ c → c < hk N D + 2 → S'.w_Tb_goal c = nI (gl c)) ∧ (∀ c, c < 560 → T'.v_moved c = nI (gl c))
theorem qB_refusal {K N m hh P : Nat} {D E : Nat → Int32} {fks : List Nat} {z : SS} {G : CG} {S : CS} {T : MS} (hK : 20000 ≤ K) (hN1 : 256 ≤ N) (hN : N ≤ 1024) (v : tv N m D E fks z hh G S T) (hH : agH D E) (hev : ha D % 2 = 0) (hP : P = 64 ∨ P = 128 ∨ P = 256) (hbl : S.v_Pl_blocks = nI (N / 2)) : ∃ ans S' T', ans ≤ 15 ∧ f_Pl_refusal K G S (nI P) 0 = some (nI ans, S') ∧ f_Mo_refusal_52 K (nI P) T = some (nI ans, T') ∧ (∀ t, ivA N t m D E G S T → ivA N t m D E G S' T') ∧ S'.v_Tp_used = S.v_Tp_used ∧ S'.v_Tb_clusters = S.v_Tb_clusters ∧ T'.v_thrown = T.v_thrown ∧ T'.v_k = T.v_k ∧ (ans = 0 → plR N D S' T') := by
  have ho := v.2.2.2.1
  have hff := hd_facts ho hN
  have hlen := v.2.2.2.2.2.1.1.2.1
  obtain ⟨b1, b2, b3, b4, b5, b6⟩ := br_num (P := P) (items := (sIt z).length) ho hN1 hN hev hP hlen
  obtain ⟨t1, t2, t3, t4, t5, t6⟩ := br_tree hN1 hN v hH
  have hM := v.1.1.1
  have hcI := v.2.1.2.1
  obtain ⟨tt, cS⟩ := v.2.1.2.2.1
  have hnx := nxR_of ho hN hH hcI
  obtain ⟨ec, ev', ey, ez, er, ea, ek⟩ := agH_n hH
  have s1 : S.v_Tb_start = nI (2 * (ha D / 2)) := by rw [← b1, ← ea]; exact hcI.2.2.2.2.2.2.2.2.1
  have s2 : S.v_Tb_cluster = nI (2 * (hc D / 2)) := by rw [← b2, ← ec]; exact hcI.2.2.2.1
  have s3 : S.v_Tb_clusters = nI (hk N D) := by rw [← ek]; exact hcI.2.2.2.2.2.2.2.2.2.1
  have m1 : T.v_a = nI (2 * (ha D / 2)) := by rw [← b1]; exact hM.2.2.2.2.2.2.2.1
  have m2 : T.v_c = nI (2 * (hc D / 2)) := by rw [← b2]; exact hM.2.2.1
  have hpool := cS.2.2.2.2.1.2.2.2
  have hsl := cS.2.2.2.2.2.2.2.1
  have hE := hcI.2.1
  have hit : T.v_items = nI (sIt z).length := t1.2.2.1.1
  have v0 : Nonempty (PLift (tv N m D E fks z hh G S T)) := ⟨⟨v⟩⟩
  have hok := v.2.2.2.2.2.1.1
  clear v cS
  generalize hA0 : ha D / 2 = A at *
  generalize hH0 : hc D / 2 = H at *
  generalize hg0 : (N / 2 - 1 + P - 1) / P = g0 at *
  generalize hr0 : (10 + (sIt z).length + 8 * g0 - 1) / (8 * g0) = r at *
  have hB := b3.2.2.2.1
  have hr2 := b3.2.2.2.2.2.2.1
  have hAk := b3.2.2.2.2.2.2.2
  -- the reference's numbers
  obtain ⟨T1, eT1⟩ : ∃ T1, ((((T.u_v_per (nI P)).u_v_blocks (nI (N / 2))).u_v_groups (nI g0)).u_v_inodes (nI (r * 8))).u_v_rows (nI r) = T1 := ⟨_, rfl⟩
  have hM1 : plM A H (hk N D) (N / 2) P g0 r T1 := by rw [← eT1]; exact ⟨m1, m2, hM.2.2.2.2.2.2.2.2, rfl, rfl, rfl, rfl⟩
  have hR0 : f_Mo_refusal_52 K (nI P) T = lf_c (f_Mo_isRoomy K T1) fun r_14 S_14 => if r_14 = 0 then (some (12, S_14)) else (lf_c (f_Mo_badNames K S_14) fun r_16 S_16 => if r_16 = 0 then (lf_c (f_Mo_badTimes K S_16) fun r_18 S_18 => if r_18 = 0 then (lf_c (f_Mo_finds K S_18) fun r_20 S_20 => if r_20 = 0 then (some (15, S_20)) else (some (0, S_20))) else (some (14, S_18))) else (some (13, S_16))) := by
    unfold f_Mo_refusal_52
    rw [q_l, show (T.u_v_per (nI P)).v_n = nI N from hM.2.1, show (2 : Int32) = nI 2 from rfl, pk_div (by omega) (by decide) (by decide), q_l, show ((T.u_v_per (nI P)).u_v_blocks (nI (N / 2))).v_blocks = nI (N / 2) from rfl, show ((T.u_v_per (nI P)).u_v_blocks (nI (N / 2))).v_per = nI P from rfl, show (1 : Int32) = nI 1 from rfl, pk_sub (by omega), qM_whole (by omega) (by omega) (by omega), q_b, hg0, q_l, show (((T.u_v_per (nI P)).u_v_blocks (nI (N / 2))).u_v_groups (nI g0)).v_items = nI (sIt z).length from hit, show (((T.u_v_per (nI P)).u_v_blocks (nI (N / 2))).u_v_groups (nI g0)).v_groups = nI g0 from rfl, show (10 : Int32) = nI 10 from rfl, nI_add, show (8 : Int32) = nI 8 from rfl, pk_mul, qM_whole (by omega) (by omega) (by omega), q_b, hr0, pk_mul, q_l, show ((((T.u_v_per (nI P)).u_v_blocks (nI (N / 2))).u_v_groups (nI g0)).u_v_inodes (nI (r * 8))).v_inodes = nI (r * 8) from rfl, pk_div (by omega) (by decide) (by decide), Nat.mul_div_cancel _ (by decide), q_l, eT1]
  obtain ⟨f1, x1, c1, c2⟩ := qM_isRoomy (K := K) (T := T1) (by omega) b3 hM1
  -- the class's numbers
  obtain ⟨S1, eS1⟩ : ∃ S1, (S.u_v_Pl_size (nI P)).u_v_Pl_groups (nI g0) = S1 := ⟨_, rfl⟩
  have hS1 : plK A H (hk N D) (N / 2) P g0 S1 := by rw [← eS1]; exact ⟨s1, s2, s3, hbl, rfl, rfl⟩
  have hGN : G.n / 2 = N / 2 := by rw [hnx.1]
  obtain ⟨f2, d1, d2⟩ := qC_layOut (K := K) (S := S1) (by omega) b3 b4 hGN hS1
  have hC0 : f_Pl_refusal K G S (nI P) 0 = lf_c (f_Pl_layOut K G S1 (nI (8 * r))) fun r_6 S_6 => if r_6 = 0 then (f_Pl_refusal_40 K G S_6) else (lf_c (f_Pl_namesFit K G S_6) fun r_8 S_8 => if r_8 = 0 then (some (13, S_8)) else (lf_c (f_Pl_timesFit K G S_8) fun r_10 S_10 => if r_10 = 0 then (some (14, S_10)) else (lf_c (f_Pl_aim K G S_10) fun r_12 S_12 => if r_12 = 0 then (f_Pl_refusal_77 K G S_12) else (lf_c (f_Pl_assign K G S_12) fun r_14 S_14 => if r_14 = 0 then (f_Pl_refusal_77 K G S_14) else ((f_Pl_markUsed K G S_14).bind fun S_16 => some (0, S_16)))))) := by
    have hodd : S.v_Tb_start - S.v_Tb_start / 2 * 2 = 0 := by
      rw [s1, show (2 : Int32) = nI 2 from rfl, pk_rem (by omega) (by decide) (by decide), Nat.mul_mod_right]
      rfl
    have hdv := qC_divide (K := K) (G := G) (S := S) hP hB hbl
    rw [hg0, eS1] at hdv
    have hls := qC_least (K := K) (G := G) (S := S1) (items := (sIt z).length) b5 b6 hlen hS1.2.2.2.2.2 (by rw [← eS1]; exact t2.2.1.1)
    rw [hr0] at hls
    unfold f_Pl_refusal
    rw [if_pos rfl, if_pos hodd, hdv, q_c, if_neg (by decide), hls, q_c]
  rw [hR0, hC0, c1, q_c, d1, q_c]
  by_cases w1 : rmy A H (hk N D) (N / 2) P g0 r
  rotate_left
  · rw [b01_f w1, if_pos (show nI 0 = 0 from rfl), if_pos (show nI 0 = 0 from rfl)]
    unfold f_Pl_refusal_40
    exact ⟨12, _, _, by decide, rfl, rfl, fun t h => by rw [← eS1, ← eT1]; exact h, by rw [← eS1]; rfl, by rw [← eS1]; rfl, by rw [← eT1]; rfl, by rw [← eT1]; rfl, fun y => by omega⟩
  obtain ⟨c3, c4⟩ := c2 w1
  have d3 := d2 w1
  rw [b01_t w1, if_neg (show ¬ nI 1 = 0 by decide), if_neg (show ¬ nI 1 = 0 by decide)]
  -- names
  obtain ⟨T2, eT2⟩ : ∃ T2, (T1.u_v_fixed f1).u_v_fixedBlocks x1 = T2 := ⟨_, rfl⟩
  have ht2 : trM N D fks (sIt z) T2 := by rw [← eT2, ← eT1]; exact t1
  obtain ⟨f3, n1⟩ := qM_badNames (K := K) (D := D) (T := T2) hK ht2.2.2.1 hok ht2.2.2.2.2.1 ht2.2.2.2.2.2.1 (by rw [ht2.2.2.2.2.2.2.1]; exact hok.1)
  obtain ⟨S2, eS2⟩ : ∃ S2, (S1.u_v_Pl_inodes (nI (8 * r))).u_w_Pl_fixed f2 = S2 := ⟨_, rfl⟩
  have hc2 : trC N D (mp0 D) fks (sIt z) (hk N D) (ent D) G S2 := by rw [← eS2, ← eS1]; exact t2
  have n2 := qC_namesFit (K := K) (S := S2) (by omega) hc2.1 hc2.2.1 hc2.2.2.1 hpool hok
  rw [eT2, eS2, n1, q_c, n2, q_c]
  by_cases w2 : nmOk (sIt z) ∧ ¬ rcTk (sIt z)
  rotate_left
  · rw [b01_t w2, b01_f w2, if_neg (show ¬ nI 1 = 0 by decide), if_pos (show nI 0 = 0 from rfl)]
    exact ⟨13, _, _, by decide, rfl, rfl, fun t h => by rw [← eS2, ← eS1, ← eT2, ← eT1]; exact h, by rw [← eS2, ← eS1]; rfl, by rw [← eS2, ← eS1]; rfl, by rw [← eT2, ← eT1]; rfl, by rw [← eT2, ← eT1]; rfl, fun y => by omega⟩
  rw [b01_f (show ¬ ¬ (nmOk (sIt z) ∧ ¬ rcTk (sIt z)) from fun y => y w2), b01_t w2, if_pos (show nI 0 = 0 from rfl), if_neg (show ¬ nI 1 = 0 by decide)]
  -- times
  obtain ⟨T3, eT3⟩ : ∃ T3, (T2.u_v_size 7).u_v_name f3 = T3 := ⟨_, rfl⟩
  have ht3 : trM N D fks (sIt z) T3 := by rw [← eT3]; exact ht2
  have n3 := qM_badTimes (K := K) (T := T3) hK hN ht3.2.1.1 ht3.2.2.1 hok t6
  have n4 := qC_timesFit (K := K) (E := E) (S := S2) (by omega) hN hc2.1 (by rw [← eS2, ← eS1]; exact hE) hc2.2.1 hc2.2.2.1 hok t6 hsl
  rw [eT3, n3, q_c, n4, q_c]
  by_cases w3 : tmOk D (sIt z)
  rotate_left
  · rw [b01_t w3, b01_f w3, if_neg (show ¬ nI 1 = 0 by decide), if_pos (show nI 0 = 0 from rfl)]
    exact ⟨14, _, _, by decide, rfl, rfl, fun t h => by rw [← eS2, ← eS1, ← eT3, ← eT2, ← eT1]; exact h, by rw [← eS2, ← eS1]; rfl, by rw [← eS2, ← eS1]; rfl, by rw [← eT3, ← eT2, ← eT1]; rfl, by rw [← eT3, ← eT2, ← eT1]; rfl, fun y => by omega⟩
  rw [b01_f (show ¬ ¬ tmOk D (sIt z) from fun y => y w3), b01_t w3, if_pos (show nI 0 = 0 from rfl), if_neg (show ¬ nI 1 = 0 by decide)]
  -- goals
  have haM : aimM A H (hk N D) (N / 2) P g0 r K (fxd A P r g0) (ent D) T3 := by
    refine ⟨b3, by rw [← eT3, ← eT2]; exact hM1, by rw [← eT3, ← eT2]; exact c4, fun T' h1 h2 h3 y hy0 => ?_, fun x => ent_28 D x⟩
    have e1 : T'.v_disk = D := h1.trans ht3.2.1.1
    have := qM_entryN (K := K) (T := T') ho hN hy0 (h2.trans ht3.2.1.2.2.2.1) (h3.trans ht3.2.1.2.2.2.2.2.1)
    rw [e1] at this
    rw [this]
    unfold ent pE
    rw [Nat.zero_mul, Nat.add_zero]
  have haC : aimC A H (hk N D) (N / 2) P g0 r N (fxd A P r g0) (ent D) G S2 := ⟨b3, ⟨hnx.1, hN, rfl, hff.2.2.2.2.2.2.2.2.2.2.2.2.2.2.2⟩, by rw [← eS2]; exact hS1, by rw [← eS2]; exact d3, by rw [← eS2, ← eS1]; exact hnx.2.2, fun x => ent_28 D x⟩
  obtain ⟨p1, p2, p3⟩ := bd_lt hc2 hAk hB.2
  obtain ⟨q1, q2⟩ := qM_finds (K := K) (T := T3) hK haM ht3 (by omega) (by omega)
  obtain ⟨u1, u2⟩ := qC_aim (K := K) (S := S2) (by omega) haC
  rcases aimR_or (A := A) (H := H) (k := hk N D) (fx := fxd A P r g0) (e := ent D) (hk N D) with ⟨to, gl, hR⟩ | hbad
  rotate_left
  · obtain ⟨mo, ai, mm, q3⟩ := q2 hbad
    obtain ⟨g, a, mm2, u3⟩ := u2 hbad
    rw [q3, q_c, u3, q_c, if_pos rfl, if_pos rfl]
    unfold f_Pl_refusal_77
    exact ⟨15, _, _, by decide, rfl, rfl, fun t h => by rw [← eS2, ← eS1, ← eT3, ← eT2, ← eT1]; exact h, by rw [← eS2, ← eS1]; rfl, by rw [← eS2, ← eS1]; rfl, by rw [← eT3, ← eT2, ← eT1]; rfl, by rw [← eT3, ← eT2, ← eT1]; rfl, fun y => by omega⟩
  obtain ⟨mo, ai, f4, x4, bt, q3, q4, q5⟩ := q1 to gl hR
  obtain ⟨g, a, f5, u3, u4, u5⟩ := u1 to gl hR
  rw [q3, q_c, u3, q_c, if_neg (show ¬ (1 : Int32) = 0 by decide)]
  obtain ⟨S3, eS3⟩ : ∃ S3, rSt (aSt S2 g a (nI (mvN A H (fxd A P r g0) (ent D) (hk N D)))) f5 (nI (rml A H (fxd A P r g0) (ent D) gl (hk N D)).length) = S3 := ⟨_, rfl⟩
  obtain ⟨i1, i2, i3, i4, i5, i6⟩ := aimR_inv _ _ _ hR
  have hls3 : lsC A H (hk N D) (N / 2) N (ent D) gl G S3 := by
    refine ⟨⟨b3.1, b3.2.1, b3.2.2.1, hB⟩, ⟨hnx.1, hN, rfl, hff.2.2.2.2.2.2.2.2.2.2.2.2.2.2.2⟩, by rw [← eS3, ← eS2, ← eS1]; exact ⟨s1, s2, s3⟩, by rw [← eS3, ← eS2, ← eS1]; exact hnx.2.2, fun x => ent_28 D x, by rw [← eS3]; exact u4, fun c => ?_⟩
    by_cases y : gl c = 0
    · exact ⟨by omega, fun y2 => absurd y y2⟩
    · have := i3 c y
      exact ⟨by omega, fun _ => this.2.2.2.2.1⟩
  have hc3 : trC N D (mp0 D) fks (sIt z) (hk N D) (ent D) G S3 := by rw [← eS3]; exact hc2
  have hrm3 : rmC (N / 2) (rml A H (fxd A P r g0) (ent D) gl (hk N D)) S3 := by
    refine ⟨by rw [← eS3]; rfl, by rw [← eS3]; exact u5, ?_⟩
    have := rml_len (A := A) (H := H) (fx := fxd A P r g0) (e := ent D) (gl := gl) (hk N D)
    omega
  obtain ⟨f6, x6, w6, w7, j1, j2⟩ := qC_assign (K := K) (S := S3) hK hls3 hc3 hAk hrm3
  rw [eS3, j1, q_c]
  by_cases w4 : bdN N fks D (sIt z) A H ≤ (rml A H (fxd A P r g0) (ent D) gl (hk N D)).length
  rotate_left
  · rw [b01_f w4, if_pos (show nI 0 = 0 from rfl), if_pos (show nI 0 = 0 from rfl)]
    unfold f_Pl_refusal_77
    exact ⟨15, _, _, by decide, rfl, rfl, fun t h => by rw [← eS3, ← eS2, ← eS1, ← eT3, ← eT2, ← eT1]; exact h, by rw [← eS3, ← eS2, ← eS1]; rfl, by rw [← eS3, ← eS2, ← eS1]; rfl, by rw [← eT3, ← eT2, ← eT1]; rfl, by rw [← eT3, ← eT2, ← eT1]; rfl, fun y => by omega⟩
  rw [b01_t w4, if_neg (show ¬ nI 1 = 0 by decide), if_neg (show ¬ nI 1 = 0 by decide)]
  obtain ⟨S4, eS4⟩ : ∃ S4, aS2 (gSt S3 f6 x6) (nI (bdN N fks D (sIt z) A H)) w6 w7 = S4 := ⟨_, rfl⟩
  have hmk : mkC N D (mp0 D) fks (sIt z) A H (hk N D) (N / 2) P g0 r to gl (ent D) G S4 := by
    refine ⟨by rw [← eS4]; exact hls3, by rw [← eS4]; exact hc3, ⟨b3, w1, hR, t3, t4, t5, w4⟩, by rw [← eS4, ← eS3, ← eS2]; exact hS1, by rw [← eS4]; exact hrm3, by rw [← eS4, ← eS3, ← eS2]; exact d3, by rw [← eS4]; exact j2⟩
  obtain ⟨f7, x7, u7, k1, k2, k3⟩ := qC_markUsed (K := K) hK hmk
  rw [eS4, k3, q_b]
  refine ⟨0, _, _, by decide, rfl, rfl, fun t h => by rw [← eS4, ← eS3, ← eS2, ← eS1, ← eT3, ← eT2, ← eT1]; exact h, by rw [← eS4, ← eS3, ← eS2, ← eS1]; rfl, by rw [← eS4, ← eS3, ← eS2, ← eS1]; rfl, by rw [← eT3, ← eT2, ← eT1]; rfl, by rw [← eT3, ← eT2, ← eT1]; rfl, fun _ => ?_⟩
  rw [← eS4, ← eS3, ← eS2, ← eS1, ← eT3, ← eT2, ← eT1]
  refine ⟨⟨rfl, ?_, ?_, rfl, rfl, ?_⟩, gl, u4, q4⟩
  · show nI (8 * r) = nI (r * 8)
    rw [Nat.mul_comm]
  · show nI g0 * (4 + nI (8 * r) / 8) = x1
    rw [c3, show (8 : Int32) = nI 8 from rfl, pk_div (by omega) (by decide) (by decide), Nat.mul_div_cancel_left _ (by decide), show (4 : Int32) = nI 4 from rfl, nI_add, pk_mul]
  · show nI (N / 2 - 1 - (g0 * (4 + r) + (bdN N fks D (sIt z) A H + kpN N D (sIt z) A H))) = nI (N / 2) - 1 - x1 - nI (bdN N fks D (sIt z) A H) - nI (kpN N D (sIt z) A H)
    rw [c3, show (1 : Int32) = nI 1 from rfl, pk_sub (by omega), pk_sub (by omega), pk_sub (by omega), pk_sub (by omega)]
    congr 1
    omega
