/-! What a plan that is not refused holds, on both sides. -/
abbrev plX (N P : Nat) (D : Nat → Int32) (fks : List Nat) (its : List It) (G : CG) (S : CS) (T : MS) : Prop := ∃ A H B g0 r to gl, (A = ha D / 2 ∧ H = hc D / 2 ∧ B = N / 2 ∧ g0 = (N / 2 - 1 + P - 1) / P ∧ ha D = 2 * A ∧ hc D = 2 * H ∧ r = (10 + its.length + 8 * g0 - 1) / (8 * g0)) ∧ rnC N D (mp0 D) fks its A H (hk N D) B P g0 r to gl (ent D) G S ∧ ((∀ c, c < B → S.w_Pl_used c = b01 (usd N D its A H gl (rml A H (fxd A P r g0) (ent D) gl (hk N D)) (bdN N fks D its A H) (fxd A P r g0) c)) ∧ g0 * (4 + r) + (bdN N fks D its A H + kpN N D its A H) ≤ B - 1 ∧ S.v_Pl_free = nI (B - 1 - (g0 * (4 + r) + (bdN N fks D its A H + kpN N D its A H)))) ∧ tnU N D fks its A H (hk N D) B P g0 r to gl (ent D) T ∧ (∀ b, b < 512 → T.v_fixed b = b01 (fxd A P r g0 b)) ∧ tmOk D its ∧ rcB N D its A H ≤ 512
def coR (S : CS) := ((S.w_Vt_failAsks, S.w_Vt_failWrites, S.v_Vt_fails, S.v_Vt_here, S.v_Vt_hasRun, S.v_Vt_stale, S.v_Vt_lastFault), (S.v_Dk_sectors, S.w_Tp_bytes, S.w_Tp_ready, S.v_Tp_used, S.v_Pl_blocks))
theorem qB_refusalX {K N m hh P : Nat} {D E E0 : Nat → Int32} {fks : List Nat} {z : SS} {G G0 : CG} {S S0 : CS} {T : MS} (hK : 20000 ≤ K) (hN1 : 256 ≤ N) (hN : N ≤ 1024) (v : tv N m D E0 fks z hh G0 S0 T) (hH0 : agH D E0) (hcI : cIs N E G S) (hcS : ∃ t, cSc N t D E (mp0 D) fks z G S) (hH : agH D E) (hev : ha D % 2 = 0) (hP : P = 64 ∨ P = 128 ∨ P = 256) (hbl : S.v_Pl_blocks = nI (N / 2)) (etr : trE N D = .ok (fks, z)) (hp0 : T.v_parent 0 = 0) : ∃ ans S' T', ans ≤ 15 ∧ f_Pl_refusal K G S (nI P) 0 = some (nI ans, S') ∧ f_Mo_refusal_52 K (nI P) T = some (nI ans, T') ∧ (∀ t, ivA N t m D E G S T → ivA N t m D E G S' T') ∧ S'.v_Tp_used = S.v_Tp_used ∧ S'.v_Tb_clusters = S.v_Tb_clusters ∧ T'.v_thrown = T.v_thrown ∧ T'.v_k = T.v_k ∧ (coR S' = coR S ∧ S'.w_Dk_bytes = S.w_Dk_bytes ∧ S'.v_Dk_power = S.v_Dk_power ∧ S'.w_Tu_block = S.w_Tu_block) ∧ (ans = 0 → plX N P D fks (sIt z) G S' T' ∧ T'.v_label = lbI (sLb z) ∧ T'.v_looked = T.v_looked ∧ nmOk (sIt z)) := by
  have ho := v.2.2.2.1
  have hff := hd_facts ho hN
  have hlen := v.2.2.2.2.2.1.1.2.1
  have hlen1 := v.2.2.2.2.2.1.1.1
  obtain ⟨b1, b2, b3, b4, b5, b6⟩ := br_num (P := P) (items := (sIt z).length) ho hN1 hN hev hP hlen
  obtain ⟨t1, t2o, t3, t4, t5, t6⟩ := br_tree hN1 hN v hH0
  have hM := v.1.1.1
  obtain ⟨tt, cS⟩ := hcS
  have t2 : trC N D (mp0 D) fks (sIt z) (hk N D) (ent D) G S := by
    refine ⟨cS.2.2.2.2.1.1, cS.1, cS.2.2.2.2.1.2.2.1, t2o.2.2.2.1, fun j hj => ?_, t2o.2.2.2.2.2.1, t2o.2.2.2.2.2.2.1, t2o.2.2.2.2.2.2.2.1, t2o.2.2.2.2.2.2.2.2⟩
    have hfl := t2o.2.2.2.2.2.1.2
    have e := cS.2.2.2.1 j hj
    refine ⟨?_, fun d => ?_⟩
    · rw [e.2]
      unfold kcD
      rw [if_pos (by rw [hfl]; exact hj)]
    · rw [e.1]
      unfold ksD
      rw [cif_t ⟨by rw [hfl]; exact hj, d⟩]
  clear t2o
  have hnx := nxR_of ho hN hH hcI
  obtain ⟨ec, ev', ey, ez, er, ea, ek⟩ := agH_n hH
  have s1 : S.v_Tb_start = nI (2 * (ha D / 2)) := by rw [← b1, ← ea]; exact hcI.2.2.2.2.2.2.2.2.1
  have s2 : S.v_Tb_cluster = nI (2 * (hc D / 2)) := by rw [← b2, ← ec]; exact hcI.2.2.2.1
  have s3 : S.v_Tb_clusters = nI (hk N D) := by rw [← ek]; exact hcI.2.2.2.2.2.2.2.2.2.1
  have m1 : T.v_a = nI (2 * (ha D / 2)) := by rw [← b1]; exact hM.2.2.2.2.2.2.2.1
  have m2 : T.v_c = nI (2 * (hc D / 2)) := by rw [← b2]; exact hM.2.2.1
  have hpool := cS.2.2.2.2.1.2.2.2
  have hsl := cS.2.2.2.2.2.2.2.1
  have hE := hcI.2.1
  have hit : T.v_items = nI (sIt z).length := t1.2.2.1.1
  have hok := v.2.2.2.2.2.1.1
  have hSI := v.2.2.2.2.2.2.1
  have hlab : T.v_label = lbI (sLb z) := v.1.1.2.2.2.1
  have hi0 : ipa (itr (sIt z) 0) = 0 := by
    obtain ⟨-, -, es, -⟩ := trE_scL etr
    rw [ext_itr (scL_ext _ _ _ _ _ _ es) (show 0 < 1 by decide)]
    rfl
  clear v cS
  have hcei : 10 + (sIt z).length ≤ (N / 2 - 1 + P - 1) / P * (8 * ((10 + (sIt z).length + 8 * ((N / 2 - 1 + P - 1) / P) - 1) / (8 * ((N / 2 - 1 + P - 1) / P)))) := by
    have := Nat.lt_mul_div_succ (10 + (sIt z).length + 8 * ((N / 2 - 1 + P - 1) / P) - 1) (show 0 < 8 * ((N / 2 - 1 + P - 1) / P) by omega)
    rw [Nat.mul_add, Nat.mul_one] at this
    rw [Nat.mul_left_comm, ← Nat.mul_assoc]
    omega
  generalize hA0 : ha D / 2 = A at *
  generalize hH0 : hc D / 2 = H at *
  generalize hg0 : (N / 2 - 1 + P - 1) / P = g0 at *
  generalize hr0 : (10 + (sIt z).length + 8 * g0 - 1) / (8 * g0) = r at *
  have hB := b3.2.2.2.1
  have hr2 := b3.2.2.2.2.2.2.1
  have hAk := b3.2.2.2.2.2.2.2
  -- the reference's numbers
  obtain ⟨T1, eT1⟩ : ∃ T1, ((((T.u_v_per (nI P)).u_v_blocks (nI (N / 2))).u_v_groups (nI g0)).u_v_inodes (nI (r * 8))).u_v_rows (nI r) = T1 := ⟨_, rfl⟩
  have hM1 : plM A H (hk N D) (N / 2) P g0 r T1 := by rw [← eT1]; exact ⟨m1, m2, hM.2.2.2.2.2.2.2.2, rfl, rfl, rfl, rfl⟩
  have hR0 : f_Mo_refusal_52 K (nI P) T = lf_c (f_Mo_isRoomy K T1) fun r_14 S_14 => if r_14 = 0 then (some (12, S_14)) else (lf_c (f_Mo_badNames K S_14) fun r_16 S_16 => if r_16 = 0 then (lf_c (f_Mo_badTimes K S_16) fun r_18 S_18 => if r_18 = 0 then (lf_c (f_Mo_finds K S_18) fun r_20 S_20 => if r_20 = 0 then (some (15, S_20)) else (some (0, S_20))) else (some (14, S_18))) else (some (13, S_16))) := by
    unfold f_Mo_refusal_52
    rw [q_l, show (T.u_v_per (nI P)).v_n = nI N from hM.2.1, show (2 : Int32) = nI 2 from rfl, pk_div (by omega) (by decide) (by decide), q_l, show ((T.u_v_per (nI P)).u_v_blocks (nI (N / 2))).v_blocks = nI (N / 2) from rfl, show ((T.u_v_per (nI P)).u_v_blocks (nI (N / 2))).v_per = nI P from rfl, show (1 : Int32) = nI 1 from rfl, pk_sub (by omega), qM_whole (by omega) (by omega) (by omega), q_b, hg0, q_l, show (((T.u_v_per (nI P)).u_v_blocks (nI (N / 2))).u_v_groups (nI g0)).v_items = nI (sIt z).length from hit, show (((T.u_v_per (nI P)).u_v_blocks (nI (N / 2))).u_v_groups (nI g0)).v_groups = nI g0 from rfl, show (10 : Int32) = nI 10 from rfl, nI_add, show (8 : Int32) = nI 8 from rfl, pk_mul, qM_whole (by omega) (by omega) (by omega), q_b, hr0, pk_mul, q_l, show ((((T.u_v_per (nI P)).u_v_blocks (nI (N / 2))).u_v_groups (nI g0)).u_v_inodes (nI (r * 8))).v_inodes = nI (r * 8) from rfl, pk_div (by omega) (by decide) (by decide), Nat.mul_div_cancel _ (by decide), q_l, eT1]
  obtain ⟨f1, x1, c1, c2⟩ := qM_isRoomy (K := K) (T := T1) (by omega) b3 hM1
  -- the class's numbers
  obtain ⟨S1, eS1⟩ : ∃ S1, (S.u_v_Pl_size (nI P)).u_v_Pl_groups (nI g0) = S1 := ⟨_, rfl⟩
  have hS1 : plK A H (hk N D) (N / 2) P g0 S1 := by rw [← eS1]; exact ⟨s1, s2, s3, hbl, rfl, rfl⟩
  have hGN : G.n / 2 = N / 2 := by rw [hnx.1]
  obtain ⟨f2, d1, d2⟩ := qC_layOut (K := K) (S := S1) (by omega) b3 b4 hGN hS1
  have hC0 : f_Pl_refusal K G S (nI P) 0 = lf_c (f_Pl_layOut K G S1 (nI (8 * r))) fun r_6 S_6 => if r_6 = 0 then (f_Pl_refusal_40 K G S_6) else (lf_c (f_Pl_namesFit K G S_6) fun r_8 S_8 => if r_8 = 0 then (some (13, S_8)) else (lf_c (f_Pl_timesFit K G S_8) fun r_10 S_10 => if r_10 = 0 then (some (14, S_10)) else (lf_c (f_Pl_aim K G S_10) fun r_12 S_12 => if r_12 = 0 then (f_Pl_refusal_77 K G S_12) else (lf_c (f_Pl_assign K G S_12) fun r_14 S_14 => if r_14 = 0 then (f_Pl_refusal_77 K G S_14) else ((f_Pl_markUsed K G S_14).bind fun S_16 => some (0, S_16)))))) := by
    have hodd : S.v_Tb_start - S.v_Tb_start / 2 * 2 = 0 := by
      rw [s1, show (2 : Int32) = nI 2 from rfl, pk_rem (by omega) (by decide) (by decide), Nat.mul_mod_right]
      rfl
    have hdv := qC_divide (K := K) (G := G) (S := S) hP hB hbl
    rw [hg0, eS1] at hdv
    have hls := qC_least (K := K) (G := G) (S := S1) (items := (sIt z).length) b5 b6 hlen hS1.2.2.2.2.2 (by rw [← eS1]; exact t2.2.1.1)
    rw [hr0] at hls
    unfold f_Pl_refusal
    rw [if_pos rfl, if_pos hodd, hdv, q_c, if_neg (by decide), hls, q_c]
  rw [hR0, hC0, c1, q_c, d1, q_c]
  by_cases w1 : rmy A H (hk N D) (N / 2) P g0 r
  rotate_left
  · rw [b01_f w1, if_pos (show nI 0 = 0 from rfl), if_pos (show nI 0 = 0 from rfl)]
    unfold f_Pl_refusal_40
    exact ⟨12, _, _, by decide, rfl, rfl, fun t h => by rw [← eS1, ← eT1]; exact h, by rw [← eS1]; rfl, by rw [← eS1]; rfl, by rw [← eT1]; rfl, by rw [← eT1]; rfl, by rw [← eS1]; exact ⟨rfl, rfl, rfl, rfl⟩, fun y => by omega⟩
  obtain ⟨c3, c4⟩ := c2 w1
  have d3 := d2 w1
  rw [b01_t w1, if_neg (show ¬ nI 1 = 0 by decide), if_neg (show ¬ nI 1 = 0 by decide)]
  -- names
  obtain ⟨T2, eT2⟩ : ∃ T2, (T1.u_v_fixed f1).u_v_fixedBlocks x1 = T2 := ⟨_, rfl⟩
  have ht2 : trM N D fks (sIt z) T2 := by rw [← eT2, ← eT1]; exact t1
  obtain ⟨f3, n1⟩ := qM_badNames (K := K) (D := D) (T := T2) hK ht2.2.2.1 hok ht2.2.2.2.2.1 ht2.2.2.2.2.2.1 (by rw [ht2.2.2.2.2.2.2.1]; exact hok.1)
  obtain ⟨S2, eS2⟩ : ∃ S2, (S1.u_v_Pl_inodes (nI (8 * r))).u_w_Pl_fixed f2 = S2 := ⟨_, rfl⟩
  have hc2 : trC N D (mp0 D) fks (sIt z) (hk N D) (ent D) G S2 := by rw [← eS2, ← eS1]; exact t2
  have n2 := qC_namesFit (K := K) (S := S2) (by omega) hc2.1 hc2.2.1 hc2.2.2.1 hpool hok
  rw [eT2, eS2, n1, q_c, n2, q_c]
  by_cases w2 : nmOk (sIt z) ∧ ¬ rcTk (sIt z)
  rotate_left
  · rw [b01_t w2, b01_f w2, if_neg (show ¬ nI 1 = 0 by decide), if_pos (show nI 0 = 0 from rfl)]
    exact ⟨13, _, _, by decide, rfl, rfl, fun t h => by rw [← eS2, ← eS1, ← eT2, ← eT1]; exact h, by rw [← eS2, ← eS1]; rfl, by rw [← eS2, ← eS1]; rfl, by rw [← eT2, ← eT1]; rfl, by rw [← eT2, ← eT1]; rfl, by rw [← eS2, ← eS1]; exact ⟨rfl, rfl, rfl, rfl⟩, fun y => by omega⟩
  rw [b01_f (show ¬ ¬ (nmOk (sIt z) ∧ ¬ rcTk (sIt z)) from fun y => y w2), b01_t w2, if_pos (show nI 0 = 0 from rfl), if_neg (show ¬ nI 1 = 0 by decide)]
  -- times
  obtain ⟨T3, eT3⟩ : ∃ T3, (T2.u_v_size 7).u_v_name f3 = T3 := ⟨_, rfl⟩
  have ht3 : trM N D fks (sIt z) T3 := by rw [← eT3]; exact ht2
  have n3 := qM_badTimes (K := K) (T := T3) hK hN ht3.2.1.1 ht3.2.2.1 hok t6
  have n4 := qC_timesFit (K := K) (E := E) (S := S2) (by omega) hN hc2.1 (by rw [← eS2, ← eS1]; exact hE) hc2.2.1 hc2.2.2.1 hok t6 hsl
  rw [eT3, n3, q_c, n4, q_c]
  by_cases w3 : tmOk D (sIt z)
  rotate_left
  · rw [b01_t w3, b01_f w3, if_neg (show ¬ nI 1 = 0 by decide), if_pos (show nI 0 = 0 from rfl)]
    exact ⟨14, _, _, by decide, rfl, rfl, fun t h => by rw [← eS2, ← eS1, ← eT3, ← eT2, ← eT1]; exact h, by rw [← eS2, ← eS1]; rfl, by rw [← eS2, ← eS1]; rfl, by rw [← eT3, ← eT2, ← eT1]; rfl, by rw [← eT3, ← eT2, ← eT1]; rfl, by rw [← eS2, ← eS1]; exact ⟨rfl, rfl, rfl, rfl⟩, fun y => by omega⟩
  rw [b01_f (show ¬ ¬ tmOk D (sIt z) from fun y => y w3), b01_t w3, if_pos (show nI 0 = 0 from rfl), if_neg (show ¬ nI 1 = 0 by decide)]
  -- goals
  have haM : aimM A H (hk N D) (N / 2) P g0 r K (fxd A P r g0) (ent D) T3 := by
    refine ⟨b3, by rw [← eT3, ← eT2]; exact hM1, by rw [← eT3, ← eT2]; exact c4, fun T' h1 h2 h3 y hy0 => ?_, fun x => ent_28 D x⟩
    have e1 : T'.v_disk = D := h1.trans ht3.2.1.1
    have := qM_entryN (K := K) (T := T') ho hN hy0 (h2.trans ht3.2.1.2.2.2.1) (h3.trans ht3.2.1.2.2.2.2.2.1)
    rw [e1] at this
    rw [this]
    unfold ent pE
    rw [Nat.zero_mul, Nat.add_zero]
  have haC : aimC A H (hk N D) (N / 2) P g0 r N (fxd A P r g0) (ent D) G S2 := ⟨b3, ⟨hnx.1, hN, rfl, hff.2.2.2.2.2.2.2.2.2.2.2.2.2.2.2⟩, by rw [← eS2]; exact hS1, by rw [← eS2]; exact d3, by rw [← eS2, ← eS1]; exact hnx.2.2, fun x => ent_28 D x⟩
  obtain ⟨p1, p2, p3⟩ := bd_lt hc2 hAk hB.2
  obtain ⟨q1, q2⟩ := qM_finds (K := K) (T := T3) hK haM ht3 (by omega) (by omega)
  obtain ⟨u1, u2⟩ := qC_aim (K := K) (S := S2) (by omega) haC
  rcases aimR_or (A := A) (H := H) (k := hk N D) (fx := fxd A P r g0) (e := ent D) (hk N D) with ⟨to, gl, hR⟩ | hbad
  rotate_left
  · obtain ⟨mo, ai, mm, q3⟩ := q2 hbad
    obtain ⟨g, a, mm2, u3⟩ := u2 hbad
    rw [q3, q_c, u3, q_c, if_pos rfl, if_pos rfl]
    unfold f_Pl_refusal_77
    exact ⟨15, _, _, by decide, rfl, rfl, fun t h => by rw [← eS2, ← eS1, ← eT3, ← eT2, ← eT1]; exact h, by rw [← eS2, ← eS1]; rfl, by rw [← eS2, ← eS1]; rfl, by rw [← eT3, ← eT2, ← eT1]; rfl, by rw [← eT3, ← eT2, ← eT1]; rfl, by rw [← eS2, ← eS1]; exact ⟨rfl, rfl, rfl, rfl⟩, fun y => by omega⟩
  obtain ⟨mo, ai, f4, x4, bt, q3, q4, q5⟩ := q1 to gl hR
  obtain ⟨g, a, f5, u3, u4, u5⟩ := u1 to gl hR
  rw [q3, q_c, u3, q_c, if_neg (show ¬ (1 : Int32) = 0 by decide)]
  obtain ⟨S3, eS3⟩ : ∃ S3, rSt (aSt S2 g a (nI (mvN A H (fxd A P r g0) (ent D) (hk N D)))) f5 (nI (rml A H (fxd A P r g0) (ent D) gl (hk N D)).length) = S3 := ⟨_, rfl⟩
  obtain ⟨i1, i2, i3, i4, i5, i6⟩ := aimR_inv _ _ _ hR
  have hls3 : lsC A H (hk N D) (N / 2) N (ent D) gl G S3 := by
    refine ⟨⟨b3.1, b3.2.1, b3.2.2.1, hB⟩, ⟨hnx.1, hN, rfl, hff.2.2.2.2.2.2.2.2.2.2.2.2.2.2.2⟩, by rw [← eS3, ← eS2, ← eS1]; exact ⟨s1, s2, s3⟩, by rw [← eS3, ← eS2, ← eS1]; exact hnx.2.2, fun x => ent_28 D x, by rw [← eS3]; exact u4, fun c => ?_⟩
    by_cases y : gl c = 0
    · exact ⟨by omega, fun y2 => absurd y y2⟩
    · have := i3 c y
      exact ⟨by omega, fun _ => this.2.2.2.2.1⟩
  have hc3 : trC N D (mp0 D) fks (sIt z) (hk N D) (ent D) G S3 := by rw [← eS3]; exact hc2
  have hrm3 : rmC (N / 2) (rml A H (fxd A P r g0) (ent D) gl (hk N D)) S3 := by
    refine ⟨by rw [← eS3]; rfl, by rw [← eS3]; exact u5, ?_⟩
    have := rml_len (A := A) (H := H) (fx := fxd A P r g0) (e := ent D) (gl := gl) (hk N D)
    omega
  obtain ⟨f6, x6, w6, w7, j1, j2⟩ := qC_assign (K := K) (S := S3) hK hls3 hc3 hAk hrm3
  rw [eS3, j1, q_c]
  by_cases w4 : bdN N fks D (sIt z) A H ≤ (rml A H (fxd A P r g0) (ent D) gl (hk N D)).length
  rotate_left
  · rw [b01_f w4, if_pos (show nI 0 = 0 from rfl), if_pos (show nI 0 = 0 from rfl)]
    unfold f_Pl_refusal_77
    exact ⟨15, _, _, by decide, rfl, rfl, fun t h => by rw [← eS3, ← eS2, ← eS1, ← eT3, ← eT2, ← eT1]; exact h, by rw [← eS3, ← eS2, ← eS1]; rfl, by rw [← eS3, ← eS2, ← eS1]; rfl, by rw [← eT3, ← eT2, ← eT1]; rfl, by rw [← eT3, ← eT2, ← eT1]; rfl, by rw [← eS3, ← eS2, ← eS1]; exact ⟨rfl, rfl, rfl, rfl⟩, fun y => by omega⟩
  rw [b01_t w4, if_neg (show ¬ nI 1 = 0 by decide), if_neg (show ¬ nI 1 = 0 by decide)]
  obtain ⟨S4, eS4⟩ : ∃ S4, aS2 (gSt S3 f6 x6) (nI (bdN N fks D (sIt z) A H)) w6 w7 = S4 := ⟨_, rfl⟩
  have hmk : mkC N D (mp0 D) fks (sIt z) A H (hk N D) (N / 2) P g0 r to gl (ent D) G S4 := by
    refine ⟨by rw [← eS4]; exact hls3, by rw [← eS4]; exact hc3, ⟨b3, w1, hR, t3, t4, t5, w4⟩, by rw [← eS4, ← eS3, ← eS2]; exact hS1, by rw [← eS4]; exact hrm3, by rw [← eS4, ← eS3, ← eS2]; exact d3, by rw [← eS4]; exact j2⟩
  obtain ⟨f7, x7, u7, k1, k2, k3⟩ := qC_markUsed (K := K) hK hmk
  rw [eS4, k3, q_b]
  refine ⟨0, _, _, by decide, rfl, rfl, fun t h => by rw [← eS4, ← eS3, ← eS2, ← eS1, ← eT3, ← eT2, ← eT1]; exact h, by rw [← eS4, ← eS3, ← eS2, ← eS1]; rfl, by rw [← eS4, ← eS3, ← eS2, ← eS1]; rfl, by rw [← eT3, ← eT2, ← eT1]; rfl, by rw [← eT3, ← eT2, ← eT1]; rfl, by rw [← eS4, ← eS3, ← eS2, ← eS1]; exact ⟨rfl, rfl, rfl, rfl⟩, fun _ => ?_⟩
  have hdr : ∀ i, i < (sIt z).length → isDr D (sIt z) i → ipa (itr (sIt z) i) < (sIt z).length ∧ isDr D (sIt z) (ipa (itr (sIt z) i)) := fun i hi _ => by
    by_cases c : i = 0
    · rw [c, hi0]; exact ⟨hlen1, Or.inl rfl⟩
    · have := hSI.2.1 i (by omega) hi
      exact ⟨this.1, this.2.2.1⟩
  have huF : usF N D (sIt z) A H (hk N D) (N / 2) P g0 r to gl (ent D) (bdN N fks D (sIt z) A H) := ⟨b3, w1, hR, t3, t4, t5, w4⟩
  have hgl : ∀ c, gl c < hk N D + 2 := fun c => (hls3.2.2.2.2.2.2 c).1
  refine ⟨⟨A, H, N / 2, g0, r, to, gl, ⟨hA0.symm, hH0.symm, rfl, hg0.symm, b1, b2, hr0.symm⟩, ⟨?_, ?_, ?_, ?_⟩, ?_, ⟨⟨?_, ⟨b3, ?_, ?_, b4, hcei⟩, ⟨?_, ?_, ?_, rml_nd _⟩, q4, ⟨?_, hi0, fun i hi hd => (hdr i hi hd).1⟩, t6⟩, huF, hgl⟩, ?_, w3, by omega⟩, ?_⟩
  · exact hmk
  · rw [← eS4, ← eS3]
    exact ⟨hc2, hpool, hdr⟩
  · rw [← eS4, ← eS3, ← eS2, ← eS1]
    exact ⟨hnx.1, hN1, hN, hcI.2.2.1⟩
  · rw [← eS4, ← eS3, ← eS2]
    rfl
  · exact ⟨k1, k2, rfl⟩
  · exact ht3
  · rw [← eT3, ← eT2]; exact hM1
  · rw [← eT3, ← eT2, ← eT1, Nat.mul_comm 8]; rfl
  · exact q5
  · have := rml_len (A := A) (H := H) (fx := fxd A P r g0) (e := ent D) (gl := gl) (hk N D)
    omega
  · exact fun b hb => by have := rml_lt hb; omega
  · rw [← eT3, ← eT2, ← eT1]; exact hp0
  · rw [← eT3, ← eT2]; exact c4
  · rw [← eT3, ← eT2, ← eT1]; exact ⟨hlab, rfl, w2.1⟩
