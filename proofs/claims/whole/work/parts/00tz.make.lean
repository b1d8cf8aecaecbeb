/-! make. -/
abbrev codM (e : Nat) : Nat := if e = 0 then 2 else e
theorem tus_half {f : Nat → Int32} {k : Nat} : (tus f k).length ≤ k / 2 := by
  unfold tus
  split
  · rw [List.length_map, List.length_range]; exact Nat.le_refl _
  · exact Nat.zero_le _
theorem tl_ok {us : List Nat} {l : Nat} : (∀ u ∈ tlL us l, sgP u) ∧ (tlL us l).length ≤ 3 := by
  unfold tlL
  split
  · exact ⟨fun u hu => (List.not_mem_nil hu).elim, Nat.zero_le _⟩
  · exact ⟨fun u hu => sqL_sg _ u (List.mem_of_mem_take hu), by rw [List.length_take]; exact Nat.min_le_left _ _⟩
theorem opA_make {K N t m dr : Nat} {D E : Nat → Int32} {G : CG} {S : CS} {T : MS} (hK : 30000 ≤ K) (h : ivA N t m D E G S T) (hm1 : m + 24 ≤ 4000) (hdr : dr = 0 ∨ dr = 1) : ∃ n, n ≤ 4096 ∧ S.v_Tp_used = nI n ∧ rsl codM (fun e => e ≤ 3 ∧ e ≠ 2) (f_Vt_make K G S (nI dr)) (f_Mo_make K T (nI dr)) (fun G' S' T' => ∃ m' D' E', m' ≤ m + (n / 26 + 5) ∧ ivA N (t + 1) m' D' E' G' S' T' ∧ S'.v_Tp_used = nI 0) := by
  obtain ⟨n, n1, n2, n3, n4, n5, n6⟩ := h.1.2.2.2.1
  refine ⟨n, n1, n2, ?_⟩
  have h' : ivA N t m D E G (S.u_v_Tp_used 0) (T.u_v_taped 0) := by
    obtain ⟨⟨h0, h1, h2, -, h5, h6, h7, h8, h9⟩, hg, hl, hc0⟩ := h
    exact ⟨⟨h0, h1, h2, ⟨0, by omega, rfl, rfl, fun j hj => absurd hj (Nat.not_lt_zero _), n5, n6⟩, h5, h6, h7, h8, h9⟩, hg, hl, hc0⟩
  obtain ⟨G1, S1, c1, c2, c3, c4, c5, c6⟩ := ivA_lookC (K := K) (by omega) h'
  obtain ⟨T1, m1, m2, m3⟩ := ivA_lookM (K := K) (by omega) (ivA_thr h 0)
  have m2' : coL (T1.u_v_taped 0) = coL ((T.u_v_taped 0).u_v_thrown 0) := congrArg (fun c => ((c.1.1, c.1.2.1, c.1.2.2.1, c.1.2.2.2.1, c.1.2.2.2.2.1, (0 : Int32), c.1.2.2.2.2.2.2.1, c.1.2.2.2.2.2.2.2), c.2)) m2
  have m3' : lkR N D (T1.u_v_taped 0) := m3
  have hiv := ivA_after (ivA_thr h' 0) m2' m3' c2 c3 c4 c5 c6
  have hN1 := h.1.1.1
  have hN := h.1.1.2.1
  have p1 : T1.v_thrown = 0 := coL_v_thrown m2
  have p2 : T1.v_turned = 0 := (coL_v_turned m2).trans h.1.2.2.2.2.2.1.1
  have p3 := (lkR_f m3).1
  have p4 := (lkC_f c6).1
  have htp : S1.v_Tp_used = nI 0 := (coV_v_Tp_used c2 : _ = (S.u_v_Tp_used 0).v_Tp_used)
  have htb : S1.w_Tp_bytes = S.w_Tp_bytes := (coV_w_Tp_bytes c2 : _ = (S.u_v_Tp_used 0).w_Tp_bytes)
  have htt : T1.v_tape = T.v_tape := (coL_v_tape m2 : _ = (T.u_v_thrown 0).v_tape)
  have htd : T1.v_taped = nI n := (coL_v_taped m2 : _ = (T.u_v_thrown 0).v_taped).trans n3
  have hus : tus S1.w_Tp_bytes n = tus T1.v_tape n := by rw [htb, htt]; exact tus_cong n4
  have hul : (tus T1.v_tape n).length ≤ 255 := tus_len
  have hult : ∀ u ∈ tus T1.v_tape n, u < 65536 := tus_lt
  have huh : (tus T1.v_tape n).length ≤ n / 2 := tus_half
  have hfx := qM_fixed (T := T) m1 p1 p2 p3
  unfold f_Vt_make f_Tp_useUp f_Vt_make_13
  rw [q_l, q_l (S.u_v_Tp_used 0), q_c, look_n c1, n2]
  by_cases w : flt N D = 0
  rotate_left
  · obtain ⟨⟨r, T2⟩, e1, e2, f, e3, e4⟩ := qM_named (K := K) (T := T1.u_v_thrown 1) (by omega) n1 htd
    have e4 : T2 = (((T1.u_v_thrown 1).u_v_size (nI (tus (T1.u_v_thrown 1).v_tape n).length)).u_v_name f).u_v_taped 0 := e4
    have hmo : f_Mo_make K T (nI dr) = some (0, T2) := by
      unfold f_Mo_make f_Mo_make_42
      rw [hfx, b01_t w, cif_t w, q_c, e1, q_c, if_neg (show ¬ nI 1 = 0 by decide)]
    rw [want_no p4 w, a_er, hmo, e4]
    exact Or.inr ⟨1, _, _, _, _, rfl, rfl, by decide, rfl, m, D, E, by omega, ivA_made (ivA_thr hiv 1), htp⟩
  obtain ⟨fks, z, etr⟩ : ∃ fks z, trE N D = .ok (fks, z) := by
    cases e : trE N D with
    | error x =>
      rw [flt_er e] at w
      have := trE_err e
      omega
    | ok x => exact ⟨x.1, x.2, rfl⟩
  obtain ⟨hh, v⟩ := ivA_tv hiv m3' c5 c6 etr
  have v1 : tv N m D E fks z hh G1 S1 T1 := v
  rw [want_ok p4 w, a_ok]
  have hmo : f_Mo_make K T (nI dr) = mkB K (nI dr) T1 := by
    unfold f_Mo_make mkB
    rw [hfx, b01_f (fun y => y w), cif_f (fun y => y w), q_c]
    simp only [if_pos (show nI 0 = 0 from rfl)]
  rw [hmo]
  obtain ⟨F1, F2, F3⟩ := qM_front (K := K) (p0 := nI dr) (k := n) (by omega) hN v1 p1 n1 htd
  obtain ⟨C1, C2⟩ := qC_front (K := K) (p0 := nI dr) (k := n) (by omega) hN v n1
  rw [hus] at C1 C2
  generalize tus T1.v_tape n = us at *
  have same : ∀ n' f' g' pl a f g s1 t1 x, ∃ m' D' E', m' ≤ m + (n / 26 + 5) ∧ ivA N (t + 1) m' D' E' (G1.made 1 6) (mkQ S1 n' f' g' pl) ((mkT T1 a f g s1 t1).u_v_thrown x) ∧ (mkQ S1 n' f' g' pl).v_Tp_used = nI 0 := fun n' f' g' pl a f g s1 t1 x => ⟨m, D, E, by omega, ivA_made (ivA_thr hiv x), htp⟩
  by_cases b0 : ¬ nmP us ∨ (∃ j, fkI fks hh ≤ j ∧ j < fkI fks hh + hn fks z hh ∧ alk (inm (itr (sIt z) j)) us) ∨ (brP us ∧ shT D (sIt z) (fkI fks hh) (hn fks z hh) (brG us (fpt us) us.length))
  · obtain ⟨a, f, g, s1, t1, e1⟩ := F1 b0
    obtain ⟨n', f', g', pl, e2⟩ := C1 b0
    rw [e1, e2]
    exact Or.inr ⟨0, _, _, _, _, rfl, rfl, by decide, rfl, same _ _ _ _ _ _ _ _ _ _⟩
  have b1 : nmP us := Classical.byContradiction fun y => b0 (Or.inl y)
  have b2 : ¬ ∃ j, fkI fks hh ≤ j ∧ j < fkI fks hh + hn fks z hh ∧ alk (inm (itr (sIt z) j)) us := fun y => b0 (Or.inr (Or.inl y))
  have b3 : ¬ (brP us ∧ shT D (sIt z) (fkI fks hh) (hn fks z hh) (brG us (fpt us) us.length)) := fun y => b0 (Or.inr (Or.inr y))
  clear b0 F1 C1
  obtain ⟨fC, gC, k1, k2, k3⟩ := C2 b1 b2 b3
  have hhl := v.2.2.1.1
  have hlen := v.2.2.2.2.2.1.1.2.1
  have hfl : hh < fks.length := by rw [v.1.1.2.2.2.2.2.1]; exact hhl
  have hkd := v.2.2.2.2.2.2.2.1 hh hfl
  have hnle : fkI fks hh + hn fks z hh ≤ (sIt z).length := hn_le v.2.2.2.2.2.2.2.1 hfl
  obtain ⟨W, nm, W1, W2, W3, W4, W5, ⟨sx, sy, W6⟩, W7, W8, W9, ⟨f, g, s1, t1, W10, W11, W12⟩, W13, W14⟩ : ∃ W nm, 1 ≤ W ∧ W ≤ 21 ∧ W ≤ n / 26 + 2 ∧ (brP us → W = 1) ∧ (¬ brP us → W = 1 + (us.length + 13 - 1) / 13) ∧ (∃ x y, shX nm x y) ∧ ¬ shT D (sIt z) (fkI fks hh) (hn fks z hh) nm ∧ (W = 1 → brP us ∧ ∀ q, q < 11 → nm q = brG us (fpt us) us.length q) ∧ (W ≠ 1 → us.length ≤ 13 * (W - 1) ∧ 13 * (W - 1) < us.length + 13) ∧ (∃ f g s1 t1, mkB K (nI dr) T1 = f_Mo_make_116 K (nI dr) (nI hh) (nI W) (mkT T1 (nI us.length) f g s1 t1) ∧ bufR f us ∧ ∀ q, q < 11 → g q = nI (nm q)) ∧ (brP us → ∀ q, q < 11 → gC q = nI (nm q)) ∧ (¬ brP us → ∃ l mm, lpR us l ∧ 1 ≤ mm ∧ mm ≤ hn fks z hh + 1 ∧ nm = cdN (sqA us 0 l) (tlL us l) mm ∧ ¬ shT D (sIt z) (fkI fks hh) (hn fks z hh) (cdN (sqA us 0 l) (tlL us l) mm) ∧ ∀ q, 1 ≤ q → q < mm → shT D (sIt z) (fkI fks hh) (hn fks z hh) (cdN (sqA us 0 l) (tlL us l) q)) := by
    by_cases c : brP us
    · exact ⟨1, _, by omega, by omega, by omega, fun _ => rfl, fun y => absurd c y, ⟨_, _, br_sh c⟩, fun y => b3 ⟨c, y⟩, fun _ => ⟨c, fun _ _ => rfl⟩, fun y => absurd rfl y, F2 b1 b2 c (fun y => b3 ⟨c, y⟩), k3, fun y => absurd c y⟩
    · obtain ⟨l, hl⟩ := lp_ex b1.1
      obtain ⟨mm, q1, q2, q3, q4⟩ := free_cand (D := D) (its := sIt z) (fk := fkI fks hh) (n := hn fks z hh) (st := sqA us 0 l) (tl := tlL us l) (by omega)
      have hu1 := b1.1
      exact ⟨1 + (us.length + 13 - 1) / 13, _, by omega, by omega, by omega, fun y => absurd y c, fun _ => rfl, ⟨_, _, cd_sh (sqL_sg _) tl_ok.1 tl_ok.2⟩, q3, fun y => by omega, fun _ => by omega, F3 b1 b2 c l mm hl q1 q2 q3 q4, fun y => absurd y c, fun _ => ⟨l, mm, hl, q1, q2, rfl, q3, q4⟩⟩
  clear F2 F3 C2
  rw [W10, k1]
  obtain ⟨hnl, -⟩ := shX_nm W6
  obtain ⟨e, he⟩ := enE_ex (fun s => o1 D (plS D (chI N D (sIt z) hh) s)) ((chI N D (sIt z) hh).length * 16 * hc D)
  obtain ⟨s, hs⟩ := stE_ex (fun s => o1 D (plS D (chI N D (sIt z) hh) s)) e W ((chI N D (sIt z) hh).length * 16 * hc D)
  have R := mk_refA (K := K) (dr := dr) (T := mkT T1 (nI us.length) f g s1 t1) (us := us) (nm := nm) (by omega) hN1 hN (mkT_tv v1 _ _ _ _ _) p1 hdr W1 W2 he hs rfl rfl rfl rfl W11 hul hult W12 hnl
  have Q := fun p => mk_clsA (K := K) (dr := dr) (p := p) (T := T1.u_v_taped 0) (S := mkQ S1 (nI us.length) fC gC (b01 (brP us))) (us := us) (nm := nm) (B := brP us) (by omega) hiv v hdr W1 W2 he hs rfl rfl rfl hul b1.1 rfl rfl k2 hult ⟨W4, W5⟩ hnl W13 W14
  have hgeo := here_geo hN v
  have hC := (hd_facts v.2.2.2.1 hN).1
  have hf := hd_facts v.2.2.2.1 hN
  by_cases room : cntF (ent D) (hk N D) 2 < exX (rnF (fun s => o1 D (plS D (chI N D (sIt z) hh) s)) e s) W ((chI N D (sIt z) hh).length * 16 * hc D) (16 * hc D) + dr
  · obtain ⟨n', f', g', e1⟩ := R.1 room
    obtain ⟨n'', f'', e2⟩ := (Q 0).1 room
    rw [e1, e2]
    exact Or.inr ⟨3, _, _, _, _, rfl, rfl, by decide, rfl, m, D, E, by omega, ivA_made (ivA_thr hiv 3), htp⟩
  have R2 := R.2 room
  have Q2 := fun p => (Q p).2 room
  clear R Q
  obtain ⟨o, oz, oy⟩ : ∃ o, (dr = 0 → o = 0) ∧ (dr = 1 → frst (ent D) 2 o ∧ o < hk N D + 2) := by
    rcases hdr with q | q
    · exact ⟨0, fun _ => rfl, fun y => by omega⟩
    · obtain ⟨x, x1, x2⟩ := frst_ex (e := ent D) (hk N D) 2 (by clear v v1 hiv R2 Q2; omega)
      exact ⟨x, fun y => by omega, fun _ => ⟨x1, by omega⟩⟩
  have hcl := chI_cl v.2.2.2.2.2.2.1 hhl
  generalize hX : exX (rnF (fun s => o1 D (plS D (chI N D (sIt z) hh) s)) e s) W ((chI N D (sIt z) hh).length * 16 * hc D) (16 * hc D) = X at *
  obtain ⟨xs, x1, x2⟩ := tkn_ex (N := N) (D := D) X (mkY dr o) (chI N D (sIt z) hh) (by
    clear v v1 hiv R2 Q2
    unfold mkY
    rcases hdr with q | q
    · rw [if_pos q]
      show X ≤ cntF (ent D) (hk N D) 2
      omega
    · rw [if_neg (by omega)]
      have := cntF_upd (e := ent D) (e' := fun y => lkV [(o, 268435455)] y (ent D y)) (x := o) (fun y y1 y2 => by
        show lkV [(o, 268435455)] y (ent D y) = 0
        rw [lkV, lkV, if_neg y1]; exact y2) (hk N D) 2
      split at this <;> omega) (fun y hy0 => by
    rcases lkV_or (y := y) (mkY dr o) (ent D y) with e | ⟨a, a1, a2, a3⟩
    · rw [e]; exact (hcl y hy0).2
    · rw [a3, (mkY_mem a1).2]; show (268435455 : Nat) ≠ 0; decide)
  obtain ⟨hp, hcc⟩ := mk_of (o := o) (xs := xs) hN1 hN v hdr W1 W2 he hs rfl rfl hX.symm x1 x2 oy
  generalize hb : rnF (fun s => o1 D (plS D (chI N D (sIt z) hh) s)) e s = b at *
  have ho : o < 65536 := by
    clear v v1 hiv R2 Q2
    rcases hdr with q | q
    · rw [oz q]; decide
    · have := (oy q).2; omega
  have hh0 : (if hh = 0 then 0 else begI D (sIt z) hh) < 65536 := by
    have := (ch_head (here_ch hN v)).2.2
    by_cases q : hh = 0
    · rw [if_pos q]; decide
    · rw [if_neg q]
      clear v v1 hiv R2 Q2
      generalize begI D (sIt z) hh = bb at *
      omega
  have hL32 : 2 ≤ (chI N D (sIt z) hh).length * 16 * hc D := by
    have : 1 * 16 * 2 ≤ (chI N D (sIt z) hh).length * 16 * hc D := Nat.mul_le_mul (Nat.mul_le_mul_right _ hgeo.1) (by clear v v1 hiv R2 Q2; omega)
    clear v v1 hiv R2 Q2
    omega
  have hb2 : hh = 0 ∨ 2 ≤ b := by
    by_cases q : hh = 0
    · exact Or.inl q
    · rw [← hb]
      exact Or.inr (rn_dots (here_dots hN etr v (Nat.one_le_iff_ne_zero.mpr q)) he hs hL32 W1)
  obtain ⟨p, ff, zz, r1, r2, r3, r4, r5, r6, r7, r8⟩ := mk_tree (us := us) (nm := nm) etr v hp ho hh0 oz rfl hb2 b1 hult ⟨sx, sy, W6⟩ W8 W9 b2 W7
  obtain ⟨T2, t1', t2, t3, t4⟩ := R2 o xs oz oy x1 x2
  obtain ⟨S2, u1, u2, u3, u4⟩ := Q2 p o xs oz oy x1 x2 r4 r6 r7 r8
  clear R2 Q2
  rw [t1', u1]
  unfold f_Mo_make_755 f_Mo_changed
  rw [q_l, q_b]
  have hivN := mk_inv (S' := S2) (T' := T2.u_v_looked 0) (nm := nm) (us := us) hiv etr v hp ho hh0 hcc u3 t3 t2 u2 rfl u4 (by clear v v1 hiv; omega)
  obtain ⟨T3, l1, l2, l3⟩ := ivA_lookM (K := K) (by clear v v1 hiv hivN; omega) hivN
  obtain ⟨G3, S3, d1, d2, d3, d4, d5, d6⟩ := ivA_lookC (K := K) (by clear v v1 hiv hivN; omega) hivN
  have hiv3 := ivA_after hivN l2 l3 d2 d3 d4 d5 d6
  have etr' : trE N T2.v_disk = .ok (ff, zz) := by rw [t2]; exact r1
  obtain ⟨h3, v3⟩ := ivA_tv hiv3 l3 d5 d6 etr'
  have hz3 := v3.2.2.2.2.2.1.1
  have hh3 : h3 = hh := by
    have e1 : S3.v_Vt_here = nI h3 := v3.2.2.1.2.2.1
    have e2 : S3.v_Vt_here = S2.v_Vt_here := coV_v_Vt_here d2
    have e3 : S2.v_Vt_here = nI hh := (congrArg (fun x => x.2.1.1) u3).trans v.2.2.1.2.2.1
    have l3 := v3.2.2.1.1
    have l4 := hz3.2.1
    rw [e2, e3] at e1
    clear v v1 hiv hivN hiv3 v3
    exact ((nI_eq (by omega) (by omega)).mp e1).symm
  have hfh := qM_here (K := K) (by clear v v1 hiv hivN hiv3 v3; omega) hN v3
  rw [hh3] at hfh
  rw [l1, q_b, hfh, q_c]
  have hkR := (v3.1.1.2.2.2.2.1 hh (by rw [v3.1.1.2.2.2.2.2.1, ← hh3]; exact v3.2.2.1.1)).1
  rw [r3] at hkR
  have hrm := v3.1.1.2.1
  have hzl := r2.1
  have hpl := r2.2.1
  have hl42 := hz3.2.1
  have fin := qM_772 (K := K) (hh := hh) (c := p - fkI fks hh) (fk := fkI fks hh) (W := W) (b := b) (sl := fun k => isl (itr (sIt zz) (fkI fks hh + k))) (T := T3) (by clear v v1 hiv hivN hiv3 v3; omega) (by clear v v1 hiv hivN hiv3 v3; omega) (by clear v v1 hiv hivN hiv3 v3; omega) W1 (by
    have := hp.2.2.2.1.2.2.2.2
    have q1 := (cl_room hp.1.1 hN hp.2.1.2.2 (mk_cl hp).2.2.1).1
    clear v v1 hiv hivN hiv3 v3
    omega) hkR (fun k hk0 => ?_) (fun k hk0 => ?_) ?_
  · rw [fin]
    refine Or.inl ⟨_, _, _, _, rfl, rfl, (coL_v_thrown l2).trans t4, m + (W + 3), _, _, by clear v v1 hiv hivN hiv3 v3; omega, ivA_t ⟨baA_co hivN.1 rfl l2, hivN.2.1, Or.inr l3, Or.inl u4⟩, (congrArg (fun x => x.2.2.2.2) u3).trans htp⟩
  · have q1 : 1 ≤ fkI fks hh + k := by have := hkd.1; clear v v1 hiv hivN hiv3 v3; omega
    have q2 : fkI fks hh + k < (sIt zz).length := by clear v v1 hiv hivN hiv3 v3; omega
    have := (hz3.2.2.2.2 _ q1 q2).2.1
    exact ⟨(hrm.2.2.1 _ q1 q2).2.1, by show isl (itr (sIt zz) (fkI fks hh + k)) < 2 ^ 31; clear v v1 hiv hivN hiv3 v3; omega⟩
  · have q1 : fkI fks hh + k < p := by clear v v1 hiv hivN hiv3 v3; omega
    have q2 := r2.2.2.2.1 (fkI fks hh + k) (by clear v v1 hiv hivN hiv3 v3; omega)
    have q3 : shf p (fkI fks hh + k) = fkI fks hh + k := if_pos q1
    rw [q3] at q2
    show isl (itr (sIt zz) (fkI fks hh + k)) < b
    rw [q2]
    exact r7 _ (Nat.le_add_right _ _) q1
  · have q1 : fkI fks hh + (p - fkI fks hh) = p := by clear v v1 hiv hivN hiv3 v3; omega
    show isl (itr (sIt zz) (fkI fks hh + (p - fkI fks hh))) = b + W - 1
    rw [q1, r2.2.2.2.2.1]
