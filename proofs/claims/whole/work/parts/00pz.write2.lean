theorem app_pre {K N t m hh j n : Nat} {D E : Nat → Int32} {fks : List Nat} {z : SS} {G : CG} {S : CS} {T : MS} {sv tp : Nat → Int32} {y3 y4 : Int32} (hK : 20000 + n ≤ K) (h : ivA N t m D E G S T) (v : tv N m D E fks z hh G S T) (hx0 : T.v_thrown = 0) (j2 : 1 ≤ j) (j1 : j < (sIt z).length) (j3 : ipa (itr (sIt z) j) = hh) (d : ¬ isDr D (sIt z) j) (hn : n ≤ 400000) (htp : T.v_tape = tp) (hsv : (y3 = 0 ∧ ∀ i, i < n → sv i = wb (gP y4 i)) ∨ (¬ y3 = 0 ∧ n ≤ 4096 ∧ ∀ i, i < n → sv i = vp_nar .byte (tp i))) : (f_Vt_lengthen K G S (nI j) (nI n) = some (.error 3, G.made 1 6, S) ∧ f_Mo_append K T (nI j) (nI n) y3 y4 = some (0, T.u_v_thrown 4)) ∨ (∃ xs s S2 T2, tkn N D xs [] (chI N D (sIt z) j) ∧ ((chI N D (sIt z) j ++ xs).Nodup ∧ (∀ y ∈ chI N D (sIt z) j ++ xs, isCl N D y) ∧ (chI N D (sIt z) j ++ xs).length < N / 2 + 2 ∧ s + n ≤ (chI N D (sIt z) j ++ xs).length * (512 * hc D) ∧ s + n < 2 ^ 24) ∧ (f_Vt_lengthen K G S (nI j) (nI n) = some (.ok (nI s), G, S2) ∧ S2.w_Dk_bytes = st (grN D (isp (itr (sIt z) j)) xs E (chI N D (sIt z) j)) (isp (itr (sIt z) j) + 28) (s + n) 4 ∧ S2.v_Ed_roadLength = nI (chI N D (sIt z) j ++ xs).length ∧ (∀ q, q < (chI N D (sIt z) j ++ xs).length → S2.w_Ed_road q = nI ((chI N D (sIt z) j ++ xs).getD q 0)) ∧ (S2.v_Tb_cluster = nI (hc D) ∧ S2.v_Tb_start = nI (ha D)) ∧ coE S2 = coE S ∧ S2.v_Vt_stale = 1) ∧ (f_Mo_append K T (nI j) (nI n) y3 y4 = some (nI (s + n), T2) ∧ T2.v_disk = st (wrN (grN D (isp (itr (sIt z) j)) xs D (chI N D (sIt z) j)) (fun i => psF D (chI N D (sIt z) j ++ xs) (s + i)) sv n) (isp (itr (sIt z) j) + 28) (s + n) 4 ∧ coN T2 = coN T ∧ T2.v_looked = 0 ∧ T2.v_thrown = 0) ∧ G.n = N) := by
  have hN := h.1.1.2.1
  have hN1 := h.1.1.1
  obtain ⟨tt, cS⟩ := v.2.1.2.2.1
  have hlen : j < 4200 := Nat.lt_of_lt_of_le j1 v.2.2.2.2.2.1.1.2.1
  have hdn : ¬ o1 D (isp (itr (sIt z) j) + 11) / 16 % 2 = 1 := fun y => d (Or.inr y)
  have hat := (v.1.1.2.1.2.2.1 j j2 j1).1
  have hsp := (v.2.2.2.2.2.1.1.2.2.2.2 j j2 j1).1
  have ho := v.2.2.2.1
  have hTb := v.2.2.2.2.1
  have hff := hd_facts ho hN
  have hM := v.1.1.1
  have hcI := v.2.1.2.1
  have hSI := v.2.2.2.2.2.2.1
  obtain ⟨i1, i2, i3, i4⟩ := item_pos hN v j2 j1 j3 (k := 0) (by decide)
  obtain ⟨s1, s2, s3, s4, s5, s6, s7⟩ := file_ch hN v j2 j1 hdn
  have hsz : szI D (sIt z) j = o4 D (isp (itr (sIt z) j) + 28) := (if_neg (show ¬ j = 0 from Nat.one_le_iff_ne_zero.mp j2)).trans (if_neg hdn)
  have hmp : mp0 D (isp (itr (sIt z) j)) = isp (itr (sIt z) j) := mp0_id ho hN i1
  have hsI : spI (mp0 D) (sIt z) j = isp (itr (sIt z) j) := (if_neg (show ¬ j = 0 from Nat.one_le_iff_ne_zero.mp j2)).trans hmp
  have hbg : begI D (sIt z) j = fc D (isp (itr (sIt z) j)) := if_neg (show ¬ j = 0 from Nat.one_le_iff_ne_zero.mp j2)
  have hcc := fun y hy => (chI_cl hSI j1 y hy)
  have hH := ((agF_A hN1 hN h.1.2.2.2.2.2.2.1.1).2 ho).1
  have hC := hff.1
  have hG := cS.2.2.2.2.1.1
  have hrc := cS.1
  have hlp := cS.2.2.2.2.1.2.2.1
  clear v hSI cS
  have hle : o4 D (isp (itr (sIt z) j) + 28) ≤ (chI N D (sIt z) j).length * (512 * hc D) := by rw [s7]; exact le_ceil (by omega)
  have hle2 : (chI N D (sIt z) j).length * (512 * hc D) ≤ 514 * 4096 := Nat.mul_le_mul s2 (by omega)
  have hs24 : o4 D (isp (itr (sIt z) j) + 28) + n < 2 ^ 24 := by omega
  have hcl : ∀ y ∈ chI N D (sIt z) j, isCl N D y := fun y hy0 => (hcc y hy0).1
  obtain ⟨a1, a2⟩ := qM_app (K := K) (n := n) (sv := sv) (tp := tp) (y3 := y3) (y4 := y4) (by omega) hN ho hTb hM hx0 hlen hat i1 hsp rfl s4 hcl s5 s2 s7 hs24 htp hsv
  obtain ⟨b1, b2⟩ := qC_vlen (K := K) (n := n) (by omega) hN1 hN ho hH hcI hG hrc hlp j1 hsI hsp hsz (by rw [hbg]; exact s4) hcl (by rw [hbg]; exact s5) s7 hs24
  by_cases w : cntF (ent D) (hk N D) 2 < (o4 D (isp (itr (sIt z) j) + 28) + n + 512 * hc D - 1) / (512 * hc D) - (chI N D (sIt z) j).length
  · exact Or.inl ⟨b1 w, a1 w⟩
  obtain ⟨xs, x1, x2⟩ := tkn_ex (N := N) (D := D) ((o4 D (isp (itr (sIt z) j) + 28) + n + 512 * hc D - 1) / (512 * hc D) - (chI N D (sIt z) j).length) [] (chI N D (sIt z) j) (Nat.le_of_not_lt w) (fun y hy0 => (hcc y hy0).2)
  have hmono : (chI N D (sIt z) j).length ≤ (o4 D (isp (itr (sIt z) j) + 28) + n + 512 * hc D - 1) / (512 * hc D) := by rw [s7]; exact ceil_le (by omega) (Nat.le_add_right _ _)
  obtain ⟨t1, t2⟩ := tkn_free xs [] _ x2 (fun a ha1 => by cases ha1)
  have hnd : (chI N D (sIt z) j ++ xs).Nodup := List.nodup_append.mpr ⟨s6, t2, fun a ha1 b hb e => (hcc a ha1).2 (by rw [e]; exact (t1 b hb).2.1)⟩
  have hcs : ∀ y ∈ chI N D (sIt z) j ++ xs, isCl N D y := fun y hy0 => (List.mem_append.mp hy0).elim (hcl y) (fun g => (t1 y g).1)
  have hl2 : (chI N D (sIt z) j ++ xs).length = (chI N D (sIt z) j).length + xs.length := List.length_append
  have hlk := nd_cl hnd hcs
  have hsum : (chI N D (sIt z) j).length + xs.length = (o4 D (isp (itr (sIt z) j) + 28) + n + 512 * hc D - 1) / (512 * hc D) := by omega
  obtain ⟨S2, c1, c2, c3, c4, c5, c6, c7⟩ := b2 xs x2 hsum (by omega) (by omega)
  obtain ⟨T2, e1, e2, e3, e4, e5⟩ := a2 xs x2 hsum (by omega) (by omega)
  exact Or.inr ⟨xs, _, S2, T2, x2, ⟨hnd, hcs, by omega, by rw [hl2, hsum]; exact le_ceil (by omega), hs24⟩, ⟨c1, c2, c3, c4, c5, c6, c7⟩, ⟨e1, e2, e3, e4, e5⟩, hG.1⟩
abbrev cod4 (e : Nat) : Nat := if e = 0 then 3 else if e = 3 then 4 else e
theorem opA_write {K N t m : Nat} {D E : Nat → Int32} {G : CG} {S : CS} {T : MS} (hK : 30000 ≤ K) (h : ivA N t m D E G S T) (hm1 : m + 140 ≤ 4000) (a : Int32) : ∃ n, n ≤ 4096 ∧ S.v_Tp_used = nI n ∧ rsl cod4 (fun e => e ≤ 3) (f_Vt_write K G S a) (f_Mo_write K T a) (fun G' S' T' => ∃ m' D' E', m' ≤ m + (n / 32 + 3) ∧ ivA N (t + 1) m' D' E' G' S' T' ∧ S'.v_Tp_used = nI 0) := by
  obtain ⟨n, n1, n2, n3, n4, n5, n6⟩ := h.1.2.2.2.1
  refine ⟨n, n1, n2, ?_⟩
  have h' : ivA N t m D E G (S.u_v_Tp_used 0) (T.u_v_taped 0) := by
    obtain ⟨⟨h0, h1, h2, -, h5, h6, h7, h8, h9⟩, hg, hl, hc0⟩ := h
    exact ⟨⟨h0, h1, h2, ⟨0, by omega, rfl, rfl, fun j hj => absurd hj (Nat.not_lt_zero _), n5, n6⟩, h5, h6, h7, h8, h9⟩, hg, hl, hc0⟩
  obtain ⟨G1, S1, T1, c1, m1, p1, p2, p3, p4, hiv, hco, hcl, p5⟩ := preA (K := K) (by omega) h'
  have hN1 := h.1.1.1
  have hN := h.1.1.2.1
  have htp : S1.v_Tp_used = nI 0 := (coV_v_Tp_used hco : _ = (S.u_v_Tp_used 0).v_Tp_used)
  have htb : S1.w_Tp_bytes = S.w_Tp_bytes := (coV_w_Tp_bytes hco : _ = (S.u_v_Tp_used 0).w_Tp_bytes)
  have htt : T1.v_tape = T.v_tape := (coL_v_tape hcl : _ = ((T.u_v_taped 0).u_v_thrown 0).v_tape)
  have same : ∀ x : Int32, ∃ m' D' E', m' ≤ m + (n / 32 + 3) ∧ ivA N (t + 1) m' D' E' (G1.made 1 6) S1 (T1.u_v_thrown x) ∧ S1.v_Tp_used = nI 0 := fun x => ⟨m, D, E, by omega, ivA_made (ivA_thr hiv x), htp⟩
  have nf := fun bb => qM_noFile (t := t) (m := m) (E := E) (G := G1) (S := S1) (T := T.u_v_taped 0) (by omega) hN m1 p1 p2 p3 a bb
  have href : ∀ x : Int32, f_Mo_noFile K (T.u_v_taped 0) a 0 = some (1, T1.u_v_thrown x) → f_Mo_write K T a = some (0, T1.u_v_thrown x) := fun x hx => by
    unfold f_Mo_write
    rw [q_l, q_l (T.u_v_taped 0), hx, q_c, if_neg (show ¬ (1 : Int32) = 0 by decide)]
  unfold f_Vt_write f_Tp_useUp f_Vt_write_13
  rw [q_l, q_l (S.u_v_Tp_used 0), q_c, look_n c1, n2]
  by_cases w : flt N D = 0
  rotate_left
  · rw [want_no p4 w, a_er, href 1 ((nf 0).1 w)]
    exact Or.inr ⟨1, _, _, _, _, rfl, rfl, by decide, rfl, same 1⟩
  obtain ⟨fks, z, hh, etr, v⟩ := p5 w
  rw [want_ok p4 w, a_ok]
  unfold f_Vt_write_16 f_Vt_fileHere
  rcases itemHere (K := K) v a with ⟨k, hk, rfl, e⟩ | ⟨g, e⟩
  rotate_left
  · rw [e, a_er, a_er, href 2 (((nf 0).2 fks z hh w v).1 g)]
    exact Or.inr ⟨2, _, _, _, _, rfl, rfl, by decide, rfl, same 2⟩
  have nk := ((nf 0).2 fks z hh w v).2 k hk rfl
  have hkl : hh < fks.length := by rw [v.1.1.2.2.2.2.2.1]; exact v.2.2.1.1
  obtain ⟨j1, j2, j3⟩ := hn_lt v.2.2.2.2.2.2.2.1 hkl hk
  have hit0 := qM_item (K := K) (by omega) hN v hk
  clear nf
  generalize hj : fkI fks hh + k = j at *
  obtain ⟨tt, cS⟩ := v.2.1.2.2.1
  rw [e, a_ok]
  unfold f_Vt_fileHere_5
  rw [qC_isDir cS.2.2.2.2.1.1 cS.1 cS.2.2.2.2.1.2.2.1 j1, q_c]
  by_cases d : isDr D (sIt z) j
  · rw [b01_t d, if_neg (show ¬ nI 1 = 0 by decide), a_er, href 3 (nk.1 (Or.inl d))]
    exact Or.inr ⟨0, _, _, _, _, rfl, rfl, by decide, rfl, same 3⟩
  rw [b01_f d, if_pos (show nI 0 = 0 from rfl), a_ok]
  unfold f_Vt_write_21 f_Vt_write_28
  have hmo : f_Mo_write K T (nI k) = lf_c (f_Mo_append K T1 (nI j) (nI n) 1 0) (fun r S => some (r, S)) := by
    unfold f_Mo_write
    rw [q_l, q_l (T.u_v_taped 0), nk.2 d rfl, q_c, if_pos rfl, hit0, q_c, n3]
  rw [hmo]
  rcases app_pre (K := K) (n := n) (sv := fun i => vp_nar .byte (T.v_tape i)) (tp := T.v_tape) (y3 := 1) (y4 := 0) (by clear v cS; omega) hiv v p1 j2 j1 j3 d (by clear v cS; omega) htt (Or.inr ⟨by decide, n1, fun i _ => rfl⟩) with ⟨u1, u2⟩ | ⟨xs, s, S2, T2, x1, ⟨x2, x3, x4, x5, x6⟩, ⟨u1, u2, u3, u4, u5, u6, u7⟩, ⟨w1, w2, w3, w4, w5⟩, hGn⟩
  · rw [u1, a_er, u2, q_c]
    exact Or.inr ⟨3, _, _, _, _, rfl, rfl, by decide, rfl, same 4⟩
  have ho := v.2.2.2.1
  have hC := (hd_facts ho hN).1
  have hb2 : S2.w_Tp_bytes = S.w_Tp_bytes := (congrArg (fun x => x.2.2.1) u6).trans htb
  have hi4 := (item_pos hN v j2 j1 j3 (k := 0) (by decide)).2.2.2
  obtain ⟨y, y1, y2⟩ := bhd_0 (K := K) (s := s) (S := S2) hGn ho hN x3 (by clear v cS; omega) x4 u5.1 u5.2 u3 u4
  have hbb := qC_wbytes (K := K) (s := s) (n := n) hGn ho hN x3 x4 x5 n1 S2.w_Dk_bytes (fun i => wb (S.w_Tp_bytes i &&& 255)) S.w_Tp_bytes (fun i _ => rfl) n 0 K S2 y (by clear v cS; omega) (by clear v cS; omega) rfl u5.1 u5.2 u3 u4 hb2 y2
  have hbb : f_Vt_write_46 K K (nI n) (nI s) y 0 G1 S2 = _ := hbb
  rw [u1, a_ok, y1, q_c, hbb, w1, q_c]
  have hub : ∀ i, i < n → ub (wb (S.w_Tp_bytes i &&& 255)) = ub (vp_nar .byte (T.v_tape i)) := fun i hi => by
    rw [ub_b8, ub_and, ub_nI, n4 i hi, vp_nar_byte, ← pk_vb, ub_b8]
    exact Nat.mod_eq_of_lt (Nat.mod_lt _ (by decide))
  have hfin := ivA_app (svM := fun i => vp_nar .byte (T.v_tape i)) (svC := fun i => wb (S.w_Tp_bytes i &&& 255)) (S' := S2.u_w_Dk_bytes (wrN S2.w_Dk_bytes (fun i => psF D (chI N D (sIt z) j ++ xs) (s + i)) (fun i => wb (S.w_Tp_bytes i &&& 255)) n)) (T' := T2) (isp (itr (sIt z) j) / 32 :: (List.range (n / 32 + 2)).map (fun k => psF D (chI N D (sIt z) j ++ xs) (32 * (s / 32 + k)) / 32)) hiv etr v j2 j1 j3 d x1 x5 hub u6 w3 w2 (by rw [← u2]; rfl) w4 u7 List.mem_cons_self (fun w g1 g2 g3 => by
    obtain ⟨i, i1, i2⟩ := g3
    exact absurd (List.mem_cons_of_mem _ (by rw [← i2]; exact capW hC i1)) g2) (by
    rw [List.length_cons, List.length_map, List.length_range]
    clear v cS
    omega)
  rw [List.length_cons, List.length_map, List.length_range] at hfin
  exact Or.inl ⟨_, _, _, _, rfl, rfl, w5, m + (n / 32 + 3), _, _, Nat.le_refl _, ivA_t hfin, (congrArg (fun x => x.2.2.2.2) u6).trans htp⟩
theorem opA_grow {K N t m : Nat} {D E : Nat → Int32} {G : CG} {S : CS} {T : MS} (hK : 500000 ≤ K) (h : ivA N t m D E G S T) (hm1 : m + 3 ≤ 4000) (a b c : Int32) : rsl cod4 (fun e => e ≤ 3) (f_Vt_grow K G S a b c) (f_Mo_grow K T a b c) (fun G' S' T' => ∃ m' D' E', m' ≤ m + 3 ∧ ivA N (t + 1) m' D' E' G' S' T' ∧ S'.v_Tp_used = S.v_Tp_used) := by
  obtain ⟨G1, S1, T1, c1, m1, p1, p2, p3, p4, hiv, hco, hcl, p5⟩ := preA (K := K) (by omega) h
  have hN1 := h.1.1.1
  have hN := h.1.1.2.1
  have htp : S1.v_Tp_used = S.v_Tp_used := coV_v_Tp_used hco
  have same : ∀ x : Int32, ∃ m' D' E', m' ≤ m + 3 ∧ ivA N (t + 1) m' D' E' (G1.made 1 6) S1 (T1.u_v_thrown x) ∧ S1.v_Tp_used = S.v_Tp_used := fun x => ⟨m, D, E, by omega, ivA_made (ivA_thr hiv x), htp⟩
  have nf := fun bb => qM_noFile (t := t) (m := m) (E := E) (G := G1) (S := S1) (T := T) (by omega) hN m1 p1 p2 p3 a bb
  have href : ∀ x : Int32, (∀ bb, f_Mo_noFile K T a bb = some (1, T1.u_v_thrown x)) → f_Mo_grow K T a b c = some (0, T1.u_v_thrown x) := fun x hx => by
    unfold f_Mo_grow f_Mo_grow_13 f_Mo_grow_18
    rw [hx, hx, q_c, if_neg (show ¬ (1 : Int32) = 0 by decide)]
    split
    · rfl
    · split <;> rfl
  unfold f_Vt_grow f_Vt_grow_5
  rw [look_n c1]
  by_cases w : flt N D = 0
  rotate_left
  · rw [want_no p4 w, a_er, href 1 (fun bb => (nf bb).1 w)]
    exact Or.inr ⟨1, _, _, _, _, rfl, rfl, by decide, rfl, same 1⟩
  obtain ⟨fks, z, hh, etr, v⟩ := p5 w
  rw [want_ok p4 w, a_ok]
  unfold f_Vt_grow_8 f_Vt_fileHere
  rcases itemHere (K := K) v a with ⟨k, hk, rfl, e⟩ | ⟨g, e⟩
  rotate_left
  · rw [e, a_er, a_er, href 2 (fun bb => ((nf bb).2 fks z hh w v).1 g)]
    exact Or.inr ⟨2, _, _, _, _, rfl, rfl, by decide, rfl, same 2⟩
  have nk := fun bb => ((nf bb).2 fks z hh w v).2 k hk rfl
  have hkl : hh < fks.length := by rw [v.1.1.2.2.2.2.2.1]; exact v.2.2.1.1
  obtain ⟨j1, j2, j3⟩ := hn_lt v.2.2.2.2.2.2.2.1 hkl hk
  have hit0 := qM_item (K := K) (by omega) hN v hk
  clear nf
  generalize hj : fkI fks hh + k = j at *
  obtain ⟨tt, cS⟩ := v.2.1.2.2.1
  rw [e, a_ok]
  unfold f_Vt_fileHere_5
  rw [qC_isDir cS.2.2.2.2.1.1 cS.1 cS.2.2.2.2.1.2.2.1 j1, q_c]
  by_cases d : isDr D (sIt z) j
  · rw [b01_t d, if_neg (show ¬ nI 1 = 0 by decide), a_er, href 3 (fun bb => (nk bb).1 (Or.inl d))]
    exact Or.inr ⟨0, _, _, _, _, rfl, rfl, by decide, rfl, same 3⟩
  rw [b01_f d, if_pos (show nI 0 = 0 from rfl), a_ok]
  unfold f_Vt_grow_13 f_Vt_grow_26
  have hbad : f_Mo_noFile K T (nI k) 1 = some (1, T1.u_v_thrown 3) := (nk 1).1 (Or.inr (by decide))
  by_cases b0 : b < 0
  · unfold f_Mo_grow f_Mo_grow_13 f_Mo_grow_18
    rw [if_pos b0, if_pos b0, hbad, q_c, if_neg (by decide)]
    exact Or.inr ⟨0, _, _, _, _, rfl, rfl, by decide, rfl, same 3⟩
  by_cases b1 : b ≤ 400000
  rotate_left
  · unfold f_Mo_grow f_Mo_grow_13 f_Mo_grow_18
    rw [if_neg b0, if_neg b0, if_neg b1, if_neg b1, hbad, q_c, if_neg (by decide)]
    exact Or.inr ⟨0, _, _, _, _, rfl, rfl, by decide, rfl, same 3⟩
  obtain ⟨n, n1, rfl⟩ := nI_of b0
  have n2 : n ≤ 400000 := Nat.le_of_not_lt fun y => nI_ge (a := 400000) y n1 b1
  have hmo : f_Mo_grow K T (nI k) (nI n) c = lf_c (f_Mo_append K T1 (nI j) (nI n) 0 c) (fun r S => some (r, S)) := by
    unfold f_Mo_grow f_Mo_grow_18
    rw [if_neg b0, if_pos b1, (nk 0).2 d rfl, q_c, if_pos rfl, hit0, q_c]
  rw [if_neg b0, if_pos b1, hmo]
  unfold f_Vt_grow_44
  rcases app_pre (K := K) (n := n) (sv := fun i => wb (gP c i)) (tp := T1.v_tape) (y3 := 0) (y4 := c) (by clear v cS; omega) hiv v p1 j2 j1 j3 d n2 rfl (Or.inl ⟨rfl, fun i _ => rfl⟩) with ⟨u1, u2⟩ | ⟨xs, s, S2, T2, x1, ⟨x2, x3, x4, x5, x6⟩, ⟨u1, u2, u3, u4, u5, u6, u7⟩, ⟨w1, w2, w3, w4, w5⟩, hGn⟩
  · rw [u1, a_er, u2, q_c]
    exact Or.inr ⟨3, _, _, _, _, rfl, rfl, by decide, rfl, same 4⟩
  have ho := v.2.2.2.1
  have hi4 := (item_pos hN v j2 j1 j3 (k := 0) (by decide)).2.2.2
  obtain ⟨y, y1, y2⟩ := bhd_0 (K := K) (s := s) (S := S2) hGn ho hN x3 (by clear v cS; omega) x4 u5.1 u5.2 u3 u4
  have hbb := qC_gbytes (K := K) (s := s) (n := n) hGn ho hN x3 x4 x5 S2.w_Dk_bytes (fun i => wb (gP c i)) c (fun i _ => rfl) n 0 K S2 y (by clear v cS; omega) (by clear v cS; omega) rfl u5.1 u5.2 u3 u4 y2
  have hbb : f_Vt_grow_62 K K (nI n) c (nI s) y 0 G1 S2 = _ := hbb
  rw [u1, a_ok, y1, q_c, hbb, w1, q_c]
  have hfin := ivA_app (svM := fun i => wb (gP c i)) (svC := fun i => wb (gP c i)) (S' := S2.u_w_Dk_bytes (wrN S2.w_Dk_bytes (fun i => psF D (chI N D (sIt z) j ++ xs) (s + i)) (fun i => wb (gP c i)) n)) (T' := T2) [isp (itr (sIt z) j) / 32, psF D (chI N D (sIt z) j ++ xs) s / 32, psF D (chI N D (sIt z) j ++ xs) (s + n - 1) / 32] hiv etr v j2 j1 j3 d x1 x5 (fun _ _ => rfl) u6 w3 w2 (by rw [← u2]; rfl) w4 u7 List.mem_cons_self (fun w g1 g2 g3 => by
    obtain ⟨i, i1, i2⟩ := g3
    rw [w2]
    exact capG ho hN x3 x2 x5 x6 (fun _ _ => rfl) hi4 i1 i2 g2) hm1
  exact Or.inl ⟨_, _, _, _, rfl, rfl, w5, m + 3, _, _, Nat.le_refl _, ivA_t hfin, (congrArg (fun x => x.2.2.2.2) u6).trans htp⟩
