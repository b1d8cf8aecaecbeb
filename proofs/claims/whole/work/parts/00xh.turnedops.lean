/-! kind, fault, byteAt once more, with the tape; the calls of a turned volume that change nothing. -/
theorem opX_kind {K N t m : Nat} {D E : Nat → Int32} {G : CG} {S : CS} {T : MS} (hK : 20000 ≤ K) (h : ivA N t m D E G S T) : ∃ r G' S' T', f_Vt_kind K G S = some (r, G', S') ∧ f_Mo_kind K T = some (r, T') ∧ ivA N t m D E G' S' T' ∧ S'.v_Tp_used = S.v_Tp_used := by
  obtain ⟨G1, S1, c1, c2, c3, c4, c5, c6⟩ := ivA_lookC hK h
  have h1 := ivA_thr h 0
  obtain ⟨T1, m1, m2, m3⟩ := ivA_lookM hK h1
  obtain ⟨f1, f2, -⟩ := lkR_f m3
  refine ⟨nI (if flt N D = 1 then 0 else 1), G1, S1, T1, ?_, ?_, ivA_after h1 m2 m3 c2 c3 c4 c5 c6, coV_v_Tp_used c2⟩
  · unfold f_Vt_kind f_Vt_kind_4
    rw [c1]
    rfl
  · unfold f_Mo_kind
    rw [q_l, m1, q_b, if_pos (show T1.v_turned = 0 from (coL_v_turned m2).trans h1.1.2.2.2.2.2.1.1), f1]
    by_cases w : flt N D = 1
    · rw [if_pos w, w, if_pos (show nI 1 = 1 from rfl)]; rfl
    · rw [if_neg w, if_neg (fun y : nI (flt N D) = 1 => w ((nI_eq (b := 1) (by omega) (by decide)).mp y))]; rfl
theorem opX_fault {K N t m : Nat} {D E : Nat → Int32} {G : CG} {S : CS} {T : MS} (hK : 20000 ≤ K) (h : ivA N t m D E G S T) : ∃ r G' S' T', f_Vt_fault K G S = some (r, G', S') ∧ f_Mo_fault K T = some (r, T') ∧ ivA N t m D E G' S' T' ∧ S'.v_Tp_used = S.v_Tp_used := by
  obtain ⟨G1, S1, c1, c2, c3, c4, c5, c6⟩ := ivA_lookC hK h
  have h1 := ivA_thr h 0
  obtain ⟨T1, m1, m2, m3⟩ := ivA_lookM hK h1
  obtain ⟨f1, f2, -⟩ := lkR_f m3
  refine ⟨nI (flt N D), G1, S1, T1, ?_, ?_, ivA_after h1 m2 m3 c2 c3 c4 c5 c6, coV_v_Tp_used c2⟩
  · unfold f_Vt_fault f_Vt_fault_4
    rw [c1]
    show (if nI (if flt N D = 1 then 0 else 1) = 2 then _ else some (S1.v_Vt_lastFault, G1, S1)) = _
    rw [if_neg (by split <;> decide), (lkC_f c6).1]
  · unfold f_Mo_fault
    rw [q_l, m1, q_b, if_pos (show T1.v_turned = 0 from (coL_v_turned m2).trans h1.1.2.2.2.2.2.1.1), f1]
theorem opX_byteAt {K N t m : Nat} {D E : Nat → Int32} {G : CG} {S : CS} {T : MS} (hK : 20000 ≤ K) (h : ivA N t m D E G S T) (a b : Int32) : ∃ r G' S' T', f_Vt_byteAt K G S a b = some (r, G', S') ∧ f_Mo_byteAt K T a b = some (r, T') ∧ ivA N t m D E G' S' T' ∧ S'.v_Tp_used = S.v_Tp_used := by
  have h1 := ivA_thr h 0
  have hbase := h.1
  obtain ⟨h0, ⟨hn, hs, -⟩, ⟨hD, hE⟩, -, -, ⟨htu, -, -⟩, ⟨hag, -, -, -⟩, -, -⟩ := hbase
  unfold f_Vt_byteAt f_Mo_byteAt f_Mo_byteAt_28
  rw [q_l]
  have hn1 : (T.u_v_thrown 0).v_n = nI N := hn
  rcases qC_hasD (K := K) (G := G) hs h0.2.1 a b with ⟨s, q, hs1, hq1, rfl, rfl, e⟩ | ⟨e, w⟩
  · obtain ⟨G1, S1, c1, c2, c3, c4, c5, c6⟩ := ivA_lookC hK h
    obtain ⟨T1, m1, m2, m3⟩ := ivA_lookM hK h1
    obtain ⟨f1, f2, f3⟩ := lkR_f m3
    have hfin := ivA_after h1 m2 m3 c2 c3 c4 c5 c6
    have hD1 : T1.v_disk = D := (coL_v_disk m2).trans hD
    have hE1 : S1.w_Dk_bytes = E := (coV_w_Dk_bytes c2).trans hE
    rw [e, q_c, if_neg (show ¬ (1 : Int32) = 0 by decide), c1, if_neg (nI_pos (by omega)), hn1, if_neg (nI_ge hs1 (by omega)), if_neg (nI_pos (by omega)), if_pos (show nI q ≤ 511 from nI_le (b := 511) (by omega) (by decide)), m1, q_b, if_pos (show T1.v_turned = 0 from (coL_v_turned m2).trans htu), f1]
    show ∃ r G' S' T', f_Vt_byteAt_18 K (nI s) (nI q) (nI (if flt N D = 1 then 0 else 1)) G1 S1 = some (r, G', S') ∧ _
    have eM : f_Mo_byteAt_140 K (nI s) (nI q) T1 = some (nI (o1 D (512 * s + q)), T1) := by
      unfold f_Mo_byteAt_140
      rw [show (512 : Int32) = nI 512 from rfl, pk_mul, nI_add, rM1 D hD1 (by omega), q_c]
    have eC : o1 E (512 * s + q) = o1 D (512 * s + q) → f_Vt_byteAt_55 K (nI s) (nI q) G1 S1 = some (nI (o1 D (512 * s + q)), G1, S1) := by
      intro y
      unfold f_Vt_byteAt_55 f_Vt_byteAt_60
      rw [if_neg (show ¬ (1 : Int32) = 0 by decide), show (512 : Int32) = nI 512 from rfl, pk_mul, nI_add, Nat.mul_comm s 512, rV1 E c3.1 hE1 h0.2.1 (by omega), q_c, y]
    unfold f_Vt_byteAt_18
    by_cases w : flt N D = 1
    · -- no volume
      rw [if_pos w, if_pos (show nI 0 = 0 from rfl), w, if_pos (show nI 1 = 1 from rfl), eM]
      have hno : ¬ hdOk N D := by
        intro ho
        unfold flt trE at w
        rw [cif_t ho] at w
        by_cases g2 : tabOk N D
        · rw [cif_t g2] at w
          unfold trS at w
          cases hx : scL N D 5000 0 [] z0 with
          | error e1 => rw [hx] at w; have := scL_err _ _ _ _ _ hx; have w : e1 = 1 := w; omega
          | ok x =>
            rw [hx, exb_o] at w
            by_cases y : stray N D (sTk x.2)
            · rw [cif_t y] at w; have w : (6 : Nat) = 1 := w; omega
            · rw [cif_f y] at w; have w : (0 : Nat) = 1 := w; omega
        · rw [cif_f g2] at w; have w : (2 : Nat) = 1 := w; omega
      have hfull : o1 E (512 * s + q) = o1 D (512 * s + q) := by
        rcases hag with y | ⟨-, y, -⟩
        · exact y _ (by omega)
        · exact absurd y hno
      rw [eC hfull]
      exact ⟨_, G1, S1, T1, rfl, rfl, hfin, coV_v_Tp_used c2⟩
    · have hM := f3 w
      have hcI := (lkC_f c6).2 w
      have ho : hdOk N D := Classical.byContradiction (fun g => w (by unfold flt trE; rw [cif_f g]))
      obtain ⟨hH, hA⟩ := (agF_A h0.1 h0.2.1 hag).2 ho
      have hf := hd_facts ho h0.2.1
      obtain ⟨e1, e2, e3, e4, e5, e6, e7⟩ := agH_n hH
      rw [if_neg w, if_neg (show ¬ nI 1 = 0 by decide), if_pos (show nI 1 = 1 from rfl), if_neg (fun y : nI (flt N D) = 1 => w ((nI_eq (b := 1) (by omega) (by decide)).mp y)), hM.2.2.2.2.2.2.2.1]
      unfold f_Tb_shows f_Tb_shows_16 f_Vt_byteAt_39
      rw [hcI.2.2.2.2.2.2.2.2.1, e6]
      by_cases y : s < ha D
      · have hsh : o1 E (512 * s + q) = o1 D (512 * s + q) := by
          rcases hag with z | ⟨-, -, z⟩
          · exact z _ (by omega)
          · exact z _ (by omega) (Or.inl (by omega))
        rw [if_pos (nI_lt y (by omega)), q_c, if_neg (show ¬ (1 : Int32) = 0 by decide), if_pos (nI_lt y (by omega)), eM, eC hsh]
        exact ⟨_, G1, S1, T1, rfl, rfl, hfin, coV_v_Tp_used c2⟩
      · have hx : (s - ha D) / hc D + 2 < 2 ^ 28 := by
          have := Nat.div_le_self (s - ha D) (hc D)
          omega
        have hcp : clOf D (512 * s + q) = (s - ha D) / hc D + 2 := by
          unfold clOf
          rw [show (512 * s + q) / 512 = s by omega]
        have ecl : nI s - nI (ha D) = nI (s - ha D) := pk_sub (by omega)
        have ediv : nI (s - ha D) / nI (hc D) = nI ((s - ha D) / hc D) := pk_div (by omega) (by omega) (by omega)
        rw [if_neg (nI_nlt (by omega) (by omega)), hcI.2.2.2.1, e1, if_pos (show 1 ≤ nI (hc D) from nI_le (a := 1) (by omega) (by omega)), q_g (nI_ne0 (by omega) (by omega)), ecl, ediv, show (2 : Int32) = nI 2 from rfl, nI_add, qC_nextOfX hcI hH ho h0.2.1 hx, q_c]
        rw [if_neg (nI_nlt (by omega) (by omega)), hM.2.2.1, q_g (nI_ne0 (by omega) (by omega)), q_l, ediv, nI_add, Nat.add_comm 2, qM_isCl' (k := hk N D) hM.2.2.2.2.2.2.2.2 (by omega) (by omega), q_c]
        unfold f_Mo_byteAt_138 f_Vt_byteAt_59
        by_cases v : isCl N D ((s - ha D) / hc D + 2)
        · have hent := ent_lt D ((s - ha D) / hc D + 2)
          rw [if_pos v, if_pos v, if_neg (show ¬ nI 1 = 0 by decide), qM_entry hM ho h0.2.1 (by omega), q_c]
          by_cases u : ent D ((s - ha D) / hc D + 2) = 0
          · rw [u, if_pos (show nI 0 = 0 from rfl), if_pos (show nI 0 = 0 from rfl), q_c, if_pos rfl, if_neg (show ¬ nI 1 = nI 2 by decide)]
            unfold f_Vt_byteAt_60
            rw [if_pos rfl]
            exact ⟨_, G1, S1, T1, rfl, rfl, hfin, coV_v_Tp_used c2⟩
          · have hsh : o1 E (512 * s + q) = o1 D (512 * s + q) := by
              rcases hag with z | ⟨-, -, z⟩
              · exact z _ (by omega)
              · exact z _ (by omega) (Or.inr (by rw [hcp]; exact ⟨v, u⟩))
            rw [if_neg (nI_ne0 (by omega) (by omega)), if_neg (nI_ne0 (by omega) (by omega)), q_c, if_neg (show ¬ (1 : Int32) = 0 by decide), eM, eC hsh]
            exact ⟨_, G1, S1, T1, rfl, rfl, hfin, coV_v_Tp_used c2⟩
        · rw [if_neg v, if_neg v, if_pos (show nI 0 = 0 from rfl), if_pos (show nI 0 = 0 from rfl), q_c, if_pos rfl, if_neg (show ¬ nI 1 = nI 2 by decide)]
          unfold f_Vt_byteAt_60
          rw [if_pos rfl]
          exact ⟨_, G1, S1, T1, rfl, rfl, hfin, coV_v_Tp_used c2⟩
  · rw [e, q_c, if_pos rfl]
    refine ⟨-1, G, S, T.u_v_thrown 0, rfl, ?_, h1, rfl⟩
    by_cases w1 : a < 0
    · rw [if_pos w1]
    rw [if_neg w1, hn1]
    by_cases w2 : nI N ≤ a
    · rw [if_pos w2]
    rw [if_neg w2]
    by_cases w3 : b < 0
    · rw [if_pos w3]
    rw [if_neg w3, if_neg (fun y : b ≤ 511 => by
      rcases w with w | w | w | w
      · exact w1 w
      · exact w2 w
      · exact w3 w
      · exact absurd (Int32.le_trans w y) (by decide))]
theorem ivB_tp {K N t m : Nat} {D E : Nat → Int32} {G : CG} {S : CS} {T : MS} (h : ivB K N t m D E G S T) {a b : Nat → Int32} {c : Int32} {a' b' : Nat → Int32} {c' d' : Int32} (ht : iv_tape (tpS S a b c) (tpT T a' b' c' d')) : ivB K N t m D E G (tpS S a b c) (tpT T a' b' c' d') := by
  obtain ⟨⟨⟨h0, h1, h2, -, h5, h6, h7, h8⟩, hg, hl, hc⟩, he⟩ := h
  exact ⟨⟨⟨h0, h1, h2, ht, h5, h6, h7, h8⟩, hg, hl, hc⟩, he⟩
theorem ivB_fl {K N t m : Nat} {D E : Nat → Int32} {G : CG} {S : CS} {T : MS} (h : ivB K N t m D E G S T) {a b : Nat → Int32} {c d : Int32} (ht : flR (flS S a b c) ((T.u_v_thrown 0).u_v_told d)) : ivB K N t m D E G (flS S a b c) ((T.u_v_thrown 0).u_v_told d) := by
  obtain ⟨⟨⟨h0, h1, h2, h4, -, h6, h7, h8⟩, hg, hl, hc⟩, he⟩ := h
  exact ⟨⟨⟨h0, h1, h2, h4, ht, h6, h7, h8⟩, hg, hl, hc⟩, he⟩
theorem tape_0 {S : CS} {T : MS} (h : iv_tape S T) : iv_tape (S.u_v_Tp_used 0) (T.u_v_taped 0) := by
  obtain ⟨n, n1, n2, n3, n4, n5, n6⟩ := h
  exact ⟨0, Nat.zero_le _, rfl, rfl, fun j hj => absurd hj (Nat.not_lt_zero _), n5, n6⟩
theorem ivB_t0 {K N t m : Nat} {D E : Nat → Int32} {G : CG} {S : CS} {T : MS} (h : ivB K N t m D E G S T) : ivB K N t m D E G (S.u_v_Tp_used 0) (T.u_v_taped 0) := by
  obtain ⟨⟨⟨h0, h1, h2, h4, h5, h6, h7, h8⟩, hg, hl, hc⟩, he⟩ := h
  exact ⟨⟨⟨h0, h1, h2, tape_0 h4, h5, h6, h7, h8⟩, hg, hl, hc⟩, he⟩
theorem ivA_t0 {N t m : Nat} {D E : Nat → Int32} {G : CG} {S : CS} {T : MS} (h : ivA N t m D E G S T) : ivA N t m D E G (S.u_v_Tp_used 0) (T.u_v_taped 0) := by
  obtain ⟨⟨h0, h1, h2, h4, h5, h6, h7, h8, h9⟩, hg, hl, hc0⟩ := h
  exact ⟨⟨h0, h1, h2, tape_0 h4, h5, h6, h7, h8, h9⟩, hg, hl, hc0⟩
theorem opB_feed {K N t m : Nat} {D E : Nat → Int32} {G : CG} {S : CS} {T : MS} (hK : 20000 ≤ K) (h : ivB K N t m D E G S T) (p0 p1 p2 p3 p4 : Int32) : ∃ S' T', f_Vt_feed K G S p0 p1 p2 p3 p4 = some S' ∧ f_Mo_feed K T p0 p1 p2 p3 p4 = some T' ∧ ivB K N (t + 1) m D E G S' T' ∧ S'.v_Tp_used = S.v_Tp_used := by
  obtain ⟨a, b, c, a', b', c', d', e1, e2, e3, e4⟩ := tp_feed (K := K) (G := G) (Nat.le_trans (by decide) hK) h.1.1.2.2.2.1 p0 p1 p2 p3 p4
  exact ⟨_, _, e1, e2, ivB_t (ivB_tp h e3), e4⟩
theorem opB_clear {K N t m : Nat} {D E : Nat → Int32} {G : CG} {S : CS} {T : MS} (h : ivB K N t m D E G S T) : ∃ S' T', f_Vt_clear K G S = some S' ∧ f_Mo_clear K T = some T' ∧ ivB K N (t + 1) m D E G S' T' ∧ S'.v_Tp_used = nI 0 := by
  obtain ⟨a, b, c, a', b', c', d', e1, e2, e3, e4⟩ := tp_clear (K := K) (G := G) h.1.1.2.2.2.1
  exact ⟨_, _, e1, e2, ivB_t (ivB_tp h e3), e4⟩
theorem opB_end {K N t m : Nat} {D E : Nat → Int32} {G : CG} {S : CS} {T : MS} (hK : 20000 ≤ K) (h : ivB K N t m D E G S T) (p0 : Int32) : ∃ r S' T', f_Vt_end K G S p0 = some (r, S') ∧ f_Mo_end K T p0 = some (r, T') ∧ ivB K N (t + 1) m D E G S' T' ∧ ∃ k k', S.v_Tp_used = nI k ∧ S'.v_Tp_used = nI k' ∧ k' ≤ k + 20 := by
  obtain ⟨r, a, b, c, a', b', c', d', e1, e2, e3, e4⟩ := tp_end (K := K) (G := G) (Nat.le_trans (by decide) hK) h.1.1.2.2.2.1 p0
  exact ⟨r, _, _, e1, e2, ivB_t (ivB_tp h e3), e4⟩
theorem opB_fail {K N t m : Nat} {D E : Nat → Int32} {G : CG} {S : CS} {T : MS} (h : ivB K N t m D E G S T) (p0 p1 : Int32) : ∃ r S' T', f_Vt_fail K G S p0 p1 = some (r, S') ∧ f_Mo_fail K T p0 p1 = some (r, T') ∧ ivB K N (t + 1) m D E G S' T' ∧ S'.v_Tp_used = S.v_Tp_used := by
  obtain ⟨r, a, b, c, d, e1, e2, e3⟩ := fl_fail (K := K) (G := G) h.1.1.2.2.2.2.1 p0 p1
  exact ⟨r, _, _, e1, e2, ivB_t (ivB_fl h e3), rfl⟩
theorem want2 {K : Nat} {G : CG} {S : CS} : f_Vt_wantSoundTable K G S 2 = some (.error 1, G.made 1 6, S) := by
  unfold f_Vt_wantSoundTable f_Vt_wantSoundTable_12
  rw [if_neg (by decide)]
theorem noFileB {K N m : Nat} {D E : Nat → Int32} {fks : List Nat} {z : SS} {A H B P g0 r to : Nat} {gl : Nat → Nat} {hh : Nat} {G : CG} {S : CS} {T : MS} (o : opn N m D E fks z A H B P g0 r to gl hh G S T) (a b : Int32) : f_Mo_noFile K T a b = some (1, T.u_v_thrown 1) := by
  unfold f_Mo_noFile f_Mo_noFile_61
  rw [fixB (K := K) o, q_c, if_neg (by decide)]
theorem opB_make {K N t m : Nat} {D E : Nat → Int32} {G : CG} {S : CS} {T : MS} (hK : 20000 ≤ K) (h : ivB K N t m D E G S T) (a : Int32) : ∃ G' S' T' y, f_Vt_make K G S a = some (.error 1, G', S') ∧ f_Mo_make K T a = some (y, T') ∧ T'.v_thrown = nI 1 ∧ ivB K N (t + 1) m D E G' S' T' ∧ S'.v_Tp_used = nI 0 := by
  obtain ⟨fks, z, A, H, B, P, g0, r, to, gl, hh, o⟩ := ivB_open h
  obtain ⟨n, n1, n2, n3, -⟩ := h.1.1.2.2.2.1
  have l1 : f_Vt_look K G (S.u_v_Tp_used 0) = some (2, G, S.u_v_Tp_used 0) := cl_lookB o.1.1 o.1.2.2.1 o.2.1.2.1 o.2.1.2.2.1
  obtain ⟨⟨y, T2⟩, e1, e2, f, e3, e4⟩ := qM_named (K := K) (T := T.u_v_thrown 1) hK n1 n3
  have e4 : T2 = (((T.u_v_thrown 1).u_v_size (nI (tus (T.u_v_thrown 1).v_tape n).length)).u_v_name f).u_v_taped 0 := e4
  refine ⟨_, _, T2, 0, ?_, ?_, by rw [e4]; rfl, by rw [e4]; exact ivB_made (ivB_thr (ivB_t0 h) 1), rfl⟩
  · unfold f_Vt_make f_Tp_useUp f_Vt_make_13
    rw [q_l, q_l (S.u_v_Tp_used 0), q_c, lkn l1, want2, a_er]
  · unfold f_Mo_make f_Mo_make_42
    rw [fixB (K := K) o, q_c, e1, q_c, if_neg (by decide)]
theorem opB_write {K N t m : Nat} {D E : Nat → Int32} {G : CG} {S : CS} {T : MS} (h : ivB K N t m D E G S T) (a : Int32) : ∃ G' S' T' y, f_Vt_write K G S a = some (.error 1, G', S') ∧ f_Mo_write K T a = some (y, T') ∧ T'.v_thrown = nI 1 ∧ ivB K N (t + 1) m D E G' S' T' ∧ S'.v_Tp_used = nI 0 := by
  obtain ⟨fks, z, A, H, B, P, g0, r, to, gl, hh, o⟩ := ivB_open h
  have l1 : f_Vt_look K G (S.u_v_Tp_used 0) = some (2, G, S.u_v_Tp_used 0) := cl_lookB o.1.1 o.1.2.2.1 o.2.1.2.1 o.2.1.2.2.1
  have o2 : opn N m D E fks z A H B P g0 r to gl hh G S (T.u_v_taped 0) := o
  refine ⟨_, _, (T.u_v_taped 0).u_v_thrown 1, 0, ?_, ?_, rfl, ivB_made (ivB_thr (ivB_t0 h) 1), rfl⟩
  · unfold f_Vt_write f_Tp_useUp f_Vt_write_13
    rw [q_l, q_l (S.u_v_Tp_used 0), q_c, lkn l1, want2, a_er]
  · unfold f_Mo_write
    rw [q_l, q_l, noFileB (K := K) o2, q_c, if_neg (by decide)]
theorem opB_grow {K N t m : Nat} {D E : Nat → Int32} {G : CG} {S : CS} {T : MS} (h : ivB K N t m D E G S T) (a b c : Int32) : ∃ G' S' T' y, f_Vt_grow K G S a b c = some (.error 1, G', S') ∧ f_Mo_grow K T a b c = some (y, T') ∧ T'.v_thrown = nI 1 ∧ ivB K N (t + 1) m D E G' S' T' ∧ S'.v_Tp_used = S.v_Tp_used := by
  obtain ⟨fks, z, A, H, B, P, g0, r, to, gl, hh, o⟩ := ivB_open h
  obtain ⟨l1, -⟩ := lookB (K := K) o
  refine ⟨_, _, T.u_v_thrown 1, 0, ?_, ?_, rfl, ivB_made (ivB_thr h 1), rfl⟩
  · unfold f_Vt_grow f_Vt_grow_5
    rw [lkn l1, want2, a_er]
  · unfold f_Mo_grow f_Mo_grow_13 f_Mo_grow_18
    rw [noFileB (K := K) o, noFileB (K := K) o, q_c, if_neg (show ¬ (1 : Int32) = 0 by decide)]
    split
    · rfl
    · split <;> rfl
theorem opB_cut {K N t m : Nat} {D E : Nat → Int32} {G : CG} {S : CS} {T : MS} (h : ivB K N t m D E G S T) (a b : Int32) : ∃ G' S' T' y, f_Vt_cut K G S a b = some (.error 1, G', S') ∧ f_Mo_cut K T a b = some (y, T') ∧ T'.v_thrown = nI 1 ∧ ivB K N (t + 1) m D E G' S' T' ∧ S'.v_Tp_used = S.v_Tp_used := by
  obtain ⟨fks, z, A, H, B, P, g0, r, to, gl, hh, o⟩ := ivB_open h
  obtain ⟨l1, -⟩ := lookB (K := K) o
  refine ⟨_, _, T.u_v_thrown 1, 0, ?_, ?_, rfl, ivB_made (ivB_thr h 1), rfl⟩
  · unfold f_Vt_cut f_Vt_cut_5
    rw [lkn l1, want2, a_er]
  · unfold f_Mo_cut f_Mo_cut_11 f_Mo_cut_51
    rw [noFileB (K := K) o, noFileB (K := K) o, q_c, if_neg (show ¬ (1 : Int32) = 0 by decide)]
    split <;> rfl
theorem opB_remove {K N t m : Nat} {D E : Nat → Int32} {G : CG} {S : CS} {T : MS} (h : ivB K N t m D E G S T) (a : Int32) : ∃ G' S' T', f_Vt_remove K G S a = some (.error 1, G', S') ∧ f_Mo_remove K T a = some T' ∧ T'.v_thrown = nI 1 ∧ ivB K N (t + 1) m D E G' S' T' ∧ S'.v_Tp_used = S.v_Tp_used := by
  obtain ⟨fks, z, A, H, B, P, g0, r, to, gl, hh, o⟩ := ivB_open h
  obtain ⟨l1, -⟩ := lookB (K := K) o
  refine ⟨_, _, T.u_v_thrown 1, ?_, ?_, rfl, ivB_made (ivB_thr h 1), rfl⟩
  · unfold f_Vt_remove f_Vt_remove_5
    rw [lkn l1, want2, a_er]
  · unfold f_Mo_remove
    rw [fixB (K := K) o, q_c, if_neg (by decide)]
theorem opB_stamp {K N t m : Nat} {D E : Nat → Int32} {G : CG} {S : CS} {T : MS} (h : ivB K N t m D E G S T) (a b c d : Int32) : ∃ G' S' T', f_Vt_stamp K G S a b c d = some (.error 1, G', S') ∧ f_Mo_stamp K T a b c d = some T' ∧ T'.v_thrown = nI 1 ∧ ivB K N (t + 1) m D E G' S' T' ∧ S'.v_Tp_used = S.v_Tp_used := by
  obtain ⟨fks, z, A, H, B, P, g0, r, to, gl, hh, o⟩ := ivB_open h
  obtain ⟨l1, -⟩ := lookB (K := K) o
  refine ⟨_, _, T.u_v_thrown 1, ?_, ?_, rfl, ivB_made (ivB_thr h 1), rfl⟩
  · unfold f_Vt_stamp f_Vt_stamp_5
    rw [lkn l1, want2, a_er]
  · unfold f_Mo_stamp
    rw [fixB (K := K) o, q_c, if_neg (by decide)]
