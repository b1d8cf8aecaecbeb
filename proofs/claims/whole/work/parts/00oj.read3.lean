theorem cd12 (e : Nat) : (fun e : Nat => e) e = e := rfl
theorem opA_letter {K N t m : Nat} {D E : Nat → Int32} {G : CG} {S : CS} {T : MS} (hK : 20000 ≤ K) (h : ivA N t m D E G S T) (a b : Int32) : rsl (fun e => e) (fun e => e = 1 ∨ e = 2) (f_Vt_letter K G S a b) (f_Mo_letter K T a b) (fun G' S' T' => ivA N (t + 1) m D E G' S' T' ∧ coV S' = coV S) := by
  obtain ⟨G1, S1, T1, c1, m1, p1, p2, p3, p4, hiv, hco, hcl, p5⟩ := preA hK h
  have hN := h.1.1.2.1
  obtain ⟨n1, n2⟩ := qM_no (t := t) (m := m) (E := E) (G := G1) (S := S1) (T := T) hK hN m1 p1 p2 p3 a
  unfold f_Vt_letter f_Vt_letter_5 f_Mo_letter
  rw [look_n c1]
  by_cases w : flt N D = 0
  rotate_left
  · rw [reads_no p4 w, a_er, n1 w, q_c, if_neg (by decide)]
    exact Or.inr ⟨1, _, _, _, _, rfl, rfl, Or.inl rfl, rfl, ivA_made (ivA_thr hiv 1), hco⟩
  · obtain ⟨fks, z, hh, -, v⟩ := p5 w
    obtain ⟨k1, k2⟩ := n2 fks z hh w v
    rw [reads_ok p4 w, a_ok]
    unfold f_Vt_letter_8
    rw [if_pos rfl]
    rcases itemHere (K := K) v a with ⟨k, hk, rfl, e⟩ | ⟨g, e⟩
    · rw [e, a_ok, k2 k hk rfl, q_c, if_pos rfl, qM_item hK hN v hk, q_c]
      have hkl : hh < fks.length := by rw [v.1.1.2.2.2.2.2.1]; exact v.2.2.1.1
      obtain ⟨j1, j2, j3⟩ := hn_lt v.2.2.2.2.2.2.2.1 hkl hk
      obtain ⟨tt, cS⟩ := v.2.1.2.2.1
      rw [qM_text (by omega) v.1.1.2.1 v.2.2.2.2.2.1.1 j2 j1, q_c]
      unfold f_Vt_letter_34
      rw [qC_nameByte (by omega) cS.2.2.2.2.1.1 cS.1 v.2.2.2.2.2.1.1 cS.2.2.2.2.1.2.2.1 cS.2.2.2.2.1.2.2.2 j2 j1, q_c]
      exact Or.inl ⟨_, _, _, _, rfl, rfl, p1, ivA_t hiv, hco⟩
    · rw [e, a_er, k1 g, q_c, if_neg (by decide)]
      exact Or.inr ⟨2, _, _, _, _, rfl, rfl, Or.inr rfl, rfl, ivA_made (ivA_thr hiv 2), hco⟩
theorem ivA_here {N t m : Nat} {D E : Nat → Int32} {G : CG} {S : CS} {T : MS} {fks : List Nat} {z : SS} {j : Nat} (h : ivA N t m D E G S T) (e : trE N D = .ok (fks, z)) (hj : j < (sIt z).length) (hd : isDr D (sIt z) j) : ivA N t m D E G (S.u_v_Vt_here (nI j)) (T.u_v_here (nI (if j = 0 then 0 else begI D (sIt z) j))) := by
  obtain ⟨⟨h0, h1, h2, h3, h4, h5, h6, h7, h8⟩, h9, h10, h11⟩ := h
  refine ⟨⟨h0, h1, h2, h3, h4, h5, h6, fun fks' z' e' => ?_, h8⟩, h9, h10, h11⟩
  rw [e] at e'
  cases e'
  exact ⟨j, hj, hd, rfl, rfl⟩
theorem tv_here {N m : Nat} {D E : Nat → Int32} {G : CG} {S : CS} {T : MS} {fks : List Nat} {z : SS} {hh j : Nat} (v : tv N m D E fks z hh G S T) (hj : j < (sIt z).length) (hd : isDr D (sIt z) j) : tv N m D E fks z j G (S.u_v_Vt_here (nI j)) (T.u_v_here (nI (if j = 0 then 0 else begI D (sIt z) j))) := ⟨v.1, v.2.1, ⟨hj, hd, rfl, rfl⟩, v.2.2.2⟩
theorem opA_enter {K N t m : Nat} {D E : Nat → Int32} {G : CG} {S : CS} {T : MS} (hK : 20000 ≤ K) (h : ivA N t m D E G S T) (a : Int32) : rsl (fun e => if e = 0 then 3 else e) (fun e => e = 0 ∨ e = 1 ∨ e = 2) (f_Vt_enter K G S a) (f_Mo_enter K T a) (fun G' S' T' => ivA N (t + 1) m D E G' S' T' ∧ S'.v_Tp_used = S.v_Tp_used) := by
  obtain ⟨G1, S1, T1, c1, m1, p1, p2, p3, p4, hiv, hco, hcl, p5⟩ := preA hK h
  have hN := h.1.1.2.1
  have htp : S1.v_Tp_used = S.v_Tp_used := coV_v_Tp_used hco
  obtain ⟨n1, n2⟩ := qM_no (t := t) (m := m) (E := E) (G := G1) (S := S1) (T := T) hK hN m1 p1 p2 p3 a
  unfold f_Vt_enter f_Vt_enter_5 f_Mo_enter f_Mo_enter_30 f_Mo_enter_35 f_Mo_enter_42
  rw [look_n c1]
  by_cases w : flt N D = 0
  rotate_left
  · rw [reads_no p4 w, a_er, n1 w, q_c, if_neg (by decide)]
    exact Or.inr ⟨1, _, _, _, _, rfl, rfl, Or.inr (Or.inl rfl), rfl, ivA_made (ivA_thr hiv 1), htp⟩
  · obtain ⟨fks, z, hh, etr, v⟩ := p5 w
    obtain ⟨k1, k2⟩ := n2 fks z hh w v
    rw [reads_ok p4 w, a_ok]
    unfold f_Vt_enter_8
    rw [if_pos rfl]
    rcases itemHere (K := K) v a with ⟨k, hk, rfl, e⟩ | ⟨g, e⟩
    · have hkl : hh < fks.length := by rw [v.1.1.2.2.2.2.2.1]; exact v.2.2.1.1
      obtain ⟨j1, j2, j3⟩ := hn_lt v.2.2.2.2.2.2.2.1 hkl hk
      obtain ⟨tt, cS⟩ := v.2.1.2.2.1
      have hlen : fkI fks hh + k < 4200 := Nat.lt_of_lt_of_le j1 v.2.2.2.2.2.1.1.2.1
      generalize hj : fkI fks hh + k = j at *
      have hne : ¬ nI j = -1 := fun w => by
        have w := congrArg Int32.toInt w
        rw [nI_toInt (Nat.lt_trans hlen (by decide)), show (-1 : Int32).toInt = -1 from by decide] at w
        clear v k1 k2 n1 n2
        omega
      have hit : f_Mo_item K T1 (nI k) = some (nI j, T1) := by rw [qM_item hK hN v hk, hj]
      rw [e, a_ok, k2 k hk rfl, q_c, if_pos rfl, hit, q_c, if_neg hne, hit, q_c, qM_isFolder v.1.1.1.1 hN v.1.1.2.1 v.2.2.2.2.2.1.1 j1, q_c]
      unfold f_Vt_enter_26 f_Vt_enter_66 f_Vt_enter_83 f_Vt_enter_56
      rw [if_pos rfl, qC_isDir cS.2.2.2.2.1.1 cS.1 cS.2.2.2.2.1.2.2.1 j1, q_c]
      have f1 := qM_fails (K := K) T1 True 3 p1 (by decide)
      have f0 := qM_fails (K := K) T1 False 3 p1 (by decide)
      rw [b01_t trivial, cif_t trivial] at f1
      rw [b01_f (fun y => y), cif_f (fun y => y)] at f0
      have f1 : f_Mo_fails K T1 1 3 = some (1, T1.u_v_thrown 3) := f1
      have f0 : f_Mo_fails K T1 0 3 = some (0, T1) := f0
      by_cases d : isDr D (sIt z) j
      · rw [b01_t d, if_neg (show ¬ nI 1 = 0 by decide), if_neg (show ¬ nI 1 = 0 by decide), if_pos rfl, q_l (S1.u_v_Vt_here (nI j)), if_pos rfl, f0, q_c, if_pos rfl, hit, q_c, qM_beginOf v.1.1.1.1 v.1.1.1.2.2.2.2.2.2.1 hN v.1.1.2.1 v.2.2.2.2.2.1.1 j1, q_c, q_l]
        have v2 := tv_here v j1 d
        have hj0 : ¬ j = 0 := by clear v v2 k1 k2 n1 n2; omega
        have hv2 := ivA_here hiv etr j1 d
        rw [if_neg hj0] at v2 hv2
        rw [qM_many (T := T1.u_v_here (nI (begI D (sIt z) j))) hK hN p2 v2, q_c, show (S1.u_v_Vt_here (nI j)).v_Vt_here = nI j from rfl, qC_count v2 j1, q_c]
        exact Or.inl ⟨_, _, _, _, rfl, rfl, p1, ivA_t hv2, htp⟩
      · rw [b01_f d, if_pos (show nI 0 = 0 from rfl), if_pos (show nI 0 = 0 from rfl), f1, q_c, if_neg (by decide)]
        exact Or.inr ⟨0, _, _, _, _, rfl, rfl, Or.inl rfl, rfl, ivA_made (ivA_thr hiv 3), htp⟩
    · rw [e, a_er, k1 g, q_c, if_neg (by decide)]
      exact Or.inr ⟨2, _, _, _, _, rfl, rfl, Or.inr (Or.inr rfl), rfl, ivA_made (ivA_thr hiv 2), htp⟩
theorem opA_up {K N t m : Nat} {D E : Nat → Int32} {G : CG} {S : CS} {T : MS} (hK : 20000 ≤ K) (h : ivA N t m D E G S T) : rsl (fun _ => 1) (fun e => e = 1) (f_Vt_up K G S) (f_Mo_up K T) (fun G' S' T' => ivA N (t + 1) m D E G' S' T' ∧ S'.v_Tp_used = S.v_Tp_used) := by
  obtain ⟨G1, S1, T1, c1, m1, p1, p2, p3, p4, hiv, hco, hcl, p5⟩ := preA hK h
  have hN := h.1.1.2.1
  have htp : S1.v_Tp_used = S.v_Tp_used := coV_v_Tp_used hco
  unfold f_Vt_up f_Vt_up_5 f_Mo_up f_Mo_up_14 f_Mo_up_40
  rw [look_n c1, qM_none m1 p1 p2 p3, q_c]
  by_cases w : flt N D = 0
  rotate_left
  · rw [reads_no p4 w, a_er, b01_t w, cif_t w, if_neg (by decide)]
    exact Or.inr ⟨1, _, _, _, _, rfl, rfl, rfl, rfl, ivA_made (ivA_thr hiv 1), htp⟩
  · obtain ⟨fks, z, hh, etr, v⟩ := p5 w
    rw [reads_ok p4 w, a_ok, b01_f (fun y => y w), cif_f (fun y => y w), if_pos (by decide)]
    unfold f_Vt_up_8 f_Vt_up_48
    have hj := v.2.2.1.1
    have hd := v.2.2.1.2.1
    have hlen := v.2.2.2.2.2.1.1.2.1
    obtain ⟨tt, cS⟩ := v.2.1.2.2.1
    have hSI := v.2.2.2.2.2.2.1
    rw [v.2.2.1.2.2.1, v.2.2.1.2.2.2]
    by_cases e0 : hh = 0
    · rw [if_pos (show nI hh = 0 by rw [e0]; rfl), if_pos e0, if_pos (show nI 0 = 0 from rfl)]
      exact Or.inl ⟨_, _, _, _, rfl, rfl, p1, ivA_t hiv, htp⟩
    · have hb := (ch_head ((hSI.2.2.1 hh hj (Or.inr hj)).1 hd)).2.1
      have hbl := begI_lt D (sIt z) hh
      have hpos : 1 ≤ hh := Nat.one_le_iff_ne_zero.mpr e0
      have hpar := hSI.2.1 hh hpos hj
      have hpt := v.1.1.2.1.2.2.1 hh hpos hj
      have hq := qM_here hK hN v
      have hbg : f_Mo_beginOf K T1 (nI (ipa (itr (sIt z) hh))) = some (nI (begI D (sIt z) (ipa (itr (sIt z) hh))), T1) := qM_beginOf v.1.1.1.1 v.1.1.1.2.2.2.2.2.2.1 hN v.1.1.2.1 v.2.2.2.2.2.1.1 (Nat.lt_trans hpar.2.1 hj)
      have hpC : f_Tr_parentOf K G1 S1 (nI hh) = some (nI (ipa (itr (sIt z) hh)), S1) := qC_parent cS.2.2.2.2.1.1 cS.1 cS.2.2.2.2.1.2.2.1 hj
      have hv2 := ivA_here hiv etr (Nat.lt_trans hpar.2.1 hj) hpar.2.2.1
      have hhb : hh < 4200 := Nat.lt_of_lt_of_le hj hlen
      have hpb := hpar.2.1
      clear v hSI cS
      rw [if_neg (nI_ne0 (by omega) (by omega)), if_neg e0, if_neg (fun y : nI (begI D (sIt z) hh) = 0 => by have := (q_eqW (b := 0) hbl (by decide)).mp y; omega), if_pos rfl, hpC, q_c, q_l (S1.u_v_Vt_here _), hq, q_c, q_g (q_in (by omega) (by decide)), nI_clamp (by omega), hpt.2.2.2.1, q_l]
      by_cases y : ipa (itr (sIt z) hh) = 0
      · rw [y, if_pos rfl] at hv2
        rw [y, if_pos (show nI 0 = 0 from rfl), q_l]
        exact Or.inl ⟨_, _, _, _, rfl, rfl, p1, ivA_t hv2, htp⟩
      · rw [if_neg y] at hv2
        rw [if_neg (nI_ne0 (by omega) (by omega)), hbg, q_c, q_l]
        exact Or.inl ⟨_, _, _, _, rfl, rfl, p1, ivA_t hv2, htp⟩
