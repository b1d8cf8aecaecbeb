theorem opA_content {K N t m : Nat} {D E : Nat → Int32} {G : CG} {S : CS} {T : MS} (hK : 20000 ≤ K) (h : ivA N t m D E G S T) (a b : Int32) : rsl (fun e => e) (fun e => e = 1 ∨ e = 2) (f_Vt_content K G S a b) (f_Mo_content K T a b) (fun G' S' T' => ivA N (t + 1) m D E G' S' T' ∧ S'.v_Tp_used = S.v_Tp_used) := by
  obtain ⟨G1, S1, T1, c1, m1, p1, p2, p3, p4, hiv, hco, hcl, p5⟩ := preA hK h
  have hN := h.1.1.2.1
  have hag := agF_A h.1.1.1 hN h.1.2.2.2.2.2.2.1.1
  have htp : S1.v_Tp_used = S.v_Tp_used := coV_v_Tp_used hco
  obtain ⟨n1, n2⟩ := qM_no (t := t) (m := m) (E := E) (G := G1) (S := S1) (T := T) hK hN m1 p1 p2 p3 a
  unfold f_Vt_content f_Vt_content_5 f_Mo_content f_Mo_content_100
  rw [look_n c1]
  by_cases w : flt N D = 0
  rotate_left
  · rw [reads_no p4 w, a_er, n1 w, q_c, if_neg (by decide)]
    exact Or.inr ⟨1, _, _, _, _, rfl, rfl, Or.inl rfl, rfl, ivA_made (ivA_thr hiv 1), htp⟩
  · obtain ⟨fks, z, hh, etr, v⟩ := p5 w
    obtain ⟨k1, k2⟩ := n2 fks z hh w v
    rw [reads_ok p4 w, a_ok]
    unfold f_Vt_content_8
    rw [if_pos rfl]
    rcases itemHere (K := K) v a with ⟨k, hk, rfl, e⟩ | ⟨g, e⟩
    rotate_left
    · rw [e, a_er, k1 g, q_c, if_neg (by decide)]
      exact Or.inr ⟨2, _, _, _, _, rfl, rfl, Or.inr rfl, rfl, ivA_made (ivA_thr hiv 2), htp⟩
    · have hkl : hh < fks.length := by rw [v.1.1.2.2.2.2.2.1]; exact v.2.2.1.1
      obtain ⟨j1, j2, j3⟩ := hn_lt v.2.2.2.2.2.2.2.1 hkl hk
      have hlen : fkI fks hh + k < 4200 := Nat.lt_of_lt_of_le j1 v.2.2.2.2.2.1.1.2.1
      generalize hj : fkI fks hh + k = j at *
      have hne : ¬ nI j = -1 := fun w => by
        have w := congrArg Int32.toInt w
        rw [nI_toInt (Nat.lt_trans hlen (by decide)), show (-1 : Int32).toInt = -1 from by decide] at w
        clear v k1 k2 n1 n2
        omega
      have hit : f_Mo_item K T1 (nI k) = some (nI j, T1) := by rw [qM_item hK hN v hk, hj]
      rw [e, a_ok, k2 k hk rfl, q_c, if_pos rfl, hit, q_c, if_neg hne]
      unfold f_Vt_content_30 f_Vt_content_58
      obtain ⟨tt, cS⟩ := v.2.1.2.2.1
      have hfo := qM_isFolder (K := K) v.1.1.1.1 hN v.1.1.2.1 v.2.2.2.2.2.1.1 j1
      have hbg : f_Mo_beginOf K T1 (nI j) = some (nI (begI D (sIt z) j), T1) := qM_beginOf v.1.1.1.1 v.1.1.1.2.2.2.2.2.2.1 hN v.1.1.2.1 v.2.2.2.2.2.1.1 j1
      have hat := (v.1.1.2.1.2.2.1 j j2 j1).1
      have hsp := (v.2.2.2.2.2.1.1.2.2.2.2 j j2 j1).1
      have hff := hd_facts v.2.2.2.1 hN
      have hD := v.1.1.1.1
      have hcT := v.1.1.1.2.2.1
      have hcI := v.2.1.2.1
      have hin : lf_in (nI j) 4200 := q_in hlen (by decide)
      have hI : ivA N (t + 1) m D E G1 S1 T1 ∧ S1.v_Tp_used = S.v_Tp_used := ⟨ivA_t hiv, htp⟩
      rw [hfo, q_c, qC_isDir cS.2.2.2.2.1.1 cS.1 cS.2.2.2.2.1.2.2.1 j1, q_c]
      by_cases d : o1 D (isp (itr (sIt z) j) + 11) / 16 % 2 = 1
      · rw [b01_t (show isDr D (sIt z) j from Or.inr d), if_neg (show ¬ nI 1 = 0 by decide), if_neg (show ¬ nI 1 = 0 by decide)]
        exact Or.inl ⟨_, _, _, _, rfl, rfl, p1, hI⟩
      have hnd : ¬ isDr D (sIt z) j := fun y => y.elim (fun y => by clear v k1 k2 n1 n2; omega) d
      rw [b01_f hnd, if_pos (show nI 0 = 0 from rfl), if_pos (show nI 0 = 0 from rfl)]
      by_cases b0 : b < 0
      · rw [if_pos b0, if_pos b0]
        exact Or.inl ⟨_, _, _, _, rfl, rfl, p1, hI⟩
      obtain ⟨x, x1, rfl⟩ := nI_of b0
      have hsz : szI D (sIt z) j = o4 D (isp (itr (sIt z) j) + 28) := (if_neg (show ¬ j = 0 from fun y => hnd (Or.inl y))).trans (if_neg d)
      rw [if_neg b0, if_neg b0, q_g hin, nI_clamp (Nat.lt_trans hlen (by decide)), hat, show (28 : Int32) = nI 28 from rfl, nI_add, rM4 D hD (by clear v k1 k2 n1 n2; omega), q_c, qC_size cS.2.2.2.2.1.1 cS.1 cS.2.2.2.2.1.2.2.1 j1, q_c, hsz]
      by_cases y : nI x < nI (o4 D (isp (itr (sIt z) j) + 28))
      rotate_left
      · rw [if_neg y, if_neg y]
        exact Or.inl ⟨_, _, _, _, rfl, rfl, p1, hI⟩
      have hle4 := o4_lt D (isp (itr (sIt z) j) + 28)
      have hx : x < o4 D (isp (itr (sIt z) j) + 28) := by
        by_cases u : o4 D (isp (itr (sIt z) j) + 28) < 2 ^ 31
        · exact Nat.lt_of_not_le fun u' => nI_nlt u' x1 y
        · clear v k1 k2 n1 n2
          omega
      obtain ⟨q0, f, g, bb, q, q1, q2, q3, q4, q5, q6, q7⟩ := file_byte hK hN hag v j2 j1 d hx
      rw [if_pos y, if_pos y, hbg, q_c, q4, q_b, q1, q_c, rV1 E (S := (S1.u_w_Ed_road f).u_v_Ed_roadLength bb) hcI.1 hcI.2.1 hN q2, q_c]
      clear v k1 k2 n1 n2
      have e512 : 512 * ((T1.u_v_chain g).u_v_links bb).v_c = nI (512 * hc D) := by rw [show ((T1.u_v_chain g).u_v_links bb).v_c = T1.v_c from rfl, hcT, show (512 : Int32) = nI 512 from rfl, pk_mul]
      have hne5 : ¬ nI (512 * hc D) = 0 := nI_ne0 (by omega) (by omega)
      have ed : nI x / nI (512 * hc D) = nI (x / (512 * hc D)) := pk_div (by omega) (by omega) (by omega)
      rw [e512, q_g hne5, ed, q_g (q_in (by omega) (by decide)), nI_clamp (by omega), show ((T1.u_v_chain g).u_v_links bb).v_chain (x / (512 * hc D)) = g (x / (512 * hc D)) from rfl, q6, q_c, e512, q_g hne5, pk_rem (by omega) (by omega) (by omega), nI_add, Nat.sub_add_cancel q7, rM1 D (T := (T1.u_v_chain g).u_v_links bb) hD (by omega), q_c, q3]
      exact Or.inl ⟨_, _, _, _, rfl, rfl, p1, ivA_t hiv, htp⟩
