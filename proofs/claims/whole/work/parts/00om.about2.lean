/-- an answer of eight bytes, or a throw -/
abbrev rslL (cod : Nat → Nat) (ok : Nat → Prop) (X : Option (Except Nat Int64 × CG × CS)) (Y : Option (Int64 × MS)) (I : CG → CS → MS → Prop) : Prop := (∃ r G' S' T', X = some (.ok r, G', S') ∧ Y = some (r, T') ∧ T'.v_thrown = nI 0 ∧ I G' S' T') ∨ (∃ e y G' S' T', X = some (.error e, G', S') ∧ Y = some (y, T') ∧ ok e ∧ T'.v_thrown = nI (cod e) ∧ I G' S' T')
/-- what the class tells of item j, and the reference the same -/
theorem tell_item {K N m hh j w : Nat} {D E : Nat → Int32} {fks : List Nat} {z : SS} {G : CG} {S : CS} {T : MS} (hK : 20000 ≤ K) (hN : N ≤ 1024) (v : tv N m D E fks z hh G S T) (h1 : 1 ≤ j) (hj : j < (sIt z).length) (hw : w ≤ 5) : ∃ r : Int64, f_Vt_tellItem K G S (nI j) (nI w) = some (r, S) ∧ (w = 0 → r = (b01 (isDr D (sIt z) j)).toInt64) ∧ (w = 1 → r = (nI (btI D (sIt z) j % 2)).toInt64) ∧ (w = 5 → r = (nI (szI D (sIt z) j)).toInt64) ∧ (2 ≤ w → w ≤ 4 → r = lN (tmN D (isp (itr (sIt z) j)) w) &&& 4294967295) := by
  obtain ⟨tt, cS⟩ := v.2.1.2.2.1
  have hG := cS.2.2.2.2.1.1
  have hl := cS.2.2.2.2.1.2.2.1
  have hcI := v.2.1.2.1
  have hlen := v.2.2.2.2.2.1.1.2.1
  have hen := (v.2.2.2.2.2.2.1.2.1 j h1 hj).2.2.2.1
  obtain ⟨m1, m2⟩ := cS.2.2.2.2.2.2.2.1 j h1 hj
  clear v
  unfold f_Vt_tellItem
  rcases (show w = 0 ∨ w = 1 ∨ w = 5 ∨ (2 ≤ w ∧ w ≤ 4) by omega) with rfl | rfl | rfl | ⟨g1, g2⟩
  · rw [if_pos (show nI 0 = 0 from rfl), qC_isDir hG cS.1 hl hj, q_c]
    refine ⟨(b01 (isDr D (sIt z) j)).toInt64, ?_, fun _ => rfl, fun y => absurd y (by decide), fun y => absurd y (by decide), fun y => absurd y (by decide)⟩
    by_cases d : isDr D (sIt z) j
    · rw [b01_t d, if_neg (show ¬ nI 1 = 0 by decide)]; rfl
    · rw [b01_f d, if_pos (show nI 0 = 0 from rfl)]; rfl
  · rw [if_neg (show ¬ nI 1 = 0 by decide), if_pos (show nI 1 = 1 from rfl), qC_readOnly hG cS.1 hl hj, q_c]
    refine ⟨(nI (btI D (sIt z) j % 2)).toInt64, ?_, fun y => absurd y (by decide), fun _ => rfl, fun y => absurd y (by decide), fun y => absurd y (by decide)⟩
    rcases (show btI D (sIt z) j % 2 = 0 ∨ btI D (sIt z) j % 2 = 1 by omega) with d | d
    · rw [d, if_pos (show nI 0 = 0 from rfl)]; rfl
    · rw [d, if_neg (show ¬ nI 1 = 0 by decide)]; rfl
  · rw [if_neg (show ¬ nI 5 = 0 by decide), if_neg (show ¬ nI 5 = 1 by decide), if_pos (show nI 5 = 5 from rfl), qC_size hG cS.1 hl hj, q_c]
    exact ⟨_, rfl, fun y => absurd y (by decide), fun y => absurd y (by decide), fun _ => rfl, fun _ y => absurd y (by decide)⟩
  · have e : ∀ c : Nat, c < 100 → w ≠ c → ¬ nI w = nI c := fun c hc y y' => y ((nI_eq (by omega) (by omega)).mp y')
    have hd : daysP E (mp0 D (isp (itr (sIt z) j))) := (slq_days m1).mpr hen.2.2.1
    rw [if_neg (show ¬ nI w = 0 from e 0 (by omega) (by omega)), if_neg (show ¬ nI w = 1 from e 1 (by omega) (by omega)), if_neg (show ¬ nI w = 5 from e 5 (by omega) (by omega)), qC_spot hG cS.1 hl hj, q_c, show spI (mp0 D) (sIt z) j = mp0 D (isp (itr (sIt z) j)) from if_neg (by omega), qC_secs hN hcI.1 hcI.2.1 m2 hd g1 g2, q_c, tmN_slq m1]
    exact ⟨_, rfl, fun y => by omega, fun y => by omega, fun y => by omega, fun _ _ => rfl⟩
theorem opA_about {K N t m : Nat} {D E : Nat → Int32} {G : CG} {S : CS} {T : MS} (hK : 20000 ≤ K) (h : ivA N t m D E G S T) (a b : Int32) : rslL (fun e => if e = 0 then 3 else e) (fun e => e = 0 ∨ e = 1 ∨ e = 2) (f_Vt_about K G S a b) (f_Mo_about K T a b) (fun G' S' T' => ivA N (t + 1) m D E G' S' T' ∧ coV S' = coV S) := by
  obtain ⟨G1, S1, T1, c1, m1, p1, p2, p3, p4, hiv, hco, hcl, p5⟩ := preA hK h
  have hN := h.1.1.2.1
  obtain ⟨n1, n2⟩ := qM_no (t := t) (m := m) (E := E) (G := G1) (S := S1) (T := T) hK hN m1 p1 p2 p3 a
  unfold f_Vt_about f_Vt_about_5 f_Mo_about f_Mo_about_18 f_Mo_about_23 f_Mo_about_30
  rw [look_n c1]
  by_cases w : flt N D = 0
  rotate_left
  · rw [reads_no p4 w, a_er, n1 w, q_c, if_neg (by decide)]
    exact Or.inr ⟨1, _, _, _, _, rfl, rfl, Or.inr (Or.inl rfl), rfl, ivA_made (ivA_thr hiv 1), hco⟩
  · obtain ⟨fks, z, hh, etr, v⟩ := p5 w
    obtain ⟨k1, k2⟩ := n2 fks z hh w v
    rw [reads_ok p4 w, a_ok]
    unfold f_Vt_about_8
    rw [if_pos rfl]
    rcases itemHere (K := K) v a with ⟨k, hk, rfl, e⟩ | ⟨g, e⟩
    rotate_left
    · rw [e, a_er, k1 g, q_c, if_neg (by decide)]
      exact Or.inr ⟨2, _, _, _, _, rfl, rfl, Or.inr (Or.inr rfl), rfl, ivA_made (ivA_thr hiv 2), hco⟩
    · have hkl : hh < fks.length := by rw [v.1.1.2.2.2.2.2.1]; exact v.2.2.1.1
      obtain ⟨j1, j2, j3⟩ := hn_lt v.2.2.2.2.2.2.2.1 hkl hk
      have hlen : fkI fks hh + k < 4200 := Nat.lt_of_lt_of_le j1 v.2.2.2.2.2.1.1.2.1
      have f1 := qM_fails (K := K) T1 True 3 p1 (by decide)
      have f0 := qM_fails (K := K) T1 False 3 p1 (by decide)
      rw [b01_t trivial, cif_t trivial] at f1
      rw [b01_f (fun y => y), cif_f (fun y => y)] at f0
      have f1 : f_Mo_fails K T1 1 3 = some (1, T1.u_v_thrown 3) := f1
      have f0 : f_Mo_fails K T1 0 3 = some (0, T1) := f0
      generalize hj : fkI fks hh + k = j at *
      have hne : ¬ nI j = -1 := fun w => by
        have w := congrArg Int32.toInt w
        rw [nI_toInt (Nat.lt_trans hlen (by decide)), show (-1 : Int32).toInt = -1 from by decide] at w
        clear v k1 k2 n1 n2
        omega
      have hit : f_Mo_item K T1 (nI k) = some (nI j, T1) := by rw [qM_item hK hN v hk, hj]
      rw [e, a_ok, k2 k hk rfl, q_c, if_pos rfl]
      unfold f_Vt_about_26 f_Vt_about_37
      by_cases b0 : b < 0
      · rw [if_pos b0, if_pos b0, f1, q_c, if_neg (by decide)]
        exact Or.inr ⟨0, _, _, _, _, rfl, rfl, Or.inl rfl, rfl, ivA_made (ivA_thr hiv 3), hco⟩
      rw [if_neg b0, if_neg b0]
      by_cases b5 : b ≤ 5
      rotate_left
      · rw [if_neg b5, if_neg b5, f1, q_c, if_neg (by decide)]
        exact Or.inr ⟨0, _, _, _, _, rfl, rfl, Or.inl rfl, rfl, ivA_made (ivA_thr hiv 3), hco⟩
      rw [if_pos b5, if_pos b5, if_pos rfl, f0, q_c, if_pos rfl, hit, q_c, if_neg hne]
      obtain ⟨x, x1, rfl⟩ := nI_of b0
      have hx : x ≤ 5 := Nat.le_of_not_lt fun y => nI_ge (a := 5) y x1 b5
      obtain ⟨r, t0, t1, t2, t3, t4⟩ := tell_item hK hN v j2 j1 hx
      rw [t0, q_c]
      have hI : ivA N (t + 1) m D E G1 S1 T1 ∧ coV S1 = coV S := ⟨ivA_t hiv, hco⟩
      have hfo := qM_isFolder (K := K) v.1.1.1.1 hN v.1.1.2.1 v.2.2.2.2.2.1.1 j1
      have hat := (v.1.1.2.1.2.2.1 j j2 j1).1
      have hsp := (v.2.2.2.2.2.1.1.2.2.2.2 j j2 j1).1
      have hen := (v.2.2.2.2.2.2.1.2.1 j j2 j1).2.2.2.1
      have hD := v.1.1.1.1
      have hin : lf_in (nI j) 4200 := q_in hlen (by decide)
      have hl1 := o1_lt D (isp (itr (sIt z) j) + 11)
      clear v k1 k2 n1 n2 p5
      have hbt : btI D (sIt z) j = o1 D (isp (itr (sIt z) j) + 11) := if_neg (by omega)
      have hno : ∀ c : Nat, c < 100 → x ≠ c → ¬ nI x = nI c := fun c hc y y' => y ((nI_eq (by omega) (by omega)).mp y')
      rcases (show x = 0 ∨ x = 1 ∨ x = 5 ∨ (2 ≤ x ∧ x ≤ 4) by omega) with rfl | rfl | rfl | ⟨g1, g2⟩
      · rw [t1 rfl, if_pos (show nI 0 = 0 from rfl), hfo, q_c]
        by_cases d : isDr D (sIt z) j
        · rw [b01_t d, if_neg (show ¬ nI 1 = 0 by decide)]
          exact Or.inl ⟨_, _, _, _, rfl, rfl, p1, hI⟩
        · rw [b01_f d, if_pos (show nI 0 = 0 from rfl)]
          exact Or.inl ⟨_, _, _, _, rfl, rfl, p1, hI⟩
      · have e1 : nI (o1 D (isp (itr (sIt z) j) + 11)) &&& 1 = nI (o1 D (isp (itr (sIt z) j) + 11) % 2) := pk_andN (by omega) 1 rfl
        rw [t2 rfl, if_neg (show ¬ nI 1 = 0 by decide), if_pos (show nI 1 = 1 from rfl), q_g hin, nI_clamp (by omega), hat, show (11 : Int32) = nI 11 from rfl, nI_add, rM1 D hD (by omega), q_c, e1, hbt]
        exact Or.inl ⟨_, _, _, _, rfl, rfl, p1, hI⟩
      · rw [t3 rfl, if_neg (show ¬ nI 5 = 0 by decide), if_neg (show ¬ nI 5 = 1 by decide), if_pos (show 5 ≤ nI 5 by decide), hfo, q_c]
        by_cases d : o1 D (isp (itr (sIt z) j) + 11) / 16 % 2 = 1
        · rw [b01_t (Or.inr d), if_neg (show ¬ nI 1 = 0 by decide), if_pos p2, show szI D (sIt z) j = 0 from (if_neg (by omega)).trans (if_pos d)]
          exact Or.inl ⟨_, _, _, _, rfl, rfl, p1, hI⟩
        · rw [b01_f (fun y => y.elim (by omega) d), if_pos (show nI 0 = 0 from rfl), q_g hin, nI_clamp (by omega), hat, show (28 : Int32) = nI 28 from rfl, nI_add, rM4 D hD (by omega), q_c, show szI D (sIt z) j = o4 D (isp (itr (sIt z) j) + 28) from (if_neg (by omega)).trans (if_neg d)]
          exact Or.inl ⟨_, _, _, _, rfl, rfl, p1, hI⟩
      · rw [t4 g1 g2, if_neg (show ¬ nI x = 0 from hno 0 (by omega) (by omega)), if_neg (show ¬ nI x = 1 from hno 1 (by omega) (by omega)), if_neg (show ¬ 5 ≤ nI x from nI_ge (b := 5) (by omega) (by omega)), show (2 : Int32) = nI 2 from rfl, pk_sub g1, qM_timeOf (by omega) hN hD hlen hat hsp hen.2.2.1 g1 g2, q_c]
        exact Or.inl ⟨_, _, _, _, rfl, rfl, p1, hI⟩
