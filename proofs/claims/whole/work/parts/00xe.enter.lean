/-! enter and up of a turned volume. -/
theorem hin_nmr {j : Nat} (h : 1 ≤ j) : nmr j = hin j := by unfold nmr hin; rw [if_neg (by omega), if_neg (by omega)]
theorem eNu_kid {fks : List Nat} {its : List It} {i q : Nat} (c : q < kcI fks its.length i) : eNu fks its i (q + 2) = nmr (fkI fks i + q) := by
  unfold eNu
  rw [if_neg (by omega), if_neg (by omega), if_pos (show isK fks its i (q + 2) from by show q + 2 - 2 < _; rw [Nat.add_sub_cancel]; exact c), Nat.add_sub_cancel]
theorem eNu_rec {fks : List Nat} {its : List It} {i q : Nat} (c : ¬ q < kcI fks its.length i) : eNu fks its i (q + 2) = 11 := by
  unfold eNu
  rw [if_neg (by omega), if_neg (by omega), if_neg (show ¬ isK fks its i (q + 2) from by show ¬ q + 2 - 2 < _; rw [Nat.add_sub_cancel]; exact c)]
theorem eKd_kid {D : Nat → Int32} {fks : List Nat} {its : List It} {i q : Nat} (c : q < kcI fks its.length i) : eKd D fks its i (q + 2) = cif (isDr D its (fkI fks i + q)) 2 1 := by
  unfold eKd
  rw [if_neg (by omega), if_pos (show isK fks its i (q + 2) from by show q + 2 - 2 < _; rw [Nat.add_sub_cancel]; exact c), Nat.add_sub_cancel]
theorem eKd_rec {D : Nat → Int32} {fks : List Nat} {its : List It} {i q : Nat} (c : ¬ q < kcI fks its.length i) : eKd D fks its i (q + 2) = 1 := by
  unfold eKd
  rw [if_neg (by omega), if_neg (show ¬ isK fks its i (q + 2) from by show ¬ q + 2 - 2 < _; rw [Nat.add_sub_cancel]; exact c)]
theorem cl_isDir {K i e N : Nat} {D : Nat → Int32} {fks : List Nat} {z : SS} {A H B P g0 r to : Nat} {gl : Nat → Nat} {E F : Nat → Int32} {G : CG} {S : CS} (h : tB N D fks z A H B P g0 r to gl E F) (hG : G.n = N) (hS : S.w_Dk_bytes = E) (hi : i < (sIt z).length) (hd : isDr D (sIt z) i) (he : e < eNo fks (sIt z) i) : f_In_isDirectory K G S (nI (enP N D fks (sIt z) A H (rml A H (fxd A P r g0) (ent D) gl (hk N D)) i e)) = some (if eKd D fks (sIt z) i e = 2 then 1 else 0, S) ∧ f_In_inodeOf K G S (nI (enP N D fks (sIt z) A H (rml A H (fxd A P r g0) (ent D) gl (hk N D)) i e)) = some (nI (eNu fks (sIt z) i e), S) := by
  have hm := tB_num h
  have hN := hm.2.2.2.2.2.2.2.2.2.2.2.1
  have hin0 := ent_in h hi hd he
  obtain ⟨t1, t2, t3, t4, t5⟩ := tB_ent h hi hd e he
  have hk2 : eKd D fks (sIt z) i e < 2 ^ 31 := by
    unfold eKd
    split
    · decide
    · split
      · by_cases c : isDr D (sIt z) (fkI fks i + (e - 2))
        · rw [cif_t c]; decide
        · rw [cif_f c]; decide
      · decide
  refine ⟨?_, ?_⟩
  · unfold f_In_isDirectory
    rw [show (7 : Int32) = nI 7 from rfl, nI_add, rV1 E hG hS hN (by omega), q_c, t4]
    by_cases c : eKd D fks (sIt z) i e = 2
    · rw [if_pos c, c, if_pos (show nI 2 = 2 from rfl)]
    · rw [if_neg c, if_neg (fun y : nI (eKd D fks (sIt z) i e) = 2 => c ((nI_eq (b := 2) hk2 (by decide)).mp y))]
  · unfold f_In_inodeOf
    rw [rV4 E hG hS hN (by omega), q_c, t1]
theorem opB_enter {K N t m : Nat} {D E : Nat → Int32} {G : CG} {S : CS} {T : MS} (hK : 100000 ≤ K) (h : ivB K N t m D E G S T) (a : Int32) : rsl (fun e => if e = 0 then 3 else e) (fun e => e = 0 ∨ e = 1 ∨ e = 2) (f_Vt_enter K G S a) (f_Mo_enter K T a) (fun G' S' T' => ivB K N (t + 1) m D E G' S' T' ∧ S'.v_Tp_used = S.v_Tp_used) := by
  obtain ⟨fks, z, A, H, B, P, g0, r, to, gl, hh, o⟩ := ivB_open h
  have hm := tB_num o.1
  have hN := hm.2.2.2.2.2.2.2.2.2.2.2.1
  have hK2 : 20000 ≤ K := Nat.le_trans (by decide) hK
  obtain ⟨E0, G0, S0, v, -⟩ := o.2.2.1
  obtain ⟨l1, l2⟩ := lookB (K := K) o
  have hj := v.2.2.1.1
  have hd := v.2.2.1.2.1
  have hlen := o.1.2.1.2.1.2.1
  have f1 := qM_fails (K := K) (T.u_v_thrown 0) True 3 rfl (by decide)
  have f0 := qM_fails (K := K) (T.u_v_thrown 0) False 3 rfl (by decide)
  rw [b01_t trivial, cif_t trivial] at f1
  rw [b01_f (fun y => y), cif_f (fun y => y)] at f0
  have f1 : f_Mo_fails K (T.u_v_thrown 0) 1 3 = some (1, T.u_v_thrown 3) := f1
  have f0 : f_Mo_fails K (T.u_v_thrown 0) 0 3 = some (0, T.u_v_thrown 0) := f0
  unfold f_Vt_enter f_Vt_enter_5 f_Vt_enter_8 f_Vt_enter_18 f_Vt_enter_26 f_Vt_enter_66 f_Vt_enter_83 f_Vt_enter_56 f_Mo_enter f_Mo_enter_30 f_Mo_enter_35 f_Mo_enter_42
  rw [lkn l1, reads2, a_ok, if_neg (show ¬ (1 : Int32) = 0 by decide)]
  rcases entB hK o a with ⟨q, hq, rfl, e1, e2, e3⟩ | ⟨S', e1, ⟨x, rfl⟩, e2⟩
  · have he : q + 2 < eNo fks (sIt z) hh := by clear h o v; omega
    obtain ⟨i1, i2⟩ := cl_isDir (K := K) (S := S.u_v_In_seen (nI (q + 2))) o.1 o.2.1.2.1 o.2.1.2.2.1 hj hd he
    rw [e1, a_ok, if_neg (show ¬ (1 : Int32) = 0 by decide), i1, q_c, e2, q_c, if_pos rfl, e3, q_c]
    by_cases c : q < kcI fks (sIt z).length hh
    · obtain ⟨k1, k2, -⟩ := kid_in o.1.2.1.2.2.1.1 o.1.2.1.2.2.1.2 hj c
      have hne : ¬ nI (fkI fks hh + q) = -1 := nI_nm1 (by clear h o v; omega)
      rw [if_pos c] at e3
      rw [if_pos c, if_neg hne, e3, q_c, qM_isFolder (T := T.u_v_thrown 0) v.1.1.1.1 hN v.1.1.2.1 v.2.2.2.2.2.1.1 k2, q_c, eKd_kid c]
      by_cases d : isDr D (sIt z) (fkI fks hh + q)
      · have v2 : tv N m D E0 fks z (fkI fks hh + q) G0 (S0.u_v_Vt_here (nI (fkI fks hh + q))) ((T.u_v_thrown 0).u_v_here (nI (if fkI fks hh + q = 0 then 0 else begI D (sIt z) (fkI fks hh + q)))) := tv_here v k2 d
        have hj0 : ¬ fkI fks hh + q = 0 := by clear h o v v2; omega
        have hv2 := ivB_here (ivB_seen (ivB_thr h 0) (nI (q + 2))) o.2.1.1 k2 d
        rw [if_neg hj0] at v2 hv2
        have hma := manyB (K := K) (T := (T.u_v_thrown 0).u_v_here (nI (begI D (sIt z) (fkI fks hh + q)))) hK2 hN v2 o.2.1.2.2.2.2.1
        have hcn := countB (K := K) (S := (S.u_v_In_seen (nI (q + 2))).u_v_Vt_here (nI (hin (fkI fks hh + q)))) hK o.1 o.2.1.2.1 o.2.1.2.2.1 k2 d
        rw [cif_t d, if_pos rfl, if_neg (show ¬ (1 : Int32) = 0 by decide), if_neg (show ¬ (1 : Int32) = 0 by decide), i2, q_c, eNu_kid c, hin_nmr k1, q_l, if_neg (show ¬ (1 : Int32) = 0 by decide), show ((S.u_v_In_seen (nI (q + 2))).u_v_Vt_here (nI (hin (fkI fks hh + q)))).v_Vt_here = nI (hin (fkI fks hh + q)) from rfl, hcn, q_c, b01_t d, if_neg (show ¬ nI 1 = 0 by decide), f0, q_c, if_pos rfl, e3, q_c, qM_beginOf (T := T.u_v_thrown 0) v.1.1.1.1 v.1.1.1.2.2.2.2.2.2.1 hN v.1.1.2.1 v.2.2.2.2.2.1.1 k2, q_c, q_l, hma, q_c]
        exact Or.inl ⟨_, _, _, _, rfl, rfl, rfl, ivB_t (ivB_seen hv2 _), rfl⟩
      · rw [cif_f d, if_neg (show ¬ (1 : Nat) = 2 by decide), if_pos rfl, b01_f d, if_pos (show nI 0 = 0 from rfl), f1, q_c, if_neg (by decide)]
        exact Or.inr ⟨0, _, _, _, _, rfl, rfl, Or.inl rfl, rfl, ivB_made (ivB_seen (ivB_thr h 3) _), rfl⟩
    · rw [if_neg c, if_pos rfl, eKd_rec c, if_neg (show ¬ (1 : Nat) = 2 by decide), if_pos rfl, f1, q_c, if_neg (by decide)]
      exact Or.inr ⟨0, _, _, _, _, rfl, rfl, Or.inl rfl, rfl, ivB_made (ivB_seen (ivB_thr h 3) _), rfl⟩
  · rw [e1, a_er, e2, q_c, if_neg (by decide)]
    exact Or.inr ⟨2, _, _, _, _, rfl, rfl, Or.inr (Or.inr rfl), rfl, ivB_made (ivB_seen (ivB_thr h 2) x), rfl⟩
theorem opB_up {K N t m : Nat} {D E : Nat → Int32} {G : CG} {S : CS} {T : MS} (hK : 100000 ≤ K) (h : ivB K N t m D E G S T) : rsl (fun _ => 1) (fun e => e = 1) (f_Vt_up K G S) (f_Mo_up K T) (fun G' S' T' => ivB K N (t + 1) m D E G' S' T' ∧ S'.v_Tp_used = S.v_Tp_used) := by
  obtain ⟨fks, z, A, H, B, P, g0, r, to, gl, hh, o⟩ := ivB_open h
  have hm := tB_num o.1
  have hN := hm.2.2.2.2.2.2.2.2.2.2.2.1
  have hK2 : 20000 ≤ K := Nat.le_trans (by decide) hK
  obtain ⟨E0, G0, S0, v, -⟩ := o.2.2.1
  obtain ⟨l1, l2⟩ := lookB (K := K) o
  have hj := v.2.2.1.1
  have hd := v.2.2.1.2.1
  have hlen := o.1.2.1.2.1.2.1
  have hno := noneB (K := K) o
  unfold f_Vt_up f_Vt_up_5 f_Vt_up_8 f_Vt_up_48 f_Mo_up f_Mo_up_14 f_Mo_up_40
  rw [lkn l1, reads2, a_ok, hno, q_c, if_pos rfl, o.2.1.2.2.2.2.2]
  by_cases c : hh = 0
  · have e0 : (T.u_v_thrown 0).v_here = 0 := by rw [show (T.u_v_thrown 0).v_here = T.v_here from rfl, v.2.2.1.2.2.2, if_pos c]; rfl
    have e1 : nI (hin hh) = 0 := by unfold hin; rw [if_pos c]; rfl
    rw [if_pos e1, if_pos e0]
    exact Or.inl ⟨_, _, _, _, rfl, rfl, rfl, ivB_t (ivB_thr h 0), rfl⟩
  · have e0 : ¬ (T.u_v_thrown 0).v_here = 0 := here0 (m := m) v c
    have hhb : hh < 4200 := Nat.lt_of_lt_of_le hj hlen
    have e1 : ¬ nI (hin hh) = 0 := by
      have : 1 ≤ hin hh ∧ hin hh < 2 ^ 31 := by unfold hin; rw [if_neg c]; clear h o v; omega
      exact nI_ne0 this.1 this.2
    have hpos : 1 ≤ hh := Nat.one_le_iff_ne_zero.mpr c
    have hpar := v.2.2.2.2.2.2.1.2.1 hh hpos hj
    have hpt := v.1.1.2.1.2.2.1 hh hpos hj
    have hq := qM_here (T := T.u_v_thrown 0) (m := m) (E := E0) (fks := fks) (z := z) (h := hh) (G := G0) (S := S0) hK2 hN v
    have hpl : ipa (itr (sIt z) hh) < (sIt z).length := Nat.lt_trans hpar.2.1 hj
    have hbg : f_Mo_beginOf K (T.u_v_thrown 0) (nI (ipa (itr (sIt z) hh))) = some (nI (begI D (sIt z) (ipa (itr (sIt z) hh))), T.u_v_thrown 0) := qM_beginOf v.1.1.1.1 v.1.1.1.2.2.2.2.2.2.1 hN v.1.1.2.1 v.2.2.2.2.2.1.1 hpl
    have hM : 1 < eNo fks (sIt z) hh := by unfold eNo; clear h o v; omega
    have hf := cl_find (K := K) (S := S) (y := 1) (rv := nI (enP N D fks (sIt z) A H (rml A H (fxd A P r g0) (ent D) gl (hk N D)) hh 1)) (m := 1) hK o.1 o.2.1.2.1 o.2.1.2.2.1 hj hd (Or.inl ⟨1, hM, rfl, rfl, rfl⟩)
    have hi2 := (cl_isDir (K := K) (S := S.u_v_In_seen (nI 1)) o.1 o.2.1.2.1 o.2.1.2.2.1 hj hd hM).2
    have hen : eNu fks (sIt z) hh 1 = nmr (ipa (itr (sIt z) hh)) := by unfold eNu; rw [if_neg (by decide), if_pos rfl]
    have hpC : f_In_parentOf K G S (nI (hin hh)) = some (nI (hin (ipa (itr (sIt z) hh))), S.u_v_In_seen (nI 1)) := by
      unfold f_In_parentOf
      rw [hf, q_c, hi2, q_c, hen]
      by_cases y : ipa (itr (sIt z) hh) = 0
      · rw [y]
        rfl
      · have hn2 : nmr (ipa (itr (sIt z) hh)) = 11 + ipa (itr (sIt z) hh) := if_neg y
        have hn3 : hin (ipa (itr (sIt z) hh)) = 11 + ipa (itr (sIt z) hh) := if_neg y
        rw [hn2, hn3, if_neg (fun w : nI (11 + ipa (itr (sIt z) hh)) = 2 => by
          have := (nI_eq (a := 11 + ipa (itr (sIt z) hh)) (b := 2) (by clear h o v hpar hpt; omega) (by decide)).mp w
          clear h o v hpar hpt
          omega)]
    have hv2 := ivB_here (ivB_seen (ivB_thr h 0) (nI 1)) o.2.1.1 hpl hpar.2.2.1
    rw [if_neg e1, if_neg (show ¬ (1 : Int32) = 0 by decide), hpC, q_c, q_l ((S.u_v_In_seen (nI 1)).u_v_Vt_here _), if_neg e0, hq, q_c, q_g (q_in hhb (by decide)), nI_clamp (Nat.lt_trans hhb (by decide)), show (T.u_v_thrown 0).v_parent hh = nI (ipa (itr (sIt z) hh)) from hpt.2.2.2.1, q_l]
    by_cases y : ipa (itr (sIt z) hh) = 0
    · rw [y, if_pos rfl] at hv2
      rw [y, if_pos (show nI 0 = 0 from rfl), q_l]
      exact Or.inl ⟨_, _, _, _, rfl, rfl, rfl, ivB_t hv2, rfl⟩
    · rw [if_neg y] at hv2
      rw [if_neg (nI_ne0 (Nat.one_le_iff_ne_zero.mpr y) (Nat.lt_trans hpl (Nat.lt_of_le_of_lt hlen (by decide)))), hbg, q_c, q_l]
      exact Or.inl ⟨_, _, _, _, rfl, rfl, rfl, ivB_t hv2, rfl⟩
