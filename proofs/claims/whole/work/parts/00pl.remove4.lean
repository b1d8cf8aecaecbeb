theorem qM_rm62 {K N m hh j : Nat} {D E : Nat → Int32} {fks : List Nat} {z : SS} {G : CG} {S : CS} {T : MS} (hK : 20000 ≤ K) (hN : N ≤ 1024) (v : tv N m D E fks z hh G S T) (hx0 : T.v_thrown = 0) (h1 : 1 ≤ j) (hj : j < (sIt z).length) (hp : ipa (itr (sIt z) j) = hh) : ∃ T', f_Mo_remove_62 K (nI j) 0 T = some T' ∧ T'.v_disk = mk (lks D D (frL (chI N D (sIt z) j))) (slR D (chI N D (sIt z) hh) (isl (itr (sIt z) j) - ipt (itr (sIt z) j)) (ipt (itr (sIt z) j) + 1)) ∧ coN T' = coN T ∧ T'.v_looked = 0 ∧ T'.v_thrown = 0 := by
  have hM := v.1.1.1
  have hR := v.1.1.2.1
  have ho := v.2.2.2.1
  have hz := v.2.2.2.2.2.1.1
  have hSI := v.2.2.2.2.2.2.1
  have hh1 := v.2.2.1.1
  obtain ⟨l1, l2, l3, l4⟩ := item_ch hN v hh1
  obtain ⟨k1, k2, k3, k4⟩ := item_ch hN v hj
  have hfh := qM_here hK hN v
  have hitP := (hSI.2.1 j h1 hj).2.2.2.2
  rw [hp] at hitP
  have hI := hR.2.2.1 j h1 hj
  have hpt := (hz.2.2.2.2 j h1 hj).2.2.1
  have hj42 : j < 4200 := Nat.lt_of_lt_of_le hj hz.2.1
  have hc1 := fun y hy => (chI_cl hSI hh1 y hy).1
  have hc2 := fun y hy => (chI_cl hSI hj y hy).1
  clear v hSI
  have f0 := qM_fails (K := K) T False 3 hx0 (by decide)
  rw [b01_f (fun y => y), cif_f (fun y => y)] at f0
  have f0 : f_Mo_fails K T 0 3 = some (0, T) := f0
  obtain ⟨f, r1, r2⟩ := qM_walk (K := K) (by omega) ho hN hM l1 l3 l4
  obtain ⟨g, t1, t2⟩ := qM_loadL (K := K) l1 (chI N D (sIt z) hh).length 0 K ((T.u_v_chain f).u_v_links (nI (chI N D (sIt z) hh).length)) (by omega) (by omega) rfl r2 (fun q hq => absurd hq (Nat.not_lt_zero _))
  unfold f_Mo_remove_62 f_Mo_loadFolder
  rw [f0, q_c, if_pos rfl, hfh, q_c, qM_beginOf hM.1 hM.2.2.2.2.2.2.1 hN hR hz hh1, q_c, r1, q_b, show (0 : Int32) = nI 0 from rfl, t1, q_b]
  obtain ⟨T2, e2⟩ : ∃ T2, (((T.u_v_chain f).u_v_links (nI (chI N D (sIt z) hh).length)).u_v_folder g).u_v_folders (nI (chI N D (sIt z) hh).length) = T2 := ⟨_, rfl⟩
  have hM2 : mIs N D T2 := by rw [← e2]; exact hM
  have hR2 : rmI (sIt z) T2 := by rw [← e2]; exact hR
  have hf2 : ∀ q, q < (chI N D (sIt z) hh).length → T2.v_folder q = nI ((chI N D (sIt z) hh).getD q 0) := by rw [← e2]; exact t2
  have hc3 : coN T2 = coN T := by rw [← e2]; rfl
  have hx2 : T2.v_thrown = 0 := by rw [← e2]; exact hx0
  rw [e2]
  clear e2 t1 r1 hfh
  obtain ⟨f', w1, w2⟩ := qM_walk (K := K) (by omega) ho hN hM2 k1 k3 k4
  rw [qM_beginOf hM2.1 hM2.2.2.2.2.2.2.1 hN hR2 hz hj, q_c, w1, q_b]
  have hI2 := hR2.2.2.1 j h1 hj
  rw [qM_rmL (T := (T2.u_v_chain f').u_v_links (nI (chI N D (sIt z) j).length)) (by omega) ho hN hc2 k1 hj42 hitP.2.2.1 (chI N D (sIt z) j).length 0 K (by omega) (by omega) rfl w2 hM2.2.2.2.1 hM2.2.2.2.2.1 hM2.2.2.2.2.2.1 hI2.2.1 hI2.2.2.1]
  have hps := hitP.2.2.1
  rw [qM_mark (T := ((T2.u_v_chain f').u_v_links (nI (chI N D (sIt z) j).length)).u_v_disk (lks D ((T2.u_v_chain f').u_v_links (nI (chI N D (sIt z) j).length)).v_disk (frL ((chI N D (sIt z) j).drop 0)))) ho hN hc1 l1 hj42 hitP.2.1 (ipt (itr (sIt z) j) + 1) (isl (itr (sIt z) j) - ipt (itr (sIt z) j)) K (by omega) (by omega) hI2.2.1 hM2.2.2.1 hM2.2.2.2.2.2.2.2.1 hf2]
  refine ⟨_, rfl, ?_, hc3, rfl, hx2⟩
  show mk (lks D T2.v_disk (frL ((chI N D (sIt z) j).drop 0))) _ = _
  rw [List.drop_zero, hM2.1]
theorem opA_remove {K N t m : Nat} {D E : Nat → Int32} {G : CG} {S : CS} {T : MS} (hK : 20000 ≤ K) (h : ivA N t m D E G S T) (a : Int32) : rslU (fun e => if e = 0 then 3 else e) (fun e => e = 0 ∨ e = 1 ∨ e = 2) (f_Vt_remove K G S a) (f_Mo_remove K T a) (fun G' S' T' => ∃ D' E', ivA N (t + 1) m D' E' G' S' T' ∧ S'.v_Tp_used = S.v_Tp_used) := by
  obtain ⟨G1, S1, T1, c1, m1, p1, p2, p3, p4, hiv, hco, hcl, p5⟩ := preA hK h
  have hN1 := h.1.1.1
  have hN := h.1.1.2.1
  have hm4 := h.1.2.2.2.2.2.2.1.2.2.2
  have htp : S1.v_Tp_used = S.v_Tp_used := coV_v_Tp_used hco
  have same : ∀ x : Int32, ∃ D' E', ivA N (t + 1) m D' E' (G1.made 1 6) S1 (T1.u_v_thrown x) ∧ S1.v_Tp_used = S.v_Tp_used := fun x => ⟨D, E, ivA_made (ivA_thr hiv x), htp⟩
  have fl : ∀ (x c : Int32) (y : Prop), x = b01 y → ¬ c = 0 → f_Mo_fails K T1 x c = some (x, cif y (T1.u_v_thrown c) T1) := fun x c y e hc0 => by rw [e]; exact qM_fails T1 y c p1 hc0
  have f2 : f_Mo_fails K T1 1 2 = some (1, T1.u_v_thrown 2) := by rw [fl 1 2 True (b01_t trivial).symm (by decide), cif_t trivial]
  have f20 : f_Mo_fails K T1 0 2 = some (0, T1) := by rw [fl 0 2 False (b01_f (fun y => y)).symm (by decide), cif_f (fun y => y)]
  have f3 : f_Mo_fails K T1 1 3 = some (1, T1.u_v_thrown 3) := by rw [fl 1 3 True (b01_t trivial).symm (by decide), cif_t trivial]
  clear fl
  have g2 : f_Mo_remove_25 K a 1 T1 = some (T1.u_v_thrown 2) := by
    unfold f_Mo_remove_25
    rw [f2, q_c, if_neg (by decide)]
  unfold f_Vt_remove f_Vt_remove_5 f_Mo_remove f_Mo_remove_20
  rw [look_n c1, qM_fixed m1 p1 p2 p3, q_c]
  by_cases w : flt N D = 0
  rotate_left
  · rw [want_no p4 w, a_er, b01_t w, cif_t w, if_neg (by decide)]
    exact Or.inr ⟨1, _, _, _, rfl, rfl, Or.inr (Or.inl rfl), rfl, same 1⟩
  obtain ⟨fks, z, hh, etr, v⟩ := p5 w
  rw [want_ok p4 w, a_ok, b01_f (fun y => y w), cif_f (fun y => y w), if_pos (show nI 0 = 0 from rfl)]
  unfold f_Vt_remove_8
  rcases itemHere (K := K) v a with ⟨k, hk, rfl, e⟩ | ⟨g, e⟩
  rotate_left
  · rw [e, a_er]
    by_cases a0 : a < 0
    · rw [if_pos a0, g2]
      exact Or.inr ⟨2, _, _, _, rfl, rfl, Or.inr (Or.inr rfl), rfl, same 2⟩
    · rw [if_neg a0, qM_many hK hN p2 v, q_c, if_neg (fun y => absurd y (Int32.not_lt.mpr (g.resolve_left a0))), g2]
      exact Or.inr ⟨2, _, _, _, rfl, rfl, Or.inr (Or.inr rfl), rfl, same 2⟩
  have hfl : fks.length = (sIt z).length := v.1.1.2.2.2.2.2.1
  have hkl : hh < fks.length := by rw [hfl]; exact v.2.2.1.1
  obtain ⟨j1, j2, j3⟩ := hn_lt v.2.2.2.2.2.2.2.1 hkl hk
  have hlen : fkI fks hh + k < 4200 := Nat.lt_of_lt_of_le j1 v.2.2.2.2.2.1.1.2.1
  have hnl := hn_le v.2.2.2.2.2.2.2.1 hkl
  have hl42 := v.2.2.2.2.2.1.1.2.1
  have hk31 : hn fks z hh < 2 ^ 31 := by clear v f2 g2; omega
  have hit0 := qM_item hK hN v hk
  have hmany := qM_many hK hN p2 v
  generalize hj : fkI fks hh + k = j at *
  obtain ⟨tt, cS⟩ := v.2.1.2.2.1
  have hfo := qM_isFolder (K := K) v.1.1.1.1 hN v.1.1.2.1 v.2.2.2.2.2.1.1 j1
  have hcnt := qC_count (K := K) v j1
  have hkd := (v.1.1.2.2.2.2.1 j (by rw [hfl]; exact j1)).2
  rw [e, a_ok, if_neg (nI_pos (Nat.lt_trans hk hk31)), hmany, q_c, if_pos (nI_lt hk hk31)]
  unfold f_Vt_remove_13 f_Mo_remove_25 f_Mo_remove_61
  rw [hcnt, q_c, f20, q_c, if_pos rfl, hit0, q_c, hfo, q_c, q_g (q_in hlen (by decide)), nI_clamp (Nat.lt_trans hlen (by decide)), hkd]
  have hkc : kcI fks (sIt z).length j ≤ (sIt z).length := by
    have := (v.2.2.2.2.2.2.2.1 j (by rw [hfl]; exact j1)).2.2.1
    unfold kcI
    clear v f2 g2
    omega
  by_cases y : kcI fks (sIt z).length j = 0
  rotate_left
  · have hd : isDr D (sIt z) j := Classical.byContradiction fun d => y (file_kids v j1 d)
    have hnle : ¬ nI (kcI fks (sIt z).length j) ≤ 0 := nI_nle (by clear v f2 g2; omega) (by clear v f2 g2; omega)
    rw [if_neg hnle, b01_t (show j = 0 ∨ o1 D (isp (itr (sIt z) j) + 11) / 16 % 2 = 1 from hd), if_neg (show ¬ nI 1 = 0 by decide), if_neg hnle]
    unfold f_Mo_remove_62
    rw [f3, q_c, if_neg (by decide)]
    exact Or.inr ⟨0, _, _, _, rfl, rfl, Or.inl rfl, rfl, same 3⟩
  rw [y, if_pos (show nI 0 ≤ 0 by decide), if_pos (show nI 0 ≤ 0 by decide), ite_self]
  obtain ⟨T', b1, b2, b3, b4, b5⟩ := qM_rm62 hK hN v p1 j2 j1 j3
  have ho := v.2.2.2.1
  have hSI := v.2.2.2.2.2.2.1
  have hh1 := v.2.2.1.1
  have hHe := v.2.2.1.2.2.1
  have hff := hd_facts ho hN
  have hcI := v.2.1.2.1
  have hitP := (hSI.2.1 j j2 j1).2.2.2.2
  rw [j3] at hitP
  have hH := ((agF_A hN1 hN h.1.2.2.2.2.2.2.1.1).2 ho).1
  have hpt20 := (v.2.2.2.2.2.1.1.2.2.2.2 j j2 j1).2.2.1
  obtain ⟨l1, l2, l3, l4⟩ := item_ch hN v hh1
  obtain ⟨k1, k2, k3, k4⟩ := item_ch hN v j1
  have hc1 := fun y hy => (chI_cl hSI hh1 y hy).1
  have hc2 := fun y hy => (chI_cl hSI j1 y hy)
  obtain ⟨S', a1, a2, a3, a4⟩ := qC_drop (K := K) (p := 0) (S := S1.u_v_Vt_stale 1) (by omega) (by clear v hSI; omega) hN1 hN ho hH hcI cS.2.2.2.2.1.1 cS.1 cS.2.2.2.2.1.2.2.1 j1 hh1 rfl rfl hitP.2.2.1 l3 hc1 l4 l2 hitP.2.1 k3 (fun y hy => (hc2 y hy).1) k4 k2
  unfold f_Vt_changed
  rw [q_l, q_b, show (S1.u_v_Vt_stale 1).v_Vt_here = nI hh from hHe, a1, q_b, b1]
  have hmks : ∀ q ∈ slR D (chI N D (sIt z) hh) (isl (itr (sIt z) j) - ipt (itr (sIt z) j)) (ipt (itr (sIt z) j) + 1), 512 * ha D ≤ q ∧ q % 32 = 0 ∧ clOf D q ∈ chI N D (sIt z) hh := fun q hq => by
    obtain ⟨r, w1, w2, w3⟩ := slR_mem _ _ hq
    have hps := hitP.2.2.1
    have hsl := hitP.2.1
    obtain ⟨u1, u2, u3⟩ := plS_in (k := 0) (s := r) ho hN hc1 (by clear v hSI; omega) (by decide)
    rw [Nat.add_zero, ← w3] at u1 u3
    refine ⟨u1, ?_, u3⟩
    rw [w3]
    unfold plS
    omega
  have hl : lsOk N D (frL (chI N D (sIt z) j)) := fun b hb => by
    obtain ⟨y, y1, rfl⟩ := List.mem_map.mp hb
    have := (hc2 y y1).1.2
    exact ⟨by show y < _; omega, by show 0 < 2 ^ 28; decide⟩
  have hout : ∀ (X : Nat → Int32) q, q < 512 * ha D → o1 (mk X (slR D (chI N D (sIt z) hh) (isl (itr (sIt z) j) - ipt (itr (sIt z) j)) (ipt (itr (sIt z) j) + 1))) q = o1 X q := fun X q hq => mk_out _ _ fun w => by have := (hmks q w).1; omega
  have hfin := ivA_TF (l := frL (chI N D (sIt z) j)) (fun X => mk X (slR D (chI N D (sIt z) hh) (isl (itr (sIt z) j) - ipt (itr (sIt z) j)) (ipt (itr (sIt z) j) + 1))) [] hiv etr v a3 b3 b2 a2 b4 a4 hl (fun b hb => by
      obtain ⟨y, y1, rfl⟩ := List.mem_map.mp hb
      exact Or.inl (Nat.zero_le _)) (fun b hb => by
      obtain ⟨y, y1, rfl⟩ := List.mem_map.mp hb
      exact Or.inr (Or.inr ⟨j, j2, j1, j3, y1⟩)) (fun b hb => by
      obtain ⟨y, y1, rfl⟩ := List.mem_map.mp hb
      exact (hc2 y y1).2) (fun X Y q hq => mk_ag _ _ _ hq)
    (fun w w1 w2 w3 w4 => mk_cp (fun q hq => (hmks q hq).2.1) w4)
    (fun q q1 q2 q3 => mk_out _ _ fun w => q3 (Or.inr (Or.inl (hmks q w).2.2)))
    (fun q hq => hout _ q hq)
    (fun q hq => lks_ag ho hN _ _ _ hl (fun q' _ g2 => hout E q' g2) q (hout E q hq))
    (fun q hq => mk_ag _ _ _ (lks_out ho hN (Or.inr hq) _ _ hl))
    (fun q hq => lks_out ho hN (Or.inr hq) _ _ hl) (by show m + 0 ≤ 4000; exact hm4)
  exact Or.inl ⟨_, _, _, rfl, rfl, b5, _, _, ivA_t hfin, (congrArg (fun x => x.2.2.2.2) a3).trans htp⟩
