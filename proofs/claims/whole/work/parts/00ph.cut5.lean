theorem cut_tab {N p c x q : Nat} {D X : Nat → Int32} {ch : List Nat} (h : hdOk N D) (hN : N ≤ 1024) (hp : 512 * ha D ≤ p) (hq : q < 512 * ha D) : o1 (st (cutE D (lks D X (frL (ch.drop c))) p c ch) (p + 28) x 4) q = o1 (lks D X (cutP c ch)) q := by
  rw [st_out (by omega)]
  unfold cutE cutP
  by_cases g0 : c = 0
  · rw [if_pos g0, if_pos g0, st_out (by omega), st_out (by omega)]
  rw [if_neg g0, if_neg g0]
  by_cases g : c < ch.length
  · rw [if_pos g, if_pos g, lks_app]
    rfl
  · rw [if_neg g, if_neg g]
theorem cut_tabC {N p c x q : Nat} {D X : Nat → Int32} {ch : List Nat} (h : hdOk N D) (hN : N ≤ 1024) (hcl : ∀ y ∈ ch, isCl N D y) (hn : ch.Nodup) (hp : 512 * ha D ≤ p) (hq : q < 512 * ha D) : o1 (st (lks D (cutE D X p c ch) (frL (ch.drop c))) (p + 28) x 4) q = o1 (lks D X (cutP c ch)) q := by
  have hl : lsOk N D (frL (ch.drop c)) := fun a ha1 => by
    obtain ⟨y, y1, rfl⟩ := List.mem_map.mp ha1
    have := (hcl y (List.mem_of_mem_drop y1)).2
    exact ⟨by show y < _; omega, by show 0 < 2 ^ 28; decide⟩
  rw [st_out (by omega)]
  unfold cutE cutP
  by_cases g0 : c = 0
  · rw [if_pos g0, if_pos g0]
    have ho : ∀ q', q' < 512 * ha D → o1 (st (st X (p + 20) 0 2) (p + 26) 0 2) q' = o1 X q' := fun q' hq' => by rw [st_out (by omega), st_out (by omega)]
    exact lks_ag h hN _ _ _ hl (fun q' _ g2 => ho q' g2) q (ho q hq)
  rw [if_neg g0, if_neg g0]
  by_cases g : c < ch.length
  · rw [if_pos g, if_pos g]
    have hi : c - 1 < ch.length := by omega
    have hmem : ch.getD (c - 1) 0 ∈ ch := by
      rw [List.getD_eq_getElem?_getD, List.getElem?_eq_getElem hi]
      exact List.getElem_mem hi
    refine lks_last h hN (by have := (hcl _ hmem).2; omega) _ _ hl (fun b hb e => ?_) q
    obtain ⟨y, y1, rfl⟩ := List.mem_map.mp hb
    have e : y = ch.getD (c - 1) 0 := e
    rw [e] at y1
    exact getD_nd hn (by omega) (by omega) y1
  · rw [if_neg g, if_neg g]
theorem cut_dat {N p c x q : Nat} {D X : Nat → Int32} {ch : List Nat} (h : hdOk N D) (hN : N ≤ 1024) (hcl : ∀ y ∈ ch, isCl N D y) (hq : 512 * ha D ≤ q) : o1 (st (cutE D (lks D X (frL (ch.drop c))) p c ch) (p + 28) x 4) q = o1 (cutD p c x X) q ∧ o1 (st (lks D (cutE D X p c ch) (frL (ch.drop c))) (p + 28) x 4) q = o1 (cutD p c x X) q := by
  have hl : lsOk N D (frL (ch.drop c)) := fun a ha1 => by
    obtain ⟨y, y1, rfl⟩ := List.mem_map.mp ha1
    have := (hcl y (List.mem_of_mem_drop y1)).2
    exact ⟨by show y < _; omega, by show 0 < 2 ^ 28; decide⟩
  have hout : ∀ Y : Nat → Int32, o1 (lks D Y (frL (ch.drop c))) q = o1 Y q := fun Y => lks_out h hN (Or.inr hq) _ Y hl
  unfold cutE cutD
  by_cases g0 : c = 0
  · rw [if_pos g0, if_pos g0, if_pos g0]
    exact ⟨st_ag (st_ag (st_ag (hout X))), st_ag (hout _)⟩
  rw [if_neg g0, if_neg g0, if_neg g0]
  by_cases g : c < ch.length
  · rw [if_pos g, if_pos g]
    have hi : c - 1 < ch.length := by omega
    have hmem : ch.getD (c - 1) 0 ∈ ch := by
      rw [List.getD_eq_getElem?_getD, List.getElem?_eq_getElem hi]
      exact List.getElem_mem hi
    have hlo : ∀ Y : Nat → Int32, o1 (lk D Y (ch.getD (c - 1) 0) 268435455) q = o1 Y q := fun Y => lk_out h hN (by have := (hcl _ hmem).2; omega) (Or.inr hq)
    exact ⟨st_ag ((hlo _).trans (hout X)), st_ag ((hout _).trans (hlo X))⟩
  · rw [if_neg g, if_neg g]
    exact ⟨st_ag (hout X), st_ag (hout X)⟩
theorem opA_cut {K N t m : Nat} {D E : Nat → Int32} {G : CG} {S : CS} {T : MS} (hK : 20000 ≤ K) (h : ivA N t m D E G S T) (hm1 : m + 1 ≤ 4000) (a b : Int32) : rsl (fun e => if e = 0 then 3 else e) (fun e => e = 0 ∨ e = 1 ∨ e = 2) (f_Vt_cut K G S a b) (f_Mo_cut K T a b) (fun G' S' T' => ∃ m' D' E', m' ≤ m + 1 ∧ ivA N (t + 1) m' D' E' G' S' T' ∧ S'.v_Tp_used = S.v_Tp_used) := by
  obtain ⟨G1, S1, T1, c1, m1, p1, p2, p3, p4, hiv, hco, hcl, p5⟩ := preA hK h
  have hN1 := h.1.1.1
  have hN := h.1.1.2.1
  have htp : S1.v_Tp_used = S.v_Tp_used := coV_v_Tp_used hco
  have same : ∀ x : Int32, ∃ m' D' E', m' ≤ m + 1 ∧ ivA N (t + 1) m' D' E' (G1.made 1 6) S1 (T1.u_v_thrown x) ∧ S1.v_Tp_used = S.v_Tp_used := fun x => ⟨m, D, E, by omega, ivA_made (ivA_thr hiv x), htp⟩
  have nf := fun bb => qM_noFile (t := t) (m := m) (E := E) (G := G1) (S := S1) (T := T) hK hN m1 p1 p2 p3 a bb
  have href : ∀ x : Int32, (∀ bb, f_Mo_noFile K T a bb = some (1, T1.u_v_thrown x)) → f_Mo_cut K T a b = some (0, T1.u_v_thrown x) := fun x hx => by
    unfold f_Mo_cut f_Mo_cut_11 f_Mo_cut_51
    rw [hx, hx, q_c, if_neg (show ¬ (1 : Int32) = 0 by decide)]
    split <;> rfl
  unfold f_Vt_cut f_Vt_cut_5
  rw [look_n c1]
  by_cases w : flt N D = 0
  rotate_left
  · rw [want_no p4 w, a_er, href 1 (fun bb => (nf bb).1 w)]
    exact Or.inr ⟨1, _, _, _, _, rfl, rfl, Or.inr (Or.inl rfl), rfl, same 1⟩
  obtain ⟨fks, z, hh, etr, v⟩ := p5 w
  rw [want_ok p4 w, a_ok]
  unfold f_Vt_cut_8 f_Vt_fileHere
  rcases itemHere (K := K) v a with ⟨k, hk, rfl, e⟩ | ⟨g, e⟩
  rotate_left
  · rw [e, a_er, a_er, href 2 (fun bb => ((nf bb).2 fks z hh w v).1 g)]
    exact Or.inr ⟨2, _, _, _, _, rfl, rfl, Or.inr (Or.inr rfl), rfl, same 2⟩
  have nk := fun bb => ((nf bb).2 fks z hh w v).2 k hk rfl
  have hkl : hh < fks.length := by rw [v.1.1.2.2.2.2.2.1]; exact v.2.2.1.1
  obtain ⟨j1, j2, j3⟩ := hn_lt v.2.2.2.2.2.2.2.1 hkl hk
  have hlen : fkI fks hh + k < 4200 := Nat.lt_of_lt_of_le j1 v.2.2.2.2.2.1.1.2.1
  have hit0 := qM_item hK hN v hk
  clear nf
  generalize hj : fkI fks hh + k = j at *
  obtain ⟨tt, cS⟩ := v.2.1.2.2.1
  rw [e, a_ok]
  unfold f_Vt_fileHere_5
  rw [qC_isDir cS.2.2.2.2.1.1 cS.1 cS.2.2.2.2.1.2.2.1 j1, q_c]
  by_cases d : isDr D (sIt z) j
  · rw [b01_t d, if_neg (show ¬ nI 1 = 0 by decide), a_er, href 3 (fun bb => (nk bb).1 (Or.inl d))]
    exact Or.inr ⟨0, _, _, _, _, rfl, rfl, Or.inl rfl, rfl, same 3⟩
  rw [b01_f d, if_pos (show nI 0 = 0 from rfl), a_ok]
  unfold f_Vt_cut_13 f_Vt_cut_30
  by_cases b0 : b < 0
  · rw [if_pos b0]
    have hb : ¬ (0 : Int32) ≤ b := Int32.not_le.mpr b0
    unfold f_Mo_cut f_Mo_cut_11 f_Mo_cut_51
    rw [if_neg hb, (nk 1).1 (Or.inr (by decide)), q_c, if_neg (by decide)]
    exact Or.inr ⟨0, _, _, _, _, rfl, rfl, Or.inl rfl, rfl, same 3⟩
  have hb : (0 : Int32) ≤ b := Int32.not_lt.mp b0
  obtain ⟨x, x1, rfl⟩ := nI_of b0
  have hdn : ¬ o1 D (isp (itr (sIt z) j) + 11) / 16 % 2 = 1 := fun y => d (Or.inr y)
  have hat := (v.1.1.2.1.2.2.1 j j2 j1).1
  have hsp := (v.2.2.2.2.2.1.1.2.2.2.2 j j2 j1).1
  have ho := v.2.2.2.1
  have hff := hd_facts ho hN
  have hM := v.1.1.1
  have hcI := v.2.1.2.1
  have hSI := v.2.2.2.2.2.2.1
  obtain ⟨i1, i2, i3, i4⟩ := item_pos hN v j2 j1 j3 (k := 0) (by decide)
  obtain ⟨s1, s2, s3, s4, s5, s6, s7⟩ := file_ch hN v j2 j1 hdn
  have hsz : szI D (sIt z) j = o4 D (isp (itr (sIt z) j) + 28) := (if_neg (show ¬ j = 0 from Nat.one_le_iff_ne_zero.mp j2)).trans (if_neg hdn)
  have hmp : mp0 D (isp (itr (sIt z) j)) = isp (itr (sIt z) j) := mp0_id ho hN i1
  have hsI : spI (mp0 D) (sIt z) j = isp (itr (sIt z) j) := (if_neg (show ¬ j = 0 from Nat.one_le_iff_ne_zero.mp j2)).trans hmp
  have hbg : begI D (sIt z) j = fc D (isp (itr (sIt z) j)) := if_neg (show ¬ j = 0 from Nat.one_le_iff_ne_zero.mp j2)
  have hcc := fun y hy => (chI_cl hSI j1 y hy)
  have hH := ((agF_A hN1 hN h.1.2.2.2.2.2.2.1.1).2 ho).1
  have hC := hff.1
  rw [if_neg b0, qC_size cS.2.2.2.2.1.1 cS.1 cS.2.2.2.2.1.2.2.1 j1, q_c, hsz]
  have hin : lf_in (nI j) 4200 := q_in hlen (by decide)
  have href2 : f_Mo_cut K T (nI k) (nI x) = if nI x ≤ nI (o4 D (isp (itr (sIt z) j) + 28)) then f_Mo_cut_44 K (nI k) (nI x) 0 T1 else f_Mo_cut_44 K (nI k) (nI x) 1 T1 := by
    unfold f_Mo_cut f_Mo_cut_11
    rw [if_pos hb, (nk 0).2 d rfl, q_c, if_pos rfl, hit0, q_c, q_g hin, nI_clamp (Nat.lt_trans hlen (by decide)), hat, show (28 : Int32) = nI 28 from rfl, nI_add, rM4 D hM.1 (by clear v hSI nk href same cS; omega), q_c]
  rw [href2]
  by_cases y : nI x ≤ nI (o4 D (isp (itr (sIt z) j) + 28))
  rotate_left
  · rw [if_neg y, if_neg y]
    have f3 := qM_fails (K := K) T1 True 3 p1 (by decide)
    rw [b01_t trivial, cif_t trivial] at f3
    have f3 : f_Mo_fails K T1 1 3 = some (1, T1.u_v_thrown 3) := f3
    unfold f_Mo_cut_44 f_Mo_cut_51
    rw [f3, q_c, if_neg (by decide)]
    exact Or.inr ⟨0, _, _, _, _, rfl, rfl, Or.inl rfl, rfl, same 3⟩
  rw [if_pos y, if_pos y]
  have hxs : x ≤ o4 D (isp (itr (sIt z) j) + 28) := Nat.le_of_not_lt fun y' => nI_ge y' x1 y
  have hle : o4 D (isp (itr (sIt z) j) + 28) ≤ (chI N D (sIt z) j).length * (512 * hc D) := by rw [s7]; exact le_ceil (by clear v hSI nk href same cS; omega)
  have hle2 : (chI N D (sIt z) j).length * (512 * hc D) ≤ 514 * 4096 := Nat.mul_le_mul s2 (by clear v hSI nk href same cS; omega)
  have hx24 : x < 2 ^ 24 := by clear v hSI nk href same cS; omega
  have hc0 : (x + 512 * hc D - 1) / (512 * hc D) ≤ (chI N D (sIt z) j).length := by rw [s7]; exact ceil_le (by clear v hSI nk href same cS; omega) hxs
  obtain ⟨S', a1, a2, a3, a4⟩ := qC_shorten (K := K) (S := S1.u_v_Vt_stale 1) (by omega) hN1 hN ho hH hcI cS.2.2.2.2.1.1 cS.1 cS.2.2.2.2.1.2.2.1 j1 hsI hsp (by rw [hbg]; exact s4) (fun y hy => (hcc y hy).1) (by rw [hbg]; exact s5) s3 hx24 hc0
  obtain ⟨T', b1, b2, b3, b4, b5⟩ := qM_cut44 (K := K) (by omega) hN ho hM p1 hit0 hlen hat hsp s4 (fun y hy => (hcc y hy).1) s5 s2 hx24 hc0
  unfold f_Vt_changed
  rw [q_l, q_b, a1, q_c, b1]
  generalize (x + 512 * hc D - 1) / (512 * hc D) = c at *
  have hcl' : ∀ y ∈ chI N D (sIt z) j, isCl N D y := fun y hy => (hcc y hy).1
  have hfin := ivA_TF (l := cutP c (chI N D (sIt z) j)) (cutD (isp (itr (sIt z) j)) c x) [isp (itr (sIt z) j) / 32] hiv etr v a3 b3 b2 a2 b4 a4 (fun q hq => ⟨by have := (hcl' _ (cutP_mem hq).1).2; omega, by rcases (cutP_mem hq).2 with e | e <;> rw [e] <;> decide⟩) (fun q hq => (cutP_mem hq).2.imp (fun e => by rw [e]; decide) (fun e => by rw [e]; decide)) (fun q hq => Or.inr (Or.inr ⟨j, j2, j1, j3, (cutP_mem hq).1⟩)) (fun q hq => (hcc _ (cutP_mem hq).1).2) cutD_ag
    (fun w w1 w2 w3 w4 => (cpP_slq fun i hi => cutD_out D _ (by
      have : w ≠ isp (itr (sIt z) j) / 32 := fun y => w3 (List.mem_singleton.mpr y)
      clear v hSI nk href same cS
      omega)).mp w4)
    (fun q q1 q2 q3 => cutD_out D q (Classical.byContradiction fun w => q3 (by
      obtain ⟨-, -, i3', -⟩ := item_pos hN v j2 j1 j3 (k := q - isp (itr (sIt z) j)) (by clear v hSI nk href same cS; omega)
      rw [show isp (itr (sIt z) j) + (q - isp (itr (sIt z) j)) = q by clear v hSI nk href same cS; omega] at i3'
      exact Or.inr (Or.inl i3'))))
    (fun q hq => cut_tab ho hN i1 hq) (fun q hq => cut_tabC ho hN hcl' s6 i1 hq) (fun q hq => (cut_dat ho hN hcl' hq).1) (fun q hq => (cut_dat ho hN hcl' hq).2) hm1
  exact Or.inl ⟨_, _, _, _, rfl, rfl, b5, m + 1, _, _, Nat.le_refl _, ivA_t hfin, (congrArg (fun x => x.2.2.2.2) a3).trans htp⟩
