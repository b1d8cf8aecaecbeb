abbrev rslU (cod : Nat → Nat) (ok : Nat → Prop) (X : Option (Except Nat Unit × CG × CS)) (Y : Option MS) (I : CG → CS → MS → Prop) : Prop := (∃ G' S' T', X = some (.ok (), G', S') ∧ Y = some T' ∧ T'.v_thrown = nI 0 ∧ I G' S' T') ∨ (∃ e G' S' T', X = some (.error e, G', S') ∧ Y = some T' ∧ ok e ∧ T'.v_thrown = nI (cod e) ∧ I G' S' T')
theorem ag_data {N : Nat} {ran : Int32} {D E D' E' : Nat → Int32} (hN : N ≤ 1024) (h : agF N ran D E) (hH : agH D D') (hX : ∀ q, q < 512 * N → o1 E q = o1 D q → o1 E' q = o1 D' q) : agF N ran D' E' := by
  rcases h with h | ⟨h1, h2, h3⟩
  · exact Or.inl fun p hp => hX p hp (h p hp)
  · refine Or.inr ⟨h1, (agH_ok hH).mpr h2, fun p hp hs => hX p hp (h3 p hp ?_)⟩
    obtain ⟨e1, e2, e3, e4, e5, e6, e7⟩ := agH_n hH
    have ec : clOf D' p = clOf D p := by unfold clOf; rw [e6, e1]
    unfold shn at hs ⊢
    rw [e6, ec] at hs
    unfold isCl at hs
    rw [e7] at hs
    refine hs.imp id fun w => ⟨w.1, ?_⟩
    have := agH_ent hH h2 hN (x := clOf D p) (by omega)
    rw [← this]
    exact w.2
/-- a change of the entry of an item in HERE -/
theorem ivA_entry {N t m hh j : Nat} {D E : Nat → Int32} {fks : List Nat} {z : SS} {G : CG} {S S' : CS} {T T' : MS} (F : (Nat → Int32) → Nat → Int32) (h : ivA N t m D E G S T) (e : trE N D = .ok (fks, z)) (v : tv N m D E fks z hh G S T) (h1 : 1 ≤ j) (hj : j < (sIt z).length) (hp : ipa (itr (sIt z) j) = hh) (hF1 : ∀ X Y q, o1 X q = o1 Y q → o1 (F X) q = o1 (F Y) q) (hF2 : ∀ X q, q < isp (itr (sIt z) j) + 11 ∨ isp (itr (sIt z) j) + 32 ≤ q → o1 (F X) q = o1 X q) (hS : coE S' = coE S) (hT : coN T' = coN T) (hD : T'.v_disk = F D) (hE : S'.w_Dk_bytes = F E) (hl : T'.v_looked = 0) (hs : S'.v_Vt_stale = 1) (hm : m + 1 ≤ 4000) : ivA N t (m + 1) (F D) (F E) G S' T' := by
  have hN := h.1.1.2.1
  have ho := v.2.2.2.1
  have hff := hd_facts ho hN
  obtain ⟨i1, i2, i3, i4⟩ := item_pos hN v h1 hj hp (k := 0) (by decide)
  have hlow : ∀ q, q < 512 * ha D → o1 (F D) q = o1 D q := fun q hq => hF2 D q (by omega)
  have hH : agH D (F D) := ⟨fun q hq => hlow q (by omega), fun q _ hq => hlow q hq⟩
  obtain ⟨k1, k2⟩ := kept_own (D' := F D) hN v (fun q hq => hlow q (by omega)) (fun q q1 q2 q3 => by
    refine hF2 D q ?_
    refine Classical.byContradiction fun w => q3 ?_
    obtain ⟨-, -, i3', -⟩ := item_pos hN v h1 hj hp (k := q - isp (itr (sIt z) j)) (by omega)
    rw [show isp (itr (sIt z) j) + (q - isp (itr (sIt z) j)) = q by omega] at i3'
    exact Or.inr (Or.inl i3')) (fun x hx _ => agH_ent hH ho hN (by have := hx.2; omega))
  refine ivA_chg h e v hS hT hD hE hl hs k1 k2 (ag_data hN h.1.2.2.2.2.2.2.1.1 hH fun q _ w => hF1 E D q w) (fun q hq => ?_) ?_ hm
  · rw [hlow q (by omega)]
    exact h.1.2.2.2.2.2.2.1.2.1 q hq
  · refine capOk_chg [isp (itr (sIt z) j) / 32] h.1.2.2.2.2.2.2.1.2.2.1 (fun q _ hq => hF2 D q ?_)
    have : q / 32 ≠ isp (itr (sIt z) j) / 32 := fun y => hq (List.mem_singleton.mpr y)
    omega
theorem opA_stamp {K N t m : Nat} {D E : Nat → Int32} {G : CG} {S : CS} {T : MS} (hK : 20000 ≤ K) (h : ivA N t m D E G S T) (hm1 : m + 1 ≤ 4000) (a b c d : Int32) : rslU (fun e => if e = 0 then 3 else e) (fun e => e = 0 ∨ e = 1 ∨ e = 2) (f_Vt_stamp K G S a b c d) (f_Mo_stamp K T a b c d) (fun G' S' T' => ∃ m' D' E', m' ≤ m + 1 ∧ ivA N (t + 1) m' D' E' G' S' T' ∧ S'.v_Tp_used = S.v_Tp_used) := by
  obtain ⟨G1, S1, T1, c1, m1, p1, p2, p3, p4, hiv, hco, hcl, p5⟩ := preA hK h
  have hN1 := h.1.1.1
  have hN := h.1.1.2.1
  have htp : S1.v_Tp_used = S.v_Tp_used := coV_v_Tp_used hco
  have same : ∀ x : Int32, ∃ m' D' E', m' ≤ m + 1 ∧ ivA N (t + 1) m' D' E' (G1.made 1 6) S1 (T1.u_v_thrown x) ∧ S1.v_Tp_used = S.v_Tp_used := fun x => ⟨m, D, E, by omega, ivA_made (ivA_thr hiv x), htp⟩
  unfold f_Vt_stamp f_Vt_stamp_5 f_Mo_stamp f_Mo_stamp_20
  rw [look_n c1, qM_fixed m1 p1 p2 p3, q_c]
  by_cases w : flt N D = 0
  rotate_left
  · rw [want_no p4 w, a_er, b01_t w, cif_t w, if_neg (by decide)]
    exact Or.inr ⟨1, _, _, _, rfl, rfl, Or.inr (Or.inl rfl), rfl, same 1⟩
  · obtain ⟨fks, z, hh, etr, v⟩ := p5 w
    rw [want_ok p4 w, a_ok, b01_f (fun y => y w), cif_f (fun y => y w), if_pos (show nI 0 = 0 from rfl)]
    unfold f_Vt_stamp_8
    have f2 := qM_fails (K := K) T1 True 2 p1 (by decide)
    rw [b01_t trivial, cif_t trivial] at f2
    have f2 : f_Mo_fails K T1 1 2 = some (1, T1.u_v_thrown 2) := f2
    have g2 : f_Mo_stamp_25 K a b c d 1 T1 = some (T1.u_v_thrown 2) := by
      unfold f_Mo_stamp_25
      rw [f2, q_c, if_neg (by decide)]
    rcases itemHere (K := K) v a with ⟨k, hk, rfl, e⟩ | ⟨g, e⟩
    rotate_left
    · rw [e, a_er]
      by_cases a0 : a < 0
      · rw [if_pos a0, g2]
        exact Or.inr ⟨2, _, _, _, rfl, rfl, Or.inr (Or.inr rfl), rfl, same 2⟩
      · rw [if_neg a0, qM_many hK hN p2 v, q_c, if_neg (fun y => by
          have g := g.resolve_left a0
          exact absurd y (Int32.not_lt.mpr g)), g2]
        exact Or.inr ⟨2, _, _, _, rfl, rfl, Or.inr (Or.inr rfl), rfl, same 2⟩
    · have hkl : hh < fks.length := by rw [v.1.1.2.2.2.2.2.1]; exact v.2.2.1.1
      obtain ⟨j1, j2, j3⟩ := hn_lt v.2.2.2.2.2.2.2.1 hkl hk
      have hlen : fkI fks hh + k < 4200 := Nat.lt_of_lt_of_le j1 v.2.2.2.2.2.1.1.2.1
      have hnl := hn_le v.2.2.2.2.2.2.2.1 hkl
      have hl42 := v.2.2.2.2.2.1.1.2.1
      have hk31 : hn fks z hh < 2 ^ 31 := by clear v f2 g2; omega
      have hit0 := qM_item hK hN v hk
      have hmany := qM_many hK hN p2 v
      generalize hj : fkI fks hh + k = j at *
      obtain ⟨tt, cS⟩ := v.2.1.2.2.1
      have hat := (v.1.1.2.1.2.2.1 j j2 j1).1
      have hsp := (v.2.2.2.2.2.1.1.2.2.2.2 j j2 j1).1
      have hff := hd_facts v.2.2.2.1 hN
      have hD := v.1.1.1.1
      have hcI := v.2.1.2.1
      obtain ⟨q1, q2⟩ := cS.2.2.2.2.2.2.2.1 j j2 j1
      obtain ⟨i1, i2, i3, i4⟩ := item_pos hN v j2 j1 j3 (k := 0) (by decide)
      have hmp : mp0 D (isp (itr (sIt z) j)) = isp (itr (sIt z) j) := mp0_id v.2.2.2.1 hN i1
      have hsI : spI (mp0 D) (sIt z) j = isp (itr (sIt z) j) := (if_neg (show ¬ j = 0 from Nat.one_le_iff_ne_zero.mp j2)).trans hmp
      rw [hmp] at q1 q2
      have hspC := qC_spot (K := K) cS.2.2.2.2.1.1 cS.1 cS.2.2.2.2.1.2.2.1 j1
      rw [hsI] at hspC
      have hfit : fitP E (isp (itr (sIt z) j)) b c d ↔ fitP D (isp (itr (sIt z) j)) b c d := by
        unfold fitP
        rw [q1 13 (by decide), slq_2 q1 (j := 16) (by decide), slq_2 q1 (j := 14) (by decide)]
      rw [e, a_ok, if_neg (nI_pos (Nat.lt_trans hk hk31)), hmany, q_c, if_pos (nI_lt hk hk31), qM_stampR hN hD hlen hat hsp p1 (nI k) b c d hit0]
      unfold f_Vt_stamp_13 f_Mo_stamp_176
      rw [hspC, q_c, qC_would hN hcI.1 hcI.2.1 hsp, q_c, b01_c hfit]
      by_cases y : fitP D (isp (itr (sIt z) j)) b c d
      rotate_left
      · have f3 := qM_fails (K := K) T1 True 3 p1 (by decide)
        rw [b01_t trivial, cif_t trivial] at f3
        have f3 : f_Mo_fails K T1 1 3 = some (1, T1.u_v_thrown 3) := f3
        rw [b01_f y, if_pos (show nI 0 = 0 from rfl), if_pos (show nI 0 = 0 from rfl)]
        unfold f_Mo_stamp_189
        rw [f3, q_c, if_neg (by decide)]
        exact Or.inr ⟨0, _, _, _, rfl, rfl, Or.inl rfl, rfl, same 3⟩
      · obtain ⟨F, F1, F2, F3, F4⟩ := stamp_put (K := K) (S := S1.u_v_Vt_stale 1) (by omega) hN1 hN hcI.1 hcI.2.1 hD hsp p1 (q1 11 (by decide)) y
        unfold f_Vt_changed
        rw [b01_t y, if_neg (show ¬ nI 1 = 0 by decide), if_neg (show ¬ nI 1 = 0 by decide), q_l, q_b, F1, q_b, F2]
        exact Or.inl ⟨_, _, _, rfl, rfl, p1, m + 1, F D, F E, Nat.le_refl _, ivA_t (ivA_entry F hiv etr v j2 j1 j3 F3 F4 rfl rfl rfl rfl rfl rfl hm1), htp⟩
