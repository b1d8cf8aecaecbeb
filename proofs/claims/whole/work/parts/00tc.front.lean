/-! make: the reference up to the search of slots. -/
def mkT (T : MS) (n : Int32) (f g s1 t1 : Nat → Int32) : MS := (((((T.u_v_size n).u_v_name f).u_v_taped 0).u_v_brief g).u_v_stem s1).u_v_tail t1
theorem mkT_tv {N m hh : Nat} {D E : Nat → Int32} {fks : List Nat} {z : SS} {G : CG} {S : CS} {T : MS} (v : tv N m D E fks z hh G S T) (n : Int32) (f g s1 t1 : Nat → Int32) : tv N m D E fks z hh G S (mkT T n f g s1 t1) := v
theorem mkT_0 (T : MS) (n : Int32) (f : Nat → Int32) : ((T.u_v_size n).u_v_name f).u_v_taped 0 = mkT T n f T.v_brief T.v_stem T.v_tail := rfl
/-- make behind the question whether the volume is sound -/
def mkB (K : Nat) (p0 : Int32) (S_1 : MS) : Option (Int32 × MS) := lf_c (f_Mo_named K S_1) fun r_2 S_2 => if r_2 = 0 then (f_Mo_make_30 K p0 S_2) else (lf_c (f_Mo_folderHere K S_2) fun r_5 S_5 => lf_c (f_Mo_isTaken K S_5 r_5) fun r_6 S_6 => if r_6 = 0 then (f_Mo_make_35 K p0 0 S_6) else (f_Mo_make_30 K p0 S_6))
theorem qM_f35 {K : Nat} {T : MS} {p0 : Int32} (h0 : T.v_thrown = 0) : f_Mo_make_30 K p0 T = some (0, T.u_v_thrown 2) := by
  have f2 : f_Mo_fails K T 1 2 = some (1, T.u_v_thrown 2) := by
    have := qM_fails (K := K) T True 2 h0 (by decide)
    rw [b01_t trivial, cif_t trivial] at this
    exact this
  unfold f_Mo_make_30 f_Mo_make_35 f_Mo_make_42
  rw [f2, q_c, if_neg (by decide)]
theorem qM_front {K N m hh k : Nat} {D E : Nat → Int32} {fks : List Nat} {z : SS} {G : CG} {S : CS} {T : MS} {p0 : Int32} (hK : 20000 ≤ K) (hN : N ≤ 1024) (v : tv N m D E fks z hh G S T) (h0 : T.v_thrown = 0) (hk : k ≤ 4096) (ht : T.v_taped = nI k) : ((¬ nmP (tus T.v_tape k) ∨ (∃ j, fkI fks hh ≤ j ∧ j < fkI fks hh + hn fks z hh ∧ alk (inm (itr (sIt z) j)) (tus T.v_tape k)) ∨ (brP (tus T.v_tape k) ∧ shT D (sIt z) (fkI fks hh) (hn fks z hh) (brG (tus T.v_tape k) (fpt (tus T.v_tape k)) (tus T.v_tape k).length))) → ∃ n f g s1 t1, mkB K p0 T = some (0, (mkT T n f g s1 t1).u_v_thrown 2)) ∧ (nmP (tus T.v_tape k) → ¬ (∃ j, fkI fks hh ≤ j ∧ j < fkI fks hh + hn fks z hh ∧ alk (inm (itr (sIt z) j)) (tus T.v_tape k)) → brP (tus T.v_tape k) → ¬ shT D (sIt z) (fkI fks hh) (hn fks z hh) (brG (tus T.v_tape k) (fpt (tus T.v_tape k)) (tus T.v_tape k).length) → ∃ f g s1 t1, mkB K p0 T = f_Mo_make_116 K p0 (nI hh) (nI 1) (mkT T (nI (tus T.v_tape k).length) f g s1 t1) ∧ bufR f (tus T.v_tape k) ∧ ∀ q, q < 11 → g q = nI (brG (tus T.v_tape k) (fpt (tus T.v_tape k)) (tus T.v_tape k).length q)) ∧ (nmP (tus T.v_tape k) → ¬ (∃ j, fkI fks hh ≤ j ∧ j < fkI fks hh + hn fks z hh ∧ alk (inm (itr (sIt z) j)) (tus T.v_tape k)) → ¬ brP (tus T.v_tape k) → ∀ l mm, lpR (tus T.v_tape k) l → 1 ≤ mm → mm ≤ hn fks z hh + 1 → ¬ shT D (sIt z) (fkI fks hh) (hn fks z hh) (cdN (sqA (tus T.v_tape k) 0 l) (tlL (tus T.v_tape k) l) mm) → (∀ q, 1 ≤ q → q < mm → shT D (sIt z) (fkI fks hh) (hn fks z hh) (cdN (sqA (tus T.v_tape k) 0 l) (tlL (tus T.v_tape k) l) q)) → ∃ f g s1 t1, mkB K p0 T = f_Mo_make_116 K p0 (nI hh) (nI (1 + ((tus T.v_tape k).length + 13 - 1) / 13)) (mkT T (nI (tus T.v_tape k).length) f g s1 t1) ∧ bufR f (tus T.v_tape k) ∧ ∀ q, q < 11 → g q = nI (cdN (sqA (tus T.v_tape k) 0 l) (tlL (tus T.v_tape k) l) mm q)) := by
  generalize hus : tus T.v_tape k = us
  have hul : us.length ≤ 255 := by rw [← hus]; exact tus_len
  have hult : ∀ u ∈ us, u < 65536 := by rw [← hus]; exact tus_lt
  obtain ⟨⟨r2, T2⟩, e1, e2, f, e3, e4⟩ := qM_named hK hk ht
  rw [hus] at e2 e3 e4
  have e2 : r2 = b01 (nmP us) := e2
  have e4 : T2 = ((T.u_v_size (nI us.length)).u_v_name f).u_v_taped 0 := e4
  rw [mkT_0] at e4
  have v2 : tv N m D E fks z hh G S T2 := by rw [e4]; exact mkT_tv v _ _ _ _ _
  have h02 : T2.v_thrown = 0 := by rw [e4]; exact h0
  have hs2 : T2.v_size = nI us.length := by rw [e4]; rfl
  have hb2 : bufR T2.v_name us := by rw [e4]; exact e3
  have hfl : fks.length = (sIt z).length := v.1.1.2.2.2.2.2.1
  have hkl : hh < fks.length := by rw [hfl]; exact v.2.2.1.1
  have hl42 := v.2.2.2.2.2.1.1.2.1
  have hh42 : hh < 4200 := by have := v.2.2.1.1; clear v v2; omega
  have hkd := v2.1.1.2.2.2.2.1 hh hkl
  have hk1 := v.2.2.2.2.2.2.2.1 hh hkl
  have hnl := hn_le v.2.2.2.2.2.2.2.1 hkl
  have hho := qM_here (K := K) hK hN v2
  have hta := qM_taken (K := K) (us := us) (T := T2) (by omega) v2.1.1.2.1 v.2.2.2.2.2.1.1 hh42 hkd.1 hkd.2 hk1.1 hnl hs2 (by omega) hb2 hult
  have hB : mkB K p0 T = if r2 = 0 then f_Mo_make_30 K p0 T2 else (if b01 (∃ j, fkI fks hh ≤ j ∧ j < fkI fks hh + hn fks z hh ∧ alk (inm (itr (sIt z) j)) us) = 0 then f_Mo_make_35 K p0 0 T2 else f_Mo_make_30 K p0 T2) := by
    unfold mkB
    rw [e1, q_c]
    show (if r2 = 0 then f_Mo_make_30 K p0 T2 else lf_c (f_Mo_folderHere K T2) _) = _
    rw [hho, q_c, hta, q_c]
  have f20 : ∀ T : MS, T.v_thrown = 0 → f_Mo_fails K T 0 2 = some (0, T) := fun T h => by
    have := qM_fails (K := K) T False 2 h (by decide)
    rw [b01_f (fun y => y), cif_f (fun y => y)] at this
    exact this
  have f21 : ∀ T : MS, T.v_thrown = 0 → f_Mo_fails K T 1 2 = some (1, T.u_v_thrown 2) := fun T h => by
    have := qM_fails (K := K) T True 2 h (by decide)
    rw [b01_t trivial, cif_t trivial] at this
    exact this
  obtain ⟨⟨r3, T3⟩, i1, i2, g, i3, i4⟩ := qM_isBrief (K := K) (T := T2) hK hs2 hul hb2 hult
  have i2 : r3 = b01 (brP us) := i2
  have i3 : T3 = T2.u_v_brief g := i3
  have i3' : T3 = mkT T (nI us.length) f g T.v_stem T.v_tail := by rw [i3, e4]; rfl
  have v3 : tv N m D E fks z hh G S T3 := by rw [i3']; exact mkT_tv v _ _ _ _ _
  have h03 : T3.v_thrown = 0 := by rw [i3']; exact h0
  have hkd3 := v3.1.1.2.2.2.2.1 hh hkl
  have g35 : f_Mo_make_35 K p0 0 T2 = if r3 = 0 then f_Mo_make_75 K p0 (nI hh) r3 T3 else (lf_c (f_Mo_isBriefTaken K T3 (nI hh)) fun r_13 S_13 => if r_13 = 0 then (f_Mo_make_75 K p0 (nI hh) r3 S_13) else (f_Mo_make_76 K p0 (nI hh) r3 1 S_13)) := by
    unfold f_Mo_make_35
    rw [f20 T2 h02, q_c, if_pos rfl, hho, q_c, i1, q_c]
  have hbt : brP us → f_Mo_isBriefTaken K T3 (nI hh) = some (b01 (shT D (sIt z) (fkI fks hh) (hn fks z hh) (brG us (fpt us) us.length)), T3) := fun w => qM_briefTaken (by omega) hN v3.1.1.2.1 v.2.2.2.2.2.1.1 v3.1.1.1.1 hh42 hkd3.1 hkd3.2 hk1.1 hnl (fun q hq => by rw [i3]; exact i4 w q hq) (fun q hq => by
    unfold brG
    split
    · split
      · exact getD_lt hult (by decide)
      · decide
    · split
      · exact getD_lt hult (by decide)
      · decide)
  refine ⟨fun w => ?_, fun w1 w2 w3 w4 => ?_, fun w1 w2 w3 l mm w4 w5 w6 w7 w8 => ?_⟩
  · by_cases c1 : nmP us
    rotate_left
    · refine ⟨nI us.length, f, T.v_brief, T.v_stem, T.v_tail, ?_⟩
      rw [hB, e2, b01_f c1, if_pos (show nI 0 = 0 from rfl), qM_f35 h02, e4]
    by_cases c2 : ∃ j, fkI fks hh ≤ j ∧ j < fkI fks hh + hn fks z hh ∧ alk (inm (itr (sIt z) j)) us
    · refine ⟨nI us.length, f, T.v_brief, T.v_stem, T.v_tail, ?_⟩
      rw [hB, e2, b01_t c1, if_neg (show ¬ nI 1 = 0 by decide), b01_t c2, if_neg (show ¬ nI 1 = 0 by decide), qM_f35 h02, e4]
    have c3 := (w.resolve_left (fun y => y c1)).resolve_left c2
    refine ⟨nI us.length, f, g, T.v_stem, T.v_tail, ?_⟩
    rw [hB, e2, b01_t c1, if_neg (show ¬ nI 1 = 0 by decide), b01_f c2, if_pos (show nI 0 = 0 from rfl), g35, i2, b01_t c3.1, if_neg (show ¬ nI 1 = 0 by decide), hbt c3.1, q_c, b01_t c3.2, if_neg (show ¬ nI 1 = 0 by decide)]
    unfold f_Mo_make_76
    rw [f21 T3 h03, q_c, if_neg (by decide), i3']
  · refine ⟨f, g, T.v_stem, T.v_tail, ?_, e3, fun q hq => i4 w3 q hq⟩
    rw [hB, e2, b01_t w1, if_neg (show ¬ nI 1 = 0 by decide), b01_f w2, if_pos (show nI 0 = 0 from rfl), g35, i2, b01_t w3, if_neg (show ¬ nI 1 = 0 by decide), hbt w3, q_c, b01_f w4, if_pos (show nI 0 = 0 from rfl)]
    unfold f_Mo_make_75 f_Mo_make_76 f_Mo_make_96
    rw [f20 T3 h03, q_c, if_pos rfl, if_neg (show ¬ nI 1 = 0 by decide), if_neg (show ¬ nI 1 = 0 by decide), i3']
    rfl
  · have hu1 := w1.1
    have hsl : (sqA us 0 l).length ≤ 255 := Nat.le_trans (sqA_len w4.1) hul
    have htl3 : (tlL us l).length ≤ 3 := by
      unfold tlL
      split
      · exact Nat.zero_le _
      · rw [List.length_take]; clear v v2 v3; omega
    have htg : ∀ u ∈ tlL us l, sgP u := by
      unfold tlL
      split
      · intro u hu; cases hu
      · intro u hu; exact sqL_sg _ u (List.mem_of_mem_take hu)
    have hsh := qM_shorten (K := K) (l := l) (p := nI hh) (T := T3) (us := us) hK (by rw [i3]; exact hs2) hu1 hul (by rw [i3]; exact hb2) hult w4
    obtain ⟨gx, q1, q2⟩ := qM_search (K := K) (m := mm) (i := hh) (its := sIt z) (D := D) (st := sqA us 0 l) (tl := tlL us l) (T := (T3.u_v_stem (pn T3.v_stem 0 (sqA us 0 l).length (sqA us 0 l))).u_v_tail (pn T3.v_tail 0 (tlL us l).length (tlL us l))) hK hN v3.1.1.2.1 v.2.2.2.2.2.1.1 v3.1.1.1.1 hh42 hkd3.1 hkd3.2 hk1.1 hnl (fun i hi => by
      show pn T3.v_stem 0 (sqA us 0 l).length (sqA us 0 l) i = _
      unfold pn
      rw [if_pos ⟨Nat.zero_le _, by rw [Nat.zero_add]; exact hi⟩, Nat.sub_zero]) (fun i hi => by
      show pn T3.v_tail 0 (tlL us l).length (tlL us l) i = _
      unfold pn
      rw [if_pos ⟨Nat.zero_le _, by rw [Nat.zero_add]; exact hi⟩, Nat.sub_zero]) hsl htl3 (sqL_sg _) htg (by clear v v2 v3; omega) w7 (mm - 1) 1 K T3.v_brief (by clear v v2 v3; omega) (Nat.le_refl _) (by clear v v2 v3; omega) (fun r a b => w8 r a b)
    have q2 : f_Mo_shorten_170 K (nI hh) (nI (sqA us 0 l).length) (nI (tlL us l).length) ((T3.u_v_stem (pn T3.v_stem 0 (sqA us 0 l).length (sqA us 0 l))).u_v_tail (pn T3.v_tail 0 (tlL us l).length (tlL us l))) = _ := q2
    rw [q2] at hsh
    refine ⟨f, gx, pn T3.v_stem 0 (sqA us 0 l).length (sqA us 0 l), pn T3.v_tail 0 (tlL us l).length (tlL us l), ?_, e3, q1⟩
    rw [hB, e2, b01_t w1, if_neg (show ¬ nI 1 = 0 by decide), b01_f w2, if_pos (show nI 0 = 0 from rfl), g35, i2, b01_f w3, if_pos (show nI 0 = 0 from rfl)]
    unfold f_Mo_make_75 f_Mo_make_76 f_Mo_make_96
    rw [f20 T3 h03, q_c, if_pos rfl, if_pos (show nI 0 = 0 from rfl), hsh, q_b, if_pos (show nI 0 = 0 from rfl)]
    have hw : f_Mo_whole K ((((T3.u_v_stem (pn T3.v_stem 0 (sqA us 0 l).length (sqA us 0 l))).u_v_tail (pn T3.v_tail 0 (tlL us l).length (tlL us l))).u_v_brief gx).v_size) 13 = some (nI ((us.length + 13 - 1) / 13)) := by
      show f_Mo_whole K T3.v_size 13 = _
      unfold f_Mo_whole
      rw [show T3.v_size = nI us.length from by rw [i3]; exact hs2, q_g (by decide), show (13 : Int32) = nI 13 from rfl, nI_add, show nI (us.length + 13) - 1 = nI (us.length + 13 - 1) from pk_sub (b := 1) (by clear v v2 v3; omega), pk_div (by clear v v2 v3; omega) (by decide) (by decide)]
    rw [hw, q_b, show (1 : Int32) = nI 1 from rfl, nI_add, i3']
    rfl
