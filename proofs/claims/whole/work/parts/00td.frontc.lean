/-! make: the class up to the search of slots. -/
theorem tus_cong {f g : Nat → Int32} {k : Nat} (h : ∀ j, j < k → f j = g j) : tus f k = tus g k := by
  unfold tus
  by_cases c : k % 2 = 0 ∧ k ≤ 510
  · rw [if_pos c, if_pos c]
    refine List.map_congr_left fun i hi => ?_
    have hi : i < k / 2 := List.mem_range.mp hi
    unfold tuN
    rw [h (2 * i) (by omega), h (2 * i + 1) (by omega)]
  · rw [if_neg c, if_neg c]
def mkQ (S : CS) (n : Int32) (f g : Nat → Int32) (pl : Int32) : CS := (((S.u_v_Ed_unitCount n).u_w_Ed_units f).u_w_Ed_shortName g).u_v_Ed_plain pl
theorem mkQ_tv {N m hh : Nat} {D E : Nat → Int32} {fks : List Nat} {z : SS} {G : CG} {S : CS} {T : MS} (v : tv N m D E fks z hh G S T) (n : Int32) (f g : Nat → Int32) (pl : Int32) : tv N m D E fks z hh G (mkQ S n f g pl) T := v
theorem qC_readName {K k : Nat} {G : CG} {S : CS} (hK : 20000 ≤ K) (hk : k ≤ 4096) : wp (f_Ed_readName K G S (nI k)) (fun r => r.1 = b01 (nmP (tus S.w_Tp_bytes k)) ∧ ∃ n f g pl, r.2 = mkQ S n f g pl ∧ (nmP (tus S.w_Tp_bytes k) → n = nI (tus S.w_Tp_bytes k).length ∧ bufR f (tus S.w_Tp_bytes k) ∧ pl = b01 (brP (tus S.w_Tp_bytes k)) ∧ (brP (tus S.w_Tp_bytes k) → ∀ q, q < 11 → g q = nI (brG (tus S.w_Tp_bytes k) (fpt (tus S.w_Tp_bytes k)) (tus S.w_Tp_bytes k).length q)))) := by
  have no : ¬ (k % 2 = 0 ∧ k ≤ 510) → wp (f_Ed_readName_13 K G S) (fun r => r.1 = b01 (nmP (tus S.w_Tp_bytes k)) ∧ ∃ n f g pl, r.2 = mkQ S n f g pl ∧ (nmP (tus S.w_Tp_bytes k) → n = nI (tus S.w_Tp_bytes k).length ∧ bufR f (tus S.w_Tp_bytes k) ∧ pl = b01 (brP (tus S.w_Tp_bytes k)) ∧ (brP (tus S.w_Tp_bytes k) → ∀ q, q < 11 → g q = nI (brG (tus S.w_Tp_bytes k) (fpt (tus S.w_Tp_bytes k)) (tus S.w_Tp_bytes k).length q)))) := fun c => by
    have e : tus S.w_Tp_bytes k = [] := if_neg c
    have hn : ¬ nmP (tus S.w_Tp_bytes k) := fun w => by rw [e] at w; exact absurd w.1 (by decide)
    exact wp_i ⟨(b01_f hn).symm, S.v_Ed_unitCount, S.w_Ed_units, S.w_Ed_shortName, S.v_Ed_plain, rfl, fun w => absurd w hn⟩
  unfold f_Ed_readName
  refine wp_if (q_even hk) (fun c => ?_) (fun c => no fun w => c w.1)
  refine wp_if (show nI k ≤ (510 : Int32) ↔ k ≤ 510 from nI_leI (by omega) (by decide)) (fun d => wp_l ?_) (fun d => no fun w => d w.2)
  rw [show (2 : Int32) = nI 2 from rfl, pk_div (by omega) (by omega) (by omega)]
  have e : tus S.w_Tp_bytes k = (List.range (k / 2)).map (tuN S.w_Tp_bytes) := if_pos ⟨c, d⟩
  have hul : (tus S.w_Tp_bytes k).length ≤ 255 := tus_len
  have hult : ∀ u ∈ tus S.w_Tp_bytes k, u < 65536 := tus_lt
  have hlen : (tus S.w_Tp_bytes k).length = k / 2 := by rw [e, List.length_map, List.length_range]
  refine qC_units hK (by omega) fun f hf => ?_
  rw [← e] at hf
  generalize tus S.w_Tp_bytes k = us at *
  unfold f_Ed_readName_71
  show wp (lf_c (f_Wo_isName_Edunits K G ((S.u_v_Ed_unitCount (nI (k / 2))).u_w_Ed_units f) (nI (k / 2))) _) _
  rw [← hlen]
  rw [b01_of (qV_isName_Edunits (K := K) (G := G) (S := (S.u_v_Ed_unitCount (nI us.length)).u_w_Ed_units f) (us := us) (by omega) hul hf hult), q_c]
  by_cases w : nmP us
  · rw [b01_t w]
    refine wp_f (show ¬ nI 1 = 0 by decide) (wp_c (wp_w (qC_plain (K := K) (G := G) (S := (S.u_v_Ed_unitCount (nI us.length)).u_w_Ed_units f) hK rfl w.1 hul hf hult w.2.2.2.2) fun x hx => ?_))
    obtain ⟨x1, g, x2, x3⟩ := hx
    rw [x1, x2]
    exact wp_g (b01_or _) (wp_l (wp_i ⟨rfl, nI us.length, f, g, b01 (brP us), rfl, fun _ => ⟨rfl, hf, rfl, x3⟩⟩))
  · rw [b01_f w]
    exact wp_t (show nI 0 = 0 from rfl) (wp_i ⟨rfl, nI us.length, f, S.w_Ed_shortName, S.v_Ed_plain, rfl, fun y => absurd y w⟩)
theorem qC_front {K N m hh k : Nat} {D E : Nat → Int32} {fks : List Nat} {z : SS} {G : CG} {S : CS} {T : MS} {p0 : Int32} (hK : 20000 ≤ K) (hN : N ≤ 1024) (v : tv N m D E fks z hh G S T) (hk : k ≤ 4096) : ((¬ nmP (tus S.w_Tp_bytes k) ∨ (∃ j, fkI fks hh ≤ j ∧ j < fkI fks hh + hn fks z hh ∧ alk (inm (itr (sIt z) j)) (tus S.w_Tp_bytes k)) ∨ (brP (tus S.w_Tp_bytes k) ∧ shT D (sIt z) (fkI fks hh) (hn fks z hh) (brG (tus S.w_Tp_bytes k) (fpt (tus S.w_Tp_bytes k)) (tus S.w_Tp_bytes k).length))) → ∃ n f g pl, f_Vt_make_16 K p0 (nI k) G S = some (.error 0, G.made 1 6, mkQ S n f g pl)) ∧ (nmP (tus S.w_Tp_bytes k) → ¬ (∃ j, fkI fks hh ≤ j ∧ j < fkI fks hh + hn fks z hh ∧ alk (inm (itr (sIt z) j)) (tus S.w_Tp_bytes k)) → ¬ (brP (tus S.w_Tp_bytes k) ∧ shT D (sIt z) (fkI fks hh) (hn fks z hh) (brG (tus S.w_Tp_bytes k) (fpt (tus S.w_Tp_bytes k)) (tus S.w_Tp_bytes k).length)) → ∃ f g, f_Vt_make_16 K p0 (nI k) G S = (lf_c (f_Ed_findSlots K G (mkQ S (nI (tus S.w_Tp_bytes k).length) f g (b01 (brP (tus S.w_Tp_bytes k)))) (nI hh) p0) fun r_8 S_8 => if r_8 = 0 then (some (.error 3, G.made 1 6, S_8)) else ((f_Vt_changed K G S_8).bind fun S_10 => lf_c (f_Ed_addItem K G S_10 S_10.v_Vt_here p0) fun r_11 S_11 => some (.ok r_11, G, S_11))) ∧ bufR f (tus S.w_Tp_bytes k) ∧ (brP (tus S.w_Tp_bytes k) → ∀ q, q < 11 → g q = nI (brG (tus S.w_Tp_bytes k) (fpt (tus S.w_Tp_bytes k)) (tus S.w_Tp_bytes k).length q))) := by
  obtain ⟨⟨r, S2⟩, e1, e2, n, f, g, pl, e3, e4⟩ := qC_readName (K := K) (G := G) (S := S) hK hk
  have hul : (tus S.w_Tp_bytes k).length ≤ 255 := tus_len
  have hult : ∀ u ∈ tus S.w_Tp_bytes k, u < 65536 := tus_lt
  generalize tus S.w_Tp_bytes k = us at *
  have e2 : r = b01 (nmP us) := e2
  have e3 : S2 = mkQ S n f g pl := e3
  have hfl : fks.length = (sIt z).length := v.1.1.2.2.2.2.2.1
  have hkl : hh < fks.length := by rw [hfl]; exact v.2.2.1.1
  have hk1 := v.2.2.2.2.2.2.2.1 hh hkl
  have hnl := hn_le v.2.2.2.2.2.2.2.1 hkl
  obtain ⟨tt, cS⟩ := v.2.1.2.2.1
  have hgo := cS.2.2.2.2.1
  have base : f_Vt_make_16 K p0 (nI k) G S = if r = 0 then f_Vt_make_45 K G S2 else (lf_c (f_Ed_clashes K G S2 S2.v_Vt_here) fun r_6 S_6 => if r_6 = 0 then (lf_c (f_Ed_findSlots K G S_6 S_6.v_Vt_here p0) fun r_8 S_8 => if r_8 = 0 then (some (.error 3, G.made 1 6, S_8)) else ((f_Vt_changed K G S_8).bind fun S_10 => lf_c (f_Ed_addItem K G S_10 S_10.v_Vt_here p0) fun r_11 S_11 => some (.ok r_11, G, S_11))) else (f_Vt_make_45 K G S_6)) := by
    unfold f_Vt_make_16
    rw [e1, q_c]
  by_cases c1 : nmP us
  rotate_left
  · refine ⟨fun _ => ⟨n, f, g, pl, ?_⟩, fun w => absurd w c1⟩
    rw [base, e2, b01_f c1, if_pos (show nI 0 = 0 from rfl), e3]
    rfl
  obtain ⟨d1, d2, d3, d4⟩ := e4 c1
  have v2 : tv N m D E fks z hh G S2 T := by rw [e3]; exact mkQ_tv v _ _ _ _
  have hcl := qC_clashes (K := K) (N := N) (d := hh) (fk := fkI fks hh) (n := hn fks z hh) (D := D) (E := E) (mp := mp0 D) (its := sIt z) (us := us) (b := brG us (fpt us) us.length) (P := brP us) (S := S2) (G := G) (by omega) hgo.1 hN v2.2.1.2.1.2.1 (by rw [e3]; exact cS.1) hgo.2.2.1 hgo.2.2.2 v.2.2.2.2.2.1.1 cS.2.2.2.2.2.2.2.1 hk1.1 hnl (qC_count v2 v.2.2.1.1) (fun k => qC_kid v2 k v.2.2.1.1 v.2.2.1.2.1) (by rw [e3]; exact d1) hul (by rw [e3]; exact d2) hult (by rw [e3]; exact d3) (fun w q hq => by rw [e3]; exact d4 w q hq) (fun q hq => by
    unfold brG
    split
    · split
      · exact getD_lt hult (by decide)
      · decide
    · split
      · exact getD_lt hult (by decide)
      · decide)
  rw [e2, b01_t c1, if_neg (show ¬ nI 1 = 0 by decide), v2.2.2.1.2.2.1, hcl, q_c] at base
  refine ⟨fun w => ⟨n, f, g, pl, ?_⟩, fun _ w2 w3 => ⟨f, g, ?_, d2, d4⟩⟩
  · rw [base, b01_t (w.resolve_left (fun y => y c1)), if_neg (show ¬ nI 1 = 0 by decide), e3]
    rfl
  · rw [base, b01_f (fun y => y.elim w2 w3), if_pos (show nI 0 = 0 from rfl), v2.2.2.1.2.2.1, e3, d1, d3]
