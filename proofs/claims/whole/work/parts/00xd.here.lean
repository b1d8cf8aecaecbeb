/-! items, letter, enter, up of a turned volume. -/
theorem reads2 {K : Nat} {G : CG} {S : CS} : f_Vt_readsInodes K G S 2 = some (.ok 1, G, S) := by
  unfold f_Vt_readsInodes f_Vt_readsInodes_23
  rw [if_pos rfl, if_pos rfl]
theorem here0 {N m hh : Nat} {D E : Nat → Int32} {fks : List Nat} {z : SS} {G : CG} {S : CS} {T : MS} (v : tv N m D E fks z hh G S T) (h0 : hh ≠ 0) : ¬ T.v_here = 0 := by
  have hb := (ch_head ((v.2.2.2.2.2.2.1.2.2.1 hh v.2.2.1.1 (Or.inr v.2.2.1.1)).1 v.2.2.1.2.1)).2.1
  have hbl := begI_lt D (sIt z) hh
  rw [v.2.2.1.2.2.2, if_neg h0]
  intro y
  have := (q_eqW (b := 0) hbl (by decide)).mp y
  clear v
  omega
theorem kc_le {fks : List Nat} {its : List It} {i : Nat} (hkd : kdS fks its) (hfl : fks.length = its.length) (hi : i < its.length) : kcI fks its.length i ≤ its.length := by
  obtain ⟨k1, k2, k3, k4, k5⟩ := hkd i (by omega)
  have : kcI fks its.length i = fks.getD (i + 1) its.length - fks.getD i 0 := rfl
  omega
theorem eNo_eq (fks : List Nat) (its : List It) (i : Nat) : eNo fks its i - 2 = kcI fks its.length i + (if i = 0 then 1 else 0) := by unfold eNo; omega
theorem manyB {K N m hh : Nat} {D E : Nat → Int32} {fks : List Nat} {z : SS} {G : CG} {S : CS} {T : MS} (hK : 20000 ≤ K) (hN : N ≤ 1024) (v : tv N m D E fks z hh G S T) (htu : T.v_turned = 1) : f_Mo_many K T = some (nI (eNo fks (sIt z) hh - 2), T) := by
  have hlen := v.2.2.2.2.2.1.1.2.1
  have hj := v.2.2.1.1
  have hkd := (v.1.1.2.2.2.2.1 hh (by rw [v.1.1.2.2.2.2.2.1]; exact hj)).2
  have hq := qM_here hK hN v
  unfold f_Mo_many f_Mo_many_27 f_Mo_many_28
  rw [hq, q_c, q_g (q_in (by clear v; omega) (by decide)), nI_clamp (by clear v; omega), htu, if_neg (by decide), hkd, eNo_eq]
  by_cases c : hh = 0
  · have e0 : T.v_here = 0 := by rw [v.2.2.1.2.2.2, if_pos c]; rfl
    rw [if_pos e0, if_pos c, show (1 : Int32) = nI 1 from rfl, nI_add]
  · rw [if_neg (here0 v c), if_neg c, Int32.add_zero]
    rfl
theorem itemB {K N m hh q : Nat} {D E : Nat → Int32} {fks : List Nat} {z : SS} {G : CG} {S : CS} {T : MS} (hK : 20000 ≤ K) (hN : N ≤ 1024) (v : tv N m D E fks z hh G S T) (hq : q < 2 ^ 31) : f_Mo_item K T (nI q) = some (if q < kcI fks (sIt z).length hh then nI (fkI fks hh + q) else -1, T) := by
  by_cases c : q < kcI fks (sIt z).length hh
  · rw [if_pos c]
    exact qM_item hK hN v c
  · have hlen := v.2.2.2.2.2.1.1.2.1
    have hj := v.2.2.1.1
    have hkd := (v.1.1.2.2.2.2.1 hh (by rw [v.1.1.2.2.2.2.2.1]; exact hj)).2
    have hq0 := qM_here hK hN v
    rw [if_neg c]
    unfold f_Mo_item
    rw [hq0, q_c, q_g (q_in (by clear v; omega) (by decide)), nI_clamp (by clear v; omega), hkd, if_pos (nI_le (by clear v; omega) hq)]
theorem countB {K i N : Nat} {D : Nat → Int32} {fks : List Nat} {z : SS} {A H B P g0 r to : Nat} {gl : Nat → Nat} {E F : Nat → Int32} {G : CG} {S : CS} (hK : 100000 ≤ K) (h : tB N D fks z A H B P g0 r to gl E F) (hG : G.n = N) (hS : S.w_Dk_bytes = E) (hi : i < (sIt z).length) (hd : isDr D (sIt z) i) : f_In_countIn K G S (nI (hin i)) = some (nI (eNo fks (sIt z) i - 2), S.u_v_In_seen (nI (eNo fks (sIt z) i))) := by
  have hlen := h.2.1.2.1.2.1
  have hk0 := kc_le h.2.1.2.2.1.1 h.2.1.2.2.1.2 hi
  have hM : 2 ≤ eNo fks (sIt z) i ∧ eNo fks (sIt z) i ≤ 4203 := by unfold eNo; split <;> omega
  unfold f_In_countIn
  rw [cl_find (y := -1) (rv := -1) (m := eNo fks (sIt z) i) hK h hG hS hi hd (Or.inr ⟨fun e' he => nI_nm1 (by omega), rfl, rfl⟩), q_c, show (S.u_v_In_seen (nI (eNo fks (sIt z) i))).v_In_seen = nI (eNo fks (sIt z) i) from rfl, show (2 : Int32) = nI 2 from rfl, pk_sub (by omega)]
theorem entB {K N m : Nat} {D E : Nat → Int32} {fks : List Nat} {z : SS} {A H B P g0 r to : Nat} {gl : Nat → Nat} {hh : Nat} {G : CG} {S : CS} {T : MS} (hK : 100000 ≤ K) (o : opn N m D E fks z A H B P g0 r to gl hh G S T) (p0 : Int32) : (∃ q, q < eNo fks (sIt z) hh - 2 ∧ p0 = nI q ∧ f_Vt_entryHere K G S p0 = some (.ok (nI (enP N D fks (sIt z) A H (rml A H (fxd A P r g0) (ent D) gl (hk N D)) hh (q + 2))), G, S.u_v_In_seen (nI (q + 2))) ∧ f_Mo_no K T p0 = some (0, T.u_v_thrown 0) ∧ f_Mo_item K (T.u_v_thrown 0) p0 = some (if q < kcI fks (sIt z).length hh then nI (fkI fks hh + q) else -1, T.u_v_thrown 0)) ∨ (∃ S', f_Vt_entryHere K G S p0 = some (.error 2, G.made 1 6, S') ∧ (∃ x, S' = S.u_v_In_seen x) ∧ f_Mo_no K T p0 = some (1, T.u_v_thrown 2)) := by
  have hm := tB_num o.1
  have hN := hm.2.2.2.2.2.2.2.2.2.2.2.1
  obtain ⟨E0, G0, S0, v, -⟩ := o.2.2.1
  have v' : tv N m D E0 fks z hh G0 S0 (T.u_v_thrown 0) := v
  have hj := v.2.2.1.1
  have hd := v.2.2.1.2.1
  have hma := manyB (K := K) (T := T.u_v_thrown 0) (by clear o; omega) hN v' o.2.1.2.2.2.2.1
  have hno := noneB (K := K) o
  have hk0 := kc_le o.1.2.1.2.2.1.1 o.1.2.1.2.2.1.2 hj
  have hlen := o.1.2.1.2.1.2.1
  have hM : 2 ≤ eNo fks (sIt z) hh ∧ eNo fks (sIt z) hh ≤ 4203 := by unfold eNo; split <;> (clear o; omega)
  have k1 := qM_fails (K := K) (T.u_v_thrown 0) True 2 rfl (by decide)
  have k0 := qM_fails (K := K) (T.u_v_thrown 0) False 2 rfl (by decide)
  rw [b01_t trivial, cif_t trivial] at k1
  rw [b01_f (fun y => y), cif_f (fun y => y)] at k0
  have k1 : f_Mo_fails K (T.u_v_thrown 0) 1 2 = some (1, T.u_v_thrown 2) := k1
  have k0 : f_Mo_fails K (T.u_v_thrown 0) 0 2 = some (0, T.u_v_thrown 0) := k0
  have hit := fun q (hq : q < 2 ^ 31) => itemB (K := K) (q := q) (T := T.u_v_thrown 0) (by clear o; omega) hN v' hq
  clear v v'
  unfold f_Vt_entryHere f_Vt_entryHere_19 f_Mo_no f_Mo_no_20 f_Mo_no_25 f_Mo_no_32
  rw [hno, q_c, if_pos rfl]
  by_cases w1 : p0 < 0
  · right
    rw [if_pos w1, if_pos w1, k1, q_c, if_neg (by decide)]
    exact ⟨S, rfl, ⟨S.v_In_seen, rfl⟩, rfl⟩
  obtain ⟨q, hq, rfl⟩ := nI_of w1
  rw [if_neg w1, if_neg w1, o.2.1.2.2.2.2.2, countB hK o.1 o.2.1.2.1 o.2.1.2.2.1 hj hd, q_c, hma, q_c]
  by_cases w2 : q < eNo fks (sIt z) hh - 2
  · left
    rw [if_pos (nI_lt w2 (by clear o; omega)), if_pos (nI_lt w2 (by clear o; omega)), k0, q_c, if_pos rfl, show (S.u_v_In_seen (nI (eNo fks (sIt z) hh))).v_Vt_here = nI (hin hh) from o.2.1.2.2.2.2.2, show (2 : Int32) = nI 2 from rfl, nI_add, cl_find (S := S.u_v_In_seen (nI (eNo fks (sIt z) hh))) hK o.1 o.2.1.2.1 o.2.1.2.2.1 hj hd (Or.inl ⟨q + 2, by omega, rfl, rfl, rfl⟩), q_c]
    exact ⟨q, w2, rfl, rfl, rfl, hit q hq⟩
  · right
    rw [if_neg (nI_nlt (by clear o; omega) hq), if_neg (nI_nlt (by clear o; omega) hq), k1, q_c, if_neg (by decide)]
    exact ⟨_, rfl, ⟨_, rfl⟩, rfl⟩
theorem opB_items {K N t m : Nat} {D E : Nat → Int32} {G : CG} {S : CS} {T : MS} (hK : 100000 ≤ K) (h : ivB K N t m D E G S T) : rsl (fun _ => 1) (fun e => e = 1) (f_Vt_items K G S) (f_Mo_items K T) (fun G' S' T' => ivB K N (t + 1) m D E G' S' T' ∧ S'.v_Tp_used = S.v_Tp_used) := by
  obtain ⟨fks, z, A, H, B, P, g0, r, to, gl, hh, o⟩ := ivB_open h
  have hm := tB_num o.1
  have hN := hm.2.2.2.2.2.2.2.2.2.2.2.1
  obtain ⟨E0, G0, S0, v, -⟩ := o.2.2.1
  obtain ⟨l1, l2⟩ := lookB (K := K) o
  have hma := manyB (K := K) (m := m) (T := T.u_v_thrown 0) (by clear h o; omega) hN v o.2.1.2.2.2.2.1
  have hj := v.2.2.1.1
  have hd := v.2.2.1.2.1
  clear v
  unfold f_Vt_items f_Vt_items_5 f_Vt_items_8 f_Mo_items
  rw [lkn l1, reads2, a_ok, if_neg (show ¬ (1 : Int32) = 0 by decide), o.2.1.2.2.2.2.2, countB hK o.1 o.2.1.2.1 o.2.1.2.2.1 hj hd, q_c, noneB (K := K) o, q_c, if_pos rfl, hma, q_c]
  exact Or.inl ⟨_, _, _, _, rfl, rfl, rfl, ivB_t (ivB_seen (ivB_thr h 0) _), rfl⟩
/-- an entry that is there lies on the disk -/
theorem ent_in {N : Nat} {D : Nat → Int32} {fks : List Nat} {z : SS} {A H B P g0 r to i e : Nat} {gl : Nat → Nat} {E F : Nat → Int32} (h : tB N D fks z A H B P g0 r to gl E F) (hi : i < (sIt z).length) (hd : isDr D (sIt z) i) (he : e < eNo fks (sIt z) i) : enP N D fks (sIt z) A H (rml A H (fxd A P r g0) (ent D) gl (hk N D)) i e + 8 + eSz fks (sIt z) i e ≤ 512 * N := by
  have hs := tB_esz h hi
  have hs1 : ∀ e, eSz fks (sIt z) i e ≤ 765 := fun e => by have := (hs e).1; omega
  have h1 := eOf_sum (s := eSz fks (sIt z) i) e
  have h2 := (pkS_le hs1 (e + 1)).2.2
  have h3 := elN_ge (eSz fks (sIt z) i e)
  have h4 := eBl_sum hs1 e
  have h5 := pkS_mono (s := eSz fks (sIt z) i) (e := e + 1) (eNo fks (sIt z) i - (e + 1))
  rw [show e + 1 + (eNo fks (sIt z) i - (e + 1)) = eNo fks (sIt z) i by omega] at h5
  have hfl : flB fks (sIt z) i = (pkS (eSz fks (sIt z) i) (eNo fks (sIt z) i)).1 := rfl
  have hfi : fiN fks D (sIt z) (3 + indN (rcB N D (sIt z) A H)) i = boN fks D (sIt z) (3 + indN (rcB N D (sIt z) A H)) i + flB fks (sIt z) i := by unfold fiN bbN; rw [cif_t hd]
  have hend := own_end (D := D) (fks := fks) (its := sIt z) (b0 := 3 + indN (rcB N D (sIt z) A H)) (i := i) hi
  rw [cif_t hd, ← bd_sum] at hend
  have := (tB_room h (t := boN fks D (sIt z) (3 + indN (rcB N D (sIt z) A H)) i + eBl (eSz fks (sIt z) i) e) (by omega)).2
  unfold enP
  omega
theorem textR {K : Nat} {T : MS} (b : Int32) : f_Mo_text K T (-1) b = some (if b < 0 then -1 else if 7 ≤ b then -1 else nI (rcN.getD b.toNatClampNeg 0), T) := by
  unfold f_Mo_text f_Mo_text_25
  rw [if_pos rfl]
  by_cases w : b < 0
  · rw [if_pos w, if_pos w]
  rw [if_neg w, if_neg w]
  by_cases w2 : 7 ≤ b
  · rw [if_pos w2, if_pos w2]
  obtain ⟨q, hq, rfl⟩ := nI_of w
  have hq7 : q < 7 := Nat.lt_of_not_le (fun y => w2 (nI_le (a := 7) y hq))
  rw [if_neg w2, if_neg w2, rcN_at hq7, q_b, nI_clamp hq]
theorem opB_letter {K N t m : Nat} {D E : Nat → Int32} {G : CG} {S : CS} {T : MS} (hK : 100000 ≤ K) (h : ivB K N t m D E G S T) (a b : Int32) : rsl (fun e => e) (fun e => e = 1 ∨ e = 2) (f_Vt_letter K G S a b) (f_Mo_letter K T a b) (fun G' S' T' => ivB K N (t + 1) m D E G' S' T' ∧ S'.v_Tp_used = S.v_Tp_used) := by
  obtain ⟨fks, z, A, H, B, P, g0, r, to, gl, hh, o⟩ := ivB_open h
  have hm := tB_num o.1
  have hN := hm.2.2.2.2.2.2.2.2.2.2.2.1
  obtain ⟨E0, G0, S0, v, -⟩ := o.2.2.1
  obtain ⟨l1, l2⟩ := lookB (K := K) o
  have hj := v.2.2.1.1
  have hd := v.2.2.1.2.1
  have hrmI : rmI (sIt z) (T.u_v_thrown 0) := v.1.1.2.1
  clear v
  unfold f_Vt_letter f_Vt_letter_5 f_Vt_letter_8 f_Vt_letter_20 f_Mo_letter
  rw [lkn l1, reads2, a_ok, if_neg (show ¬ (1 : Int32) = 0 by decide)]
  rcases entB hK o a with ⟨q, hq, rfl, e1, e2, e3⟩ | ⟨S', e1, ⟨x, rfl⟩, e2⟩
  · rw [e1, a_ok, e2, q_c, if_pos rfl, e3, q_c]
    have he : q + 2 < eNo fks (sIt z) hh := by clear h o; omega
    have hin0 := ent_in o.1 hj hd he
    obtain ⟨t1, t2, t3, t4, t5⟩ := tB_ent o.1 hj hd (q + 2) he
    have hs := tB_esz o.1 hj (q + 2)
    have eC : f_In_nameByte K G (S.u_v_In_seen (nI (q + 2))) (nI (enP N D fks (sIt z) A H (rml A H (fxd A P r g0) (ent D) gl (hk N D)) hh (q + 2))) b = some (if b < 0 then -1 else if nI (eSz fks (sIt z) hh (q + 2)) ≤ b then -1 else nI (eNb fks (sIt z) hh (q + 2) b.toNatClampNeg), S.u_v_In_seen (nI (q + 2))) := by
      unfold f_In_nameByte f_In_nameByte_35
      by_cases w : b < 0
      · rw [if_pos w, if_pos w]
      obtain ⟨u, hu, rfl⟩ := nI_of w
      rw [if_neg w, if_neg w, show (6 : Int32) = nI 6 from rfl, nI_add, rV1 E (S := S.u_v_In_seen (nI (q + 2))) o.2.1.2.1 o.2.1.2.2.1 hN (by clear h o; omega), q_c, t3]
      by_cases w2 : nI (eSz fks (sIt z) hh (q + 2)) ≤ nI u
      · rw [if_pos w2, if_pos w2]
      · have hu2 : u < eSz fks (sIt z) hh (q + 2) := Nat.lt_of_not_le (fun y => w2 (nI_le y hu))
        rw [if_neg w2, if_neg w2, show (8 : Int32) = nI 8 from rfl, nI_add, nI_add, rV1 E (S := S.u_v_In_seen (nI (q + 2))) o.2.1.2.1 o.2.1.2.2.1 hN (by clear h o; omega), q_c, t5 u hu2, nI_clamp hu]
    rw [eC, q_c]
    by_cases c : q < kcI fks (sIt z).length hh
    · obtain ⟨k1, k2, -⟩ := kid_in o.1.2.1.2.2.1.1 o.1.2.1.2.2.1.2 hj c
      rw [if_pos c, qM_text (T := T.u_v_thrown 0) (by clear h o; omega) hrmI o.1.2.1.2.1 k1 k2, q_c]
      have z1 : eSz fks (sIt z) hh (q + 2) = tsz (inm (itr (sIt z) (fkI fks hh + q))) := by unfold eSz; rw [if_neg (by clear h o; omega), if_pos (by rw [Nat.add_sub_cancel]; exact c), Nat.add_sub_cancel]
      refine Or.inl ⟨_, _, _, _, rfl, ?_, rfl, ivB_t (ivB_seen (ivB_thr h 0) _), rfl⟩
      congr 2
      by_cases w : b < 0
      · rw [if_pos w, if_pos w]
      obtain ⟨u, hu, rfl⟩ := nI_of w
      rw [if_neg w, if_neg w, nI_clamp hu]
      by_cases w2 : u < eSz fks (sIt z) hh (q + 2)
      · rw [if_neg (nI_ge w2 (by clear h o; omega)), nbL_some _ _ (by rw [← z1]; exact w2)]
        unfold eNb
        rw [if_neg (by clear h o; omega), if_pos (show isK fks (sIt z) hh (q + 2) from by show q + 2 - 2 < _; rw [Nat.add_sub_cancel]; exact c), Nat.add_sub_cancel]
        rfl
      · rw [if_pos (nI_le (by clear h o; omega) hu), nbL_len _ _ (by rw [← z1]; clear h o; omega)]
        rfl
    · rw [if_neg c, textR, q_c]
      have z1 : eSz fks (sIt z) hh (q + 2) = 7 := by unfold eSz; rw [if_neg (by clear h o; omega), if_neg (by rw [Nat.add_sub_cancel]; exact c)]
      refine Or.inl ⟨_, _, _, _, rfl, ?_, rfl, ivB_t (ivB_seen (ivB_thr h 0) _), rfl⟩
      rw [z1]
      unfold eNb
      rw [if_neg (show ¬ q + 2 < 2 by clear h o; omega), if_neg (show ¬ isK fks (sIt z) hh (q + 2) from by show ¬ q + 2 - 2 < _; rw [Nat.add_sub_cancel]; exact c)]
      rfl
  · rw [e1, a_er, e2, q_c, if_neg (by decide)]
    exact Or.inr ⟨2, _, _, _, _, rfl, rfl, Or.inr rfl, rfl, ivB_made (ivB_seen (ivB_thr h 2) x), rfl⟩
theorem ivB_here {K N t m j : Nat} {D E : Nat → Int32} {G : CG} {S : CS} {T : MS} {fks : List Nat} {z : SS} (h : ivB K N t m D E G S T) (e : trE N D = .ok (fks, z)) (hj : j < (sIt z).length) (hd : isDr D (sIt z) j) : ivB K N t m D E G (S.u_v_Vt_here (nI (hin j))) (T.u_v_here (nI (if j = 0 then 0 else begI D (sIt z) j))) := ⟨h.1, fun fks' z' e' => by
  rw [e] at e'
  cases e'
  exact ⟨j, hj, hd, rfl, rfl⟩⟩
