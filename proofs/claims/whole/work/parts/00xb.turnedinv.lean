/-! The invariant while the volume is turned, with HERE. -/
abbrev heB (N : Nat) (D : Nat → Int32) (S : CS) (T : MS) : Prop := ∀ fks z, trE N D = .ok (fks, z) → ∃ h, h < (sIt z).length ∧ isDr D (sIt z) h ∧ S.v_Vt_here = nI (hin h) ∧ T.v_here = nI (if h = 0 then 0 else begI D (sIt z) h)
abbrev ivB (K N t m : Nat) (D E : Nat → Int32) (G : CG) (S : CS) (T : MS) : Prop := ivT K N t m D E G S T ∧ heB N D S T
theorem heB_0 {N : Nat} {D : Nat → Int32} {S : CS} {T : MS} (h1 : S.v_Vt_here = 0) (h2 : T.v_here = 0) : heB N D S T := fun fks z e => by
  obtain ⟨-, -, es, -⟩ := trE_scL e
  have := (scL_ext _ _ _ _ _ _ es)
  refine ⟨0, ?_, Or.inl rfl, h1, h2⟩
  obtain ⟨l, hl⟩ := this.1
  rw [hl, List.length_append]
  exact Nat.lt_of_lt_of_le (show 0 < 1 by decide) (Nat.le_add_right 1 _)
theorem ivB_t {K N t m : Nat} {D E : Nat → Int32} {G : CG} {S : CS} {T : MS} (h : ivB K N t m D E G S T) : ivB K N (t + 1) m D E G S T := ⟨⟨h.1.1, ⟨h.1.2.1.1, gLim_le h.1.2.1.2 (by omega)⟩, h.1.2.2⟩, h.2⟩
theorem ivB_made {K N t m : Nat} {D E : Nat → Int32} {G : CG} {S : CS} {T : MS} (h : ivB K N t m D E G S T) : ivB K N (t + 1) m D E (G.made 1 6) S T := ⟨⟨h.1.1, ⟨h.1.2.1.1, gLim_made h.1.2.1.2⟩, h.1.2.2⟩, h.2⟩
theorem ivB_thr {K N t m : Nat} {D E : Nat → Int32} {G : CG} {S : CS} {T : MS} (h : ivB K N t m D E G S T) (x : Int32) : ivB K N t m D E G S (T.u_v_thrown x) := h
theorem ivB_seen {K N t m : Nat} {D E : Nat → Int32} {G : CG} {S : CS} {T : MS} (h : ivB K N t m D E G S T) (x : Int32) : ivB K N t m D E G (S.u_v_In_seen x) T := h
theorem ivB_chain {K N t m : Nat} {D E : Nat → Int32} {G : CG} {S : CS} {T : MS} (h : ivB K N t m D E G S T) (f : Nat → Int32) (x : Int32) : ivB K N t m D E G S ((T.u_v_chain f).u_v_links x) := h
/-- all that a call asks for -/
abbrev opn (N m : Nat) (D E : Nat → Int32) (fks : List Nat) (z : SS) (A H B P g0 r to : Nat) (gl : Nat → Nat) (hh : Nat) (G : CG) (S : CS) (T : MS) : Prop := tB N D fks z A H B P g0 r to gl E T.v_fresh ∧ (trE N D = .ok (fks, z) ∧ G.n = N ∧ S.w_Dk_bytes = E ∧ S.v_Dk_sectors = nI N ∧ T.v_turned = 1 ∧ S.v_Vt_here = nI (hin hh)) ∧ (∃ E0 G0 S0, tv N m D E0 fks z hh G0 S0 T ∧ agH D E0) ∧ uM T.v_used (usd N D (sIt z) A H gl (rml A H (fxd A P r g0) (ent D) gl (hk N D)) (bdN N fks D (sIt z) A H) (fxd A P r g0)) ∧ tnU N D fks (sIt z) A H (hk N D) B P g0 r to gl (ent D) T ∧ arr T.v_record (recL N D (sIt z) A H gl (rml A H (fxd A P r g0) (ent D) gl (hk N D)))
theorem ivB_open {K N t m : Nat} {D E : Nat → Int32} {G : CG} {S : CS} {T : MS} (h : ivB K N t m D E G S T) : ∃ fks z A H B P g0 r to gl hh, opn N m D E fks z A H B P g0 r to gl hh G S T := by
  obtain ⟨⟨⟨b1, b2, b3, b4, b5, b6, b7, b8⟩, ⟨c1, c2⟩, hR, hby, fks, z, A, H, B, P, g0, r, to, gl, hh0, T0, T1, rp, x1, x2, x3, x4, x5⟩, he⟩ := h
  obtain ⟨r1, r2, r3, r4, r5, r6, r7, ⟨E0, G0, S0, v, ag⟩, r9, r10⟩ := rp
  have etr := r2.1
  obtain ⟨hh, h1, h2, h3, h4⟩ := he fks z etr
  obtain ⟨q1, q2, -⟩ := hR
  obtain ⟨f1, f2⟩ := q2 fks z etr
  refine ⟨fks, z, A, H, B, P, g0, r, to, gl, hh, ⟨r1, r2, x3, r7, r6, x5⟩, ⟨etr, c1.1, b3.2, b2.2.1, b6.1, h3⟩, ⟨E0, G0, S0.u_v_Vt_here (nI hh), ⟨⟨f2, f1, q1⟩, v.2.1, ⟨h1, h2, rfl, h4⟩, v.2.2.2⟩, ag⟩, x1, x2, x4⟩
theorem lookB {K N m : Nat} {D E : Nat → Int32} {fks : List Nat} {z : SS} {A H B P g0 r to : Nat} {gl : Nat → Nat} {hh : Nat} {G : CG} {S : CS} {T : MS} (o : opn N m D E fks z A H B P g0 r to gl hh G S T) : f_Vt_look K G S = some (2, G, S) ∧ f_Mo_look K (T.u_v_thrown 0) = some (T.u_v_thrown 0) := by
  refine ⟨cl_lookB o.1.1 o.1.2.2.1 o.2.1.2.1 o.2.1.2.2.1, ?_⟩
  obtain ⟨E0, G0, S0, v, -⟩ := o.2.2.1
  unfold f_Mo_look
  rw [if_neg (show ¬ (T.u_v_thrown 0).v_looked = 0 by rw [show (T.u_v_thrown 0).v_looked = T.v_looked from rfl, v.1.2.2]; decide)]
theorem lkn {α : Type} {K : Nat} {G : CG} {S : CS} {f : Int32 → CG → CS → Option α} (h : f_Vt_look K G S = some (2, G, S)) : lf_n (f_Vt_look K G S) f = f 2 G S := by rw [h]; rfl
theorem noneB {K N m : Nat} {D E : Nat → Int32} {fks : List Nat} {z : SS} {A H B P g0 r to : Nat} {gl : Nat → Nat} {hh : Nat} {G : CG} {S : CS} {T : MS} (o : opn N m D E fks z A H B P g0 r to gl hh G S T) : f_Mo_none K T = some (0, T.u_v_thrown 0) := by
  have htu : (T.u_v_thrown 0).v_turned = 1 := o.2.1.2.2.2.2.1
  unfold f_Mo_none f_Mo_none_28 f_Mo_none_29
  rw [q_l, (lookB (K := K) o).2, q_b, htu, if_neg (by decide)]
  have := qM_fails (K := K) (T.u_v_thrown 0) False 1 rfl (by decide)
  rw [← b01_F0, cif_f not_false] at this
  rw [this, q_c, q_g (Or.inl rfl)]
theorem fixB {K N m : Nat} {D E : Nat → Int32} {fks : List Nat} {z : SS} {A H B P g0 r to : Nat} {gl : Nat → Nat} {hh : Nat} {G : CG} {S : CS} {T : MS} (o : opn N m D E fks z A H B P g0 r to gl hh G S T) : f_Mo_fixedNow K T = some (1, T.u_v_thrown 1) := by
  have htu : (T.u_v_thrown 0).v_turned = 1 := o.2.1.2.2.2.2.1
  unfold f_Mo_fixedNow f_Mo_fixedNow_24 f_Mo_fixedNow_29
  rw [q_l, (lookB (K := K) o).2, q_b, htu, if_neg (by decide)]
  have := qM_fails (K := K) (T.u_v_thrown 0) True 1 rfl (by decide)
  rw [b01_t trivial, cif_t trivial] at this
  have this : f_Mo_fails K (T.u_v_thrown 0) 1 1 = some (1, (T.u_v_thrown 0).u_v_thrown 1) := this
  rw [this, q_c, q_g (Or.inr rfl)]
  rfl
theorem opB_kind {K N t m : Nat} {D E : Nat → Int32} {G : CG} {S : CS} {T : MS} (h : ivB K N t m D E G S T) : ∃ r G' S' T', f_Vt_kind K G S = some (r, G', S') ∧ f_Mo_kind K T = some (r, T') ∧ ivB K N t m D E G' S' T' ∧ S'.v_Tp_used = S.v_Tp_used := by
  obtain ⟨fks, z, A, H, B, P, g0, r, to, gl, hh, o⟩ := ivB_open h
  have htu : (T.u_v_thrown 0).v_turned = 1 := o.2.1.2.2.2.2.1
  obtain ⟨l1, l2⟩ := lookB (K := K) o
  refine ⟨2, G, S, T.u_v_thrown 0, ?_, ?_, ivB_thr h 0, rfl⟩
  · unfold f_Vt_kind f_Vt_kind_4; rw [lkn l1]
  · unfold f_Mo_kind; rw [q_l, l2, q_b, htu, if_neg (by decide)]
theorem opB_fault {K N t m : Nat} {D E : Nat → Int32} {G : CG} {S : CS} {T : MS} (h : ivB K N t m D E G S T) : ∃ r G' S' T', f_Vt_fault K G S = some (r, G', S') ∧ f_Mo_fault K T = some (r, T') ∧ ivB K N t m D E G' S' T' ∧ S'.v_Tp_used = S.v_Tp_used := by
  obtain ⟨fks, z, A, H, B, P, g0, r, to, gl, hh, o⟩ := ivB_open h
  have htu : (T.u_v_thrown 0).v_turned = 1 := o.2.1.2.2.2.2.1
  obtain ⟨l1, l2⟩ := lookB (K := K) o
  refine ⟨0, G, S, T.u_v_thrown 0, ?_, ?_, ivB_thr h 0, rfl⟩
  · unfold f_Vt_fault f_Vt_fault_4; rw [lkn l1, if_pos rfl]
  · unfold f_Mo_fault; rw [q_l, l2, q_b, htu, if_neg (by decide)]
theorem opB_plan {K N t m : Nat} {D E : Nat → Int32} {G : CG} {S : CS} {T : MS} (h : ivB K N t m D E G S T) (a b : Int32) : ∃ r G' S' T', f_Vt_plan K G S a b = some (r, G', S') ∧ f_Mo_plan K T a b = some (r, T') ∧ ivB K N t m D E G' S' T' ∧ S'.v_Tp_used = S.v_Tp_used := by
  obtain ⟨fks, z, A, H, B, P, g0, r, to, gl, hh, o⟩ := ivB_open h
  have htu : (T.u_v_thrown 0).v_turned = 1 := o.2.1.2.2.2.2.1
  obtain ⟨l1, l2⟩ := lookB (K := K) o
  refine ⟨-1, G, S, T.u_v_thrown 0, ?_, ?_, ivB_thr h 0, rfl⟩
  · unfold f_Vt_plan f_Vt_plan_14 f_Vt_plan_18
    rw [lkn l1, if_neg (show ¬ (2 : Int32) = 1 by decide)]
    split
    · rfl
    · split <;> rfl
  · unfold f_Mo_plan f_Mo_plan_34; rw [q_l, l2, q_b, htu, if_neg (by decide)]
theorem opB_target {K N t m : Nat} {D E : Nat → Int32} {G : CG} {S : CS} {T : MS} (h : ivB K N t m D E G S T) (a b : Int32) : ∃ r G' S' T', f_Vt_target K G S a b = some (r, G', S') ∧ f_Mo_target K T a b = some (r, T') ∧ ivB K N t m D E G' S' T' ∧ S'.v_Tp_used = S.v_Tp_used := by
  obtain ⟨fks, z, A, H, B, P, g0, r, to, gl, hh, o⟩ := ivB_open h
  have htu : (T.u_v_thrown 0).v_turned = 1 := o.2.1.2.2.2.2.1
  obtain ⟨l1, l2⟩ := lookB (K := K) o
  refine ⟨-1, G, S, T.u_v_thrown 0, ?_, ?_, ivB_thr h 0, rfl⟩
  · unfold f_Vt_target f_Vt_target_4 f_Vt_target_23
    rw [lkn l1, if_neg (show ¬ (2 : Int32) = 1 by decide)]
  · unfold f_Mo_target f_Mo_target_32; rw [q_l, l2, q_b, htu, if_neg (by decide)]
theorem opB_poke {K N t m : Nat} {D E : Nat → Int32} {G : CG} {S : CS} {T : MS} (h : ivB K N t m D E G S T) (a b c : Int32) : f_Vt_poke K G S a b c = some (0, S) ∧ f_Mo_poke K T a b c = some (0, T.u_v_thrown 0) ∧ ivB K N t m D E G S (T.u_v_thrown 0) := by
  refine ⟨?_, ?_, ivB_thr h 0⟩
  · unfold f_Vt_poke f_Vt_poke_30
    rw [show S.v_Vt_hasRun = 1 from h.1.1.2.2.2.2.2.1.2.1, if_neg (by decide)]
  · unfold f_Mo_poke f_Mo_poke_46
    rw [q_l, show (T.u_v_thrown 0).v_ran = 1 from h.1.1.2.2.2.2.2.1.2.2, if_neg (by decide)]
/-! byteAt -/
theorem bit_d : ∀ v : Fin 256, ∀ t : Fin 8, (((nI v.val >>> (nI t.val &&& 31)) &&& 1 = 0) ↔ v.val.testBit t.val = false) := by decide +kernel
theorem cl_shows {K s N : Nat} {D : Nat → Int32} {fks : List Nat} {z : SS} {A H B P g0 r to : Nat} {gl : Nat → Nat} {E F : Nat → Int32} {G : CG} {S : CS} (h : tB N D fks z A H B P g0 r to gl E F) (hG : G.n = N) (hS : S.w_Dk_bytes = E) (hs : s < N) : ∃ x, f_In_shows K G S (nI s) = some (x, S) ∧ (x = 0 ↔ 2 ≤ s ∧ ¬ usd N D (sIt z) A H gl (rml A H (fxd A P r g0) (ent D) gl (hk N D)) (bdN N fks D (sIt z) A H) (fxd A P r g0) (s / 2)) := by
  have hm := tB_num h
  have hN := hm.2.2.2.2.2.2.2.2.2.2.2.1
  obtain ⟨q1, q2, q3⟩ := tB_hd h
  unfold f_In_shows f_In_shows_19
  rw [cl_gsz h.1 h.2.2.1 hG hS, q_c, show (2 : Int32) = nI 2 from rfl, pk_div (by omega) (by decide) (by decide), q_l]
  by_cases c : s / 2 < 1
  · rw [if_pos (show nI (s / 2) < 1 from nI_lt (b := 1) c (by decide))]
    exact ⟨1, rfl, ⟨fun y => absurd y (by decide), fun y => by omega⟩⟩
  have hb : s / 2 < B := by omega
  have hg : (s / 2 - 1) / P < g0 := by
    have hp := h.1.2.2.1.1
    have e := hp.2.2.2.2.2.1
    rcases hp.2.2.2.2.1 with e1 | e1 | e1 <;> rw [e1] at e ⊢ <;> omega
  have hkP : (s / 2 - 1) % P < P := Nat.mod_lt _ (by omega)
  have hdm := Nat.div_add_mod (s / 2 - 1) P
  have hbk : bkA E (mBk A P ((s / 2 - 1) / P)) (mX (bmP (usd N D (sIt z) A H gl (rml A H (fxd A P r g0) (ent D) gl (hk N D)) (bdN N fks D (sIt z) A H) (fxd A P r g0)) B P g0 ((s / 2 - 1) / P))) := agW_bl h.2.2.1.2 (fun w hw => by
    unfold fxZ fxL
    exact List.mem_append_left _ ((fgG_mem g0 0 ((s / 2 - 1) / P) (Nat.zero_le _) (by omega)).1 w hw))
  have hgi := gr_in h.1.2.2.1.1 hg (h.1.2.2.1.2.1.1 _ hg)
  have e1 := hbk ((s / 2 - 1) % P / 8) (by omega)
  rw [mX_o1] at e1
  rw [if_neg (show ¬ nI (s / 2) < 1 from nI_nlt (b := 1) (by omega) (by omega)), if_pos (show 1 ≤ nI P from nI_le (a := 1) (by omega) (by omega)), q_g (nI_ne0 (by omega) (by omega)), show (1 : Int32) = nI 1 from rfl, pk_sub (by omega), pk_rem (by omega) (by omega) (by omega), q_l, q_g (nI_ne0 (by omega) (by omega)), pk_div (by omega) (by omega) (by omega), show (2048 : Int32) = nI 2048 from rfl, show (32 : Int32) = nI 32 from rfl, pk_mul, nI_add, rV4 E hG hS hN (by omega), q_c, (q3 _ hg).1, show (1024 : Int32) = nI 1024 from rfl, pk_mul, show (8 : Int32) = nI 8 from rfl, pk_rem (by omega) (by decide) (by decide), pk_div (by omega) (by decide) (by decide), nI_add, Nat.mul_comm _ 1024, rV1 E hG hS hN (by omega), q_c, e1]
  have hlt := mpB_lt (bmP (usd N D (sIt z) A H gl (rml A H (fxd A P r g0) (ent D) gl (hk N D)) (bdN N fks D (sIt z) A H) (fxd A P r g0)) B P g0 ((s / 2 - 1) / P)) ((s / 2 - 1) % P / 8)
  have ht : (s / 2 - 1) % P % 8 < 8 := Nat.mod_lt _ (by decide)
  have hbd := bit_d ⟨_, hlt⟩ ⟨(s / 2 - 1) % P % 8, ht⟩
  have hbt := mpB_bit (p := bmP (usd N D (sIt z) A H gl (rml A H (fxd A P r g0) (ent D) gl (hk N D)) (bdN N fks D (sIt z) A H) (fxd A P r g0)) B P g0 ((s / 2 - 1) / P)) (j := (s / 2 - 1) % P / 8) ht
  rw [show 8 * ((s / 2 - 1) % P / 8) + (s / 2 - 1) % P % 8 = (s / 2 - 1) % P by omega] at hbt
  have hus : bmP (usd N D (sIt z) A H gl (rml A H (fxd A P r g0) (ent D) gl (hk N D)) (bdN N fks D (sIt z) A H) (fxd A P r g0)) B P g0 ((s / 2 - 1) / P) ((s / 2 - 1) % P) ↔ usd N D (sIt z) A H gl (rml A H (fxd A P r g0) (ent D) gl (hk N D)) (bdN N fks D (sIt z) A H) (fxd A P r g0) (s / 2) := by
    have e2 : 1 + (s / 2 - 1) / P * P + (s / 2 - 1) % P = s / 2 := by rw [Nat.mul_comm] at hdm; omega
    unfold bmP
    rw [e2]
    refine ⟨fun y => y.resolve_left (fun y => ?_), Or.inr⟩
    unfold gSz at y
    split at y <;> omega
  show ∃ x, (if ((nI (mpB (bmP (usd N D (sIt z) A H gl (rml A H (fxd A P r g0) (ent D) gl (hk N D)) (bdN N fks D (sIt z) A H) (fxd A P r g0)) B P g0 ((s / 2 - 1) / P)) ((s / 2 - 1) % P / 8)) >>> (nI ((s / 2 - 1) % P % 8) &&& 31)) &&& 1) = 0 then some ((0 : Int32), S) else some (1, S)) = some (x, S) ∧ _
  by_cases w : ((nI (mpB (bmP (usd N D (sIt z) A H gl (rml A H (fxd A P r g0) (ent D) gl (hk N D)) (bdN N fks D (sIt z) A H) (fxd A P r g0)) B P g0 ((s / 2 - 1) / P)) ((s / 2 - 1) % P / 8)) >>> (nI ((s / 2 - 1) % P % 8) &&& 31)) &&& 1) = 0
  · rw [if_pos w]
    refine ⟨0, rfl, ⟨fun _ => ⟨by omega, fun y => ?_⟩, fun _ => rfl⟩⟩
    have a := hbd.mp w
    have b := hbt.mpr (hus.mpr y)
    rw [show (mpB (bmP (usd N D (sIt z) A H gl (rml A H (fxd A P r g0) (ent D) gl (hk N D)) (bdN N fks D (sIt z) A H) (fxd A P r g0)) B P g0 ((s / 2 - 1) / P)) ((s / 2 - 1) % P / 8)).testBit ((s / 2 - 1) % P % 8) = false from a] at b
    exact absurd b (by decide)
  · rw [if_neg w]
    refine ⟨1, rfl, ⟨fun y => absurd y (by decide), fun ⟨_, y⟩ => ?_⟩⟩
    refine absurd (hbd.mpr ?_) w
    exact Bool.eq_false_iff.mpr (fun z0 => y (hus.mp (hbt.mp z0)))
theorem opB_byteAt {K N t m : Nat} {D E : Nat → Int32} {G : CG} {S : CS} {T : MS} (h : ivB K N t m D E G S T) (a b : Int32) : ∃ r G' S' T', f_Vt_byteAt K G S a b = some (r, G', S') ∧ f_Mo_byteAt K T a b = some (r, T') ∧ ivB K N t m D E G' S' T' ∧ S'.v_Tp_used = S.v_Tp_used := by
  obtain ⟨fks, z, A, H, B, P, g0, r, to, gl, hh, o⟩ := ivB_open h
  have htu : (T.u_v_thrown 0).v_turned = 1 := o.2.1.2.2.2.2.1
  obtain ⟨l1, l2⟩ := lookB (K := K) o
  have hm := tB_num o.1
  have hN := hm.2.2.2.2.2.2.2.2.2.2.2.1
  have hn1 : (T.u_v_thrown 0).v_n = nI N := h.1.1.2.1.1
  have hD : (T.u_v_thrown 0).v_disk = D := h.1.1.2.2.1.1
  unfold f_Vt_byteAt f_Mo_byteAt f_Mo_byteAt_28
  rw [q_l]
  rcases qC_hasD (K := K) (G := G) o.2.1.2.2.2.1 hN a b with ⟨s, q, hs1, hq1, rfl, rfl, e⟩ | ⟨e, w⟩
  · rw [e, q_c, if_neg (show ¬ (1 : Int32) = 0 by decide), lkn l1, if_neg (nI_pos (by clear h o; omega)), hn1, if_neg (nI_ge hs1 (by clear h o; omega)), if_neg (nI_pos (by clear h o; omega)), if_pos (show nI q ≤ 511 from nI_le (b := 511) (by clear h o; omega) (by decide)), l2, q_b, htu, if_neg (show ¬ (1 : Int32) = 0 by decide)]
    unfold f_Vt_byteAt_18 f_Vt_byteAt_39 f_Vt_byteAt_55 f_Vt_byteAt_59 f_Vt_byteAt_60
    rw [if_neg (show ¬ (2 : Int32) = 0 by decide), if_neg (show ¬ (2 : Int32) = 1 by decide), if_pos rfl]
    obtain ⟨x, x1, x2⟩ := cl_shows (K := K) o.1 o.2.1.2.1 o.2.1.2.2.1 hs1
    rw [x1, q_c, if_pos (show (0 : Int32) = 0 from rfl), if_neg (show ¬ (1 : Int32) = 0 by decide)]
    have eC : f_Dk_one K G S ((nI s * 512) + nI q) = some (nI (o1 E (512 * s + q)), S) := by
      rw [show (512 : Int32) = nI 512 from rfl, pk_mul, nI_add, Nat.mul_comm s 512, rV1 E o.2.1.2.1 o.2.1.2.2.1 hN (by clear h o; omega)]
    rw [eC, q_c]
    by_cases c2 : 2 ≤ s
    · have hcl : (nI s / 2).toNatClampNeg = s / 2 := by rw [show (2 : Int32) = nI 2 from rfl, pk_div (by clear h o; omega) (by decide) (by decide), nI_clamp (by clear h o; omega)]
      have hcl2 : ((512 * nI s) + nI q).toNatClampNeg = 512 * s + q := by rw [show (512 : Int32) = nI 512 from rfl, pk_mul, nI_add, nI_clamp (by clear h o; omega)]
      have hin2 : lf_in (nI s / 2) 512 := by rw [show (2 : Int32) = nI 2 from rfl, pk_div (by clear h o; omega) (by decide) (by decide)]; exact q_in (by clear h o; omega) (by decide)
      have hin3 : lf_in ((512 * nI s) + nI q) 524288 := by rw [show (512 : Int32) = nI 512 from rfl, pk_mul, nI_add]; exact q_in (by clear h o; omega) (by decide)
      rw [if_pos (show 2 ≤ nI s from nI_le (a := 2) c2 (by clear h o; omega)), q_g hin2, hcl, show (T.u_v_thrown 0).v_used = T.v_used from rfl, o.2.2.2.1 (s / 2) (by clear h o; omega)]
      by_cases u : usd N D (sIt z) A H gl (rml A H (fxd A P r g0) (ent D) gl (hk N D)) (bdN N fks D (sIt z) A H) (fxd A P r g0) (s / 2)
      · rw [if_neg (fun y => (x2.mp y).2 u), b01_t u, if_neg (show ¬ nI 1 = 0 by decide), q_g hin3, hcl2, show (T.u_v_thrown 0).v_fresh = T.v_fresh from rfl]
        have eu := tB_us o.1 u (512 * (s % 2) + q) (by clear h o; omega)
        rw [show 1024 * (s / 2) + (512 * (s % 2) + q) = 512 * s + q by clear h o; omega] at eu
        refine ⟨_, _, _, _, rfl, ?_, ivB_thr h 0, rfl⟩
        rw [eu, ub_and]
        rfl
      · rw [if_pos (x2.mpr ⟨c2, u⟩), b01_f u, if_pos (show nI 0 = 0 from rfl)]
        exact ⟨_, _, _, _, rfl, rfl, ivB_thr h 0, rfl⟩
    · rw [if_neg (fun y => c2 (x2.mp y).1), if_neg (show ¬ 2 ≤ nI s from nI_ge (b := 2) (by clear h o; omega) (by decide)), show (512 : Int32) = nI 512 from rfl, pk_mul, nI_add, rM1 D hD (by clear h o; omega), q_c, o.1.2.2.1.1.1 _ (by clear h o; omega)]
      exact ⟨_, _, _, _, rfl, rfl, ivB_thr h 0, rfl⟩
  · rw [e, q_c, if_pos rfl]
    refine ⟨-1, G, S, T.u_v_thrown 0, rfl, ?_, ivB_thr h 0, rfl⟩
    rw [hn1]
    by_cases w1 : a < 0
    · rw [if_pos w1]
    rw [if_neg w1]
    by_cases w2 : nI N ≤ a
    · rw [if_pos w2]
    rw [if_neg w2]
    by_cases w3 : b < 0
    · rw [if_pos w3]
    rw [if_neg w3]
    have w4 : 512 ≤ b := (((w.resolve_left w1).resolve_left w2).resolve_left w3)
    rw [if_neg (fun y : b ≤ 511 => absurd (Int32.le_trans w4 y) (by decide))]
