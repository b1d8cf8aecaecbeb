/-! A run, with all its fails, where the plan is not refused. -/
abbrev rP (K N m hh : Nat) (D : Nat → Int32) (fks : List Nat) (z : SS) (A H k B P g0 r to : Nat) (gl : Nat → Nat) (F : Nat → Int32) (T T1 : MS) : Prop := pPl N D fks (sIt z) A H k B P g0 r to gl ∧ pTr N D fks z k ∧ r = (10 + (sIt z).length + 8 * g0 - 1) / (8 * g0) ∧ capOk N D m ∧ m ≤ 4000 ∧ agW F (fxZ N D fks z A H k B P g0 r gl) ∧ lyA N D fks (sIt z) A H P g0 r gl (rml A H (fxd A P r g0) (ent D) gl k) F ∧ (∃ E0 G0 S0, tv N m D E0 fks z hh G0 S0 T ∧ agH D E0) ∧ T.v_parent 0 = 0 ∧ f_Mo_refusal K T (nI P) = some (0, T1)
abbrev d3 (N : Nat) (D : Nat → Int32) (fks : List Nat) (z : SS) (A H k B P g0 r : Nat) (gl : Nat → Nat) (E : Nat → Int32) : Prop := dU N D E ∨ dNt N D fks z A H k P g0 r gl E ∨ dTh N D fks z A H k B P g0 r gl E
/-- nothing is marked: back is nothing to do -/
theorem cl_backU {K N : Nat} {D : Nat → Int32} {E : Nat → Int32} {G : CG} {S : CS} {a : Int32} (hN1 : 256 ≤ N) (hN : N ≤ 1024) (ho : hdOk N D) (h27 : sec27 D) (hE : dU N D E) (hG : G.n = N) (hS : S.w_Dk_bytes = E) : f_Tu_turn K G S 1 a = some (0, G, S) := by
  have hff := hd_facts ho hN
  obtain ⟨n1, n2⟩ := qC_notThere (K := K) (S := S) hG hS hN1 hN (fun q q1 q2 => by rw [hE q (by omega) (Or.inl (by omega))]; exact h27 q (by omega))
  unfold f_Tu_turn
  rw [if_pos rfl]
  unfold f_Tu_goBack f_Tu_recall
  rw [n2, q_c, if_pos rfl]
  rfl
theorem cl_turn {K N t m hh d : Nat} {D : Nat → Int32} {fks : List Nat} {z : SS} {A H k B P g0 r to : Nat} {gl : Nat → Nat} {E F : Nat → Int32} {G : CG} {S : CS} {T T1 : MS} {p : Option Nat} (hK : 20000 ≤ K) (h : rP K N m hh D fks z A H k B P g0 r to gl F T T1) (hd : d = 0 ∨ d = 1) (hE : d3 N D fks z A H k B P g0 r gl E) (hS : cK N t B E p G S) (hp : pOk p) : ∃ E' G' S' p', f_Tu_turn K G S (nI d) (nI P) = some (0, G', S') ∧ coR S' = coR S ∧ cK N t B E' p' G' S' ∧ d3 N D fks z A H k B P g0 r gl E' ∧ (p = none → if d = 0 then dTh N D fks z A H k B P g0 r gl E' else dU N D E') := by
  obtain ⟨h1, h2, h3, h4, h5, h6, h7, h8, h9, h10⟩ := h
  rcases hd with e | e
  · subst e
    obtain ⟨E', G', S', p', a1, a2, a3, a4, a5⟩ := cl_finT hK h1 h2 h3 h4 h5 h6 h7 h8 h9 h10 hE hS hp
    exact ⟨E', G', S', p', a1, a2, a3, a4, fun y => by rw [if_pos rfl]; exact a5 y⟩
  · subst e
    rcases hE with hE | hE
    · have := cl_backU (K := K) (S := S) (G := G) (a := nI P) h1.1.2.1.1 h1.1.2.1.2 h1.1.1 h1.1.2.2.2 hE hS.1.1.1 hS.2.1
      exact ⟨E, G, S, p, this, rfl, hS, Or.inl hE, fun _ => by rw [if_neg (by decide)]; exact hE⟩
    · obtain ⟨E', S', p', a1, a2, a3, a4, a5⟩ := cl_backT (K := K) (a := nI P) hK h1 hE hS hp
      exact ⟨E', G, S', p', a1, a2, a3, a4, fun y => by rw [if_neg (by decide)]; exact a5 y⟩
abbrev cQ (N t B : Nat) (E : Nat → Int32) (G : CG) (S : CS) : Prop := (gOk N G ∧ gLim t G) ∧ S.w_Dk_bytes = E ∧ S.v_Dk_sectors = nI N ∧ S.v_Pl_blocks = nI B ∧ byt S
theorem cl_loop {K N t m hh d f : Nat} {D : Nat → Int32} {fks : List Nat} {z : SS} {A H k B P g0 r to : Nat} {gl : Nat → Nat} {F : Nat → Int32} {T T1 : MS} {S0 : CS} (hK : 20000 ≤ K) (h : rP K N m hh D fks z A H k B P g0 r to gl F T T1) (hd : d = 0 ∨ d = 1) (hf : f ≤ 16) (hw : ∀ j, j < f → (S0.w_Vt_failAsks j = nI 0 ∨ S0.w_Vt_failAsks j = nI 1) ∧ ∃ w, w < 2 ^ 31 ∧ S0.w_Vt_failWrites j = nI w) : ∀ (c i w : Nat) (E : Nat → Int32) (G : CG) (S : CS), i + c = f → c < w → coR S = coR S0 → d3 N D fks z A H k B P g0 r gl E → cQ N t B E G S → ∃ E' G' S1 p', f_Vt_run_74 K w (nI d) (nI f) (nI P) (nI i) G S = some (.ok 0, G', ((S1.u_v_Vt_hasRun 1).u_v_Vt_stale 1).u_v_Vt_here 0) ∧ coR S1 = coR S0 ∧ cK N t B E' p' G' S1 ∧ (if d = 0 then dTh N D fks z A H k B P g0 r gl E' else dU N D E') := by
  intro c
  induction c with
  | zero =>
    intro i w E G S e1 e2 hco hE hS
    obtain ⟨w, rfl⟩ : ∃ m, w = m + 1 := ⟨w - 1, by omega⟩
    obtain rfl : i = f := by omega
    obtain ⟨E', G', S1, p', a1, a2, a3, a4, a5⟩ := cl_turn (K := K) (S := S.u_v_Dk_power (-1)) (G := G) (p := none) hK h hd hE ⟨hS.1, hS.2.1, hS.2.2.1, hS.2.2.2.1, rfl, hS.2.2.2.2⟩ (fun w e => by cases e)
    refine ⟨E', G', S1, p', ?_, a2.trans hco, a3, a5 rfl⟩
    rw [f_Vt_run_74, if_pos (nI_le (Nat.le_refl _) (by omega))]
    unfold f_Vt_run_124
    show lf_n (f_Tu_turn K G (S.u_v_Dk_power (-1)) (nI d) (nI P)) _ = _
    rw [a1]
    rfl
  | succ c ih =>
    intro i w E G S e1 e2 hco hE hS
    obtain ⟨w, rfl⟩ : ∃ m, w = m + 1 := ⟨w - 1, by omega⟩
    obtain ⟨h1, v, h2, h3⟩ := hw i (by omega)
    have hask : ∃ d', (d' = 0 ∨ d' = 1) ∧ S.w_Vt_failAsks i = nI d' := by
      rw [show S.w_Vt_failAsks = S0.w_Vt_failAsks from congrArg (fun x => x.1.1) hco]
      rcases h1 with y | y
      · exact ⟨0, Or.inl rfl, y⟩
      · exact ⟨1, Or.inr rfl, y⟩
    obtain ⟨d', hd', ha0⟩ := hask
    have hwr : S.w_Vt_failWrites i = nI v := by
      rw [show S.w_Vt_failWrites = S0.w_Vt_failWrites from congrArg (fun x => x.1.2.1) hco]
      exact h3
    obtain ⟨E', G', S1, p', a1, a2, a3, a4, -⟩ := cl_turn (K := K) (S := S.u_v_Dk_power (nI v)) (G := G) (p := some v) (d := d') hK h hd' hE ⟨hS.1, hS.2.1, hS.2.2.1, hS.2.2.2.1, rfl, hS.2.2.2.2⟩ (fun w e => by cases e; exact h2)
    obtain ⟨E2, G2, S2, p2, b1, b2, b3, b4⟩ := ih (i + 1) w E' G' S1 (by omega) (by omega) (a2.trans hco) a4 ⟨a3.1, a3.2.1, a3.2.2.1, a3.2.2.2.1, a3.2.2.2.2.2⟩
    refine ⟨E2, G2, S2, p2, ?_, b2, b3, b4⟩
    have hwr2 : S.w_Vt_failWrites (nI i).toNatClampNeg = nI v := by rw [nI_clamp (by omega)]; exact hwr
    have hask2 : S.w_Vt_failAsks (nI i).toNatClampNeg = nI d' := by rw [nI_clamp (by omega)]; exact ha0
    rw [← b1, f_Vt_run_74, if_neg (nI_ge (by omega) (by omega)), show (16 : Int32) = nI 16 from rfl, if_neg (nI_ge (by omega) (by omega)), q_g (q_in (by omega) (by decide)), hwr2]
    show lf_g _ (lf_n (f_Tu_turn K G (S.u_v_Dk_power (nI v)) (S.w_Vt_failAsks (nI i).toNatClampNeg) (nI P)) _) = _
    rw [q_g (q_in (by omega) (by decide)), hask2, a1]
    show f_Vt_run_117 K (f_Vt_run_74 K w) (nI d) (nI f) (nI P) (nI i) 0 G' S1 = _
    unfold f_Vt_run_117
    rw [nI_1, q_l]
