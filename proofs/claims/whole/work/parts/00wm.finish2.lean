/-! The turner asked to finish, where the plan is not refused. -/
theorem plX_pP {N P : Nat} {D : Nat → Int32} {fks : List Nat} {its : List It} {G : CG} {S : CS} {T : MS} {A H k B g0 r to : Nat} {gl : Nat → Nat} (h : pPl N D fks its A H k B P g0 r to gl) (hr : r = (10 + its.length + 8 * g0 - 1) / (8 * g0)) (x : plX N P D fks its G S T) : rnC N D (mp0 D) fks its A H k B P g0 r to gl (ent D) G S := by
  obtain ⟨A', H', B', g0', r', to', gl', ⟨e1, e2, e3, e4, e5, e6, e7⟩, x1, -, -, -, -, -⟩ := x
  obtain ⟨-, ⟨hA2, hH2, hk0, hB0⟩, hu, -, -, -, -⟩ := h
  obtain rfl : A = A' := by omega
  obtain rfl : H = H' := by omega
  obtain rfl : B = B' := by omega
  obtain rfl : g0 = g0' := by rw [e4, ← hB0]; exact hu.1.2.2.2.2.2.1
  obtain rfl : r = r' := hr.trans e7.symm
  rw [← hk0] at x1
  obtain ⟨rfl, rfl⟩ := aimR_u _ _ _ _ _ hu.2.2.1 x1.1.2.2.1.2.2.1
  exact x1
theorem cl_finT {K N t m hh : Nat} {D : Nat → Int32} {fks : List Nat} {z : SS} {A H k B P g0 r to : Nat} {gl : Nat → Nat} {E F : Nat → Int32} {G : CG} {S : CS} {T T1 : MS} {p : Option Nat} (hK : 20000 ≤ K) (h : pPl N D fks (sIt z) A H k B P g0 r to gl) (ht : pTr N D fks z k) (hr : r = (10 + (sIt z).length + 8 * g0 - 1) / (8 * g0)) (hcp : capOk N D m) (hm : m ≤ 4000) (hF : agW F (fxZ N D fks z A H k B P g0 r gl)) (hL : lyA N D fks (sIt z) A H P g0 r gl (rml A H (fxd A P r g0) (ent D) gl k) F) (hv : ∃ E0 G0 S0, tv N m D E0 fks z hh G0 S0 T ∧ agH D E0) (hT0 : T.v_parent 0 = 0) (hT : f_Mo_refusal K T (nI P) = some (0, T1)) (hE : dU N D E ∨ dNt N D fks z A H k P g0 r gl E ∨ dTh N D fks z A H k B P g0 r gl E) (hS : cK N t B E p G S) (hp : pOk p) : ∃ E' G' S' p', f_Tu_turn K G S 0 (nI P) = some (0, G', S') ∧ coR S' = coR S ∧ cK N t B E' p' G' S' ∧ (dU N D E' ∨ dNt N D fks z A H k P g0 r gl E' ∨ dTh N D fks z A H k B P g0 r gl E') ∧ (p = none → dTh N D fks z A H k B P g0 r gl E') := by
  have hS0 := hS
  obtain ⟨⟨hG, hlim⟩, hb0, hs, hbl, hpw, hb⟩ := hS
  unfold f_Tu_turn
  rw [if_neg (show ¬ (0 : Int32) = 1 by decide)]
  rcases hE with hE | hE | hE
  · obtain ⟨ho, ⟨hN1, hN⟩, hN2, h27⟩ := h.1
    have hff := hd_facts ho hN
    obtain ⟨n1, n2⟩ := qC_notThere (K := K) (S := S) hG.1 hb0 hN1 hN (fun q q1 q2 => by rw [hE q (by omega) (Or.inl (by omega))]; exact h27 q (by omega))
    rw [n1, q_c, if_pos rfl, n2, q_c, if_pos rfl]
    have hag : agA N 0 D E (fun _ => 0) := agF_A (ran := 1) hN1 hN (Or.inr ⟨rfl, ho, hE⟩)
    obtain ⟨r0, G2, S2, c1, c2, c3, c4, c5, -⟩ := qC_scan (K := K) (mv := 0) (S := S) (gl := fun _ => 0) (D := D) hK hN1 hN hcp hm hG hlim hb0 hs hag (Or.inl rfl) (fun e => by omega) (fun c => by omega)
    obtain ⟨c6, c7, c8, -⟩ := c5 fks z ht.1
    have c1' : f_Rd_scan K G S 0 = some (nI r0, G2, S2) := c1
    rw [c1']
    show ∃ E' G' S' p', f_Tu_turn_46 K (nI P) (nI r0) G2 S2 = some (0, G', S') ∧ _
    obtain ⟨E0, G0, S0, v, hv0⟩ := hv
    obtain ⟨ans, S3, T3, x1, x2, x3, -, -, -, -, -, ⟨x4, x5, x6, x7⟩, x8⟩ := qB_refX (K := K) hK hN1 hN v hv0 c7 ⟨t, c8⟩ (hag.2 ho).1 (by rw [coK_v_Pl_blocks c2, hbl, h.2.1.2.2.2]) ht.1 hT0 (nI P)
    rw [hT] at x3
    have ha0 : nI ans = nI 0 := (congrArg (fun o => o.1) (Option.some.inj x3)).symm
    have ha1 : ans = 0 := (nI_eq (a := ans) (b := 0) (Nat.lt_of_le_of_lt x1 (by decide)) (by decide)).mp ha0
    obtain ⟨P', hP', eP, x9, -⟩ := x8 ha1
    have hPb : ∀ Q, (Q = 64 ∨ Q = 128 ∨ Q = 256) → Q < 2 ^ 31 := fun Q hQ => by rcases hQ with y | y | y <;> rw [y] <;> decide
    have eP2 : P = P' := (nI_eq (a := P) (b := P') (hPb P h.2.2.1.1.2.2.2.2.1) (hPb P' hP')).mp eP
    rw [← eP2] at x9
    have hrn := plX_pP h hr x9
    unfold f_Tu_turn_46
    rw [c6, show nI 0 = (0 : Int32) from rfl, x2, q_c, ha1, if_pos (show nI 0 = 0 from rfl)]
    have co2 : coR S2 = coR S := by
      unfold coR
      rw [coK_w_Vt_failAsks c2, coK_w_Vt_failWrites c2, coK_v_Vt_fails c2, coK_v_Vt_here c2, coK_v_Vt_hasRun c2, coK_v_Vt_stale c2, coK_v_Vt_lastFault c2, coK_v_Dk_sectors c2, coK_w_Tp_bytes c2, coK_w_Tp_ready c2, coK_v_Tp_used c2, coK_v_Pl_blocks c2]
    have y5 : S3.w_Dk_bytes = E := x5.trans ((coK_w_Dk_bytes c2).trans hb0)
    have y6 : S3.v_Dk_power = pI p := x6.trans ((coK_v_Dk_power c2).trans hpw)
    have y7 : S3.w_Tu_block = S.w_Tu_block := x7.trans (coK_w_Tu_block c2)
    have e3 := tS_self (S := S3) (p := p) y6
    have hb3 : byt S3 := ⟨fun q => by rw [y5, ← hb0]; exact hb.1 q, fun q => by rw [y7]; exact hb.2 q⟩
    have hb4 := hb3
    rw [e3] at hb4
    have hE3 : dU N D S3.w_Dk_bytes := by rw [y5]; exact hE
    obtain ⟨E', B', f', x', b1, b2, b3⟩ := cl_prepare (K := K) hK hrn h hE3 hb4 hp
    rw [← e3] at b1
    rw [y5] at b2
    rw [b1, q_b]
    have hs3 : S3.v_Dk_sectors = nI N := (congrArg (fun x => x.2.1) (x4.trans co2)).trans hs
    have hbl3 : S3.v_Pl_blocks = nI B := (congrArg (fun x => x.2.2.2.2.2) (x4.trans co2)).trans hbl
    obtain ⟨L, eL⟩ : ∃ L, prL N D fks (sIt z) A H k P r gl (rml A H (fxd A P r g0) (ent D) gl k) (sYc D A H) (sYs D) = L := ⟨_, rfl⟩
    by_cases g : ∃ w, p = some w ∧ w < L.length
    · obtain ⟨w, ew, hw⟩ := g
      have hU : dU N D E' := dU_ok _ _ b2 (by rw [ew]; exact pr_half h hE (by rw [eL]; exact hw))
      rw [eL] at b3 ⊢
      have hpw0 : pR p L.length = some 0 := by rw [ew]; exact congrArg some (by omega)
      rw [hpw0] at b3 ⊢
      unfold f_Tu_turn_60
      rw [tu_isOn (fun w0 e0 => by cases e0; decide), q_c, b01_f (fun y => y rfl), if_pos (show nI 0 = 0 from rfl)]
      refine ⟨E', G2, tS S3 E' (some 0) B' f' x', some 0, rfl, x4.trans co2, ⟨⟨c3, c4⟩, rfl, hs3, hbl3, rfl, b3⟩, Or.inl hU, fun y => ?_⟩
      rw [y] at ew; cases ew
    · have hful : ∀ w, p = some w → L.length ≤ w := fun w e => Nat.le_of_not_lt fun hlt => g ⟨w, e, hlt⟩
      obtain ⟨d1, d2⟩ := pr_done (p := p) h hL hE (by rw [eL]; exact hful)
      have hN3 : dNt N D fks z A H k P g0 r gl E' := ⟨dM_ok _ _ b2 d1, fun q q1 q2 => by rw [b2 q]; exact d2 q q1 q2⟩
      obtain ⟨E2, G3, S4, p', f1, f2, f3, f4, f5⟩ := cl_60 (K := K) (S := tS S3 E' (pR p (prL N D fks (sIt z) A H k P r gl (rml A H (fxd A P r g0) (ent D) gl k) (sYc D A H) (sYs D)).length) B' f' x') (G := G2) hK h ht hcp hm hF hN3 ⟨⟨c3, c4⟩, rfl, hs3, hbl3, rfl, b3⟩ (pR_ok hp _)
      exact ⟨E2, G3, S4, p', f1, f2.trans (x4.trans co2), f3, Or.inr f4, fun y => f5 (by rw [y]; rfl)⟩
  · obtain ⟨n1, n2⟩ := cl_notYet (K := K) (S := S) h hE hG.1 hb0
    rw [n1, q_c, if_pos rfl, n2, q_c, if_neg (show ¬ (1 : Int32) = 0 by decide)]
    obtain ⟨E2, G3, S4, p', f1, f2, f3, f4, f5⟩ := cl_60 (K := K) hK h ht hcp hm hF hE hS0 hp
    exact ⟨E2, G3, S4, p', f1, f2, f3, Or.inr f4, f5⟩
  · have n1 := cl_there (K := K) (S := S) h hE hG.1 hb0
    rw [n1, q_c, if_neg (show ¬ (1 : Int32) = 0 by decide)]
    exact ⟨E, G, S, p, rfl, rfl, hS0, Or.inr (Or.inr hE), fun _ => hE⟩
