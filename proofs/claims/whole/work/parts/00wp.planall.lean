/-! From a plan not refused to all that is fixed in a run. -/
theorem plX_all {N P m hh : Nat} {D E : Nat → Int32} {fks : List Nat} {z : SS} {G G0 : CG} {S S0 : CS} {T T0 : MS} (x : plX N P D fks (sIt z) G S T) (etr : trE N D = .ok (fks, z)) (v : tv N m D E fks z hh G0 S0 T0) (hN1 : 256 ≤ N) (hN : N ≤ 1024) (hN2 : N % 2 = 0) (h27 : sec27 D) : ∃ A H B g0 r to gl, pPl N D fks (sIt z) A H (hk N D) B P g0 r to gl ∧ pTr N D fks z (hk N D) ∧ r = (10 + (sIt z).length + 8 * g0 - 1) / (8 * g0) ∧ tnU N D fks (sIt z) A H (hk N D) B P g0 r to gl (ent D) T ∧ (∀ b, b < 512 → T.v_fixed b = b01 (fxd A P r g0 b)) ∧ rcB N D (sIt z) A H ≤ 512 := by
  obtain ⟨A, H, B, g0, r, to, gl, ⟨e1, e2, e3, e4, e5, e6, e7⟩, x1, x2, x3, x4, x5, x6⟩ := x
  have htr := x1.1.2.1
  have hdr := x1.2.1
  refine ⟨A, H, B, g0, r, to, gl, ⟨⟨v.2.2.2.1, ⟨hN1, hN⟩, hN2, h27⟩, ⟨e5, e6, rfl, e3⟩, x1.1.2.2.1, x3.1.2.1.2.2.2.1, x3.1.2.1.2.2.2.2, htr.2.2.2.1.1, x6⟩, ⟨etr, htr.2.2.2.1, htr.2.2.2.2.2.1, htr.2.2.2.2.2.2.1, htr.2.2.2.2.2.2.2.1, htr.2.2.2.2.2.2.2.2, hdr.2.2, x3.1.2.2.2.2.2, x5, v.2.2.2.2.2.1.2.2⟩, e7, x3, x4, x6⟩
/-- the reference turns, and its image agrees with all that the class writes -/
theorem plX_turn {K N P m hh : Nat} {D E : Nat → Int32} {fks : List Nat} {z : SS} {G G0 : CG} {S S0 : CS} {T T0 : MS} (hK : 600000 ≤ K) (x : plX N P D fks (sIt z) G S T) (hlab : T.v_label = lbI (sLb z)) (etr : trE N D = .ok (fks, z)) (v : tv N m D E fks z hh G0 S0 T0) (hN1 : 256 ≤ N) (hN : N ≤ 1024) (hN2 : N % 2 = 0) (h27 : sec27 D) : ∃ A H B g0 r to gl F U n R, pPl N D fks (sIt z) A H (hk N D) B P g0 r to gl ∧ pTr N D fks z (hk N D) ∧ r = (10 + (sIt z).length + 8 * g0 - 1) / (8 * g0) ∧ tnU N D fks (sIt z) A H (hk N D) B P g0 r to gl (ent D) T ∧ f_Mo_turn K T = some ((qS T F U n R).u_v_turned 1) ∧ lyA N D fks (sIt z) A H P g0 r gl (rml A H (fxd A P r g0) (ent D) gl (hk N D)) F ∧ agW F (fxZ N D fks z A H (hk N D) B P g0 r gl) ∧ uM U (usd N D (sIt z) A H gl (rml A H (fxd A P r g0) (ent D) gl (hk N D)) (bdN N fks D (sIt z) A H) (fxd A P r g0)) ∧ arr R.1 (recL N D (sIt z) A H gl (rml A H (fxd A P r g0) (ent D) gl (hk N D))) := by
  obtain ⟨A, H, B, g0, r, to, gl, y1, y2, y3, y4, y5, y6⟩ := plX_all x etr v hN1 hN hN2 h27
  obtain ⟨F, U, n, R, a1, a2, a3, a4, a5⟩ := ql_turn (K := K) hK y4 y6 y5 hlab v.2.2.2.2.2.1.2.2 rfl
  refine ⟨A, H, B, g0, r, to, gl, F, U, n, R, y1, y2, y3, y4, a1, a2, ?_, a4, a5⟩
  rw [fr_eq y1.2.2.1 rfl] at a3
  exact a3
