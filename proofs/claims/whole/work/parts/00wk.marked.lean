/-! The turner from the mark on: forth and back, as far as the power goes. -/
noncomputable def fxZ (N : Nat) (D : Nat → Int32) (fks : List Nat) (z : SS) (A H k B P g0 r : Nat) (gl : Nat → Nat) : List Wr := fxL N D fks (sIt z) A H B P g0 r gl (rml A H (fxd A P r g0) (ent D) gl k) (usd N D (sIt z) A H gl (rml A H (fxd A P r g0) (ent D) gl k) (bdN N fks D (sIt z) A H) (fxd A P r g0)) (B - 1 - (g0 * (4 + r) + (bdN N fks D (sIt z) A H + kpN N D (sIt z) A H))) (lby D (sLb z))
abbrev dTh (N : Nat) (D : Nat → Int32) (fks : List Nat) (z : SS) (A H k B P g0 r : Nat) (gl : Nat → Nat) (E : Nat → Int32) : Prop := dM N D fks (sIt z) A H k P g0 r gl E ∧ agW E (fxZ N D fks z A H k B P g0 r gl)
abbrev dNt (N : Nat) (D : Nat → Int32) (fks : List Nat) (z : SS) (A H k P g0 r : Nat) (gl : Nat → Nat) (E : Nat → Int32) : Prop := dM N D fks (sIt z) A H k P g0 r gl E ∧ sec2 D E
/-- what the class's state is in a run, but for the disk -/
abbrev cK (N t B : Nat) (E : Nat → Int32) (p : Option Nat) (G : CG) (S : CS) : Prop := (gOk N G ∧ gLim t G) ∧ S.w_Dk_bytes = E ∧ S.v_Dk_sectors = nI N ∧ S.v_Pl_blocks = nI B ∧ S.v_Dk_power = pI p ∧ byt S
theorem cl_60 {K N t m : Nat} {D : Nat → Int32} {fks : List Nat} {z : SS} {A H k B P g0 r to : Nat} {gl : Nat → Nat} {E F : Nat → Int32} {G : CG} {S : CS} {p : Option Nat} (hK : 20000 ≤ K) (h : pPl N D fks (sIt z) A H k B P g0 r to gl) (ht : pTr N D fks z k) (hcp : capOk N D m) (hm : m ≤ 4000) (hF : agW F (fxZ N D fks z A H k B P g0 r gl)) (hE : dNt N D fks z A H k P g0 r gl E) (hS : cK N t B E p G S) (hp : pOk p) : ∃ E' G' S' p', f_Tu_turn_60 K G S = some (0, G', S') ∧ coR S' = coR S ∧ cK N t B E' p' G' S' ∧ (dNt N D fks z A H k P g0 r gl E' ∨ dTh N D fks z A H k B P g0 r gl E') ∧ (p = none → dTh N D fks z A H k B P g0 r gl E') := by
  obtain ⟨⟨hG, hlim⟩, hb0, hs, hbl, hpw, hb⟩ := hS
  have e := tS_self (S := S) (p := p) hpw
  have hon := tu_isOn (K := K) (G := G) (S := S) (E := S.w_Dk_bytes) (B := S.w_Tu_block) (f := S.w_Pl_list) (x := S.v_Pl_listed) hp
  rw [← e] at hon
  unfold f_Tu_turn_60
  rw [hon, q_c]
  by_cases c : p = some 0
  · rw [b01_f (fun y => y c), if_pos (show nI 0 = 0 from rfl)]
    refine ⟨E, G, S, p, rfl, rfl, ⟨⟨hG, hlim⟩, hb0, hs, hbl, hpw, hb⟩, Or.inl hE, fun y => ?_⟩
    rw [y] at c; cases c
  · rw [b01_t c, if_neg (show ¬ nI 1 = 0 by decide)]
    obtain ⟨S1, G2, S2, a1, a2, a3, ⟨a4, a5, a6⟩, a7, a8, a9, a10⟩ := cl_plan (S := S) (G := G) hK h ht hcp hm hE.1 hG hlim hb0 hs hbl
    rw [a1, q_c, if_neg (show ¬ (1 : Int32) = 0 by decide), a2]
    have e2 := tS_self (S := S2) (p := p) (a5.trans hpw)
    have hb2 : byt S2 := ⟨fun q => by rw [a4, ← hb0]; exact hb.1 q, fun q => by rw [a6]; exact hb.2 q⟩
    have hb3 := hb2
    rw [e2] at hb3
    have hE2 : dM N D fks (sIt z) A H k P g0 r gl S2.w_Dk_bytes := by rw [a4]; exact hE.1
    obtain ⟨E', B', f', x', b1, b2, b3⟩ := cl_fixed (S := S2) (G := G2) hK h ht hcp hm a7 a8 a9 a10 hE2 hb3 hp
    rw [← e2] at b1
    rw [a4] at b2
    obtain ⟨c1, c2, c3⟩ := fx_after (p := p) h hF hE.1 hE.2
    have hs2 : S2.v_Dk_sectors = nI N := (congrArg (fun x => x.2.1) a3).trans hs
    have hbl2 : S2.v_Pl_blocks = nI B := (congrArg (fun x => x.2.2.2.2.2) a3).trans hbl
    have hdM : dM N D fks (sIt z) A H k P g0 r gl E' := dM_ok _ _ b2 c1
    refine ⟨E', G2, tS S2 E' (pR p (fxZ N D fks z A H k B P g0 r gl).length) B' f' x', pR p (fxZ N D fks z A H k B P g0 r gl).length, by rw [b1]; rfl, a3, ⟨⟨a7, a8⟩, rfl, hs2, hbl2, rfl, b3⟩, ?_, fun y => ⟨hdM, fun w hw j hj => ?_⟩⟩
    · by_cases g : ∃ w, p = some w ∧ w < (fxZ N D fks z A H k B P g0 r gl).length
      · refine Or.inl ⟨hdM, fun q q1 q2 => ?_⟩
        rw [b2 q]
        exact c2 g q q1 q2
      · refine Or.inr ⟨hdM, fun w hw j hj => ?_⟩
        rw [b2 _]
        exact c3 (fun w0 e0 => Nat.le_of_not_lt fun hlt => g ⟨w0, e0, hlt⟩) w hw j hj
    · rw [b2 _]
      exact c3 (fun w0 e0 => by rw [y] at e0; cases e0) w hw j hj
theorem cl_backT {K N t : Nat} {D : Nat → Int32} {fks : List Nat} {z : SS} {A H k B P g0 r to : Nat} {gl : Nat → Nat} {E : Nat → Int32} {G : CG} {S : CS} {p : Option Nat} {a : Int32} (hK : 20000 ≤ K) (h : pPl N D fks (sIt z) A H k B P g0 r to gl) (hE : dNt N D fks z A H k P g0 r gl E ∨ dTh N D fks z A H k B P g0 r gl E) (hS : cK N t B E p G S) (hp : pOk p) : ∃ E' S' p', f_Tu_turn K G S 1 a = some (0, G, S') ∧ coR S' = coR S ∧ cK N t B E' p' G S' ∧ (dU N D E' ∨ dNt N D fks z A H k P g0 r gl E' ∨ dTh N D fks z A H k B P g0 r gl E') ∧ (p = none → dU N D E') := by
  obtain ⟨⟨hG, hlim⟩, hb0, hs, hbl, hpw, hb⟩ := hS
  have hdM : dM N D fks (sIt z) A H k P g0 r gl E := hE.elim (fun y => y.1) (fun y => y.1)
  obtain ⟨S1, a1, E', B', f', x', b1, b2, b3⟩ := cl_goBack (S := S) (G := G) (p := p) hK h hdM hG hb0 hs hbl hpw hp hb
  have hs2 : S1.v_Dk_sectors = nI N := (congrArg (fun x => x.2.1) a1).trans hs
  have hbl2 : S1.v_Pl_blocks = nI B := (congrArg (fun x => x.2.2.2.2.2) a1).trans hbl
  refine ⟨E', tS S1 E' (pR p (bkL D A H k gl).length) B' f' x', pR p (bkL D A H k gl).length, by unfold f_Tu_turn; rw [if_pos rfl, b1]; rfl, a1, ⟨⟨hG, hlim⟩, rfl, hs2, hbl2, rfl, b3⟩, ?_, fun y => ?_⟩
  · cases p with
    | none => exact Or.inl (dU_ok _ _ b2 (bk_done h hdM (fun w e => by cases e)))
    | some w =>
      by_cases g0' : w = 0
      · rw [g0', ApL_off] at b2
        rcases hE with ⟨y1, y2⟩ | ⟨y1, y2⟩
        · exact Or.inr (Or.inl ⟨dM_ok _ _ b2 y1, fun q q1 q2 => by rw [b2 q]; exact y2 q q1 q2⟩)
        · exact Or.inr (Or.inr ⟨dM_ok _ _ b2 y1, fun v hv j hj => by rw [b2 _]; exact y2 v hv j hj⟩)
      · by_cases g1 : w < (bkL D A H k gl).length
        · obtain ⟨c1, c2⟩ := bk_half h hdM (by omega) g1
          exact Or.inr (Or.inl ⟨dM_ok _ _ b2 c1, fun q q1 q2 => by rw [b2 q]; exact c2 q q1 q2⟩)
        · exact Or.inl (dU_ok _ _ b2 (bk_done h hdM (fun w0 e => by cases e; omega)))
  · rw [y] at b2
    exact dU_ok _ _ b2 (bk_done h hdM (fun w e => by cases e))
