/-! The fixed blocks are put down from the mark on. -/
theorem fr_eq {N : Nat} {D : Nat → Int32} {fks : List Nat} {its : List It} {A H k B P g0 r to : Nat} {gl e : Nat → Nat} {us : Nat → Prop} (hU : usF N D its A H k B P g0 r to gl e (bdN N fks D its A H)) (hus : us = usd N D its A H gl (rml A H (fxd A P r g0) e gl k) (bdN N fks D its A H) (fxd A P r g0)) : cntP (fun b => ¬ us b) B - cntP (fun b => ¬ us b) 1 = B - 1 - (g0 * (4 + r) + (bdN N fks D its A H + kpN N D its A H)) := by
  rw [hus]
  have hB := hU.1.2.2.2.1
  have hA := hU.1.1
  have hc := usd_cnt hU
  have hn := cntP_not (p := usd N D its A H gl (rml A H (fxd A P r g0) e gl k) (bdN N fks D its A H) (fxd A P r g0)) B
  have h1 : cntP (fun b => ¬ usd N D its A H gl (rml A H (fxd A P r g0) e gl k) (bdN N fks D its A H) (fxd A P r g0) b) 1 = 1 := by
    rw [cntP, cntP, cif_t ?_]
    rintro (⟨g, g1, g2⟩ | ⟨q, q1, q2⟩ | y | y)
    · rcases g2 with g2 | g2 | ⟨g2, g3⟩
      · omega
      · omega
      · have := (gr_in hU.1 g1 (hU.2.1.1 g g1)).2.2.2.2
        omega
    · have hbd := hU.2.2.2.2.2.2
      have := (rml_lt (getD_mem (show q < (rml A H (fxd A P r g0) e gl k).length by omega))).1
      rw [← q2] at this
      omega
    · omega
    · have := ((kLs_f hU).2 _ y).1
      omega
  unfold kpN
  omega
/-- a write far from all that the mark stands for -/
theorem dM_far {N : Nat} {D : Nat → Int32} {fks : List Nat} {its : List It} {A H k B P g0 r to : Nat} {gl : Nat → Nat} {E Y : Nat → Int32} {s : Nat} (h : pPl N D fks its A H k B P g0 r to gl) (hs0 : 1 ≤ s / 2) (hs1 : s / 2 < 3 ∨ A ≤ s / 2) (hs2 : ∀ c, 2 ≤ c → c < k + 2 → ent D c ≠ 0 → ∀ i, i < H → s / 2 ≠ bOf A H gl c + i) (hs3 : ∀ t, t < (rml A H (fxd A P r g0) (ent D) gl k).length → s / 2 ≠ (rml A H (fxd A P r g0) (ent D) gl k).getD t 0) (hE : dM N D fks its A H k P g0 r gl E) : dM N D fks its A H k P g0 r gl (wS E s Y 0) := by
  have hbl := prR_bl h
  obtain ⟨a1, a2, a3, a4, a5, a6⟩ := hE
  have key : ∀ w : Wr, w ∈ prR N D fks its A H k P g0 r gl → ∀ j, j < 512 → o1 (wS E s Y 0) (512 * w.1 + j) = o1 E (512 * w.1 + j) := fun w hw j hj => by
    obtain ⟨t, t1, t2⟩ := hbl w hw
    have := hs3 t t1
    have : w.1 ≠ s := fun e => this (by rw [← e]; exact t2)
    rw [wS_o1, if_neg (by omega)]
  refine ⟨fun q hq => ?_, fun q q1 q2 => ?_, fun c c1 c2 c3 j hj => ?_, fun w hw j hj => ?_, fun w hw j hj => ?_, fun w hw j hj => ?_⟩
  · rw [wS_o1, if_neg (by omega)]; exact a1 q hq
  · rw [wS_o1, if_neg (by omega)]; exact a2 q q1 q2
  · have := hs2 c c1 c2 c3 (j / 1024) (by omega)
    rw [wS_o1, if_neg (by omega)]; exact a3 c c1 c2 c3 j hj
  · rw [key w (by unfold prR; exact List.mem_append_left _ hw) j hj]; exact a4 w hw j hj
  · rw [key w (by unfold prR; exact List.mem_append_right _ (List.mem_append_left _ hw)) j hj]; exact a5 w hw j hj
  · rw [key w (by unfold prR; exact List.mem_append_right _ (List.mem_append_right _ hw)) j hj]; exact a6 w hw j hj
theorem dM_fix {N : Nat} {D : Nat → Int32} {fks : List Nat} {its : List It} {A H k B P g0 r to : Nat} {gl : Nat → Nat} {E Y : Nat → Int32} {s : Nat} (h : pPl N D fks its A H k B P g0 r to gl) (hs : fxd A P r g0 (s / 2)) (hE : dM N D fks its A H k P g0 r gl E) : dM N D fks its A H k P g0 r gl (wS E s Y 0) := by
  have hu := h.2.2.1
  have hin : 1 ≤ s / 2 ∧ s / 2 < B := by
    obtain ⟨g, g1, g2⟩ := hs
    have := gr_in hu.1 g1 (hu.2.1.1 g g1)
    omega
  have hok := hu.2.1.2 _ hin.2 hs
  unfold okBk at hok
  refine dM_far h hin.1 (by omega) (fun c c1 c2 c3 i hi e => ?_) (fun t t1 e => ?_) hE
  · refine ((stnd_f hu.2.2.1).1 c c1 c2 c3).2.2.1 ⟨i, hi, ?_⟩
    unfold bOf at e
    rw [← e]
    exact hs
  · exact (room_f hu t t1).2.2.1 (by rw [← e]; exact hs)
/-- entries and label, wherever their clusters stand -/
theorem dM_mpZ {K N t m : Nat} {D : Nat → Int32} {fks : List Nat} {z : SS} {A H k B P g0 r to : Nat} {gl : Nat → Nat} {E : Nat → Int32} {G : CG} {S : CS} (hK : 20000 ≤ K) (h : pPl N D fks (sIt z) A H k B P g0 r to gl) (ht : pTr N D fks z k) (hcp : capOk N D m) (hm : m ≤ 4000) (hG : gOk N G) (hlim : gLim t G) (hs : S.v_Dk_sectors = nI N) (hg : ∀ c, 2 ≤ c → c < k + 2 → S.w_Tb_goal c = nI (gl c)) (hE : dM N D fks (sIt z) A H k P g0 r gl E) : mpZ N D E (mpP D (gF 1 gl)) z := by
  have hH := dM_agH h hE
  have hC := dM_agC h hE
  obtain ⟨⟨ho, ⟨hN1, hN⟩, hN2, -⟩, ⟨hA2, hH2, hk0, hB0⟩, hu, hr1, hil, hl1, hrc⟩ := h
  obtain ⟨i1, i2, i3, i4, i5, i6⟩ := aimR_inv _ _ _ hu.2.2.1
  have b3 := hu.1
  obtain ⟨r0, G2, S2, c1, c2, c3, c4, c5, -⟩ := qC_scanW (K := K) (mv := 1) (S := S.u_w_Dk_bytes E) (gl := gl) (D := D) hK hN1 hN hcp hm hG hlim rfl hs ⟨fun p hp => hE.1 p (by omega), fun _ => ⟨hH, hC⟩⟩ (Or.inr rfl) (fun _ c q1 q2 => hg c q1 (by rw [hk0]; exact q2)) (fun c => by
    by_cases y : gl c = 0
    · omega
    · have := i3 c y
      have := b3.2.2.1
      omega)
  exact (c5 fks z ht.1).2.2.1.2.2.2.2.2.2.2
theorem cl_fixed {K N t m : Nat} {D : Nat → Int32} {fks : List Nat} {z : SS} {A H k B P g0 r to fr : Nat} {gl : Nat → Nat} {us : Nat → Prop} {G : CG} {S : CS} (hK : 20000 ≤ K) (h : pPl N D fks (sIt z) A H k B P g0 r to gl) (ht : pTr N D fks z k) (hcp : capOk N D m) (hm : m ≤ 4000) (hG : gOk N G) (hlim : gLim t G) (hf : fxC N D (mpP D (gF 1 gl)) fks (sIt z) A H k B P g0 r to gl (ent D) us fr G S) (hlb : S.v_Tr_label = lbC (mpP D (gF 1 gl)) (sLb z)) {E B1 f : Nat → Int32} {p : Option Nat} {x : Int32} (hE : dM N D fks (sIt z) A H k P g0 r gl E) (hb : byt (tS S E p B1 f x)) (hp : pOk p) : tuO S (f_Tu_putFixed K G (tS S E p B1 f x)) p (fxL N D fks (sIt z) A H B P g0 r gl (rml A H (fxd A P r g0) (ent D) gl k) us fr (lby D (sLb z))) E := by
  refine tu_putFixed (J := dM N D fks (sIt z) A H k P g0 r gl) hK hf dM_ok (fun E' hE' => ?_) (fun E' s Y hs hE' => dM_fix h hs hE') hE hb hp
  have hz := dM_mpZ hK h ht hcp hm hG hlim hf.1.2.2.1.2.2.2 hf.1.1.1.2.2.2.2.2.1 hE'
  refine ⟨o4_sh (fun i hi => hE'.1 _ (by omega)), ?_, fun j j1 j2 => ⟨hz.1 j j1 j2, ht.2.2.2.2.2.2.2.1 j j1 j2, ht.2.2.2.2.2.2.2.2.1 j j1 j2⟩⟩
  cases hq : sLb z with
  | none =>
    rw [hq] at hlb
    exact Or.inl ⟨hlb, fun _ _ => rfl⟩
  | some q =>
    rw [hq] at hlb
    have := hz.2 q hq
    exact Or.inr ⟨mpP D (gF 1 gl) q, hlb, by omega, fun i hi => this.1 i (by omega)⟩
