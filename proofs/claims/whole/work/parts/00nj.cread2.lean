theorem qC_entry {K N t i s p p' fk : Nat} {G : CG} {D E : Nat → Int32} {ks kcs : Nat → Nat} {z : SS} {S : CS} {mp : Nat → Nat} (hmp : mp p = p') (hK : 10000 ≤ K) (hS : cIs N E G S) (hH : agH D E) (h : hdOk N D) (hN : N ≤ 1024) (hV : vC N D mp ks kcs z S) (hG : gC N t z G) (hz : itsOk N (sIt z)) (hpe : peOk (sPe z)) (hm : mpOk N D E mp (sIt z)) (h1 : 1 ≤ fk) (h2 : fk ≤ (sIt z).length) (hi : i < (sIt z).length) (hki : ks i = fk) (hks : ∀ j, i < j → ks j = 0 ∧ kcs j = 0) (hn : (sIt z).length ≤ 4001) (hu : (uns (sIt z)).length + 260 ≤ 90000) (hlb : ∀ q, sLb z = some q → mp q < 2 ^ 31) (hq : slq E p' D p) (hp' : p' + 32 ≤ 512 * N) : stC (entS N D i s p fk z) (f_Rd_readEntry K G S (nI i) (nI s) (nI p')) (fun z' G' S' => frC S S' ∧ vC N D mp ks kcs z' S' ∧ gC N t z' G') (fun G' S' => coC S' = coC S ∧ gOk N G' ∧ gLim t G') := by
  have hVV := hV
  obtain ⟨v1, v2, v3, v4, v5⟩ := hVV
  have hGG := hG
  obtain ⟨k1, k2, k3, k4⟩ := hGG
  have b11 := o1_lt D (p + 11)
  have hEd := hS.2.1
  have hGn := hS.1
  unfold f_Rd_readEntry
  rw [show (11 : Int32) = nI 11 from rfl, nI_add, rV1 E hGn hEd hN (by omega), q_c, hq 11 (by decide), show (8 : Int32) = nI 8 from rfl, q_and, q_and8 b11]
  have hbits := qC_bits (K := K) (p := p) (S := S) hGn hN hEd hq hp' b11
  have hshort : ∀ l : Nat, l = 0 ∨ l = 1 → f_Wo_isShortName K G S (nI p') (nI l) = some (b01 (shP D p (l = 1)), S) := fun l hl => by
    rw [b01_of (qV_isShort (by omega) hGn hEd hN (by omega) hl), b01_iff (slq_sh hq)]
  have hdays : f_Da_fit K G S (nI p') = some (b01 (daysP D p), S) := by rw [b01_of (qV_fits hGn hEd hN (by omega)), b01_iff (slq_days hq)]
  have e4 : ∀ (A : SS → CG → CS → Prop), stC (.error 4) (some ((4 : Int32), G, S)) A (fun G' S' => coC S' = coC S ∧ gOk N G' ∧ gLim t G') := fun A => stC_e rfl ⟨rfl, k1, k2⟩
  unfold entS f_Rd_readEntry_26 f_Rd_readEntry_62
  by_cases g3 : o1 D (p + 11) / 8 % 2 = 1
  · -- a label
    rw [g3, if_neg (by decide), hbits, q_c]
    by_cases a1 : o1 D (p + 11) ≤ 63 ∧ (o1 D (p + 11) / 8 % 2 = 1 → o1 D (p + 11) / 16 % 2 = 0 ∧ fc D p = 0 ∧ o4 D (p + 28) = 0) ∧ (o1 D (p + 11) / 16 % 2 = 1 → o4 D (p + 28) = 0)
    rotate_left
    · rw [b01_f a1, if_pos (by decide)]
      by_cases y : o1 D (p + 11) ≤ 63 ∧ daysP D p
      · rw [cif_t y, cif_t rfl, cif_f (fun w => a1 ⟨y.1, fun _ => ⟨w.1, w.2.2.2.2.1, w.2.2.2.2.2.1⟩, fun x => by have := w.1; omega⟩)]
        exact e4 _
      · rw [cif_f y]
        exact e4 _
    rw [b01_t a1, if_neg (by decide), show (1 : Int32) = nI 1 from rfl, hshort 1 (Or.inr rfl), q_c]
    by_cases a2 : shP D p ((1 : Nat) = 1)
    rotate_left
    · rw [b01_f a2, if_pos (by decide)]
      by_cases y : o1 D (p + 11) ≤ 63 ∧ daysP D p
      · rw [cif_t y, cif_t rfl, cif_f (fun w => a2 w.2.2.2.2.2.2)]
        exact e4 _
      · rw [cif_f y]
        exact e4 _
    rw [b01_t a2, if_neg (by decide), hdays, q_c]
    by_cases a3 : daysP D p
    rotate_left
    · rw [b01_f a3, if_pos (by decide), cif_f (fun w => a3 w.2)]
      exact e4 _
    rw [b01_t a3, if_neg (by decide), if_neg (show ¬ nI 1 = 0 by decide), cif_t ⟨a1.1, a3⟩, cif_t rfl, v2.1]
    unfold f_Rd_readEntry_91 f_Rd_readEntry_96
    obtain ⟨d1, d2, d3⟩ := a1.2.1 g3
    have e4' : ∀ (A : SS → CG → CS → Prop), stC (.error 4) (lf_l (S.u_v_Tr_label (nI p')) fun S_19 => if (1 : Int32) = 0 then (some ((0 : Int32), G, S_19)) else (some (4, G, S_19))) A (fun G' S' => coC S' = coC S ∧ gOk N G' ∧ gLim t G') := fun A => stC_e rfl ⟨rfl, k1, k2⟩
    by_cases a4 : pM (sPe z) = 0
    rotate_left
    · have := hpe.1
      rw [if_neg a4, if_neg (nI_ne0 (by omega) (by omega)), cif_f (fun w => a4 w.2.2.2.1)]
      exact e4' _
    rw [if_pos a4, if_pos (show nI 0 = 0 from rfl)]
    by_cases a5 : i = 0
    rotate_left
    · rw [if_neg (nI_ne0 (by omega) (by omega)), cif_f (fun w => a5 w.2.1)]
      exact e4' _
    rw [if_pos (by rw [a5]; rfl), v4]
    by_cases a6 : sLb z = none
    rotate_left
    · obtain ⟨q, hq'⟩ := Option.ne_none_iff_exists'.mp a6
      have hne : ¬ lbC mp (some q) = -nI 1 := by
        show ¬ nI (mp q) = -1
        intro w
        have w := congrArg Int32.toInt w
        rw [nI_toInt (hlb q hq'), show (-1 : Int32).toInt = -1 from by decide] at w
        omega
      rw [hq', if_neg hne, cif_f (fun w => by have := w.2.2.1; rw [hq'] at this; cases this)]
      exact e4' _
    rw [a6, if_pos (show lbC mp none = -nI 1 from rfl), cif_t (show enLb D i p z from ⟨d1, a5, a6, a4, d2, d3, a2⟩)]
    exact stC_o rfl ⟨⟨rfl, rfl⟩, ⟨v1, v2, v3, by show nI p' = nI (mp p); rw [hmp], v5⟩, k1, k2, k3, k4⟩
  · -- an item
    rw [show o1 D (p + 11) / 8 % 2 = 0 by omega, if_pos (by decide), hbits, q_c]
    have n0 : ¬ (0 : Nat) = 1 := by decide
    by_cases a1 : o1 D (p + 11) ≤ 63 ∧ (o1 D (p + 11) / 8 % 2 = 1 → o1 D (p + 11) / 16 % 2 = 0 ∧ fc D p = 0 ∧ o4 D (p + 28) = 0) ∧ (o1 D (p + 11) / 16 % 2 = 1 → o4 D (p + 28) = 0)
    rotate_left
    · rw [b01_f a1, if_pos (by decide)]
      by_cases y : o1 D (p + 11) ≤ 63 ∧ daysP D p
      · rw [cif_t y, cif_f n0, cif_f (fun w => a1 ⟨y.1, fun x => absurd x g3, w.2.1⟩)]
        exact e4 _
      · rw [cif_f y]
        exact e4 _
    rw [b01_t a1, if_neg (by decide), show (0 : Int32) = nI 0 from rfl, hshort 0 (Or.inl rfl), q_c]
    by_cases a2 : shP D p ((0 : Nat) = 1)
    rotate_left
    · rw [b01_f a2, if_pos rfl]
      by_cases y : o1 D (p + 11) ≤ 63 ∧ daysP D p
      · rw [cif_t y, cif_f n0, cif_f (fun w => a2 w.1)]
        exact e4 _
      · rw [cif_f y]
        exact e4 _
    rw [b01_t a2, if_neg (show ¬ nI 1 = nI 0 by decide), hdays, q_c]
    by_cases a3 : daysP D p
    rotate_left
    · rw [b01_f a3, if_pos rfl, cif_f (fun w => a3 w.2)]
      exact e4 _
    rw [b01_t a3, if_neg (show ¬ nI 1 = nI 0 by decide), if_pos rfl, cif_t ⟨a1.1, a3⟩, cif_f n0, v2.1]
    by_cases a4 : pM (sPe z) = 0
    · have en : nmN D p (sPe z) = svO D p 11 := by unfold nmN; rw [if_pos a4]
      have hsv : svO E p' 11 = svO D p 11 := slq_sv hq 11 (by decide)
      have hlen := svO_pos a2.1
      have hsh := qV_shown (K := K) (p := p') (by omega) hGn hEd hN (by omega)
      rw [hsv, ← en] at hsh
      rw [← en] at hlen
      rw [if_pos a4, if_pos rfl, hsh, q_c, cif_t (show enBad D p (sPe z) from ⟨a2, a1.2.2, fun w => absurd a4 w⟩)]
      clear hsh hsv en
      have hub : bufR (mkL S.w_Rd_units (nmN D p (sPe z))) (nmN D p (sPe z)) := fun j hj => mkL_get hj
      generalize hS1 : S.u_w_Rd_units (mkL S.w_Rd_units (nmN D p (sPe z))) = S1
      have x1 : coC S1 = coC S := by rw [← hS1]; rfl
      have x2 : vC N D mp ks kcs z S1 := by
        rw [← hS1]
        exact ⟨v1, ⟨v2.1, fun w => absurd a4 w⟩, v3, v4, v5⟩
      have x3 : bufR S1.w_Rd_units (nmN D p (sPe z)) := by rw [← hS1]; exact hub
      have x4 : S1.v_Rd_parts = nI (pM (sPe z)) := by rw [← hS1]; show S.v_Rd_parts = _; rw [v2.1, if_pos a4, a4]
      have x5 : S1.w_Rd_road = S.w_Rd_road := by rw [← hS1]; rfl
      obtain ⟨y1, y2⟩ := qC_ent137 (t := t) (fk := fk) (s := s) (g := id) (S := S1) hmp hK (cIs_co (S := S) x1 rfl hS) hH h hN x2 hG hz hpe hm h1 h2 hi hki hks hn hu hq hp' x3 hlen x4
      refine ⟨fun z' e => ?_, fun e he => ?_⟩
      · obtain ⟨G', S', w1, w2, w3⟩ := y1 z' e
        exact ⟨G', S', w1, ⟨w2.1.trans x1, w2.2.trans x5⟩, w3⟩
      · obtain ⟨G', S', w1, w2, w3⟩ := y2 e he
        exact ⟨G', S', w1, w2.trans x1, w3⟩
    · have hp1 := hpe.1
      have en : nmN D p (sPe z) = tw (pU (sPe z)) := by unfold nmN; rw [if_neg a4]
      rw [if_neg a4, if_neg (show ¬ nI (pM (sPe z) + pL (sPe z)) = nI 0 from nI_ne0 (by omega) (by omega)), qC_close (by omega) hGn hN hEd hq hp' hpe v2 a4, q_c]
      by_cases a5 : pL (sPe z) = 0 ∧ sm D p 11 = pS (sPe z) ∧ sdP (pU (sPe z))
      rotate_left
      · rw [cif_f a5, cif_f (fun w => a5 (w.2.2 a4))]
        unfold f_Rd_readEntry_137
        rw [if_pos (show nI 0 = 0 from rfl)]
        exact e4 _
      rw [cif_t a5, cif_t (show enBad D p (sPe z) from ⟨a2, a1.2.2, fun _ => a5⟩)]
      obtain ⟨u1, u2, u4⟩ := v2.2 a4
      have hbuf : bufR S.w_Rd_units (tw (pU (sPe z))) := fun j hj => by
        have hj2 := tw_len (pU (sPe z))
        have hj3 := hpe.2.1
        have := u4 j (by omega)
        rw [a5.1, Nat.mul_zero, Nat.zero_add] at this
        rw [this, ((tw_pre (pU (sPe z))).2.1 j hj).1]
      have := qC_ent137 (t := t) (fk := fk) (s := s) (g := id) (S := S) hmp hK hS hH h hN hV hG hz hpe hm h1 h2 hi hki hks hn hu hq hp' (by rw [en]; exact hbuf) (by rw [en]; exact a5.2.2.2.2.1) (by rw [v2.1, if_neg a4, a5.1, Nat.add_zero])
      rw [en] at this ⊢
      exact this
