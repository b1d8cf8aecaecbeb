/-! A directory laid by the reference, whole. -/
theorem ql_kids {K i b0 : Nat} {N : Nat} {D : Nat → Int32} {fks : List Nat} {its : List It} {T : MS} {rm : List Nat} {p : Nat → Prop} (hK : 5000 ≤ K) (hM : trM N D fks its T) (hbd : bdA T rm) (hi : i < its.length) (hin : b0 + flB fks its i ≤ rm.length) : ∀ (d q w : Nat) (F U : Nat → Int32) (R : Rg), q + d = kcI fks its.length i → d < w → fdI D fks its i rm b0 (2 + q) F R → uM U (fun c => p c ∨ c ∈ rmF rm b0 (pkS (eSz fks its i) (2 + q)).1) → ∃ F' U' R', f_Mo_makeFolder_63 K w (nI i) (nI (pkS (eSz fks its i) (2 + q)).1) (nI (2 + cntP (fun q => isDr D its (fkI fks i + q)) q)) (nI (fkI fks i + q)) (qS T F U (b0 + (pkS (eSz fks its i) (2 + q)).1) R) = f_Mo_makeFolder_154 K (nI i) (nI (flB fks its i)) (nI (2 + cntP (fun q => isDr D its (fkI fks i + q)) (kcI fks its.length i))) (qS T F' U' (b0 + flB fks its i) R') ∧ fdI D fks its i rm b0 (eNo fks its i) F' R' ∧ (∀ q, (∀ s, b0 ≤ s → s < b0 + flB fks its i → farR rm s q) → o1 F' q = o1 F q) ∧ uM U' (fun c => p c ∨ c ∈ rmF rm b0 (flB fks its i)) ∧ R'.1 = R.1 ∧ R'.2.2.2.2.2 = R.2.2.2.2.2 := by
  have hN := hM.1.2
  have hkd := hM.2.2.2.2.2.1
  have hfl := hM.2.2.2.2.2.2.1
  have hlen := hM.2.2.2.1.2.1
  have hes := eSz_le (i := i) hM.2.2.2.1 hkd (by rw [hfl]; exact hi)
  have hk1 := hkd i (by rw [hfl]; exact hi)
  have hkc : kcI fks its.length i ≤ 4200 := by unfold kcI; omega
  have hkR := hM.2.2.2.2.1 i (by rw [hfl]; exact hi)
  have hkk : fkI fks i + kcI fks its.length i ≤ its.length := by
    have e0 : fkI fks i = fks.getD i 0 := rfl
    have e1 : kcI fks its.length i = fks.getD (i + 1) its.length - fks.getD i 0 := rfl
    omega
  intro d
  induction d with
  | zero =>
    intro q w F U R e1 e2 hI hU
    obtain ⟨w, rfl⟩ : ∃ m, w = m + 1 := ⟨w - 1, by omega⟩
    obtain rfl : q = kcI fks its.length i := by omega
    have e3 : (qS T F U (b0 + (pkS (eSz fks its i) (2 + kcI fks its.length i)).1) R).v_firstKid i + (qS T F U (b0 + (pkS (eSz fks its i) (2 + kcI fks its.length i)).1) R).v_kids i = nI (fkI fks i + kcI fks its.length i) := by
      rw [show (qS T F U (b0 + (pkS (eSz fks its i) (2 + kcI fks its.length i)).1) R).v_firstKid i = nI (fkI fks i) from hkR.1, show (qS T F U (b0 + (pkS (eSz fks its i) (2 + kcI fks its.length i)).1) R).v_kids i = nI (kcI fks its.length i) from hkR.2, nI_add]
    rw [f_Mo_makeFolder_63, q_g (q_in (by omega) (by decide)), q_g (q_in (by omega) (by decide)), nI_clamp (by omega), e3, if_pos (nI_le (by omega) (by omega))]
    by_cases g : i = 0
    · have heN : eNo fks its i = 2 + kcI fks its.length i + 1 := by unfold eNo; rw [if_pos g]
      have hnK : ¬ isK fks its i (2 + kcI fks its.length i) := by unfold isK; omega
      have s1 : eSz fks its i (2 + kcI fks its.length i) = 7 := by unfold eSz; rw [if_neg (by omega), if_neg (by omega)]
      have s2 : eNu fks its i (2 + kcI fks its.length i) = 11 := by unfold eNu; rw [if_neg (by omega), if_neg (by omega), if_neg hnK]
      have s3 : eKd D fks its i (2 + kcI fks its.length i) = 1 := by unfold eKd; rw [if_neg (by omega), if_neg hnK]
      have htx : txR K T (-1) (eSz fks its i (2 + kcI fks its.length i)) (eNb fks its i (2 + kcI fks its.length i)) := by
        rw [s1]
        have : eNb fks its i (2 + kcI fks its.length i) = fun q => rcN.getD q 0 := funext fun q => by unfold eNb; rw [if_neg (by omega), if_neg hnK]
        rw [this]
        exact tx_rec
      obtain ⟨F', U', R', c1, c2, c3, c4, c5, c6⟩ := ql_step (K := K) (N := N) (D := D) (p := p) (by omega) hbd hes (by omega) hin htx (by rw [s2]; decide) hI hU
      rw [s1, s2, s3] at c1
      have c1 : f_Mo_entered K (qS T F U (b0 + (pkS (eSz fks its i) (2 + kcI fks its.length i)).1) R) (nI (pkS (eSz fks its i) (2 + kcI fks its.length i)).1) 11 (-1) 1 7 = _ := c1
      rw [if_pos (show nI i = 0 by rw [g]; rfl), c1, q_c]
      have hfb : (pkS (eSz fks its i) (2 + kcI fks its.length i + 1)).1 = flB fks its i := by unfold flB; rw [heN]
      rw [hfb] at c4 ⊢
      rw [← heN] at c2
      exact ⟨F', U', R', rfl, c2, c3, c4, c5, c6⟩
    · have heN : eNo fks its i = 2 + kcI fks its.length i := by unfold eNo; rw [if_neg g, Nat.add_zero]
      have hfb : (pkS (eSz fks its i) (2 + kcI fks its.length i)).1 = flB fks its i := by unfold flB; rw [heN]
      rw [if_neg (nI_ne0 (by omega) (by omega)), hfb]
      rw [hfb] at hU
      rw [← heN] at hI
      exact ⟨F, U, R, rfl, hI, fun _ _ => rfl, hU, rfl, rfl⟩
  | succ d ih =>
    intro q w F U R e1 e2 hI hU
    obtain ⟨w, rfl⟩ : ∃ m, w = m + 1 := ⟨w - 1, by omega⟩
    have hj : fkI fks i + q < its.length := by omega
    have h1 : 1 ≤ fkI fks i + q := by have := hk1.1; omega
    have hK0 : isK fks its i (2 + q) := by unfold isK; omega
    have eq2 : 2 + q - 2 = q := by omega
    have s1 : eSz fks its i (2 + q) = tsz (inm (itr its (fkI fks i + q))) := by unfold eSz; rw [if_neg (by omega), if_pos (by omega), eq2]
    have s2 : eNu fks its i (2 + q) = nmr (fkI fks i + q) := by unfold eNu; rw [if_neg (by omega), if_neg (by omega), if_pos hK0, eq2]
    have s3 : eKd D fks its i (2 + q) = cif (isDr D its (fkI fks i + q)) 2 1 := by unfold eKd; rw [if_neg (by omega), if_pos hK0, eq2]
    have htx : txR K T (nI (fkI fks i + q)) (eSz fks its i (2 + q)) (eNb fks its i (2 + q)) := by
      rw [s1]
      have : eNb fks its i (2 + q) = nbV (inm (itr its (fkI fks i + q))) := funext fun s => by unfold eNb; rw [if_neg (by omega), if_pos hK0, eq2]
      rw [this]
      exact tx_kid (by omega) hM h1 hj
    have hnm : nmr (fkI fks i + q) < 2 ^ 31 := by unfold nmr; split <;> omega
    have heN : 2 + q < eNo fks its i := by unfold eNo; split <;> omega
    obtain ⟨F1, U1, R1, c1, c2, c3, c4, c5, c6⟩ := ql_step (K := K) (N := N) (D := D) (p := p) (by omega) hbd hes heN hin htx (by rw [s2]; exact hnm) hI hU
    obtain ⟨F', U', R', d1, d2, d3, d4, d5, d6⟩ := ih (q + 1) w F1 U1 R1 (by omega) (by omega) c2 c4
    refine ⟨F', U', R', ?_, d2, fun q hq => by rw [d3 q hq, c3 q hq], d4, by rw [d5, c5], by rw [d6, c6]⟩
    rw [s1, s2, s3] at c1
    have e3 : (qS T F U (b0 + (pkS (eSz fks its i) (2 + q)).1) R).v_firstKid i + (qS T F U (b0 + (pkS (eSz fks its i) (2 + q)).1) R).v_kids i = nI (fkI fks i + kcI fks its.length i) := by
      rw [show (qS T F U (b0 + (pkS (eSz fks its i) (2 + q)).1) R).v_firstKid i = nI (fkI fks i) from hkR.1, show (qS T F U (b0 + (pkS (eSz fks its i) (2 + q)).1) R).v_kids i = nI (kcI fks its.length i) from hkR.2, nI_add]
    have hif : ∀ (F U : Nat → Int32) (n : Nat) (R : Rg), f_Mo_isFolder K (qS T F U n R) (nI (fkI fks i + q)) = some (b01 (isDr D its (fkI fks i + q)), qS T F U n R) := fun F U n R => qM_isFolder (T := qS T F U n R) hM.2.1.1 hN hM.2.2.1 hM.2.2.2.1 hj
    rw [cntP] at d1
    rw [f_Mo_makeFolder_63, q_g (q_in (by omega) (by decide)), q_g (q_in (by omega) (by decide)), nI_clamp (by omega), e3, if_neg (nI_ge (by omega) (by omega)), ql_num (by omega), q_c, hif, q_c]
    unfold f_Mo_makeFolder_105 f_Mo_makeFolder_130
    rw [qM_textSize (T := qS T F U (b0 + (pkS (eSz fks its i) (2 + q)).1) R) (by omega) hM.2.2.1 hM.2.2.2.1 h1 hj, q_c]
    by_cases g : isDr D its (fkI fks i + q)
    · rw [cif_t g] at c1 d1
      have c1 : f_Mo_entered K (qS T F U (b0 + (pkS (eSz fks its i) (2 + q)).1) R) (nI (pkS (eSz fks its i) (2 + q)).1) (nI (nmr (fkI fks i + q))) (nI (fkI fks i + q)) 2 (nI (tsz (inm (itr its (fkI fks i + q))))) = _ := c1
      rw [b01_t g, if_neg (show ¬ nI 1 = 0 by decide), q_c, c1, q_c, hif, q_c, b01_t g, if_neg (show ¬ nI 1 = 0 by decide), nI_1, q_l, nI_1, q_l]
      exact d1
    · rw [cif_f g] at c1 d1
      have c1 : f_Mo_entered K (qS T F U (b0 + (pkS (eSz fks its i) (2 + q)).1) R) (nI (pkS (eSz fks its i) (2 + q)).1) (nI (nmr (fkI fks i + q))) (nI (fkI fks i + q)) 1 (nI (tsz (inm (itr its (fkI fks i + q))))) = _ := c1
      rw [b01_f g, if_pos (show nI 0 = 0 from rfl), c1, q_c, hif, q_c, b01_f g, if_pos (show nI 0 = 0 from rfl), show ∀ x, nI x + 0 = nI x from fun _ => Int32.add_zero _, q_l, nI_1, q_l]
      exact d1
theorem pk_pos {s : Nat → Nat} (e : Nat) : 0 < (pkS s (e + 1)).2 := by
  rw [pkS]
  have : 8 ≤ elN (s e) := by unfold elN; omega
  split
  · show 0 < (pkS s e).2 + elN (s e); omega
  · show 0 < elN (s e); omega
theorem ql_folder {K i b0 : Nat} {N : Nat} {D : Nat → Int32} {fks : List Nat} {its : List It} {A H k B P g0 r : Nat} {gl : Nat → Nat} {T : MS} {F U : Nat → Int32} {R : Rg} {rm : List Nat} {p : Nat → Prop} (hK : 20000 ≤ K) (h : tnM N D fks its A H k B P g0 r gl rm T) (hi : i < its.length) (hdr : isDr D its i) (hin : b0 + flB fks its i + indN (flB fks its i) ≤ rm.length) (hz : ∀ t, b0 ≤ t → t < b0 + flB fks its i + indN (flB fks its i) → bkA F (rm.getD t 0) Zd) (ha0 : inPos A P (8 * r) (nmr i) + 128 ≤ 524288) (hd : ∀ t, t < rm.length → inPos A P (8 * r) (nmr i) + 128 ≤ 1024 * rm.getD t 0 ∨ 1024 * rm.getD t 0 + 1024 ≤ inPos A P (8 * r) (nmr i)) (hU : uM U p) : ∃ F' U' R', f_Mo_makeFolder K (qS T F U b0 R) (nI i) = some (qS T F' U' (b0 + flB fks its i + indN (flB fks its i)) R') ∧ agW F' (dwG D fks its i rm (eNo fks its i) 0 Zd 0 0 b0) ∧ agW F' (inW rm (b0 + flB fks its i) (rmF rm b0 (flB fks its i)) (indN (flB fks its i))) ∧ (∀ q, inPos A P (8 * r) (nmr i) ≤ q → q < inPos A P (8 * r) (nmr i) + 128 → o1 F' q = o1 (inX F (inPos A P (8 * r) (nmr i)) (moN D its i) (flB fks its i * 1024) true (fun w => if i = 0 then 0 else tmN D (isp (itr its i)) w) (lkN D fks its i) (rmF rm b0 (flB fks its i)) rm (b0 + flB fks its i)) q) ∧ (∀ q, (q < inPos A P (8 * r) (nmr i) ∨ inPos A P (8 * r) (nmr i) + 128 ≤ q) → (∀ s, b0 ≤ s → s < b0 + flB fks its i + indN (flB fks its i) → farR rm s q) → o1 F' q = o1 F q) ∧ uM U' (fun c => p c ∨ c ∈ rmF rm b0 (flB fks its i + indN (flB fks its i))) ∧ R'.1 = R.1 := by
  obtain ⟨hM, ⟨hpl, hT, hI, hr, hil⟩, hbd, hmv, ⟨hp0, hq0, hpar⟩, hdy⟩ := h
  have hN := hM.1.2
  have hkd := hM.2.2.2.2.2.1
  have hfl := hM.2.2.2.2.2.2.1
  have ho := hM.2.2.2.1
  have hlen := ho.2.1
  have hes := eSz_le (i := i) ho hkd (by rw [hfl]; exact hi)
  have hk1 := hkd i (by rw [hfl]; exact hi)
  have hkR := hM.2.2.2.2.1 i (by rw [hfl]; exact hi)
  have hrl := hbd.2.1
  have heN : 2 ≤ eNo fks its i := by unfold eNo; omega
  have hf1 : 1 ≤ flB fks its i := (pkS_le hes _).1
  have hb0 : b0 < rm.length := by omega
  have hb := hbd.2.2.1 _ (getD_mem hb0)
  have hnm : ∀ j, j < its.length → nmr j < 2 ^ 31 := fun j hj => by unfold nmr; split <;> omega
  -- the first block
  let R1 : Rg := (R.1, upd R.2.1 0 (nI (rm.getD b0 0)), nI (1024 * rm.getD b0 0), nI 0, R.2.2.2.2)
  have hI0 : fdI D fks its i rm b0 0 F R1 := ⟨b0, 0, 0, Zd, [], rfl, fun w ww => (by cases ww), fun w ww => (by cases ww), rfl, rfl, ⟨rfl, rfl, fun y => absurd y (Nat.lt_irrefl _), Nat.le_refl _, fun s hs => by
    obtain rfl : s = 0 := by omega
    exact (pk_us : upd R.2.1 0 (nI (rm.getD b0 0)) 0 = nI (rm.getD b0 0))⟩, hz b0 (by omega) (by omega), by decide, fun s s1 s2 => hz s (by omega) (by omega)⟩
  have hU0 : uM (upd U (rm.getD b0 0) (vp_nar .boolean 1)) (fun c => p c ∨ c ∈ rmF rm b0 (pkS (eSz fks its i) 0).1) := fun c hc0 => by
    rw [uM_upd hU c hc0]
    exact b01_iff ⟨fun y => y.imp id (fun z => by rw [z]; exact List.mem_cons_self), fun y => y.imp id (fun z => List.mem_singleton.mp z)⟩
  -- the points
  have z0 : eSz fks its i 0 = 1 ∧ eNu fks its i 0 = nmr i ∧ eKd D fks its i 0 = 2 := ⟨rfl, rfl, rfl⟩
  have z1 : eSz fks its i 1 = 2 ∧ eNu fks its i 1 = nmr (ipa (itr its i)) ∧ eKd D fks its i 1 = 2 := ⟨rfl, rfl, rfl⟩
  have hpi := hpar i hi hdr
  obtain ⟨F1, U1, Ra, c1, c2, c3, c4, c5, c6⟩ := ql_step (K := K) (N := N) (D := D) (p := p) (tx := -2) (e := 0) (by omega) hbd hes (by omega) (by omega) (tx_pt (fun q _ => rfl)) (by rw [z0.2.1]; exact hnm i hi) hI0 hU0
  obtain ⟨F2, U2, Rb, d1, d2, d3, d4, d5, d6⟩ := ql_step (K := K) (N := N) (D := D) (p := p) (tx := -2) (e := 1) (by omega) hbd hes (by omega) (by omega) (tx_pt (fun q _ => rfl)) (by rw [z1.2.1]; exact hnm _ hpi) c2 c4
  have c1 : f_Mo_entered K (qS T F (upd U (rm.getD b0 0) (vp_nar .boolean 1)) (b0 + 1) R1) 1 (nI (nmr i)) (-2) 2 1 = _ := c1
  have d1 : f_Mo_entered K (qS T F1 U1 (b0 + (pkS (eSz fks its i) (0 + 1)).1) Ra) (nI (pkS (eSz fks its i) (0 + 1)).1) (nI (nmr (ipa (itr its i)))) (-2) 2 2 = _ := d1
  have hkc : kcI fks its.length i ≤ 4200 := by unfold kcI; omega
  obtain ⟨F3, U3, Rc, e1, e2, e3, e4, e5, e6⟩ := ql_kids (K := K) (p := p) (by omega) hM hbd hi (by omega) (kcI fks its.length i) 0 K F2 U2 Rb (by omega) (by omega) d2 d4
  have e1 : f_Mo_makeFolder_63 K K (nI i) (nI (pkS (eSz fks its i) (1 + 1)).1) 2 (nI (fkI fks i)) (qS T F2 U2 (b0 + (pkS (eSz fks its i) (1 + 1)).1) Rb) = _ := e1
  -- the last block
  obtain ⟨t, a, la, Z, Ld, i1, i2, i3, i4, i5, i6, i7, i8, i9⟩ := e2
  have hfb : (pkS (eSz fks its i) (eNo fks its i)).1 = flB fks its i := rfl
  have htt : t + 1 = b0 + flB fks its i := by omega
  have hap : 0 < a := by
    rw [i4, show eNo fks its i = (eNo fks its i - 1) + 1 by omega]
    exact pk_pos _
  have hbt := hbd.2.2.1 _ (getD_mem (l := rm) (j := t) (by omega))
  rw [Nat.sub_self, dwG] at i1
  have hfar : ∀ s u, s < rm.length → u < rm.length → s ≠ u → ∀ q, 1024 * rm.getD s 0 ≤ q → q < 1024 * rm.getD s 0 + 1024 → farR rm u q := fun s u hs hu h q q1 q2 => by
    have : rm.getD s 0 ≠ rm.getD u 0 := fun e => h (nd_getD hbd.2.2.2 hs hu e)
    unfold farR
    omega
  let F4 := st F3 (1024 * rm.getD t 0 + (la + 4)) (1024 - la) 2
  have h4 : ∀ q, farR rm t q → o1 F4 q = o1 F3 q := fun q hq => st_out (by unfold farR at hq; omega)
  have hF34 : ∀ q, (∀ s, b0 ≤ s → s < b0 + flB fks its i → farR rm s q) → o1 F4 q = o1 F q := fun q hq => by
    rw [h4 q (hq t i6.2.2.2.1 (by omega)), e3 q hq, d3 q hq, c3 q hq]
  have hdw : agW F4 (dwG D fks its i rm (eNo fks its i) 0 Zd 0 0 b0) := by
    rw [i1]
    refine agW_app (agW_keep i2 fun w ww j hj => ?_) (agW_blk (bk_st i7))
    obtain ⟨s, s1, s2, s3⟩ := i3 w ww
    exact h4 _ (hfar s t (by omega) (by omega) (by omega) _ (by omega) (by omega))
  have hll : (rmF rm b0 (flB fks its i)).length = flB fks its i := rmF_len rm _ _
  have hslot : ∀ q, inPos A P (8 * r) (nmr i) ≤ q → q < inPos A P (8 * r) (nmr i) + 128 → o1 F4 q = o1 F q := fun q q1 q2 => hF34 q (fun s s1 s2 => by have := hd s (by omega); unfold farR; omega)
  have hnr : 1 ≤ nmr i ∧ nmr i ≤ g0 * (8 * r) := by unfold nmr; split <;> omega
  have hmo := moN_lt D its i
  have hlk : lkN D fks its i = 2 + cntP (fun q => isDr D its (fkI fks i + q)) (kcI fks its.length i) := cif_t hdr
  have hlc := cntP_le (fun q => isDr D its (fkI fks i + q)) (kcI fks its.length i)
  obtain ⟨F5, U5, g1, g2, g3, g4, g5⟩ := ql_inode_list (K := K) (i := nmr i) (mode := moN D its i) (links := lkN D fks its i) (size := flB fks its i * 1024) (t0 := if i = 0 then 0 else tmN D (isp (itr its i)) 2) (t1 := if i = 0 then 0 else tmN D (isp (itr its i)) 3) (t2 := if i = 0 then 0 else tmN D (isp (itr its i)) 4) (T := T) (F := F4) (U := U3) (n := b0 + flB fks its i) (R := Rc) (rm := rm) (l := rmF rm b0 (flB fks its i)) (by omega) hbd hpl hT hI hr hnr (by omega) (fun x hx => by
    obtain ⟨s, s1, s2, s3⟩ := (rmF_mem _ _).mp hx
    have := hbd.2.2.1 _ (getD_mem (l := rm) (j := s) (by omega))
    omega) (fun s hs => by
    rw [hll] at hs
    rw [rmF_getD rm _ _ _ hs]
    exact i6.2.2.2.2 s (by omega)) ha0 (by omega) (by omega) (by omega) (by
    have t2 := tmN_lt D (isp (itr its i)) 2
    have t3 := tmN_lt D (isp (itr its i)) 3
    have t4 := tmN_lt D (isp (itr its i)) 4
    refine ⟨?_, ?_, ?_⟩ <;> split <;> omega) (by rw [hll]; omega) (fun t t1 t2 j hj => by
    rw [hll] at t2
    rw [hF34 _ (fun s s1 s2 => hfar t s (by omega) (by omega) (by omega) _ (by omega) (by omega))]
    exact hz t (by omega) (by omega) j hj) hd
  rw [hll] at g1 g3 g4 g5
  refine ⟨F5, U5, Rc, ?_, ?_, g3, fun q q1 q2 => ?_, fun q q1 q2 => ?_, ?_, by rw [e5, d5, c5]⟩
  · unfold f_Mo_makeFolder
    rw [ql_begins hbd hb0, q_b, q_g (show lf_in (0 : Int32) 512 by decide), show (0 : Int32).toNatClampNeg = 0 by decide]
    have e7 : (qS T F (upd U (rm.getD b0 0) (vp_nar .boolean 1)) (b0 + 1) (R.1, R.2.1, nI (1024 * rm.getD b0 0), nI 0, R.2.2.2.2)).v_spot / 1024 = nI (rm.getD b0 0) := by
      show nI (1024 * rm.getD b0 0) / 1024 = _
      rw [show (1024 : Int32) = nI 1024 from rfl, pk_div (by omega) (by decide) (by decide), Nat.mul_div_cancel_left _ (by decide)]
    rw [e7, q_l]
    show lf_c (f_Mo_numberOf K (qS T F (upd U (rm.getD b0 0) (vp_nar .boolean 1)) (b0 + 1) R1) (nI i)) _ = _
    have hpv : T.v_parent i = nI (ipa (itr its i)) := by
      by_cases w : i = 0
      · rw [w, hp0, hq0]; rfl
      · exact (hM.2.2.1.2.2.1 i (by omega) hi).2.2.2.1
    have hpv2 : (qS T F1 U1 (b0 + (pkS (eSz fks its i) (0 + 1)).1) Ra).v_parent (nI i).toNatClampNeg = nI (ipa (itr its i)) := by rw [nI_clamp (by omega)]; exact hpv
    have hfk2 : (qS T F2 U2 (b0 + (pkS (eSz fks its i) (1 + 1)).1) Rb).v_firstKid (nI i).toNatClampNeg = nI (fkI fks i) := by rw [nI_clamp (by omega)]; exact hkR.1
    rw [ql_num (by omega), q_c, c1, q_c, q_g (q_in (by omega) (by decide)), hpv2, ql_num (by omega), q_c, d1, q_c, q_g (q_in (by omega) (by decide)), hfk2, q_l, e1]
    unfold f_Mo_makeFolder_154 f_Mo_makeFolder_205 f_Mo_makeFolder_219 f_Mo_makeFolder_233
    have e8 : ((qS T F3 U3 (b0 + flB fks its i) Rc).v_spot + (qS T F3 U3 (b0 + flB fks its i) Rc).v_latest) + 4 = nI (1024 * rm.getD t 0 + (la + 4)) := by
      rw [show (qS T F3 U3 (b0 + flB fks its i) Rc).v_spot = nI (1024 * rm.getD t 0) from i6.1, show (qS T F3 U3 (b0 + flB fks its i) Rc).v_latest = nI la from i6.2.2.1 hap, nI_add, show (4 : Int32) = nI 4 from rfl, nI_add, Nat.add_assoc]
    have e9 : (1024 : Int32) - (qS T F3 U3 (b0 + flB fks its i) Rc).v_latest = nI (1024 - la) := by rw [show (qS T F3 U3 (b0 + flB fks its i) Rc).v_latest = nI la from i6.2.2.1 hap]; exact pk_sub (a := 1024) (by omega)
    have e10 : (1024 : Int64) * (nI (flB fks its i)).toInt64 = lN (flB fks its i * 1024) := by rw [nI_l (by omega), show (1024 : Int64) = lN 1024 from rfl, lN_mul, Nat.mul_comm]
    rw [e8, e9, ql_2 (by omega) (by omega) (by omega), q_b]
    show lf_c (f_Mo_numberOf K (qS T F4 U3 (b0 + flB fks its i) Rc) (nI i)) _ = _
    rw [ql_num (by omega), q_c, ql_mode (T := qS T F4 U3 (b0 + flB fks its i) Rc) hM hi, q_c, e10, ← hlk]
    by_cases w : i = 0
    · rw [if_pos (show nI i = 0 by rw [w]; rfl)]
      rw [if_pos w, if_pos w, if_pos w] at g1
      rw [if_pos (show nI i = 0 by rw [w]; rfl), if_pos (show nI i = 0 by rw [w]; rfl)]
      show Option.bind (f_Mo_inode_list K (qS T F4 U3 (b0 + flB fks its i) Rc) (nI (nmr i)) (nI (moN D its i)) (nI (lkN D fks its i)) (lN 0) (lN 0) (lN 0) (lN (flB fks its i * 1024)) (nI (flB fks its i))) _ = _
      rw [g1, q_b]
    · have hp := (ho.2.2.2.2 i (by omega) hi).1
      have hat : T.v_at i = nI (isp (itr its i)) := (hM.2.2.1.2.2.1 i (by omega) hi).1
      have tm := fun (w : Nat) (w1 : 2 ≤ w) (w2 : w ≤ 4) => qM_timeOf (K := K) (T := qS T F4 U3 (b0 + flB fks its i) Rc) (D := D) (w := w) (by omega) hN hM.2.1.1 (show i < 4200 by omega) hat hp (hdy i (by omega) hi) w1 w2
      have t2 : f_Mo_timeOf K (qS T F4 U3 (b0 + flB fks its i) Rc) (nI i) 0 = _ := tm 2 (by decide) (by decide)
      have t3 : f_Mo_timeOf K (qS T F4 U3 (b0 + flB fks its i) Rc) (nI i) 1 = _ := tm 3 (by decide) (by decide)
      have t4 : f_Mo_timeOf K (qS T F4 U3 (b0 + flB fks its i) Rc) (nI i) 2 = _ := tm 4 (by decide) (by decide)
      rw [if_neg w, if_neg w, if_neg w] at g1
      have nw : ¬ nI i = 0 := nI_ne0 (by omega) (by omega)
      rw [if_neg nw, t2, q_c, if_neg nw, t3, q_c, if_neg nw, t4, q_c, g1, q_b]
  · refine agW_keep hdw fun w ww j hj => ?_
    obtain ⟨s, s1, s2, s3⟩ : ∃ s, b0 ≤ s ∧ s < b0 + flB fks its i ∧ w.1 / 2 = rm.getD s 0 := by
      rw [i1] at ww
      rcases List.mem_append.mp ww with y | y
      · obtain ⟨s, s1, s2, s3⟩ := i3 w y
        exact ⟨s, s1, by omega, s3⟩
      · refine ⟨t, i6.2.2.2.1, by omega, ?_⟩
        unfold blW at y
        rcases List.mem_cons.mp y with z | z
        · rw [z]; show 2 * rm.getD t 0 / 2 = _; omega
        · rw [List.mem_singleton.mp z]; show (2 * rm.getD t 0 + 1) / 2 = _; omega
    have := hd s (by omega)
    exact g4 _ (by omega) (fun u u1 u2 => hfar s u (by omega) (by omega) (by omega) _ (by omega) (by omega))
  · rw [g2 q q1 q2]
    have etm : (fun w => if w = 2 then (if i = 0 then 0 else tmN D (isp (itr its i)) 2) else if w = 3 then (if i = 0 then 0 else tmN D (isp (itr its i)) 3) else (if i = 0 then 0 else tmN D (isp (itr its i)) 4)) 2 = (if i = 0 then 0 else tmN D (isp (itr its i)) 2) := rfl
    unfold inX
    refine riX_ag (piX_ag (st_ag (st_ag ?_)) _) _
    show o1 (st (st (st (st (st F4 (inPos A P (8 * r) (nmr i)) (moN D its i) 2) (inPos A P (8 * r) (nmr i) + 4) (flB fks its i * 1024) 4) (inPos A P (8 * r) (nmr i) + 8) (if i = 0 then 0 else tmN D (isp (itr its i)) 2) 4) (inPos A P (8 * r) (nmr i) + 12) (if i = 0 then 0 else tmN D (isp (itr its i)) 3) 4) (inPos A P (8 * r) (nmr i) + 16) (if i = 0 then 0 else tmN D (isp (itr its i)) 4) 4) q = o1 (st (st (st (st (st F (inPos A P (8 * r) (nmr i)) (moN D its i) 2) (inPos A P (8 * r) (nmr i) + 4) (flB fks its i * 1024) 4) (inPos A P (8 * r) (nmr i) + 8) (if i = 0 then 0 else tmN D (isp (itr its i)) 2) 4) (inPos A P (8 * r) (nmr i) + 12) (if i = 0 then 0 else tmN D (isp (itr its i)) 3) 4) (inPos A P (8 * r) (nmr i) + 16) (if i = 0 then 0 else tmN D (isp (itr its i)) 4) 4) q
    exact st_ag (st_ag (st_ag (st_ag (st_ag (hslot q q1 q2)))))
  · rw [g4 q q1 (fun s s1 s2 => q2 s (by omega) (by omega))]
    exact hF34 q (fun s s1 s2 => q2 s s1 (by omega))
  · intro c hc0
    rw [g5 _ e4 c hc0]
    refine b01_iff ⟨fun y => ?_, fun y => ?_⟩
    · rcases y with (y | y) | y
      · exact Or.inl y
      · obtain ⟨s, s1, s2, s3⟩ := (rmF_mem _ _).mp y
        exact Or.inr ((rmF_mem _ _).mpr ⟨s, s1, by omega, s3⟩)
      · obtain ⟨s, s1, s2, s3⟩ := (rmF_mem _ _).mp y
        exact Or.inr ((rmF_mem _ _).mpr ⟨s, by omega, by omega, s3⟩)
    · rcases y with y | y
      · exact Or.inl (Or.inl y)
      · obtain ⟨s, s1, s2, s3⟩ := (rmF_mem _ _).mp y
        by_cases w : s < b0 + flB fks its i
        · exact Or.inl (Or.inr ((rmF_mem _ _).mpr ⟨s, s1, w, s3⟩))
        · exact Or.inr ((rmF_mem _ _).mpr ⟨s, by omega, by omega, s3⟩)
