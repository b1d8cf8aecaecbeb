/-! HERE, and the calls that throw where there is no sound volume. -/
theorem gLim_made {t : Nat} {G : CG} (h : gLim t G) : gLim (t + 1) (G.made 1 6) := ⟨by show G.gc + 1 ≤ G.l_parent - 64 + (G.l_pool - 1024) + (t + 1); have := h.1; omega, by show G.gs + 6 ≤ 28 * (G.l_parent - 64) + 2 * G.l_pool + 6 * (t + 1); have := h.2; omega⟩
theorem lkC_made {N : Nat} {D E : Nat → Int32} {G : CG} {S : CS} (h : lkC N D E G S) : lkC N D E (G.made 1 6) S := by
  obtain ⟨h1, h2⟩ := h
  refine ⟨fun fks z e => ?_, fun e he => h2 e he⟩
  obtain ⟨a, b, ⟨t, c⟩, d⟩ := h1 fks z e
  obtain ⟨c1, c2, c3, c4, c5, c6⟩ := c
  exact ⟨a, b, ⟨t + 1, c1, c2, c3, c4, ⟨c5.1, gLim_made c5.2.1, c5.2.2⟩, c6⟩, d⟩
theorem ivA_made {N t m : Nat} {D E : Nat → Int32} {G : CG} {S : CS} {T : MS} (h : ivA N t m D E G S T) : ivA N (t + 1) m D E (G.made 1 6) S T := ⟨h.1, ⟨h.2.1.1, gLim_made h.2.1.2⟩, h.2.2.1, h.2.2.2.imp id (fun w => ⟨w.1, lkC_made w.2⟩)⟩
theorem ivA_t {N t m : Nat} {D E : Nat → Int32} {G : CG} {S : CS} {T : MS} (h : ivA N t m D E G S T) : ivA N (t + 1) m D E G S T := ⟨h.1, ⟨h.2.1.1, gLim_le h.2.1.2 (by omega)⟩, h.2.2⟩
/-- both hold the sound tree fks, z; h is HERE -/
abbrev tv (N m : Nat) (D E : Nat → Int32) (fks : List Nat) (z : SS) (h : Nat) (G : CG) (S : CS) (T : MS) : Prop := (trR N D fks z T ∧ T.v_fault = nI 0 ∧ T.v_looked = 1) ∧ (S.v_Vt_lastFault = nI 0 ∧ cIs N E G S ∧ (∃ t, cSc N t D E (mp0 D) fks z G S) ∧ S.v_Vt_stale = 0) ∧ (h < (sIt z).length ∧ isDr D (sIt z) h ∧ S.v_Vt_here = nI h ∧ T.v_here = nI (if h = 0 then 0 else begI D (sIt z) h)) ∧ (hdOk N D ∧ tabOk N D ∧ zOk N z ∧ SI N D (sIt z).length (sIt z) (sTk z) ∧ kdS fks (sIt z) ∧ (∀ x, isCl N D x → (ent D x ≠ 0 ↔ x ∈ sTk z)))
theorem ivA_tv {N t m : Nat} {D E : Nat → Int32} {G : CG} {S : CS} {T : MS} {fks : List Nat} {z : SS} (h : ivA N t m D E G S T) (hR : lkR N D T) (hs : S.v_Vt_stale = 0) (hC : lkC N D E G S) (e : trE N D = .ok (fks, z)) : ∃ hh, tv N m D E fks z hh G S T := by
  obtain ⟨h0, -, -, -, -, -, ⟨-, -, hcp, hm⟩, hhe, -⟩ := h.1
  obtain ⟨a1, a2, a3, a4, a5, a6, a7⟩ := trE_SI h0.1 h0.2.1 hcp hm e
  obtain ⟨b1, b2⟩ := hR.2.1 fks z e
  obtain ⟨c1, c2, c3, c4⟩ := hC.1 fks z e
  obtain ⟨hh, d⟩ := hhe fks z e
  exact ⟨hh, ⟨b2, b1, hR.1⟩, ⟨c1, c2, c3, hs⟩, d, a1, a2, a3, a5, a6, a7⟩
theorem ch_head {N j : Nat} {D : Nat → Int32} {its : List It} (h : fo N D (begI D its j) [] = some (chI N D its j)) : begI D its j ∈ chI N D its j ∧ isCl N D (begI D its j) := by
  obtain ⟨-, a2, a3, -, a5, -⟩ := fol_spec _ _ _ _ h
  have := getD_mem (l := chI N D its j) (j := 0) (by omega)
  rw [a3] at this
  exact ⟨this, (a5 _ this).1⟩
/-- two directories have not one first cluster -/
theorem SI_begs {N j j' : Nat} {D : Nat → Int32} {its : List It} {tk : List Nat} (h : SI N D its.length its tk) (hj : j < its.length) (hj' : j' < its.length) (d : isDr D its j) (d' : isDr D its j') (e : begI D its j = begI D its j') : j = j' := by
  obtain ⟨-, -, a2, a3, -, -⟩ := h
  refine Classical.byContradiction (fun w => ?_)
  have h1 := (ch_head ((a2 j hj (Or.inr hj)).1 d)).1
  have h2 := (ch_head ((a2 j' hj' (Or.inr hj')).1 d')).1
  refine a3 j j' hj hj' (Or.inr hj) (Or.inr hj') w _ h1 ?_
  rw [e]; exact h2
theorem qM_here {K N m h : Nat} {D E : Nat → Int32} {fks : List Nat} {z : SS} {G : CG} {S : CS} {T : MS} (hK : 20000 ≤ K) (hN : N ≤ 1024) (v : tv N m D E fks z h G S T) : f_Mo_folderHere K T = some (nI h, T) := by
  obtain ⟨⟨⟨t1, t2, t3, t4, t5, t6, t7⟩, -, -⟩, -, ⟨h1, h2, h3, h4⟩, ho, -, hz, hSI, -, -⟩ := v
  have hlen := hz.1.2.1
  have hf := hd_facts ho hN
  unfold f_Mo_folderHere
  rw [h4]
  by_cases e : h = 0
  · rw [if_pos e, if_pos (show nI 0 = 0 from rfl), e]; rfl
  have hb := (ch_head ((hSI.2.2.1 h h1 (Or.inr h1)).1 h2)).2
  rw [if_neg e, if_neg (nI_ne0 (by omega) (by omega))]
  have loop : ∀ (d i k : Nat), i + d = h → 1 ≤ i → d < k → f_Mo_folderHere_11 K k (nI i) T = some (nI h, T) := by
    intro d
    induction d with
    | zero =>
      intro i k g1 g2 g3
      obtain ⟨k, rfl⟩ : ∃ q, k = q + 1 := ⟨k - 1, by omega⟩
      obtain rfl : i = h := by omega
      have hat := (t2.2.2.1 i g2 h1).1
      have hsp := (hz.1.2.2.2.2 i g2 h1).1
      have ebg : begI D (sIt z) i = fc D (isp (itr (sIt z) i)) := if_neg e
      rw [f_Mo_folderHere_11, t2.1, if_neg (nI_ge h1 (by omega)), qM_isFolder t1.1 hN t2 hz.1 h1, q_c, b01_t h2, if_neg (by decide), q_g (q_in (by omega) (by decide)), nI_clamp (by omega), hat, qM_firstOf t1.1 (by omega), q_c, h4, if_neg e, ebg, if_pos rfl]
    | succ d ih =>
      intro i k g1 g2 g3
      obtain ⟨k, rfl⟩ : ∃ q, k = q + 1 := ⟨k - 1, by omega⟩
      have hil : i < (sIt z).length := by omega
      have hat := (t2.2.2.1 i g2 hil).1
      have hsp := (hz.1.2.2.2.2 i g2 hil).1
      have nx := ih (i + 1) k (by omega) (by omega) (by omega)
      rw [f_Mo_folderHere_11, t2.1, if_neg (nI_ge hil (by omega)), qM_isFolder t1.1 hN t2 hz.1 hil, q_c]
      unfold f_Mo_folderHere_46
      by_cases w : isDr D (sIt z) i
      · have ebg : begI D (sIt z) i = fc D (isp (itr (sIt z) i)) := if_neg (by omega)
        have hlt := fc_lt D (isp (itr (sIt z) i))
        rw [b01_t w, if_neg (by decide), q_g (q_in (by omega) (by decide)), nI_clamp (by omega), hat, qM_firstOf t1.1 (by omega), q_c, h4, if_neg e, if_neg (fun y => by
          have := (q_eqW hlt (begI_lt D _ _)).mp y
          have := SI_begs hSI hil h1 w h2 (ebg.trans this)
          omega), q_l, nI_1, nx]
      · rw [b01_f w, if_pos (by decide), q_l, nI_1, nx]
  rw [show (1 : Int32) = nI 1 from rfl, loop (h - 1) 1 K (by omega) (by omega) (by omega)]
/-- how many items HERE has, and where they begin -/
abbrev hn (fks : List Nat) (z : SS) (h : Nat) : Nat := kcI fks (sIt z).length h
theorem hn_lt {fks : List Nat} {z : SS} {h k : Nat} (hk : kdS fks (sIt z)) (hl : h < fks.length) (h1 : k < hn fks z h) : fkI fks h + k < (sIt z).length ∧ 1 ≤ fkI fks h + k ∧ ipa (itr (sIt z) (fkI fks h + k)) = h := by
  obtain ⟨k1, k2, k3, k4, k5⟩ := hk h hl
  unfold hn kcI at h1
  have e : fkI fks h = fks.getD h 0 := rfl
  have a : fkI fks h + k < (sIt z).length := by omega
  refine ⟨a, by omega, ?_⟩
  exact (k5 _ (by omega) a).mpr ⟨by omega, by omega⟩
theorem hn_le {fks : List Nat} {z : SS} {h : Nat} (hk : kdS fks (sIt z)) (hl : h < fks.length) : fkI fks h + hn fks z h ≤ (sIt z).length := by
  obtain ⟨k1, k2, k3, k4, k5⟩ := hk h hl
  unfold hn kcI
  have e : fkI fks h = fks.getD h 0 := rfl
  omega
theorem qM_many {K N m h : Nat} {D E : Nat → Int32} {fks : List Nat} {z : SS} {G : CG} {S : CS} {T : MS} (hK : 20000 ≤ K) (hN : N ≤ 1024) (htu : T.v_turned = 0) (v : tv N m D E fks z h G S T) : f_Mo_many K T = some (nI (hn fks z h), T) := by
  have v' := v
  obtain ⟨⟨⟨t1, t2, t3, t4, t5, t6, t7⟩, -, -⟩, -, ⟨h1, h2, h3, h4⟩, ho, -, hz, hSI, -, -⟩ := v
  have hlen := hz.1.2.1
  unfold f_Mo_many f_Mo_many_27 f_Mo_many_28
  rw [qM_here hK hN v', q_c, q_g (q_in (by omega) (by decide)), if_pos htu, nI_clamp (by omega), (t5 h (by omega)).2, show (0 : Int32) = nI 0 from rfl, nI_add]
  rfl
theorem qM_item {K N m h k : Nat} {D E : Nat → Int32} {fks : List Nat} {z : SS} {G : CG} {S : CS} {T : MS} (hK : 20000 ≤ K) (hN : N ≤ 1024) (v : tv N m D E fks z h G S T) (hk : k < hn fks z h) : f_Mo_item K T (nI k) = some (nI (fkI fks h + k), T) := by
  have v' := v
  obtain ⟨⟨⟨t1, t2, t3, t4, t5, t6, t7⟩, -, -⟩, -, ⟨h1, h2, h3, h4⟩, ho, -, hz, hSI, hkd, -⟩ := v
  have hlen := hz.1.2.1
  have hle := hn_le hkd (show h < fks.length by omega)
  unfold f_Mo_item
  have hin : lf_in (nI h) 4200 := q_in (by omega) (by decide)
  have hcl : (nI h).toNatClampNeg = h := nI_clamp (by omega)
  have e2 : T.v_kids h = nI (hn fks z h) := (t5 h (by omega)).2
  rw [qM_here hK hN v', q_c, q_g hin, hcl, e2, if_neg (nI_ge hk (by omega)), qM_here hK hN v', q_c, q_g hin, hcl, (t5 h (by omega)).1, nI_add]
theorem qC_count {K N m h : Nat} {D E : Nat → Int32} {fks : List Nat} {z : SS} {G : CG} {S : CS} {T : MS} (v : tv N m D E fks z h G S T) {j : Nat} (hj : j < (sIt z).length) : f_Tr_countIn K G S (nI j) = some (nI (kcI fks (sIt z).length j), S) := by
  obtain ⟨⟨⟨t1, t2, t3, t4, t5, t6, t7⟩, -, -⟩, ⟨-, c2, ⟨t, c3⟩, -⟩, -, ho, -, hz, hSI, hkd, -⟩ := v
  have hlen := hz.1.2.1
  obtain ⟨g0, ⟨-, -, -, -, -, -, -, g1, -⟩, g2, g3, -⟩ := c3.2.2.2.2.1.1
  have hl := c3.2.2.2.2.1.2.2.1
  have e := (c3.2.2.2.1 j hj).2
  unfold kcD at e
  rw [if_pos (by omega)] at e
  unfold f_Tr_countIn
  rw [qC_has c3.1.1 (by omega) (by omega), q_c, b01_t hj, if_neg (by decide), q_g (q_in (by omega) (by omega)), nI_clamp (by omega), e]
theorem qC_kid {K N m h : Nat} {D E : Nat → Int32} {fks : List Nat} {z : SS} {G : CG} {S : CS} {T : MS} (v : tv N m D E fks z h G S T) (k : Nat) {j : Nat} (hj : j < (sIt z).length) (hd : isDr D (sIt z) j) : f_Tr_kid K G S (nI j) (nI k) = some (nI (fkI fks j + k), S) := by
  obtain ⟨⟨⟨t1, t2, t3, t4, t5, t6, t7⟩, -, -⟩, ⟨-, c2, ⟨t, c3⟩, -⟩, -, ho, -, hz, hSI, hkd, -⟩ := v
  have hlen := hz.1.2.1
  obtain ⟨g0, ⟨-, -, -, -, -, -, g1, -⟩, g2, g3, -⟩ := c3.2.2.2.2.1.1
  have hl := c3.2.2.2.2.1.2.2.1
  have e := (c3.2.2.2.1 j hj).1
  unfold ksD at e
  rw [cif_t ⟨by omega, hd⟩] at e
  unfold f_Tr_kid
  rw [qC_has c3.1.1 (by omega) (by omega), q_c, b01_t hj, if_neg (by decide), q_g (q_in (by omega) (by omega)), nI_clamp (by omega), e, nI_add]
