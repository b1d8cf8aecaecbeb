/-! Calls that read, while there is no inode volume: kind, fault, byteAt. -/
theorem gLim_le {t t' : Nat} {G : CG} (h : gLim t G) (ht : t ≤ t') : gLim t' G := ⟨by have := h.1; omega, by have := h.2; omega⟩
theorem ivA_thr {N t m : Nat} {D E : Nat → Int32} {G : CG} {S : CS} {T : MS} (h : ivA N t m D E G S T) (x : Int32) : ivA N t m D E G S (T.u_v_thrown x) := h
theorem ivA_after {N t m : Nat} {D E : Nat → Int32} {G G' : CG} {S S' : CS} {T T' : MS} (h : ivA N t m D E G S T) (hT : coL T' = coL T) (hR : lkR N D T') (hS : coV S' = coV S) (hG : gOk N G') (hL : gLim t G') (hs : S'.v_Vt_stale = 0) (hC : lkC N D E G' S') : ivA N t m D E G' S' T' := ⟨baA_co h.1 hS hT, ⟨hG, hL⟩, Or.inr hR, Or.inr ⟨hs, hC⟩⟩
theorem opA_kind {K N t m : Nat} {D E : Nat → Int32} {G : CG} {S : CS} {T : MS} (hK : 20000 ≤ K) (h : ivA N t m D E G S T) : ∃ r G' S' T', f_Vt_kind K G S = some (r, G', S') ∧ f_Mo_kind K T = some (r, T') ∧ ivA N t m D E G' S' T' := by
  obtain ⟨G1, S1, c1, c2, c3, c4, c5, c6⟩ := ivA_lookC hK h
  have h1 := ivA_thr h 0
  obtain ⟨T1, m1, m2, m3⟩ := ivA_lookM hK h1
  obtain ⟨f1, f2, -⟩ := lkR_f m3
  refine ⟨nI (if flt N D = 1 then 0 else 1), G1, S1, T1, ?_, ?_, ivA_after h1 m2 m3 c2 c3 c4 c5 c6⟩
  · unfold f_Vt_kind f_Vt_kind_4
    rw [c1]
    rfl
  · unfold f_Mo_kind
    rw [q_l, m1, q_b, if_pos (show T1.v_turned = 0 from (coL_v_turned m2).trans h1.1.2.2.2.2.2.1.1), f1]
    by_cases w : flt N D = 1
    · rw [if_pos w, w, if_pos (show nI 1 = 1 from rfl)]; rfl
    · rw [if_neg w, if_neg (fun y : nI (flt N D) = 1 => w ((nI_eq (b := 1) (by omega) (by decide)).mp y))]; rfl
theorem opA_fault {K N t m : Nat} {D E : Nat → Int32} {G : CG} {S : CS} {T : MS} (hK : 20000 ≤ K) (h : ivA N t m D E G S T) : ∃ r G' S' T', f_Vt_fault K G S = some (r, G', S') ∧ f_Mo_fault K T = some (r, T') ∧ ivA N t m D E G' S' T' := by
  obtain ⟨G1, S1, c1, c2, c3, c4, c5, c6⟩ := ivA_lookC hK h
  have h1 := ivA_thr h 0
  obtain ⟨T1, m1, m2, m3⟩ := ivA_lookM hK h1
  obtain ⟨f1, f2, -⟩ := lkR_f m3
  refine ⟨nI (flt N D), G1, S1, T1, ?_, ?_, ivA_after h1 m2 m3 c2 c3 c4 c5 c6⟩
  · unfold f_Vt_fault f_Vt_fault_4
    rw [c1]
    show (if nI (if flt N D = 1 then 0 else 1) = 2 then _ else some (S1.v_Vt_lastFault, G1, S1)) = _
    rw [if_neg (by split <;> decide), (lkC_f c6).1]
  · unfold f_Mo_fault
    rw [q_l, m1, q_b, if_pos (show T1.v_turned = 0 from (coL_v_turned m2).trans h1.1.2.2.2.2.2.1.1), f1]
theorem qC_nextOfX {K N x : Nat} {G : CG} {D E : Nat → Int32} {S : CS} (hS : cIs N E G S) (hH : agH D E) (h : hdOk N D) (hN : N ≤ 1024) (hx : x < 2 ^ 28) : f_Tb_nextOf K G S (nI x) = some (nI (if isCl N D x then ent D x else 0), S) := by
  have hEk : hdOk N E := (agH_ok hH).mpr h
  rw [qV_nextOf hS hEk hN hx]
  unfold isCl
  rw [(agH_n hH).2.2.2.2.2.2]
  by_cases w : 2 ≤ x ∧ x ≤ hk N D + 1
  · rw [if_pos w, if_pos w, agH_ent hH h hN (by omega)]
  · rw [if_neg w, if_neg w]
theorem qC_hasD {K N : Nat} {G : CG} {S : CS} (hs : S.v_Dk_sectors = nI N) (hN : N ≤ 1024) (a b : Int32) : (∃ s q, s < N ∧ q < 512 ∧ a = nI s ∧ b = nI q ∧ f_Dk_has K G S a b = some (1, S)) ∨ (f_Dk_has K G S a b = some (0, S) ∧ (a < 0 ∨ nI N ≤ a ∨ b < 0 ∨ 512 ≤ b)) := by
  unfold f_Dk_has f_Dk_has_27
  rw [hs]
  by_cases w1 : a < 0
  · right; rw [if_pos w1]; exact ⟨rfl, Or.inl w1⟩
  rw [if_neg w1]
  by_cases w2 : nI N ≤ a
  · right; rw [if_pos w2]; exact ⟨rfl, Or.inr (Or.inl w2)⟩
  rw [if_neg w2]
  by_cases w3 : b < 0
  · right; rw [if_pos w3]; exact ⟨rfl, Or.inr (Or.inr (Or.inl w3))⟩
  rw [if_neg w3]
  by_cases w4 : 512 ≤ b
  · right; rw [if_pos w4]; exact ⟨rfl, Or.inr (Or.inr (Or.inr w4))⟩
  rw [if_neg w4]
  left
  obtain ⟨s, s1, rfl⟩ := nI_of w1
  obtain ⟨q, q1, rfl⟩ := nI_of w3
  refine ⟨s, q, ?_, ?_, rfl, rfl, rfl⟩
  · exact Nat.lt_of_not_le (fun y => w2 (nI_le y (by omega)))
  · exact Nat.lt_of_not_le (fun y => w4 (nI_le (a := 512) y (by omega)))
theorem opA_byteAt {K N t m : Nat} {D E : Nat → Int32} {G : CG} {S : CS} {T : MS} (hK : 20000 ≤ K) (h : ivA N t m D E G S T) (a b : Int32) : ∃ r G' S' T', f_Vt_byteAt K G S a b = some (r, G', S') ∧ f_Mo_byteAt K T a b = some (r, T') ∧ ivA N t m D E G' S' T' := by
  have h1 := ivA_thr h 0
  have hbase := h.1
  obtain ⟨h0, ⟨hn, hs, -⟩, ⟨hD, hE⟩, -, -, ⟨htu, -, -⟩, ⟨hag, -, -, -⟩, -, -⟩ := hbase
  unfold f_Vt_byteAt f_Mo_byteAt f_Mo_byteAt_28
  rw [q_l]
  have hn1 : (T.u_v_thrown 0).v_n = nI N := hn
  rcases qC_hasD (K := K) (G := G) hs h0.2.1 a b with ⟨s, q, hs1, hq1, rfl, rfl, e⟩ | ⟨e, w⟩
  · obtain ⟨G1, S1, c1, c2, c3, c4, c5, c6⟩ := ivA_lookC hK h
    obtain ⟨T1, m1, m2, m3⟩ := ivA_lookM hK h1
    obtain ⟨f1, f2, f3⟩ := lkR_f m3
    have hfin := ivA_after h1 m2 m3 c2 c3 c4 c5 c6
    have hD1 : T1.v_disk = D := (coL_v_disk m2).trans hD
    have hE1 : S1.w_Dk_bytes = E := (coV_w_Dk_bytes c2).trans hE
    rw [e, q_c, if_neg (show ¬ (1 : Int32) = 0 by decide), c1, if_neg (nI_pos (by omega)), hn1, if_neg (nI_ge hs1 (by omega)), if_neg (nI_pos (by omega)), if_pos (show nI q ≤ 511 from nI_le (b := 511) (by omega) (by decide)), m1, q_b, if_pos (show T1.v_turned = 0 from (coL_v_turned m2).trans htu), f1]
    show ∃ r G' S' T', f_Vt_byteAt_18 K (nI s) (nI q) (nI (if flt N D = 1 then 0 else 1)) G1 S1 = some (r, G', S') ∧ _
    have eM : f_Mo_byteAt_140 K (nI s) (nI q) T1 = some (nI (o1 D (512 * s + q)), T1) := by
      unfold f_Mo_byteAt_140
      rw [show (512 : Int32) = nI 512 from rfl, pk_mul, nI_add, rM1 D hD1 (by omega), q_c]
    have eC : o1 E (512 * s + q) = o1 D (512 * s + q) → f_Vt_byteAt_55 K (nI s) (nI q) G1 S1 = some (nI (o1 D (512 * s + q)), G1, S1) := by
      intro y
      unfold f_Vt_byteAt_55 f_Vt_byteAt_60
      rw [if_neg (show ¬ (1 : Int32) = 0 by decide), show (512 : Int32) = nI 512 from rfl, pk_mul, nI_add, Nat.mul_comm s 512, rV1 E c3.1 hE1 h0.2.1 (by omega), q_c, y]
    unfold f_Vt_byteAt_18
    by_cases w : flt N D = 1
    · -- no volume
      rw [if_pos w, if_pos (show nI 0 = 0 from rfl), w, if_pos (show nI 1 = 1 from rfl), eM]
      have hno : ¬ hdOk N D := by
        intro ho
        unfold flt trE at w
        rw [cif_t ho] at w
        by_cases g2 : tabOk N D
        · rw [cif_t g2] at w
          unfold trS at w
          cases hx : scL N D 5000 0 [] z0 with
          | error e1 => rw [hx] at w; have := scL_err _ _ _ _ _ hx; have w : e1 = 1 := w; omega
          | ok x =>
            rw [hx, exb_o] at w
            by_cases y : stray N D (sTk x.2)
            · rw [cif_t y] at w; have w : (6 : Nat) = 1 := w; omega
            · rw [cif_f y] at w; have w : (0 : Nat) = 1 := w; omega
        · rw [cif_f g2] at w; have w : (2 : Nat) = 1 := w; omega
      have hfull : o1 E (512 * s + q) = o1 D (512 * s + q) := by
        rcases hag with y | ⟨-, y, -⟩
        · exact y _ (by omega)
        · exact absurd y hno
      rw [eC hfull]
      exact ⟨_, G1, S1, T1, rfl, rfl, hfin⟩
    · have hM := f3 w
      have hcI := (lkC_f c6).2 w
      have ho : hdOk N D := Classical.byContradiction (fun g => w (by unfold flt trE; rw [cif_f g]))
      obtain ⟨hH, hA⟩ := (agF_A h0.1 h0.2.1 hag).2 ho
      have hf := hd_facts ho h0.2.1
      obtain ⟨e1, e2, e3, e4, e5, e6, e7⟩ := agH_n hH
      rw [if_neg w, if_neg (show ¬ nI 1 = 0 by decide), if_pos (show nI 1 = 1 from rfl), if_neg (fun y : nI (flt N D) = 1 => w ((nI_eq (b := 1) (by omega) (by decide)).mp y)), hM.2.2.2.2.2.2.2.1]
      unfold f_Tb_shows f_Tb_shows_16 f_Vt_byteAt_39
      rw [hcI.2.2.2.2.2.2.2.2.1, e6]
      by_cases y : s < ha D
      · have hsh : o1 E (512 * s + q) = o1 D (512 * s + q) := by
          rcases hag with z | ⟨-, -, z⟩
          · exact z _ (by omega)
          · exact z _ (by omega) (Or.inl (by omega))
        rw [if_pos (nI_lt y (by omega)), q_c, if_neg (show ¬ (1 : Int32) = 0 by decide), if_pos (nI_lt y (by omega)), eM, eC hsh]
        exact ⟨_, G1, S1, T1, rfl, rfl, hfin⟩
      · have hx : (s - ha D) / hc D + 2 < 2 ^ 28 := by
          have := Nat.div_le_self (s - ha D) (hc D)
          omega
        have hcp : clOf D (512 * s + q) = (s - ha D) / hc D + 2 := by
          unfold clOf
          rw [show (512 * s + q) / 512 = s by omega]
        have ecl : nI s - nI (ha D) = nI (s - ha D) := pk_sub (by omega)
        have ediv : nI (s - ha D) / nI (hc D) = nI ((s - ha D) / hc D) := pk_div (by omega) (by omega) (by omega)
        rw [if_neg (nI_nlt (by omega) (by omega)), hcI.2.2.2.1, e1, if_pos (show 1 ≤ nI (hc D) from nI_le (a := 1) (by omega) (by omega)), q_g (nI_ne0 (by omega) (by omega)), ecl, ediv, show (2 : Int32) = nI 2 from rfl, nI_add, qC_nextOfX hcI hH ho h0.2.1 hx, q_c]
        rw [if_neg (nI_nlt (by omega) (by omega)), hM.2.2.1, q_g (nI_ne0 (by omega) (by omega)), q_l, ediv, nI_add, Nat.add_comm 2, qM_isCl' (k := hk N D) hM.2.2.2.2.2.2.2.2 (by omega) (by omega), q_c]
        unfold f_Mo_byteAt_138 f_Vt_byteAt_59
        by_cases v : isCl N D ((s - ha D) / hc D + 2)
        · have hent := ent_lt D ((s - ha D) / hc D + 2)
          rw [if_pos v, if_pos v, if_neg (show ¬ nI 1 = 0 by decide), qM_entry hM ho h0.2.1 (by omega), q_c]
          by_cases u : ent D ((s - ha D) / hc D + 2) = 0
          · rw [u, if_pos (show nI 0 = 0 from rfl), if_pos (show nI 0 = 0 from rfl), q_c, if_pos rfl, if_neg (show ¬ nI 1 = nI 2 by decide)]
            unfold f_Vt_byteAt_60
            rw [if_pos rfl]
            exact ⟨_, G1, S1, T1, rfl, rfl, hfin⟩
          · have hsh : o1 E (512 * s + q) = o1 D (512 * s + q) := by
              rcases hag with z | ⟨-, -, z⟩
              · exact z _ (by omega)
              · exact z _ (by omega) (Or.inr (by rw [hcp]; exact ⟨v, u⟩))
            rw [if_neg (nI_ne0 (by omega) (by omega)), if_neg (nI_ne0 (by omega) (by omega)), q_c, if_neg (show ¬ (1 : Int32) = 0 by decide), eM, eC hsh]
            exact ⟨_, G1, S1, T1, rfl, rfl, hfin⟩
        · rw [if_neg v, if_neg v, if_pos (show nI 0 = 0 from rfl), if_pos (show nI 0 = 0 from rfl), q_c, if_pos rfl, if_neg (show ¬ nI 1 = nI 2 by decide)]
          unfold f_Vt_byteAt_60
          rw [if_pos rfl]
          exact ⟨_, G1, S1, T1, rfl, rfl, hfin⟩
  · rw [e, q_c, if_pos rfl]
    refine ⟨-1, G, S, T.u_v_thrown 0, rfl, ?_, h1⟩
    by_cases w1 : a < 0
    · rw [if_pos w1]
    rw [if_neg w1, hn1]
    by_cases w2 : nI N ≤ a
    · rw [if_pos w2]
    rw [if_neg w2]
    by_cases w3 : b < 0
    · rw [if_pos w3]
    rw [if_neg w3, if_neg (fun y : b ≤ 511 => by
      rcases w with w | w | w | w
      · exact w1 w
      · exact w2 w
      · exact w3 w
      · exact absurd (Int32.le_trans w y) (by decide))]
