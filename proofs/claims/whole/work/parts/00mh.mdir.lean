/-! A directory in the reference. -/
theorem qM_place {K N x : Nat} {D : Nat → Int32} {T : MS} (hM : mIs N D T) (hx : 2 ≤ x) : f_Mo_place K T (nI x) = some (nI (512 * (ha D + (x - 2) * hc D)), T) := by
  obtain ⟨-, -, m3, -, -, -, -, m8, -⟩ := hM
  unfold f_Mo_place
  rw [m8, m3, show (2 : Int32) = nI 2 from rfl, pk_sub hx, pk_mul, nI_add, show (512 : Int32) = nI 512 from rfl, pk_mul]
theorem qM_slotAt {K N s : Nat} {D : Nat → Int32} {ch : List Nat} {T : MS} (hM : mIs N D T) (h : hdOk N D) (hN : N ≤ 1024) (hcl : ∀ x ∈ ch, isCl N D x) (hl : ch.length ≤ 514) (hf : ∀ q, q < ch.length → T.v_folder q = nI (ch.getD q 0)) (hs : s < ch.length * 16 * hc D) : f_Mo_slotAt K T (nI s) = some (nI (plS D ch s), T) := by
  have hC := (hd_facts h hN).1
  obtain ⟨p1, p2, p3, p4⟩ := plS_lt h hN hcl hs
  have m3 := hM.2.2.1
  have hq : s / (16 * hc D) < ch.length := by rw [Nat.div_lt_iff_lt_mul (by omega), ← Nat.mul_assoc]; exact hs
  have hs1 : s < 514 * 16 * hc D := Nat.lt_of_lt_of_le hs (Nat.mul_le_mul_right _ (Nat.mul_le_mul_right _ hl))
  unfold f_Mo_slotAt
  have e16 : 16 * T.v_c = nI (16 * hc D) := by rw [m3, show (16 : Int32) = nI 16 from rfl, pk_mul]
  have ed : nI s / nI (16 * hc D) = nI (s / (16 * hc D)) := pk_div (by omega) (by omega) (by omega)
  have hne : ¬ nI (16 * hc D) = 0 := nI_ne0 (by omega) (by omega)
  rw [e16, q_g hne, ed, q_g (q_in (by omega) (by decide)), nI_clamp (by omega), hf _ hq, qM_place hM (hcl _ p3).1, q_c, e16, q_g hne, pk_rem (by omega) (by omega) (by omega), show (32 : Int32) = nI 32 from rfl, pk_mul, nI_add]
  rfl
abbrev scI (N : Nat) (D : Nat → Int32) (i fk : Nat) (tk0 ch : List Nat) (s : Nat) (z : SS) (T0 T : MS) : Prop := fr1 i T0 T ∧ vR N i fk z T ∧ zOk N z ∧ cin N D tk0 ch s z ∧ i < (sIt z).length ∧ fk ≤ (sIt z).length
theorem qM_slot {K N m i fk s k : Nat} {D : Nat → Int32} {tk0 ch : List Nat} {z : SS} {T0 T : MS} (hK : 10000 ≤ K) (h : hdOk N D) (hN : N ≤ 1024) (hcp : capOk N D m) (hm : m ≤ 4000) (hcl : ∀ x ∈ ch, isCl N D x) (hn : ch.Nodup) (hl : ch.length ≤ 514) (hd : ∀ x ∈ ch, x ∉ tk0) (hM : mIs N D T0) (hF : T0.v_firstKid i = nI fk) (h1 : 1 ≤ fk) (hfl : T0.v_fault = 0) (hfo : ∀ q, q < ch.length → T0.v_folder q = nI (ch.getD q 0)) (hfs : T0.v_folders = nI ch.length) (hs : s < ch.length * 16 * hc D) (hI : scI N D i fk tk0 ch s z T0 T) (hnz : ¬ o1 D (plS D ch s) = 0) : (∀ z', slS N D i fk s (plS D ch s) z = .ok z' → ∃ T', f_Mo_scan_66 K (k + 1) (nI i) (nI s) T = f_Mo_scan_66 K k (nI i) (nI (s + 1)) T' ∧ scI N D i fk tk0 ch (s + 1) z' T0 T') ∧ (∀ e, slS N D i fk s (plS D ch s) z = .error e → ∃ T', f_Mo_scan_66 K (k + 1) (nI i) (nI s) T = f_Mo_scan_66 K k (nI i) (nI (s + 1)) (T'.u_v_fault (nI e)) ∧ coM T' = coM T0 ∧ T'.v_folders = T0.v_folders) := by
  obtain ⟨f1, v1, hz, hci, hii, hfk⟩ := hI
  have hC := (hd_facts h hN).1
  obtain ⟨b1, b2⟩ := cin_bnd hci hcp
  obtain ⟨p1, p2, p3, p4⟩ := plS_lt h hN hcl hs
  have hTM : mIs N D T := mIs_co f1.1 hM
  have hD := hTM.1
  have hTf : T.v_fault = 0 := f1.2.2.2.1.trans hfl
  have hs1 : s < 514 * 16 * hc D := Nat.lt_of_lt_of_le hs (Nat.mul_le_mul_right _ (Nat.mul_le_mul_right _ hl))
  have hs2 : s < 100000 := by rcases hC with w | w | w <;> rw [w] at hs1 <;> omega
  have hfold : (T.v_folders * 16) * T.v_c = nI (ch.length * 16 * hc D) := by rw [f1.2.2.1, hfs, hTM.2.2.1, show (16 : Int32) = nI 16 from rfl, pk_mul, pk_mul]
  have htot : ch.length * 16 * hc D < 2 ^ 20 := by
    have := Nat.mul_le_mul_right (hc D) (Nat.mul_le_mul_right 16 hl)
    rcases hC with w | w | w <;> rw [w] at this ⊢ <;> omega
  have hpb : plS D ch s + 31 < 524288 := by omega
  have hr := o1_lt D (plS D ch s)
  have hr11 := o1_lt D (plS D ch s + 11)
  have next : ∀ z', slS N D i fk s (plS D ch s) z = .ok z' → zOk N z' ∧ cin N D tk0 ch (s + 1) z' ∧ (sIt z).length ≤ (sIt z').length := fun z' e => slS_ok h hN hcl hn hd hs hs2 hcp hm hz hci hii e
  have start : ∀ X, X = f_Mo_scan_66 K (k + 1) (nI i) (nI s) T → X = (if nI i ≤ 0 then (f_Mo_scan_137 K (f_Mo_scan_66 K k) (nI i) (nI s) (nI (plS D ch s)) T) else (if 2 ≤ nI s then (f_Mo_scan_137 K (f_Mo_scan_66 K k) (nI i) (nI s) (nI (plS D ch s)) T) else (lf_c (f_Mo_dots K T (nI (plS D ch s)) (nI i) (nI s)) fun r_20 S_20 => if r_20 = 0 then (f_Mo_scan_131 K (f_Mo_scan_66 K k) (nI i) (nI s) 4 S_20) else (f_Mo_scan_131 K (f_Mo_scan_66 K k) (nI i) (nI s) 0 S_20)))) := by
    intro X hX
    rw [hX, f_Mo_scan_66, hfold, if_neg (nI_ge hs (by omega)), if_pos hTf, qM_slotAt hTM h hN hcl hl (fun q hq => by rw [f1.2.1]; exact hfo q hq) hs, q_c, rM1 D hD (by omega), q_c, if_neg (fun w : nI (o1 D (plS D ch s)) = 0 => hnz ((nI_eq (b := 0) (by omega) (by omega)).mp w))]
  rw [start _ rfl]
  unfold f_Mo_scan_131 f_Mo_scan_214
  -- what an answer of a test comes to
  have same0 : T.u_v_fault 0 = T := by rw [← hTf]; rfl
  have go : ∀ z' T', slS N D i fk s (plS D ch s) z = .ok z' → fr1 i T T' → vR N i fk z' T' → scI N D i fk tk0 ch (s + 1) z' T0 (T'.u_v_fault 0) := by
    intro z' T' e f2 v2
    obtain ⟨n1, n2, n3⟩ := next z' e
    have e0 : T'.u_v_fault 0 = T' := by
      rw [show (0 : Int32) = T'.v_fault from (f2.2.2.2.1.trans hTf).symm]
      rfl
    rw [e0]
    exact ⟨fr1_tr f1 f2, v2, n1, n2, by omega, by omega⟩
  have main : ¬ (1 ≤ i ∧ s < 2) → (∀ z', slS N D i fk s (plS D ch s) z = .ok z' → ∃ T', f_Mo_scan_137 K (f_Mo_scan_66 K k) (nI i) (nI s) (nI (plS D ch s)) T = f_Mo_scan_66 K k (nI i) (nI (s + 1)) T' ∧ scI N D i fk tk0 ch (s + 1) z' T0 T') ∧ (∀ e, slS N D i fk s (plS D ch s) z = .error e → ∃ T', f_Mo_scan_137 K (f_Mo_scan_66 K k) (nI i) (nI s) (nI (plS D ch s)) T = f_Mo_scan_66 K k (nI i) (nI (s + 1)) (T'.u_v_fault (nI e)) ∧ coM T' = coM T0 ∧ T'.v_folders = T0.v_folders) := by
    intro g0
    unfold f_Mo_scan_137 f_Mo_scan_161 f_Mo_scan_197 f_Mo_scan_214
    rw [rM1 D hD (by omega), q_c]
    by_cases g1 : o1 D (plS D ch s) = 229
    · rw [if_pos (by rw [g1]; rfl), v1.2.1.1]
      by_cases g2 : pM (sPe z) = 0
      · have es : slS N D i fk s (plS D ch s) z = .ok z := by unfold slS; rw [cif_f g0, cif_t g1, cif_t g2]
        rw [if_pos (by rw [g2]; decide), q_l, q_l, nI_1]
        refine ⟨fun z' e => ⟨T.u_v_fault 0, rfl, go z' T e (fr1_rf i T) ?_⟩, fun e he => (by rw [es] at he; cases he)⟩
        rw [es] at e
        cases e
        exact v1
      · have es : slS N D i fk s (plS D ch s) z = .error 4 := by unfold slS; rw [cif_f g0, cif_t g1, cif_f g2]
        have := hz.2.1.1
        rw [if_neg (show ¬ nI (pM (sPe z)) ≤ 0 from nI_nle (by omega) (by omega)), q_l, q_l, nI_1]
        exact ⟨fun z' e => (by rw [es] at e; cases e), fun e he => (by rw [es] at he; cases he; exact ⟨T, rfl, f1.1, f1.2.2.1⟩)⟩
    · rw [if_neg (fun w : nI (o1 D (plS D ch s)) = 229 => g1 ((nI_eq (b := 229) (by omega) (by omega)).mp w)), show (11 : Int32) = nI 11 from rfl, nI_add, rM1 D hD (by omega), q_c, show (63 : Int32) = nI 63 from rfl, q_and, q_and63 hr11]
      by_cases g2 : o1 D (plS D ch s + 11) % 64 = 15
      · obtain ⟨a, b, c, d, e, q1, q2⟩ := qM_part (K := K) (p := plS D ch s) (by omega) hD hpb hz.2.1 v1.2.1
        rw [if_pos (by rw [g2]; rfl), q1, q_c]
        by_cases g3 : ptP D (plS D ch s) (sPe z)
        · have es : slS N D i fk s (plS D ch s) z = .ok ((sIt z, sLb z), sTk z, ptN D (plS D ch s) (sPe z)) := by unfold slS; rw [cif_f g0, cif_f g1, cif_t g2, cif_t g3]
          rw [b01_t g3, if_neg (by decide), q_l, q_l, nI_1]
          refine ⟨fun z' e' => ⟨_, rfl, go z' (nmF T a b c d e) e' ⟨rfl, rfl, rfl, rfl, rfl, fun _ _ => rfl, rfl⟩ ?_⟩, fun e he => (by rw [es] at he; cases he)⟩
          rw [es] at e'
          cases e'
          exact ⟨v1.1, q2 g3, v1.2.2.1, v1.2.2.2.1, v1.2.2.2.2⟩
        · have es : slS N D i fk s (plS D ch s) z = .error 4 := by unfold slS; rw [cif_f g0, cif_f g1, cif_t g2, cif_f g3]
          rw [b01_f g3, if_pos (by decide), q_l, q_l, nI_1]
          exact ⟨fun z' e => (by rw [es] at e; cases e), fun e' he => (by rw [es] at he; cases he; exact ⟨nmF T a b c d e, rfl, f1.1, f1.2.2.1⟩)⟩
      · have es : slS N D i fk s (plS D ch s) z = entS N D i s (plS D ch s) fk z := by unfold slS; rw [cif_f g0, cif_f g1, cif_f g2]
        rw [if_neg (fun w : nI (o1 D (plS D ch s + 11) % 64) = 15 => g2 ((nI_eq (b := 15) (by omega) (by omega)).mp w))]
        obtain ⟨q1, q2⟩ := qM_adm (K := K) (p := plS D ch s) (i := i) (s := s) (fk := fk) hK h hN hTM v1 (by rw [f1.2.2.2.2.1]; exact hF) hz.1 hz.2.1 h1 hfk hii (by omega) (by omega) (fun q hq => by have := hz.2.2 q hq; omega) (by omega)
        refine ⟨fun z' e => ?_, fun e he => ?_⟩
        · obtain ⟨T', r1, r2, r3⟩ := q1 z' (by rw [← es]; exact e)
          rw [r1, q_c, q_l, q_l, nI_1]
          exact ⟨_, rfl, go z' T' e r2 r3⟩
        · rw [es] at he
          obtain ⟨T', r1, r2, r3⟩ := q2 e he
          rw [r1, q_c, q_l, q_l, nI_1]
          exact ⟨T', rfl, r2.trans f1.1, r3.trans f1.2.2.1⟩
  by_cases g0 : 1 ≤ i ∧ s < 2
  · rw [if_neg (show ¬ nI i ≤ 0 from nI_nle (by omega) (by have := hz.1.2.1; omega)), if_neg (show ¬ 2 ≤ nI s from nI_ge (b := 2) g0.2 (by decide))]
    rw [qM_dots (by omega) hD hTM.2.2.2.2.2.2.1 hN v1.1 hz.1 hpb g0.1 hii g0.2, q_c]
    by_cases g1 : dtP D (sIt z) (plS D ch s) i s
    · have es : slS N D i fk s (plS D ch s) z = .ok z := by unfold slS; rw [cif_t g0, cif_t g1]
      rw [b01_t g1, if_neg (by decide), q_l, q_l, nI_1]
      refine ⟨fun z' e => ⟨T.u_v_fault 0, rfl, go z' T e (fr1_rf i T) ?_⟩, fun e he => (by rw [es] at he; cases he)⟩
      rw [es] at e
      cases e
      exact v1
    · have es : slS N D i fk s (plS D ch s) z = .error 4 := by unfold slS; rw [cif_t g0, cif_f g1]
      rw [b01_f g1, if_pos (by decide), q_l, q_l, nI_1]
      exact ⟨fun z' e => (by rw [es] at e; cases e), fun e he => (by rw [es] at he; cases he; exact ⟨T, rfl, f1.1, f1.2.2.1⟩)⟩
  · by_cases g1 : i = 0
    · rw [if_pos (by rw [g1]; decide)]
      exact main g0
    · rw [if_neg (show ¬ nI i ≤ 0 from nI_nle (by omega) (by have := hz.1.2.1; omega)), if_pos (show 2 ≤ nI s from nI_le (a := 2) (by omega) (by omega))]
      exact main g0
