/-! A directory in the class. -/
theorem slS_at {N i fk s p : Nat} {D : Nat → Int32} {z z' : SS} (e : slS N D i fk s p z = .ok z') : (sIt z' = sIt z ∨ ∃ it, isp it = p ∧ sIt z' = sIt z ++ [it]) ∧ (sLb z' = sLb z ∨ sLb z' = some p) := by
  unfold slS at e
  by_cases g1 : 1 ≤ i ∧ s < 2
  · rw [cif_t g1] at e
    by_cases g2 : dtP D (sIt z) p i s
    · rw [cif_t g2] at e; cases e; exact ⟨Or.inl rfl, Or.inl rfl⟩
    · rw [cif_f g2] at e; cases e
  rw [cif_f g1] at e
  by_cases g2 : o1 D p = 229
  · rw [cif_t g2] at e
    by_cases g3 : pM (sPe z) = 0
    · rw [cif_t g3] at e; cases e; exact ⟨Or.inl rfl, Or.inl rfl⟩
    · rw [cif_f g3] at e; cases e
  rw [cif_f g2] at e
  by_cases g3 : o1 D (p + 11) % 64 = 15
  · rw [cif_t g3] at e
    by_cases g4 : ptP D p (sPe z)
    · rw [cif_t g4] at e; cases e; exact ⟨Or.inl rfl, Or.inl rfl⟩
    · rw [cif_f g4] at e; cases e
  rw [cif_f g3] at e
  unfold entS at e
  by_cases a1 : o1 D (p + 11) ≤ 63 ∧ daysP D p
  rotate_left
  · rw [cif_f a1] at e; cases e
  rw [cif_t a1] at e
  by_cases a2 : o1 D (p + 11) / 8 % 2 = 1
  · rw [cif_t a2] at e
    by_cases a3 : enLb D i p z
    · rw [cif_t a3] at e; cases e; exact ⟨Or.inl rfl, Or.inr rfl⟩
    · rw [cif_f a3] at e; cases e
  rw [cif_f a2] at e
  by_cases a3 : enBad D p (sPe z)
  rotate_left
  · rw [cif_f a3] at e; cases e
  rw [cif_t a3] at e
  by_cases a4 : enTw D (sIt z) fk p (nmN D p (sPe z))
  · rw [cif_t a4] at e; cases e
  rw [cif_f a4] at e
  cases hE : entF N D p (sTk z) with
  | none => rw [entR_n hE] at e; cases e
  | some c =>
    rw [entR_s hE] at e
    cases e
    exact ⟨Or.inr ⟨_, rfl, rfl⟩, Or.inl rfl⟩
abbrev mpZ (N : Nat) (D E : Nat → Int32) (mp : Nat → Nat) (z : SS) : Prop := mpOk N D E mp (sIt z) ∧ ∀ q, sLb z = some q → slq E (mp q) D q ∧ mp q + 32 ≤ 512 * N
theorem mpZ_step {N i fk s p : Nat} {D E : Nat → Int32} {mp : Nat → Nat} {z z' : SS} (h : mpZ N D E mp z) (hp : slq E (mp p) D p ∧ mp p + 32 ≤ 512 * N) (e : slS N D i fk s p z = .ok z') : mpZ N D E mp z' := by
  obtain ⟨h1, h2⟩ := h
  obtain ⟨a, b⟩ := slS_at e
  refine ⟨?_, fun q hq => ?_⟩
  · rcases a with a | ⟨it, a1, a2⟩
    · rw [a]; exact h1
    · rw [a2]
      intro j j1 j2
      rw [List.length_append] at j2
      have j2 : j < (sIt z).length + 1 := j2
      by_cases w : j = (sIt z).length
      · rw [w, itr_last, a1]; exact hp
      · rw [itr_app (by omega)]; exact h1 j j1 (by omega)
  · rcases b with b | b
    · rw [b] at hq; exact h2 q hq
    · rw [b] at hq
      cases hq
      exact hp
theorem qC_place {K N x : Nat} {G : CG} {D E : Nat → Int32} {S : CS} (hS : cIs N E G S) (hH : agH D E) (hx : 2 ≤ x) : f_Tb_place K G S (nI x) = some (nI (plC D x), S) := by
  obtain ⟨e1, e2, e3, e4, e5, e6, e7⟩ := agH_n hH
  unfold f_Tb_place plC
  rw [hS.2.2.2.2.2.2.2.2.1, hS.2.2.2.1, e1, e6, show (2 : Int32) = nI 2 from rfl, pk_sub hx, pk_mul, nI_add, show (512 : Int32) = nI 512 from rfl, pk_mul, Nat.mul_comm]
theorem qC_slotPl {K N s : Nat} {G : CG} {D E : Nat → Int32} {S : CS} {ch : List Nat} (hS : cIs N E G S) (hH : agH D E) (h : hdOk N D) (hN : N ≤ 1024) (hcl : ∀ x ∈ ch, isCl N D x) (hl : ch.length ≤ N / 2 + 2) (hr : ∀ q, q < ch.length → S.w_Rd_road q = nI (ch.getD q 0)) (hs : s < ch.length * 16 * hc D) : f_Tb_slotPlace_Rdroad K G S (nI s) = some (nI (plS D ch s), S) := by
  have hC := (hd_facts h hN).1
  obtain ⟨p1, p2, p3, p4⟩ := plS_lt h hN hcl hs
  have hq : s / (16 * hc D) < ch.length := by rw [Nat.div_lt_iff_lt_mul (by omega), ← Nat.mul_assoc]; exact hs
  have hs1 : s < 514 * 16 * hc D := Nat.lt_of_lt_of_le hs (Nat.mul_le_mul_right _ (Nat.mul_le_mul_right _ (by omega)))
  unfold f_Tb_slotPlace_Rdroad f_Tb_slotsOfCluster
  have e16 : S.v_Tb_cluster * 16 = nI (16 * hc D) := by rw [hS.2.2.2.1, (agH_n hH).1, show (16 : Int32) = nI 16 from rfl, pk_mul, Nat.mul_comm]
  have ed : nI s / nI (16 * hc D) = nI (s / (16 * hc D)) := pk_div (by omega) (by omega) (by omega)
  have hne : ¬ nI (16 * hc D) = 0 := nI_ne0 (by omega) (by omega)
  rw [e16, q_c, if_neg (show ¬ nI (16 * hc D) < 1 from nI_nlt (b := 1) (by omega) (by omega)), if_neg (nI_pos (by omega))]
  simp only [q_g hne]
  rw [ed, hS.1, if_pos (nI_lt (by omega) (by omega)), q_g (q_in (by omega) (by omega)), nI_clamp (by omega), hr _ hq, qC_place hS hH (hcl _ p3).1, q_c, ← ed, pk_rem (by omega) (by omega) (by omega), show (32 : Int32) = nI 32 from rfl, pk_mul, nI_add]
  unfold plS plC
  rw [Nat.mul_comm 32]
abbrev scC (N t : Nat) (D E : Nat → Int32) (mp ks kcs : Nat → Nat) (i fk : Nat) (tk0 ch : List Nat) (s : Nat) (z : SS) (S0 : CS) (G : CG) (S : CS) : Prop := frC S0 S ∧ vC N D mp ks kcs z S ∧ gC N t z G ∧ zOk N z ∧ cin N D tk0 ch s z ∧ mpZ N D E mp z ∧ i < (sIt z).length ∧ fk ≤ (sIt z).length
theorem qC_slotstep {K N t m i fk s k tot : Nat} {G0 G : CG} {D E : Nat → Int32} {g ks kcs : Nat → Nat} {tk0 ch : List Nat} {z : SS} {S0 S : CS} (hK : 10000 ≤ K) (hS0 : cIs N E G0 S0) (hH : agH D E) (hA : agC N D E g) (h : hdOk N D) (hN : N ≤ 1024) (hcp : capOk N D m) (hm : m ≤ 4000) (hcl : ∀ x ∈ ch, isCl N D x ∧ ent D x ≠ 0) (hn : ch.Nodup) (hl : ch.length ≤ N / 2 + 2) (hd : ∀ x ∈ ch, x ∉ tk0) (h1 : 1 ≤ fk) (hki : ks i = fk) (hks : ∀ j, i < j → ks j = 0 ∧ kcs j = 0) (hro : ∀ q, q < ch.length → S0.w_Rd_road q = nI ((ch.map g).getD q 0)) (ht : tot = ch.length * 16 * hc D) (hs : s < tot) (hI : scC N t D E (mpP D g) ks kcs i fk tk0 ch s z S0 G S) (hnz : ¬ o1 D (plS D ch s) = 0) : (∀ z', slS N D i fk s (plS D ch s) z = .ok z' → ∃ G' S', f_Rd_readDirectory_118 K (k + 1) (nI i) (nI tot) (nI s) G S = f_Rd_readDirectory_118 K k (nI i) (nI tot) (nI (s + 1)) G' S' ∧ scC N t D E (mpP D g) ks kcs i fk tk0 ch (s + 1) z' S0 G' S') ∧ (∀ e, slS N D i fk s (plS D ch s) z = .error e → ∃ G' S', f_Rd_readDirectory_118 K (k + 1) (nI i) (nI tot) (nI s) G S = some (nI e, G', S') ∧ coC S' = coC S0 ∧ gOk N G' ∧ gLim t G') := by
  subst ht
  obtain ⟨f1, v1, hg, hz, hci, hmz, hii, hfk⟩ := hI
  have hcl' : ∀ x ∈ ch, isCl N D x := fun x hx => (hcl x hx).1
  have hC := (hd_facts h hN).1
  obtain ⟨b1, b2⟩ := cin_bnd hci hcp
  obtain ⟨p1, p2, p3, p4⟩ := plS_lt h hN hcl' hs
  obtain ⟨y1, y2⟩ := mp_slq h hN hA hcl hs
  have em := mpP_pl (g := g) h hN hcl' hs
  have hs1 : s < 514 * 16 * hc D := Nat.lt_of_lt_of_le hs (Nat.mul_le_mul_right _ (Nat.mul_le_mul_right _ (by omega)))
  have hs2 : s < 100000 := by rcases hC with w | w | w <;> rw [w] at hs1 <;> omega
  have htot : ch.length * 16 * hc D < 2 ^ 20 := by
    have := Nat.mul_le_mul_right (hc D) (Nat.mul_le_mul_right 16 (show ch.length ≤ 514 by omega))
    rcases hC with w | w | w <;> rw [w] at this ⊢ <;> omega
  have hGn : G.n = G0.n := hg.1.1.trans hS0.1.symm
  have hS : cIs N E G S := cIs_co f1.1 hGn hS0
  have hEd := hS.2.1
  generalize hp : plS D ch s = p at *
  generalize hp' : mpP D g p = p' at *
  have hpl : f_Tb_slotPlace_Rdroad K G S (nI s) = some (nI p', S) := by
    rw [qC_slotPl (ch := ch.map g) hS hH h hN (fun x hx => ?_) (by rw [List.length_map]; exact hl) (fun q hq => ?_) (by rw [List.length_map]; exact hs), em]
    · obtain ⟨y, hy, rfl⟩ := List.mem_map.mp hx
      exact (hA y (hcl y hy).1 (hcl y hy).2).1
    · rw [List.length_map] at hq
      rw [f1.2]; exact hro q hq
  have hr := o1_lt D p
  have hr11 := o1_lt D (p + 11)
  have next : ∀ z', slS N D i fk s p z = .ok z' → zOk N z' ∧ cin N D tk0 ch (s + 1) z' ∧ (sIt z).length ≤ (sIt z').length ∧ mpZ N D E (mpP D g) z' := fun z' e => by
    have e' := e
    rw [← hp] at e'
    obtain ⟨a1, a2, a3⟩ := slS_ok h hN hcl' hn hd hs hs2 hcp hm hz hci hii e'
    exact ⟨a1, a2, a3, mpZ_step hmz (by rw [hp']; exact ⟨y1, y2⟩) e⟩
  have go : ∀ z' G' S', slS N D i fk s p z = .ok z' → frC S S' → vC N D (mpP D g) ks kcs z' S' → gC N t z' G' → scC N t D E (mpP D g) ks kcs i fk tk0 ch (s + 1) z' S0 G' S' := by
    intro z' G' S' e f2 v2 g2
    obtain ⟨n1, n2, n3, n4⟩ := next z' e
    exact ⟨⟨f2.1.trans f1.1, f2.2.trans f1.2⟩, v2, g2, n1, n2, n4, by omega, by omega⟩
  have start : f_Rd_readDirectory_118 K (k + 1) (nI i) (nI (ch.length * 16 * hc D)) (nI s) G S = (if nI i = 0 then (f_Rd_readDirectory_192 K (f_Rd_readDirectory_118 K k) (nI i) (nI (ch.length * 16 * hc D)) (nI s) (nI p') G S) else (if 2 ≤ nI s then (f_Rd_readDirectory_192 K (f_Rd_readDirectory_118 K k) (nI i) (nI (ch.length * 16 * hc D)) (nI s) (nI p') G S) else (lf_c (f_Rd_isDots K G S (nI i) (nI s + 1) (nI p')) fun r_25 S_25 => if r_25 = 0 then (f_Rd_readDirectory_187 K (f_Rd_readDirectory_118 K k) (nI i) (nI (ch.length * 16 * hc D)) (nI s) 4 G S_25) else (f_Rd_readDirectory_187 K (f_Rd_readDirectory_118 K k) (nI i) (nI (ch.length * 16 * hc D)) (nI s) 0 G S_25)))) := by
    rw [f_Rd_readDirectory_118, if_neg (nI_ge hs (by omega)), hpl, q_c, rV1 E hS.1 hEd hN (by omega), q_c, slq_0 y1, if_neg (fun w : nI (o1 D p) = 0 => hnz ((nI_eq (b := 0) (by omega) (by omega)).mp w))]
  rw [start]
  unfold f_Rd_readDirectory_187 f_Rd_readDirectory_274
  have n40 : ¬ (4 : Int32) = 0 := by decide
  have main : ¬ (1 ≤ i ∧ s < 2) → (∀ z', slS N D i fk s p z = .ok z' → ∃ G' S', f_Rd_readDirectory_192 K (f_Rd_readDirectory_118 K k) (nI i) (nI (ch.length * 16 * hc D)) (nI s) (nI p') G S = f_Rd_readDirectory_118 K k (nI i) (nI (ch.length * 16 * hc D)) (nI (s + 1)) G' S' ∧ scC N t D E (mpP D g) ks kcs i fk tk0 ch (s + 1) z' S0 G' S') ∧ (∀ e, slS N D i fk s p z = .error e → ∃ G' S', f_Rd_readDirectory_192 K (f_Rd_readDirectory_118 K k) (nI i) (nI (ch.length * 16 * hc D)) (nI s) (nI p') G S = some (nI e, G', S') ∧ coC S' = coC S0 ∧ gOk N G' ∧ gLim t G') := by
    intro g0
    unfold f_Rd_readDirectory_192 f_Rd_readDirectory_219 f_Rd_readDirectory_258 f_Rd_readDirectory_272 f_Rd_readDirectory_274
    rw [rV1 E hS.1 hEd hN (by omega), q_c, slq_0 y1]
    by_cases g1 : o1 D p = 229
    · rw [if_pos (by rw [g1]; rfl), v1.2.1.1]
      by_cases g2 : pM (sPe z) = 0
      · have es : slS N D i fk s p z = .ok z := by unfold slS; rw [cif_f g0, cif_t g1, cif_t g2]
        rw [if_pos g2, if_pos (show nI 0 = 0 from rfl), if_pos rfl, q_l, nI_1]
        refine ⟨fun z' e => ⟨G, S, rfl, ?_⟩, fun e he => (by rw [es] at he; cases he)⟩
        have e' := e
        rw [es] at e'
        cases e'
        exact go z G S e ⟨rfl, rfl⟩ v1 hg
      · have es : slS N D i fk s p z = .error 4 := by unfold slS; rw [cif_f g0, cif_t g1, cif_f g2]
        have := hz.2.1.1
        rw [if_neg g2, if_neg (nI_ne0 (by omega) (by omega)), if_neg n40]
        exact ⟨fun z' e => (by rw [es] at e; cases e), fun e he => (by rw [es] at he; cases he; exact ⟨G, S, rfl, f1.1, hg.1, hg.2.1⟩)⟩
    · rw [if_neg (fun w : nI (o1 D p) = 229 => g1 ((nI_eq (b := 229) (by omega) (by omega)).mp w)), show (11 : Int32) = nI 11 from rfl, nI_add, rV1 E hS.1 hEd hN (by omega), q_c, y1 11 (by decide), show (63 : Int32) = nI 63 from rfl, q_and, q_and63 hr11]
      by_cases g2 : o1 D (p + 11) % 64 = 15
      · obtain ⟨a, b, c, d, q1, q2⟩ := qC_part (K := K) (p := p) (p' := p') (by omega) hS.1 hN hEd y1 y2 hnz hz.2.1 v1.2.1
        rw [if_pos (by rw [g2]; rfl), q1, q_c]
        by_cases g3 : ptP D p (sPe z)
        · have es : slS N D i fk s p z = .ok ((sIt z, sLb z), sTk z, ptN D p (sPe z)) := by unfold slS; rw [cif_f g0, cif_f g1, cif_t g2, cif_t g3]
          rw [b01_t g3, if_neg (by decide), if_pos rfl, q_l, nI_1]
          refine ⟨fun z' e' => ⟨G, ncF S a b c d, rfl, ?_⟩, fun e he => (by rw [es] at he; cases he)⟩
          have e'' := e'
          rw [es] at e''
          cases e''
          exact go _ G _ e' ⟨rfl, rfl⟩ ⟨v1.1, q2 g3, v1.2.2.1, v1.2.2.2.1, v1.2.2.2.2⟩ hg
        · have es : slS N D i fk s p z = .error 4 := by unfold slS; rw [cif_f g0, cif_f g1, cif_t g2, cif_f g3]
          rw [b01_f g3, if_pos (by decide), if_neg n40]
          exact ⟨fun z' e => (by rw [es] at e; cases e), fun e' he => (by rw [es] at he; cases he; exact ⟨G, ncF S a b c d, rfl, f1.1, hg.1, hg.2.1⟩)⟩
      · have es : slS N D i fk s p z = entS N D i s p fk z := by unfold slS; rw [cif_f g0, cif_f g1, cif_f g2]
        rw [if_neg (fun w : nI (o1 D (p + 11) % 64) = 15 => g2 ((nI_eq (b := 15) (by omega) (by omega)).mp w))]
        obtain ⟨q1, q2⟩ := qC_entry (K := K) (t := t) (i := i) (s := s) (p := p) (p' := p') (fk := fk) hp' hK hS hH h hN v1 hg hz.1 hz.2.1 hmz.1 h1 hfk hii hki hks (by omega) (by omega) (fun q hq => by have := (hmz.2 q hq).2; omega) y1 y2
        refine ⟨fun z' e => ?_, fun e he => ?_⟩
        · obtain ⟨G', S', r1, r2, r3, r4⟩ := q1 z' (by rw [← es]; exact e)
          rw [r1]
          show ∃ G'' S'', (if nI 0 = 0 then (lf_l (nI s + 1) fun x_40 => f_Rd_readDirectory_118 K k (nI i) (nI (ch.length * 16 * hc D)) x_40 G' S') else (some (nI 0, G', S'))) = _ ∧ _
          rw [if_pos (show nI 0 = 0 from rfl), q_l, nI_1]
          exact ⟨G', S', rfl, go z' G' S' e r2 r3 r4⟩
        · rw [es] at he
          obtain ⟨G', S', r1, r2, r3, r4⟩ := q2 e he
          have hen := entS_err he
          rw [r1]
          show ∃ G'' S'', (if nI e = 0 then (lf_l (nI s + 1) fun x_40 => f_Rd_readDirectory_118 K k (nI i) (nI (ch.length * 16 * hc D)) x_40 G' S') else (some (nI e, G', S'))) = _ ∧ _
          rw [if_neg (nI_ne0 (by omega) (by omega))]
          exact ⟨G', S', rfl, r2.trans f1.1, r3, r4⟩
  by_cases g0 : 1 ≤ i ∧ s < 2
  · rw [if_neg (nI_ne0 (by omega) (by have := hz.1.2.1; omega)), if_neg (show ¬ 2 ≤ nI s from nI_ge (b := 2) g0.2 (by decide)), nI_1]
    rw [qC_dots (by omega) hg.1 hN hEd v1.1 hg.2.2.1 hz.1 g0.1 hii g0.2 y1 y2, q_c]
    by_cases g1 : dtP D (sIt z) p i s
    · have es : slS N D i fk s p z = .ok z := by unfold slS; rw [cif_t g0, cif_t g1]
      rw [b01_t g1, if_neg (by decide), if_pos rfl, q_l]
      refine ⟨fun z' e => ⟨G, S, rfl, ?_⟩, fun e he => (by rw [es] at he; cases he)⟩
      have e' := e
      rw [es] at e'
      cases e'
      exact go z G S e ⟨rfl, rfl⟩ v1 hg
    · have es : slS N D i fk s p z = .error 4 := by unfold slS; rw [cif_t g0, cif_f g1]
      rw [b01_f g1, if_pos (by decide), if_neg n40]
      exact ⟨fun z' e => (by rw [es] at e; cases e), fun e he => (by rw [es] at he; cases he; exact ⟨G, S, rfl, f1.1, hg.1, hg.2.1⟩)⟩
  · by_cases g1 : i = 0
    · rw [if_pos (by rw [g1]; rfl)]
      exact main g0
    · rw [if_neg (nI_ne0 (by omega) (by have := hz.1.2.1; omega)), if_pos (show 2 ≤ nI s from nI_le (a := 2) (by omega) (by omega))]
      exact main g0
