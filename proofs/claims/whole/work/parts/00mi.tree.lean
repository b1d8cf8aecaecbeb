/-! A directory, and the whole tree. -/
abbrev ext (z z' : SS) : Prop := (∃ l, sIt z' = sIt z ++ l) ∧ (∃ l, sTk z' = l ++ sTk z)
theorem ext_rf (z : SS) : ext z z := ⟨⟨[], by rw [List.append_nil]⟩, ⟨[], rfl⟩⟩
theorem ext_tr {a b c : SS} (h : ext a b) (g : ext b c) : ext a c := by
  obtain ⟨⟨l1, h1⟩, ⟨l2, h2⟩⟩ := h
  obtain ⟨⟨m1, g1⟩, ⟨m2, g2⟩⟩ := g
  exact ⟨⟨l1 ++ m1, by rw [g1, h1, List.append_assoc]⟩, ⟨m2 ++ l2, by rw [g2, h2, List.append_assoc]⟩⟩
theorem ext_len {a b : SS} (h : ext a b) : (sIt a).length ≤ (sIt b).length := by
  obtain ⟨⟨l1, h1⟩, -⟩ := h
  rw [h1, List.length_append]
  omega
theorem ext_itr {a b : SS} (h : ext a b) {j : Nat} (hj : j < (sIt a).length) : itr (sIt b) j = itr (sIt a) j := by
  obtain ⟨⟨l1, h1⟩, -⟩ := h
  rw [h1]
  unfold itr
  rw [List.getD_eq_getElem?_getD, List.getD_eq_getElem?_getD, List.getElem?_append_left hj]
theorem entS_ext {N i s p fk : Nat} {D : Nat → Int32} {z z' : SS} (e : entS N D i s p fk z = .ok z') : ext z z' := by
  unfold entS at e
  by_cases a1 : o1 D (p + 11) ≤ 63 ∧ daysP D p
  rotate_left
  · rw [cif_f a1] at e; cases e
  rw [cif_t a1] at e
  by_cases a2 : o1 D (p + 11) / 8 % 2 = 1
  · rw [cif_t a2] at e
    by_cases a3 : enLb D i p z
    · rw [cif_t a3] at e
      cases e
      exact ⟨⟨[], (List.append_nil _).symm⟩, ⟨[], rfl⟩⟩
    · rw [cif_f a3] at e; cases e
  rw [cif_f a2] at e
  by_cases a3 : enBad D p (sPe z)
  rotate_left
  · rw [cif_f a3] at e; cases e
  rw [cif_t a3] at e
  by_cases a4 : enTw D (sIt z) fk p (nmN D p (sPe z))
  · rw [cif_t a4] at e; cases e
  rw [cif_f a4] at e
  cases hE : entF N D p (sTk z) with
  | none => rw [entR_n hE] at e; cases e
  | some c =>
    rw [entR_s hE] at e
    cases e
    exact ⟨⟨_, rfl⟩, ⟨_, rfl⟩⟩
theorem slS_ext {N i fk s p : Nat} {D : Nat → Int32} {z z' : SS} (e : slS N D i fk s p z = .ok z') : ext z z' := by
  unfold slS at e
  by_cases g1 : 1 ≤ i ∧ s < 2
  · rw [cif_t g1] at e
    by_cases g2 : dtP D (sIt z) p i s
    · rw [cif_t g2] at e
      cases e
      exact ext_rf z
    · rw [cif_f g2] at e; cases e
  rw [cif_f g1] at e
  by_cases g2 : o1 D p = 229
  · rw [cif_t g2] at e
    by_cases g3 : pM (sPe z) = 0
    · rw [cif_t g3] at e
      cases e
      exact ext_rf z
    · rw [cif_f g3] at e; cases e
  rw [cif_f g2] at e
  by_cases g3 : o1 D (p + 11) % 64 = 15
  · rw [cif_t g3] at e
    by_cases g4 : ptP D p (sPe z)
    · rw [cif_t g4] at e
      cases e
      exact ⟨⟨[], (List.append_nil _).symm⟩, ⟨[], rfl⟩⟩
    · rw [cif_f g4] at e; cases e
  rw [cif_f g3] at e
  exact entS_ext e
theorem entS_err {N i s p fk e : Nat} {D : Nat → Int32} {z : SS} (h : entS N D i s p fk z = .error e) : 3 ≤ e ∧ e ≤ 5 := by
  unfold entS at h
  by_cases a1 : o1 D (p + 11) ≤ 63 ∧ daysP D p
  rotate_left
  · rw [cif_f a1] at h; cases h; omega
  rw [cif_t a1] at h
  by_cases a2 : o1 D (p + 11) / 8 % 2 = 1
  · rw [cif_t a2] at h
    by_cases a3 : enLb D i p z
    · rw [cif_t a3] at h; cases h
    · rw [cif_f a3] at h; cases h; omega
  rw [cif_f a2] at h
  by_cases a3 : enBad D p (sPe z)
  rotate_left
  · rw [cif_f a3] at h; cases h; omega
  rw [cif_t a3] at h
  by_cases a4 : enTw D (sIt z) fk p (nmN D p (sPe z))
  · rw [cif_t a4] at h; cases h; omega
  rw [cif_f a4] at h
  cases hE : entF N D p (sTk z) with
  | none => rw [entR_n hE] at h; cases h; omega
  | some c => rw [entR_s hE] at h; cases h
theorem slS_err {N i fk s p e : Nat} {D : Nat → Int32} {z : SS} (h : slS N D i fk s p z = .error e) : 3 ≤ e ∧ e ≤ 5 := by
  unfold slS at h
  by_cases g1 : 1 ≤ i ∧ s < 2
  · rw [cif_t g1] at h
    by_cases g2 : dtP D (sIt z) p i s
    · rw [cif_t g2] at h; cases h
    · rw [cif_f g2] at h; cases h; omega
  rw [cif_f g1] at h
  by_cases g2 : o1 D p = 229
  · rw [cif_t g2] at h
    by_cases g3 : pM (sPe z) = 0
    · rw [cif_t g3] at h; cases h
    · rw [cif_f g3] at h; cases h; omega
  rw [cif_f g2] at h
  by_cases g3 : o1 D (p + 11) % 64 = 15
  · rw [cif_t g3] at h
    by_cases g4 : ptP D p (sPe z)
    · rw [cif_t g4] at h; cases h
    · rw [cif_f g4] at h; cases h; omega
  rw [cif_f g3] at h
  exact entS_err h
theorem dirL_ok {N m i fk : Nat} {D : Nat → Int32} {tk0 ch : List Nat} (h : hdOk N D) (hN : N ≤ 1024) (hcl : ∀ x ∈ ch, isCl N D x) (hn : ch.Nodup) (hl : ch.length ≤ 514) (hd : ∀ x ∈ ch, x ∉ tk0) (hcp : capOk N D m) (hm : m ≤ 4000) : ∀ (d s : Nat) (z : SS) (s' : Nat) (z' : SS), s + d = ch.length * 16 * hc D → zOk N z → cin N D tk0 ch s z → i < (sIt z).length → dirL N D i fk ch d s z = .ok (s', z') → zOk N z' ∧ cin N D tk0 ch s' z' ∧ ext z z' ∧ s ≤ s' ∧ s' ≤ ch.length * 16 * hc D ∧ (s' < ch.length * 16 * hc D → o1 D (plS D ch s') = 0) := by
  intro d
  induction d with
  | zero =>
    intro s z s' z' h1 hz hi hii e
    rw [dirL] at e
    cases e
    exact ⟨hz, hi, ext_rf z, Nat.le_refl _, by omega, fun w => by omega⟩
  | succ d ih =>
    intro s z s' z' h1 hz hi hii e
    have hC := (hd_facts h hN).1
    rw [dirL] at e
    by_cases g : o1 D (plS D ch s) = 0
    · rw [cif_t g] at e
      cases e
      exact ⟨hz, hi, ext_rf z, Nat.le_refl _, by omega, fun _ => g⟩
    · rw [cif_f g] at e
      obtain ⟨z1, e1, e2⟩ := exb_ok e
      have hs1 : s < 514 * 16 * hc D := Nat.lt_of_lt_of_le (show s < ch.length * 16 * hc D by omega) (Nat.mul_le_mul_right _ (Nat.mul_le_mul_right _ hl))
      obtain ⟨k1, k2, k3⟩ := slS_ok h hN hcl hn hd (by omega) (by rcases hC with w | w | w <;> rw [w] at hs1 <;> omega) hcp hm hz hi hii e1
      obtain ⟨j1, j2, j3, j4, j5, j6⟩ := ih (s + 1) z1 s' z' (by omega) k1 k2 (by omega) e2
      exact ⟨j1, j2, ext_tr (slS_ext e1) j3, by omega, j5, j6⟩
theorem dirL_err {N i fk : Nat} {D : Nat → Int32} {ch : List Nat} : ∀ (d s : Nat) (z : SS) (e : Nat), dirL N D i fk ch d s z = .error e → 3 ≤ e ∧ e ≤ 5 := by
  intro d
  induction d with
  | zero => intro s z e h; rw [dirL] at h; cases h
  | succ d ih =>
    intro s z e h
    rw [dirL] at h
    by_cases g : o1 D (plS D ch s) = 0
    · rw [cif_t g] at h; cases h
    · rw [cif_f g] at h
      cases hs : slS N D i fk s (plS D ch s) z with
      | ok z1 => rw [hs] at h; exact ih _ _ _ h
      | error e1 => rw [hs] at h; cases h; exact slS_err hs
theorem qM_dirL {K N m i fk : Nat} {D : Nat → Int32} {tk0 ch : List Nat} {T0 : MS} (hK : 10000 ≤ K) (h : hdOk N D) (hN : N ≤ 1024) (hcp : capOk N D m) (hm : m ≤ 4000) (hcl : ∀ x ∈ ch, isCl N D x) (hn : ch.Nodup) (hl : ch.length ≤ 514) (hd : ∀ x ∈ ch, x ∉ tk0) (hM : mIs N D T0) (hF : T0.v_firstKid i = nI fk) (h1 : 1 ≤ fk) (hfl : T0.v_fault = 0) (hfo : ∀ q, q < ch.length → T0.v_folder q = nI (ch.getD q 0)) (hfs : T0.v_folders = nI ch.length) : ∀ (d s k : Nat) (z : SS) (T : MS), s + d = ch.length * 16 * hc D → d + 2 < k → scI N D i fk tk0 ch s z T0 T → (∀ s' z', dirL N D i fk ch d s z = .ok (s', z') → ∃ T', f_Mo_scan_66 K k (nI i) (nI s) T = f_Mo_scan_220 K (nI i) (nI s') T' ∧ scI N D i fk tk0 ch s' z' T0 T') ∧ (∀ e, dirL N D i fk ch d s z = .error e → ∃ T', f_Mo_scan_66 K k (nI i) (nI s) T = some T' ∧ T'.v_fault = nI e ∧ coM T' = coM T0) := by
  have hC := (hd_facts h hN).1
  have htot : ch.length * 16 * hc D < 2 ^ 20 := by
    have := Nat.mul_le_mul_right (hc D) (Nat.mul_le_mul_right 16 hl)
    rcases hC with w | w | w <;> rw [w] at this ⊢ <;> omega
  have fin : ∀ (s k : Nat) (e : Nat) (T' : MS), s ≤ ch.length * 16 * hc D → 3 ≤ e → e ≤ 5 → coM T' = coM T0 → f_Mo_scan_66 K (k + 1) (nI i) (nI s) (T'.u_v_fault (nI e)) = some (T'.u_v_fault (nI e)) := by
    intro s k e T' hs e1 e2 hco
    have hne : ¬ (T'.u_v_fault (nI e)).v_fault = 0 := nI_ne0 (by omega) (by omega)
    rw [f_Mo_scan_66]
    unfold f_Mo_scan_220
    rw [if_neg hne, if_neg hne, ite_self]
  intro d
  induction d with
  | zero =>
    intro s k z T hs hk hI
    obtain ⟨k, rfl⟩ : ∃ q, k = q + 1 := ⟨k - 1, by omega⟩
    obtain ⟨f1, v1, hz, hci, hii, hfk⟩ := hI
    have hTM : mIs N D T := mIs_co f1.1 hM
    have hfold : (T.v_folders * 16) * T.v_c = nI (ch.length * 16 * hc D) := by rw [f1.2.2.1, hfs, hTM.2.2.1, show (16 : Int32) = nI 16 from rfl, pk_mul, pk_mul]
    rw [dirL, f_Mo_scan_66, hfold, if_pos (nI_le (by omega) (by omega))]
    refine ⟨fun s' z' e => ?_, fun e he => (by cases he)⟩
    cases e
    exact ⟨T, rfl, f1, v1, hz, hci, hii, hfk⟩
  | succ d ih =>
    intro s k z T hs hk hI
    obtain ⟨k, rfl⟩ : ∃ q, k = q + 1 := ⟨k - 1, by omega⟩
    rw [dirL]
    by_cases g : o1 D (plS D ch s) = 0
    · rw [cif_t g]
      refine ⟨fun s' z' e => ?_, fun e he => (by cases he)⟩
      cases e
      refine ⟨T, ?_, hI⟩
      obtain ⟨f1, v1, hz, hci, hii, hfk⟩ := hI
      have hTM : mIs N D T := mIs_co f1.1 hM
      have hfold : (T.v_folders * 16) * T.v_c = nI (ch.length * 16 * hc D) := by rw [f1.2.2.1, hfs, hTM.2.2.1, show (16 : Int32) = nI 16 from rfl, pk_mul, pk_mul]
      have p1 := plS_lt h hN hcl (show s < ch.length * 16 * hc D by omega)
      rw [f_Mo_scan_66, hfold, if_neg (nI_ge (by omega) (by omega)), if_pos (f1.2.2.2.1.trans hfl), qM_slotAt hTM h hN hcl hl (fun q hq => by rw [f1.2.1]; exact hfo q hq) (by omega), q_c, rM1 D hTM.1 (by omega), q_c, if_pos (by rw [g]; rfl)]
    · rw [cif_f g]
      obtain ⟨q1, q2⟩ := qM_slot (k := k) hK h hN hcp hm hcl hn hl hd hM hF h1 hfl hfo hfs (by omega) hI g
      cases hsl : slS N D i fk s (plS D ch s) z with
      | ok z1 =>
        obtain ⟨T1, r1, r2⟩ := q1 z1 hsl
        rw [r1, exb_o]
        exact ih (s + 1) k z1 T1 (by omega) (by omega) r2
      | error e1 =>
        obtain ⟨T1, r1, r2, r3⟩ := q2 e1 hsl
        have he := slS_err hsl
        obtain ⟨k, rfl⟩ : ∃ q, k = q + 1 := ⟨k - 1, by omega⟩
        rw [r1, exb_e, fin (s + 1) k e1 T1 (by omega) he.1 he.2 r2]
        refine ⟨fun s' z' e => (by cases e), fun e h => ?_⟩
        cases h
        exact ⟨_, rfl, rfl, r2⟩
/-- what stays while directory i is read -/
abbrev fr2 (i : Nat) (T T' : MS) : Prop := coM T' = coM T ∧ T'.v_firstKid = T.v_firstKid ∧ (∀ j, j ≠ i → T'.v_kids j = T.v_kids j) ∧ T'.v_parent 0 = T.v_parent 0
abbrev cinD (N : Nat) (D : Nat → Int32) (z : SS) : Prop := ∃ vs : List Nat, vs.Nodup ∧ (∀ v ∈ vs, v < 16 * N ∧ cpP D (32 * v) ∧ clOf D (32 * v) ∈ sTk z) ∧ (sIt z).length ≤ 1 + vs.length ∧ (uns (sIt z)).length ≤ 22 * vs.length
theorem cinD_in {N : Nat} {D : Nat → Int32} {z : SS} {ch : List Nat} (h : cinD N D z) : cin N D (sTk z) ch 0 ((sIt z, sLb z), ch ++ sTk z, pe0) := by
  obtain ⟨vs, h1, h2, h3, h4⟩ := h
  exact ⟨vs, [], h1, fun v hv => ⟨(h2 v hv).1, (h2 v hv).2.1, Or.inl (h2 v hv).2.2⟩, fun v hv => by (cases hv), rfl, fun i hi => absurd hi (Nat.not_lt_zero _), h3, h4⟩
theorem cinD_out {N s : Nat} {D : Nat → Int32} {z z' : SS} {ch : List Nat} (h : hdOk N D) (hN : N ≤ 1024) (hcl : ∀ x ∈ ch, isCl N D x) (hs : s ≤ ch.length * 16 * hc D) (hi : cin N D (sTk z) ch s z') (he : ext ((sIt z, sLb z), ch ++ sTk z, pe0) z') : cinD N D z' := by
  obtain ⟨vs, ps, h1, h2, -, -, -, h3, h4⟩ := hi
  obtain ⟨-, ⟨l, hl⟩⟩ := he
  have hC := (hd_facts h hN).1
  refine ⟨vs, nodup_right h1, fun v hv => ?_, h3, h4⟩
  obtain ⟨a, b, c⟩ := h2 v hv
  refine ⟨a, b, ?_⟩
  rw [hl]
  refine List.mem_append_right _ ?_
  rcases c with c | ⟨t, t1, t2⟩
  · exact List.mem_append_right _ c
  · obtain ⟨-, -, p3, -⟩ := plS_lt h hN hcl (show t < ch.length * 16 * hc D by omega)
    rw [t2, plS_cl hC (hcl _ p3).1]
    exact List.mem_append_left _ p3
