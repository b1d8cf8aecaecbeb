/-! A byte is poked. -/
theorem nd_sub : ∀ (m l : List Nat), l.Nodup → (∀ x ∈ l, x ∈ m) → l.length ≤ m.length := by
  intro m
  induction m with
  | nil =>
    intro l _ h
    cases l with
    | nil => exact Nat.le_refl _
    | cons a l => exact absurd (h a List.mem_cons_self) (fun w => by cases w)
  | cons a m ih =>
    intro l hn h
    have h1 : (l.filter (fun x => x != a)).length ≤ m.length := by
      refine ih _ (hn.filter _) (fun x hx => ?_)
      obtain ⟨h2, h3⟩ := List.mem_filter.mp hx
      rcases List.mem_cons.mp (h x h2) with w | w
      · rw [w] at h3; simp at h3
      · exact w
    have h2 : l.length ≤ (l.filter (fun x => x != a)).length + 1 := by
      clear h h1 ih
      induction l with
      | nil => simp
      | cons b l ih =>
        obtain ⟨n1, n2⟩ := List.nodup_cons.mp hn
        have := ih n2
        by_cases e : b = a
        · subst e
          have hf : l.filter (fun x => x != b) = l := List.filter_eq_self.mpr (fun x hx => by
            have : x ≠ b := fun w => n1 (w ▸ hx)
            simpa using this)
          rw [List.filter_cons_of_neg (by simp), hf]
          simp
        · rw [List.filter_cons_of_pos (by simpa using e)]
          simp only [List.length_cons]
          omega
    simp only [List.length_cons]
    omega
/-- slots that become such: at most those of a list -/
theorem capOk_more {N m : Nat} {D D' : Nat → Int32} (L : List Nat) (h : capOk N D m) (hL : ∀ v, v < 16 * N → v ∉ L → cpP D' (32 * v) → cpP D (32 * v)) : capOk N D' (m + L.length) := by
  intro vs hn hv
  have h1 : (vs.filter (fun v => decide (v ∉ L))).length ≤ m := by
    refine h _ (hn.filter _) (fun v hv' => ?_)
    obtain ⟨h2, h3⟩ := List.mem_filter.mp hv'
    exact ⟨(hv v h2).1, hL v (hv v h2).1 (by simpa using h3) (hv v h2).2⟩
  have h2 : (vs.filter (fun v => decide (v ∈ L))).length ≤ L.length := by
    refine nd_sub L _ (hn.filter _) (fun v hv' => ?_)
    obtain ⟨-, h3⟩ := List.mem_filter.mp hv'
    simpa using h3
  have h3 : vs.length = (vs.filter (fun v => decide (v ∈ L))).length + (vs.filter (fun v => decide (v ∉ L))).length := by
    clear h1 h2 hn hv
    induction vs with
    | nil => rfl
    | cons a vs ih =>
      by_cases e : a ∈ L
      · rw [List.filter_cons_of_pos (by simpa using e), List.filter_cons_of_neg (by simpa using e)]
        simp only [List.length_cons]
        omega
      · rw [List.filter_cons_of_neg (by simpa using e), List.filter_cons_of_pos (by simpa using e)]
        simp only [List.length_cons]
        omega
  omega
theorem capOk_le {N m m' : Nat} {D : Nat → Int32} (h : capOk N D m) (hm : m ≤ m') : capOk N D m' := fun vs a b => Nat.le_trans (h vs a b) hm
theorem cpP_slq {D E : Nat → Int32} {p q : Nat} (h : slq E q D p) : cpP E q ↔ cpP D p := by
  unfold cpP ptW
  rw [h 11 (by decide), h 12 (by decide), slq_2 h (j := 26) (by decide), slq_2 h (j := 1) (by decide), slq_days h, slq_sh h, slq_4 h (j := 28) (by decide)]
/-- a change of bytes within the slots of a list -/
theorem capOk_chg {N m : Nat} {D D' : Nat → Int32} (L : List Nat) (h : capOk N D m) (hL : ∀ p, p < 512 * N → p / 32 ∉ L → o1 D' p = o1 D p) : capOk N D' (m + L.length) := by
  refine capOk_more L h (fun v hv hn hc => ?_)
  refine (cpP_slq (fun j hj => ?_)).mp hc
  exact hL _ (by omega) (by rw [show (32 * v + j) / 32 = v by omega]; exact hn)
theorem trE_zok {N m : Nat} {D : Nat → Int32} (hN1 : 256 ≤ N) (hN : N ≤ 1024) (hcp : capOk N D m) (hm : m ≤ 4000) {fks : List Nat} {z : SS} (h : trE N D = .ok (fks, z)) : zOk N z ∧ fks.length = (sIt z).length := by
  obtain ⟨T', -, -, -, h2, -⟩ := qM_look (K := 20000) (T := (law_T N).u_v_disk D) (Nat.le_refl _) hN1 hN hcp hm rfl rfl rfl
  obtain ⟨-, -, -, -, -, -, a, b⟩ := h2 fks z h
  exact ⟨b, a⟩
theorem heR_0 {N m : Nat} {D : Nat → Int32} {S : CS} {T : MS} (hN1 : 256 ≤ N) (hN : N ≤ 1024) (hcp : capOk N D m) (hm : m ≤ 4000) (hS : S.v_Vt_here = nI 0) (hT : T.v_here = nI 0) : heR N D S T := by
  intro fks z h
  have := (trE_zok hN1 hN hcp hm h).1.1.1
  exact ⟨0, by omega, Or.inl rfl, hS, by rw [if_pos rfl]; exact hT⟩
theorem o1_upd_s {D : Nat → Int32} {p : Nat} {x : Int32} : o1 (upd D p x) p = ub x := by unfold o1; rw [pk_us]
theorem o1_upd_n {D : Nat → Int32} {p q : Nat} {x : Int32} (h : q ≠ p) : o1 (upd D p x) q = o1 D q := by unfold o1; rw [pk_un h]
theorem opA_poke {K N t m : Nat} {D E : Nat → Int32} {G : CG} {S : CS} {T : MS} (hK : 20000 ≤ K) (h : ivA N t m D E G S T) (hm1 : m + 1 ≤ 4000) (a b c : Int32) : ∃ r S' T' D' E' m', f_Vt_poke K G S a b c = some (r, S') ∧ f_Mo_poke K T a b c = some (r, T') ∧ ivA N t m' D' E' G S' T' ∧ m' ≤ m + 1 ∧ S'.v_Tp_used = S.v_Tp_used := by
  have h1 := ivA_thr h 0
  have hbase := h.1
  obtain ⟨h0, ⟨hn, hs, hpb⟩, ⟨hD, hE⟩, htp, hfl, ⟨htu, hr1, hr2⟩, ⟨hag, h27, hcp, hm⟩, hhe, hp0⟩ := hbase
  unfold f_Vt_poke f_Vt_poke_30 f_Mo_poke f_Mo_poke_46
  rw [q_l]
  have hran : (T.u_v_thrown 0).v_ran = T.v_ran := rfl
  have hn1 : (T.u_v_thrown 0).v_n = nI N := hn
  have no : ∃ S' T' D' E' m', some ((0 : Int32), S) = some (0, S') ∧ some ((0 : Int32), T.u_v_thrown 0) = some (0, T') ∧ ivA N t m' D' E' G S' T' ∧ m' ≤ m + 1 ∧ S'.v_Tp_used = S.v_Tp_used := ⟨S, _, D, E, m, rfl, rfl, h1, by omega, rfl⟩
  rw [hran, hr1]
  by_cases w0 : T.v_ran = 0
  rotate_left
  · rw [if_neg w0, if_neg w0]; exact ⟨0, no⟩
  rw [if_pos w0, if_pos w0]
  have hfull : ∀ p, p < 512 * N → o1 E p = o1 D p := by
    rcases hag with y | ⟨y, -⟩
    · exact y
    · rw [w0] at y; exact absurd y (by decide)
  rcases qC_hasD (K := K) (G := G) hs h0.2.1 a b with ⟨s, q, hs1, hq1, rfl, rfl, e⟩ | ⟨e, w⟩
  · rw [e, q_c, if_neg (show ¬ (1 : Int32) = 0 by decide), if_neg (nI_pos (by omega)), hn1, if_neg (nI_ge hs1 (by omega))]
    by_cases w2 : s = 2
    · rw [if_pos (by rw [w2]; rfl), if_pos (by rw [w2]; rfl)]; exact ⟨0, no⟩
    have n2 : ¬ nI s = 2 := fun y => w2 ((nI_eq (b := 2) (by omega) (by decide)).mp y)
    rw [if_neg n2, if_neg n2]
    by_cases w7 : s = 7
    · rw [if_pos (by rw [w7]; rfl), if_pos (by rw [w7]; rfl)]; exact ⟨0, no⟩
    have n7 : ¬ nI s = 7 := fun y => w7 ((nI_eq (b := 7) (by omega) (by decide)).mp y)
    rw [if_neg n7, if_neg n7, if_neg (nI_pos (by omega)), if_pos (show nI q ≤ 511 from nI_le (b := 511) (by omega) (by decide))]
    have e1 : 512 * nI s + nI q = nI (512 * s + q) := by rw [show (512 : Int32) = nI 512 from rfl, pk_mul, nI_add]
    have e2 : nI s * 512 + nI q = nI (512 * s + q) := by rw [show (512 : Int32) = nI 512 from rfl, pk_mul, nI_add, Nat.mul_comm]
    have hput : f_Dk_putOne K G S (nI (512 * s + q)) c = some (S.u_w_Dk_bytes (upd E (512 * s + q) (vp_nar .byte c.toInt8.toInt32))) := by
      unfold f_Dk_putOne
      rw [if_neg (nI_pos (by omega)), h.2.1.1.1, if_neg (nI_ge (by omega) (by omega)), q_g (q_in (by omega) (by omega)), q_l, nI_clamp (by omega), hE]
    rw [e1, e2, hput, q_b, q_g (q_in (by omega) (by decide)), q_l, nI_clamp (by omega)]
    unfold f_Vt_changed f_Mo_changed
    rw [q_l, q_b, q_l, q_l, q_b, q_l]
    have hD' : (T.u_v_thrown 0).v_disk = D := hD
    rw [hD']
    have key : ∀ p, p < 512 * N → o1 (upd E (512 * s + q) (vp_nar .byte c.toInt8.toInt32)) p = o1 (upd D (512 * s + q) (vp_nar .byte c.toInt8.toInt32)) p := by
      intro p hp
      by_cases y : p = 512 * s + q
      · rw [y, o1_upd_s, o1_upd_s]
      · rw [o1_upd_n y, o1_upd_n y]; exact hfull p hp
    have hcp' : capOk N (upd D (512 * s + q) (vp_nar .byte c.toInt8.toInt32)) (m + 1) := capOk_chg [(512 * s + q) / 32] hcp (fun p hp hnot => o1_upd_n (fun y => hnot (by rw [y]; exact List.mem_singleton.mpr rfl)))
    refine ⟨1, _, _, upd D (512 * s + q) (vp_nar .byte c.toInt8.toInt32), upd E (512 * s + q) (vp_nar .byte c.toInt8.toInt32), m + 1, rfl, rfl, ⟨⟨h0, ⟨hn, hs, hpb⟩, ⟨rfl, rfl⟩, htp, hfl, ⟨htu, hr1, hr2⟩, ⟨Or.inl key, fun p hp => ?_, hcp', hm1⟩, heR_0 h0.1 h0.2.1 hcp' hm1 rfl rfl, hp0⟩, h.2.1, Or.inl rfl, Or.inl rfl⟩, Nat.le_refl _, rfl⟩
    rw [o1_upd_n (by omega)]
    exact h27 p hp
  · rw [e, q_c, if_pos rfl]
    by_cases w1 : a < 0
    · rw [if_pos w1]; exact ⟨0, no⟩
    rw [if_neg w1, hn1]
    by_cases w2 : nI N ≤ a
    · rw [if_pos w2]; exact ⟨0, no⟩
    rw [if_neg w2]
    by_cases w3 : a = 2
    · rw [if_pos w3]; exact ⟨0, no⟩
    rw [if_neg w3]
    by_cases w4 : a = 7
    · rw [if_pos w4]; exact ⟨0, no⟩
    rw [if_neg w4]
    by_cases w5 : b < 0
    · rw [if_pos w5]; exact ⟨0, no⟩
    rw [if_neg w5, if_neg (fun y : b ≤ 511 => by
      rcases w with w | w | w | w
      · exact w1 w
      · exact w2 w
      · exact w5 w
      · exact absurd (Int32.le_trans w y) (by decide))]
    exact ⟨0, no⟩
