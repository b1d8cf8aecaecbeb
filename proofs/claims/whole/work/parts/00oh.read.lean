/-! Reading a table volume's tree: items, letter, enter, up. -/
theorem qM_fails {K : Nat} (T : MS) (x : Prop) (c : Int32) (hx : T.v_thrown = 0) (hc : ¬ c = 0) : f_Mo_fails K T (b01 x) c = some (b01 x, cif x (T.u_v_thrown c) T) := by
  unfold f_Mo_fails f_Mo_fails_16
  by_cases w : x
  · rw [if_neg (fun y => b01_0.mp y w), if_pos hx, q_l, if_neg (show ¬ (T.u_v_thrown c).v_thrown = 0 from hc), b01_t w, cif_t w]; rfl
  · rw [if_pos (b01_0.mpr w), if_pos hx, b01_f w, cif_f w]; rfl
/-- what the calls that read begin with -/
theorem preA {K N t m : Nat} {D E : Nat → Int32} {G : CG} {S : CS} {T : MS} (hK : 20000 ≤ K) (h : ivA N t m D E G S T) : ∃ G' S' T', f_Vt_look K G S = some (nI (if flt N D = 1 then 0 else 1), G', S') ∧ f_Mo_look K (T.u_v_thrown 0) = some T' ∧ T'.v_thrown = 0 ∧ T'.v_turned = 0 ∧ T'.v_fault = nI (flt N D) ∧ S'.v_Vt_lastFault = nI (flt N D) ∧ ivA N t m D E G' S' T' ∧ coV S' = coV S ∧ coL T' = coL (T.u_v_thrown 0) ∧ (flt N D = 0 → ∃ fks z hh, trE N D = .ok (fks, z) ∧ tv N m D E fks z hh G' S' T') := by
  obtain ⟨G1, S1, c1, c2, c3, c4, c5, c6⟩ := ivA_lookC hK h
  have h1 := ivA_thr h 0
  obtain ⟨T1, m1, m2, m3⟩ := ivA_lookM hK h1
  obtain ⟨f1, f2, -⟩ := lkR_f m3
  have hiv := ivA_after h1 m2 m3 c2 c3 c4 c5 c6
  refine ⟨G1, S1, T1, c1, m1, coL_v_thrown m2, (coL_v_turned m2).trans h1.1.2.2.2.2.2.1.1, f1, (lkC_f c6).1, hiv, c2, m2, fun hf => ?_⟩
  cases e : trE N D with
  | error x =>
    rw [flt_er e] at hf
    have := trE_err e
    omega
  | ok x =>
    obtain ⟨fks, z⟩ := x
    obtain ⟨hh, v⟩ := ivA_tv hiv m3 c5 c6 e
    exact ⟨fks, z, hh, rfl, v⟩
/-- an answer, or a throw that the reference tells by its number -/
abbrev rsl (cod : Nat → Nat) (ok : Nat → Prop) (X : Option (Except Nat Int32 × CG × CS)) (Y : Option (Int32 × MS)) (I : CG → CS → MS → Prop) : Prop := (∃ r G' S' T', X = some (.ok r, G', S') ∧ Y = some (r, T') ∧ T'.v_thrown = nI 0 ∧ I G' S' T') ∨ (∃ e y G' S' T', X = some (.error e, G', S') ∧ Y = some (y, T') ∧ ok e ∧ T'.v_thrown = nI (cod e) ∧ I G' S' T')
theorem look_n {α : Type} {K N : Nat} {D : Nat → Int32} {G G' : CG} {S S' : CS} {f : Int32 → CG → CS → Option α} (h : f_Vt_look K G S = some (nI (if flt N D = 1 then 0 else 1), G', S')) : lf_n (f_Vt_look K G S) f = f (nI (if flt N D = 1 then 0 else 1)) G' S' := by rw [h]; rfl
theorem k2_ne (N : Nat) (D : Nat → Int32) : ¬ nI (if flt N D = 1 then 0 else 1) = 2 := by split <;> decide
theorem reads_no {K N : Nat} {D : Nat → Int32} {G : CG} {S : CS} (h : S.v_Vt_lastFault = nI (flt N D)) (hf : flt N D ≠ 0) : f_Vt_readsInodes K G S (nI (if flt N D = 1 then 0 else 1)) = some (.error 1, G.made 1 6, S) := by
  have := flt_le N D
  unfold f_Vt_readsInodes
  rw [if_neg (k2_ne N D), h, if_neg (nI_ne0 (by omega) (by omega))]
theorem reads_ok {K N : Nat} {D : Nat → Int32} {G : CG} {S : CS} (h : S.v_Vt_lastFault = nI (flt N D)) (hf : flt N D = 0) : f_Vt_readsInodes K G S (nI (if flt N D = 1 then 0 else 1)) = some (.ok 0, G, S) := by
  unfold f_Vt_readsInodes f_Vt_readsInodes_23
  rw [if_neg (k2_ne N D), h, hf, if_pos (show nI 0 = 0 from rfl), if_neg (show ¬ nI (if 0 = 1 then 0 else 1) = 2 by decide)]
theorem qM_none {K N : Nat} {D : Nat → Int32} {T T' : MS} (hl : f_Mo_look K (T.u_v_thrown 0) = some T') (h1 : T'.v_thrown = 0) (h2 : T'.v_turned = 0) (h3 : T'.v_fault = nI (flt N D)) : f_Mo_none K T = some (b01 (flt N D ≠ 0), cif (flt N D ≠ 0) (T'.u_v_thrown 1) T') := by
  have hb := flt_le N D
  unfold f_Mo_none f_Mo_none_28 f_Mo_none_29
  rw [q_l, hl, q_b, if_pos h2, h3]
  have key := qM_fails (K := K) T' (flt N D ≠ 0) 1 h1 (by decide)
  by_cases w : flt N D = 0
  · rw [w, if_pos (show nI 0 ≤ 0 by decide)]
    rw [b01_f (fun y => y w), cif_f (fun y => y w)] at key
    rw [b01_f (fun y => y rfl), cif_f (fun y => y rfl)]
    rw [show (0 : Int32) = nI 0 from rfl, key, q_c, q_g (Or.inl rfl)]
  · rw [if_neg (show ¬ nI (flt N D) ≤ 0 from nI_nle (by omega) (by omega))]
    rw [b01_t w, cif_t w] at key
    rw [b01_t w, cif_t w]
    rw [show (1 : Int32) = nI 1 from rfl] at key ⊢
    rw [key, q_c, q_g (Or.inr rfl)]
theorem a_ok {α β : Type} {x : α} {G : CG} {S : CS} {f : α → CG → CS → Option (Except Nat β × CG × CS)} : lf_a (some (.ok x, G, S)) f = f x G S := rfl
theorem a_er {α β : Type} {e : Nat} {G : CG} {S : CS} {f : α → CG → CS → Option (Except Nat β × CG × CS)} : lf_a (some ((.error e : Except Nat α), G, S)) f = some (.error e, G, S) := rfl
theorem opA_items {K N t m : Nat} {D E : Nat → Int32} {G : CG} {S : CS} {T : MS} (hK : 20000 ≤ K) (h : ivA N t m D E G S T) : rsl (fun _ => 1) (fun e => e = 1) (f_Vt_items K G S) (f_Mo_items K T) (fun G' S' T' => ivA N (t + 1) m D E G' S' T' ∧ coV S' = coV S) := by
  obtain ⟨G1, S1, T1, c1, m1, p1, p2, p3, p4, hiv, hco, hcl, p5⟩ := preA hK h
  have hN := h.1.1.2.1
  unfold f_Vt_items f_Vt_items_5 f_Mo_items
  rw [look_n c1, qM_none m1 p1 p2 p3, q_c]
  by_cases w : flt N D = 0
  rotate_left
  · rw [reads_no p4 w, a_er, b01_t w, cif_t w, if_neg (by decide)]
    exact Or.inr ⟨1, _, _, _, _, rfl, rfl, rfl, rfl, ivA_made (ivA_thr hiv 1), hco⟩
  · obtain ⟨fks, z, hh, -, v⟩ := p5 w
    rw [reads_ok p4 w, a_ok, b01_f (fun y => y w), cif_f (fun y => y w), if_pos (by decide), qM_many hK hN p2 v, q_c]
    unfold f_Vt_items_8
    have hj := v.2.2.1.1
    rw [if_pos rfl, v.2.2.1.2.2.1, qC_count v hj, q_c]
    exact Or.inl ⟨_, _, _, _, rfl, rfl, p1, ivA_t hiv, hco⟩
/-- number k of HERE: an item, or none such -/
theorem itemHere {K N m h : Nat} {D E : Nat → Int32} {fks : List Nat} {z : SS} {G : CG} {S : CS} {T : MS} (v : tv N m D E fks z h G S T) (p0 : Int32) : (∃ k, k < hn fks z h ∧ p0 = nI k ∧ f_Vt_itemHere K G S p0 = some (.ok (nI (fkI fks h + k)), G, S)) ∨ ((p0 < 0 ∨ nI (hn fks z h) ≤ p0) ∧ f_Vt_itemHere K G S p0 = some (.error 2, G.made 1 6, S)) := by
  have hlen := v.2.2.2.2.2.1.1.2.1
  have hle := hn_le v.2.2.2.2.2.2.2.1 (show h < fks.length by have := v.2.2.1.1; have := v.1.1.2.2.2.2.2.1; omega)
  unfold f_Vt_itemHere f_Vt_itemHere_19
  by_cases w1 : p0 < 0
  · rw [if_pos w1]
    exact Or.inr ⟨Or.inl w1, rfl⟩
  obtain ⟨k, k1, rfl⟩ := nI_of w1
  rw [if_neg w1, v.2.2.1.2.2.1, qC_count v v.2.2.1.1, q_c]
  by_cases w2 : k < hn fks z h
  · rw [if_pos (nI_lt w2 (by omega)), v.2.2.1.2.2.1, qC_kid v k v.2.2.1.1 v.2.2.1.2.1, q_c]
    exact Or.inl ⟨k, w2, rfl, rfl⟩
  · rw [if_neg (nI_nlt (Nat.le_of_not_lt w2) k1)]
    exact Or.inr ⟨Or.inr (nI_le (Nat.le_of_not_lt w2) k1), rfl⟩
/-- the reference's test of a number -/
theorem qM_no {K N t m : Nat} {D E : Nat → Int32} {G : CG} {S : CS} {T T' : MS} (hK : 20000 ≤ K) (hN : N ≤ 1024) (hl : f_Mo_look K (T.u_v_thrown 0) = some T') (h1 : T'.v_thrown = 0) (h2 : T'.v_turned = 0) (h3 : T'.v_fault = nI (flt N D)) (p0 : Int32) : (flt N D ≠ 0 → f_Mo_no K T p0 = some (1, T'.u_v_thrown 1)) ∧ (∀ fks z h, flt N D = 0 → tv N m D E fks z h G S T' → ((p0 < 0 ∨ nI (hn fks z h) ≤ p0) → f_Mo_no K T p0 = some (1, T'.u_v_thrown 2)) ∧ (∀ k, k < hn fks z h → p0 = nI k → f_Mo_no K T p0 = some (0, T'))) := by
  unfold f_Mo_no f_Mo_no_20 f_Mo_no_25 f_Mo_no_32
  rw [qM_none hl h1 h2 h3, q_c]
  refine ⟨fun w => ?_, fun fks z h w v => ?_⟩
  · rw [b01_t w, cif_t w, if_neg (by decide)]
  · rw [b01_f (fun y => y w), cif_f (fun y => y w), if_pos (by decide)]
    have hlen := v.2.2.2.2.2.1.1.2.1
    have hle := hn_le v.2.2.2.2.2.2.2.1 (show h < fks.length by have := v.2.2.1.1; have := v.1.1.2.2.2.2.2.1; omega)
    have k1 := qM_fails (K := K) T' True 2 h1 (by decide)
    have k0 := qM_fails (K := K) T' False 2 h1 (by decide)
    rw [b01_t trivial, cif_t trivial] at k1
    rw [b01_f (fun y => y), cif_f (fun y => y)] at k0
    have k1 : f_Mo_fails K T' 1 2 = some (1, T'.u_v_thrown 2) := k1
    have k0 : f_Mo_fails K T' 0 2 = some (0, T') := k0
    refine ⟨fun g => ?_, fun k hk e => ?_⟩
    · by_cases w1 : p0 < 0
      · rw [if_pos w1, k1, q_c, if_neg (by decide)]
      · rw [if_neg w1, qM_many hK hN h2 v, q_c, if_neg (fun y => by
          rcases g with g | g
          · exact w1 g
          · exact absurd y (Int32.not_lt.mpr g)), k1, q_c, if_neg (by decide)]
    · subst e
      rw [if_neg (nI_pos (by omega)), qM_many hK hN h2 v, q_c, if_pos (nI_lt hk (by omega)), k0, q_c, if_pos rfl]
