/-! The tree of a table volume, and its fault. -/
abbrev isDr (D : Nat → Int32) (its : List It) (i : Nat) : Prop := i = 0 ∨ o1 D (isp (itr its i) + 11) / 16 % 2 = 1
noncomputable def scL (N : Nat) (D : Nat → Int32) : Nat → Nat → List Nat → SS → Except Nat (List Nat × SS)
  | 0, _, fks, z => .ok (fks, z)
  | m + 1, i, fks, z => if i < (sIt z).length then exb (cif (isDr D (sIt z) i) (dirS N D i z) (.ok z)) (scL N D m (i + 1) (fks ++ [(sIt z).length])) else .ok (fks, z)
def z0 : SS := (([it0], none), [], pe0)
abbrev stray (N : Nat) (D : Nat → Int32) (tk : List Nat) : Prop := ∃ x, 2 ≤ x ∧ x < hk N D + 2 ∧ ent D x ≠ 0 ∧ x ∉ tk
noncomputable def trS (N : Nat) (D : Nat → Int32) : Except Nat (List Nat × SS) := exb (scL N D 5000 0 [] z0) (fun x => cif (stray N D (sTk x.2)) (.error 6) (.ok x))
noncomputable def trE (N : Nat) (D : Nat → Int32) : Except Nat (List Nat × SS) := cif (hdOk N D) (cif (tabOk N D) (trS N D) (.error 2)) (.error 1)
/-- where the items of a directory begin, and how many there are -/
abbrev fkI (fks : List Nat) (j : Nat) : Nat := fks.getD j 0
abbrev kcI (fks : List Nat) (n j : Nat) : Nat := fks.getD (j + 1) n - fks.getD j 0
abbrev kdR (fks : List Nat) (n : Nat) (T : MS) : Prop := ∀ j, j < fks.length → T.v_firstKid j = nI (fkI fks j) ∧ T.v_kids j = nI (kcI fks n j)
theorem getD_app1 {l : List Nat} {x j d : Nat} (h : j < l.length) : (l ++ [x]).getD j d = l.getD j d := by
  rw [List.getD_eq_getElem?_getD, List.getD_eq_getElem?_getD, List.getElem?_append_left h]
theorem getD_app2 {l : List Nat} {x d : Nat} : (l ++ [x]).getD l.length d = x := by
  rw [List.getD_eq_getElem?_getD, List.getElem?_append_right (Nat.le_refl _), Nat.sub_self]
  rfl
theorem getD_out {l : List Nat} {j d : Nat} (h : l.length ≤ j) : l.getD j d = d := by
  rw [List.getD_eq_getElem?_getD, List.getElem?_eq_none h]
  rfl
theorem z0_ok {N : Nat} (hN : 256 ≤ N) : zOk N z0 := by
  refine ⟨⟨by decide, by decide, by decide, fun u hu => ?_, fun j h1 h2 => ?_⟩, pe0_ok, fun q hq => by cases hq⟩
  · cases hu
  · have : j < 1 := h2
    omega
theorem z0_cin (N : Nat) (D : Nat → Int32) : cinD N D z0 := ⟨[], List.nodup_nil, fun v hv => by (cases hv), by decide, by decide⟩
theorem cinD_bnd {N m : Nat} {D : Nat → Int32} {z : SS} (h : cinD N D z) (hc : capOk N D m) : (sIt z).length ≤ 1 + m := by
  obtain ⟨vs, h1, h2, h3, h4⟩ := h
  have := hc vs h1 (fun v hv => ⟨(h2 v hv).1, (h2 v hv).2.1⟩)
  omega
abbrev lkI (N : Nat) (D : Nat → Int32) (fks : List Nat) (z : SS) (T0 T : MS) : Prop := coM T = coM T0 ∧ T.v_parent 0 = T0.v_parent 0 ∧ T.v_fault = 0 ∧ rmI (sIt z) T ∧ tkR N T.v_chained (sTk z) ∧ T.v_label = lbI (sLb z) ∧ kdR fks (sIt z).length T ∧ zOk N z ∧ cinD N D z
theorem qM_look87 {K N m : Nat} {D : Nat → Int32} {T0 : MS} (hK : 20000 ≤ K) (h : hdOk N D) (hN : N ≤ 1024) (hcp : capOk N D m) (hm : m ≤ 4000) (hM : mIs N D T0) : ∀ (d k : Nat) (fks : List Nat) (z : SS) (T : MS), fks.length + d = 5000 → d < k → fks.length ≤ (sIt z).length → lkI N D fks z T0 T → (∀ f' z', scL N D d fks.length fks z = .ok (f', z') → ∃ T', f_Mo_look_87 K k (nI fks.length) T = f_Mo_look_138 K T' ∧ f'.length = (sIt z').length ∧ lkI N D f' z' T0 T') ∧ (∀ e, scL N D d fks.length fks z = .error e → ∃ T', f_Mo_look_87 K k (nI fks.length) T = f_Mo_look_138 K T' ∧ T'.v_fault = nI e ∧ 3 ≤ e ∧ e ≤ 5 ∧ coM T' = coM T0) := by
  intro d
  induction d with
  | zero =>
    intro k fks z T h1 h2 h3 hI
    have := cinD_bnd hI.2.2.2.2.2.2.2.2 hcp
    omega
  | succ d ih =>
    intro k fks z T h1 h2 h3 hI
    obtain ⟨k, rfl⟩ : ∃ q, k = q + 1 := ⟨k - 1, by omega⟩
    obtain ⟨i1, i2, i3, i4, i5, i6, i7, i8, i9⟩ := hI
    have hb := cinD_bnd i9 hcp
    rw [scL, f_Mo_look_87, i4.1]
    by_cases g : fks.length < (sIt z).length
    rotate_left
    · rw [if_neg g, if_pos (nI_le (by omega) (by omega))]
      refine ⟨fun f' z' e => ?_, fun e he => (by cases he)⟩
      cases e
      exact ⟨T, rfl, by omega, i1, i2, i3, i4, i5, i6, i7, i8, i9⟩
    rw [if_pos g, if_neg (nI_ge g (by omega)), if_pos i3]
    have hin : lf_in (nI fks.length) 4200 := q_in (by omega) (by decide)
    have hcl : (nI fks.length).toNatClampNeg = fks.length := nI_clamp (by omega)
    rw [q_g hin, q_l, q_g hin, q_l, hcl]
    generalize hT1 : (T.u_v_firstKid (upd T.v_firstKid fks.length (nI (sIt z).length))).u_v_kids (upd (T.u_v_firstKid (upd T.v_firstKid fks.length (nI (sIt z).length))).v_kids fks.length 0) = T1
    have a1 : coM T1 = coM T0 := by rw [← hT1]; exact i1
    have aM : mIs N D T1 := mIs_co a1 hM
    have a4 : rmI (sIt z) T1 := by rw [← hT1]; exact i4
    have a5 : tkR N T1.v_chained (sTk z) := by rw [← hT1]; exact i5
    have a6 : T1.v_label = lbI (sLb z) := by rw [← hT1]; exact i6
    have a3 : T1.v_fault = 0 := by rw [← hT1]; exact i3
    have a2 : T1.v_parent 0 = T0.v_parent 0 := by rw [← hT1]; exact i2
    have aF : T1.v_firstKid fks.length = nI (sIt z).length := by rw [← hT1]; exact pk_us
    have aK : T1.v_kids fks.length = nI 0 := by rw [← hT1]; exact pk_us
    have aF' : ∀ j, j ≠ fks.length → T1.v_firstKid j = T.v_firstKid j := fun j hj => by rw [← hT1]; exact pk_un hj
    have aK' : ∀ j, j ≠ fks.length → T1.v_kids j = T.v_kids j := fun j hj => by rw [← hT1]; exact pk_un hj
    -- the rows of those before, and of this one
    have kd : ∀ (z' : SS) (T' : MS), ext z z' → T'.v_firstKid = T1.v_firstKid → (∀ j, j ≠ fks.length → T'.v_kids j = T1.v_kids j) → T'.v_kids fks.length = nI ((sIt z').length - (sIt z).length) → kdR (fks ++ [(sIt z).length]) (sIt z').length T' := by
      intro z' T' he e1 e2 e3 j hj
      rw [List.length_append] at hj
      have hj : j < fks.length + 1 := hj
      unfold fkI kcI
      by_cases w : j = fks.length
      · subst w
        rw [e1, aF, e3, getD_app2, getD_out (by rw [List.length_append]; exact Nat.le_refl _)]
        exact ⟨rfl, rfl⟩
      · obtain ⟨b1, b2⟩ := i7 j (by omega)
        rw [e1, aF' j w, b1, e2 j w, aK' j w, b2, getD_app1 (by omega)]
        refine ⟨rfl, ?_⟩
        by_cases y : j + 1 = fks.length
        · rw [y, getD_app2]
          unfold kcI
          rw [y, getD_out (Nat.le_refl _)]
        · rw [getD_app1 (by omega)]
          unfold kcI
          congr 2
          rw [List.getD_eq_getElem?_getD, List.getD_eq_getElem?_getD, List.getElem?_eq_getElem (by omega)]
          rfl
    rw [qM_isFolder aM.1 hN a4 i8.1 g, q_c]
    unfold f_Mo_look_132
    by_cases w : isDr D (sIt z) fks.length
    · rw [b01_t w, if_neg (by decide), cif_t w]
      obtain ⟨q1, q2⟩ := qM_scan (K := K) (i := fks.length) hK h hN hcp hm aM i8 i9 a4 a5 a6 aF aK a3 g
      cases hd : dirS N D fks.length z with
      | error e1 =>
        obtain ⟨T2, r1, r2, r3, r4, r5⟩ := q2 e1 hd
        rw [r1, q_b, q_l, nI_1, exb_e]
        refine ⟨fun f' z' e => (by cases e), fun e he => ?_⟩
        cases he
        refine ⟨T2, ?_, r2, r3, r4, r5.trans a1⟩
        obtain ⟨k, rfl⟩ : ∃ q, k = q + 1 := ⟨k - 1, by omega⟩
        have hne : ¬ T2.v_fault = 0 := by rw [r2]; exact nI_ne0 (by omega) (by omega)
        rw [f_Mo_look_87, if_neg hne, ite_self]
      | ok z1 =>
        obtain ⟨T2, r1, r2, r3, r4, r5, r6, r7⟩ := q1 z1 hd
        rw [r1, q_b, q_l, nI_1, exb_o]
        have hl := ext_len r7
        have := ih k (fks ++ [(sIt z).length]) z1 T2 (by rw [List.length_append]; simp only [List.length_cons, List.length_nil]; omega) (by omega) (by rw [List.length_append]; simp only [List.length_cons, List.length_nil]; omega) ⟨r3.1.trans a1, r3.2.2.2.trans a2, r2, r4.1, r4.2.2.1, r4.2.2.2.1, kd z1 T2 r7 r3.2.1 r3.2.2.1 r4.2.2.2.2, r5, r6⟩
        rw [List.length_append] at this
        exact this
    · rw [b01_f w, if_pos (by decide), cif_f w, exb_o, q_l, nI_1]
      have := ih k (fks ++ [(sIt z).length]) z T1 (by rw [List.length_append]; simp only [List.length_cons, List.length_nil]; omega) (by omega) (by rw [List.length_append]; simp only [List.length_cons, List.length_nil]; omega) ⟨a1, a2, a3, a4, a5, a6, kd z T1 (ext_rf z) rfl (fun _ _ => rfl) (by rw [aK, Nat.sub_self]), i8, i9⟩
      rw [List.length_append] at this
      exact this
theorem qM_look140 {K N : Nat} {D : Nat → Int32} {T : MS} {tk : List Nat} (hK : 20000 ≤ K) (h : hdOk N D) (hN : N ≤ 1024) (hM : mIs N D T) (htk : tkR N T.v_chained tk) (hf : T.v_fault = 0) : f_Mo_look_138 K T = some (T.u_v_fault (cif (stray N D tk) (nI 6) (nI 0))) := by
  have hk5 := (hd_facts h hN).2.2.2.2.2.2.2.2.2.2.2.2.2.2
  have same : T.u_v_fault 0 = T := by rw [← hf]; rfl
  have key : ∀ (d x k : Nat), x + d = hk N D + 2 → 2 ≤ x → d + 1 < k → f_Mo_look_140 K k (nI x) T = some (T.u_v_fault (cif (∃ y, x ≤ y ∧ y < hk N D + 2 ∧ ent D y ≠ 0 ∧ y ∉ tk) (nI 6) (nI 0))) := by
    intro d
    induction d with
    | zero =>
      intro x k h1 h2 h3
      obtain ⟨k, rfl⟩ : ∃ q, k = q + 1 := ⟨k - 1, by omega⟩
      rw [f_Mo_look_140, hM.2.2.2.2.2.2.2.2, show (2 : Int32) = nI 2 from rfl, nI_add, if_pos (nI_le (by omega) (by omega)), cif_f (fun ⟨y, a, b, _⟩ => by omega)]
      exact congrArg some same.symm
    | succ d ih =>
      intro x k h1 h2 h3
      obtain ⟨k, rfl⟩ : ∃ q, k = q + 1 := ⟨k - 1, by omega⟩
      have hx := ent_lt D x
      rw [f_Mo_look_140, hM.2.2.2.2.2.2.2.2, show (2 : Int32) = nI 2 from rfl, nI_add, if_neg (nI_ge (by omega) (by omega)), if_pos hf, qM_entry hM h hN (by omega), q_c]
      unfold f_Mo_look_180
      have nx := ih (x + 1) k (by omega) (by omega) (by omega)
      have skip : (ent D x = 0 ∨ x ∈ tk) → cif (∃ y, x ≤ y ∧ y < hk N D + 2 ∧ ent D y ≠ 0 ∧ y ∉ tk) (nI 6) (nI 0) = cif (∃ y, x + 1 ≤ y ∧ y < hk N D + 2 ∧ ent D y ≠ 0 ∧ y ∉ tk) (nI 6) (nI 0) := by
        intro ho
        by_cases w : ∃ y, x + 1 ≤ y ∧ y < hk N D + 2 ∧ ent D y ≠ 0 ∧ y ∉ tk
        · rw [cif_t w]
          obtain ⟨y, a, b⟩ := w
          rw [cif_t ⟨y, by omega, b⟩]
        · rw [cif_f w, cif_f (fun ⟨y, a, b, c, e⟩ => w ⟨y, by
            rcases Nat.lt_or_ge x y with v | v
            · exact v
            · obtain rfl : y = x := by omega
              exact ho.elim (fun q => absurd q c) (fun q => absurd q e), b, c, e⟩)]
      by_cases g1 : ent D x = 0
      · rw [if_pos (by rw [g1]; rfl), q_l, nI_1, nx, skip (Or.inl g1)]
      · rw [if_neg (nI_ne0 (by omega) (by omega)), q_g (q_in (by omega) (by decide)), nI_clamp (by omega), htk x (by omega)]
        by_cases g2 : x ∈ tk
        · rw [if_pos g2, if_neg (by decide), q_l, nI_1, nx, skip (Or.inr g2)]
        · rw [if_neg g2, if_pos (by decide), q_l, q_l, nI_1]
          obtain ⟨k, rfl⟩ : ∃ q, k = q + 1 := ⟨k - 1, by omega⟩
          have hne : ¬ (T.u_v_fault 6).v_fault = 0 := by show ¬ (6 : Int32) = 0; decide
          rw [f_Mo_look_140, if_neg hne, ite_self, cif_t ⟨x, Nat.le_refl _, by omega, g1, g2⟩]
          rfl
  unfold f_Mo_look_138
  rw [show (2 : Int32) = nI 2 from rfl, key (hk N D) 2 K (by omega) (by omega) (by omega)]
