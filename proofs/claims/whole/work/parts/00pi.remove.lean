/-! Slots marked free. -/
def mk (X : Nat → Int32) : List Nat → Nat → Int32
  | [] => X
  | q :: l => mk (st X q 229 1) l
theorem mk_ag {q : Nat} : ∀ (l : List Nat) (X Y : Nat → Int32), o1 X q = o1 Y q → o1 (mk X l) q = o1 (mk Y l) q := by
  intro l
  induction l with
  | nil => intro X Y h; exact h
  | cons a l ih => intro X Y h; exact ih _ _ (st_ag h)
theorem mk_out {q : Nat} : ∀ (l : List Nat) (X : Nat → Int32), q ∉ l → o1 (mk X l) q = o1 X q := by
  intro l
  induction l with
  | nil => intro X _; rfl
  | cons a l ih =>
    intro X h
    rw [mk, ih _ (fun w => h (List.mem_cons_of_mem _ w)), st_out]
    have : q ≠ a := fun w => h (by rw [w]; exact List.mem_cons_self)
    omega
theorem st_229 (X : Nat → Int32) (q : Nat) : upd X q (vp_nar .byte (-27)) = st X q 229 1 := by
  show upd X q (vp_nar .byte (-27)) = upd X (q + 0) (wb (nI (229 / 256 ^ 0)))
  rw [Nat.add_zero, show wb (nI (229 / 256 ^ 0)) = vp_nar .byte (-27) from by decide]
theorem qM_slotAtN {K N s : Nat} {D : Nat → Int32} {ch : List Nat} {T : MS} (hc0 : T.v_c = nI (hc D)) (ha0 : T.v_a = nI (ha D)) (h : hdOk N D) (hN : N ≤ 1024) (hcl : ∀ x ∈ ch, isCl N D x) (hl : ch.length ≤ 514) (hf : ∀ q, q < ch.length → T.v_folder q = nI (ch.getD q 0)) (hs : s < ch.length * 16 * hc D) : f_Mo_slotAt K T (nI s) = some (nI (plS D ch s), T) := by
  have hC := (hd_facts h hN).1
  obtain ⟨p1, p2, p3, p4⟩ := plS_lt h hN hcl hs
  have hq : s / (16 * hc D) < ch.length := by rw [Nat.div_lt_iff_lt_mul (by omega), ← Nat.mul_assoc]; exact hs
  have hs1 : s < 514 * 16 * hc D := Nat.lt_of_lt_of_le hs (Nat.mul_le_mul_right _ (Nat.mul_le_mul_right _ hl))
  have hpl : f_Mo_place K T (nI (ch.getD (s / (16 * hc D)) 0)) = some (nI (512 * (ha D + (ch.getD (s / (16 * hc D)) 0 - 2) * hc D)), T) := by
    unfold f_Mo_place
    rw [ha0, hc0, show (2 : Int32) = nI 2 from rfl, pk_sub (hcl _ p3).1, pk_mul, nI_add, show (512 : Int32) = nI 512 from rfl, pk_mul]
  unfold f_Mo_slotAt
  have e16 : 16 * T.v_c = nI (16 * hc D) := by rw [hc0, show (16 : Int32) = nI 16 from rfl, pk_mul]
  have ed : nI s / nI (16 * hc D) = nI (s / (16 * hc D)) := pk_div (by omega) (by omega) (by omega)
  have hne : ¬ nI (16 * hc D) = 0 := nI_ne0 (by omega) (by omega)
  rw [e16, q_g hne, ed, q_g (q_in (by omega) (by decide)), nI_clamp (by omega), hf _ hq, hpl, q_c, e16, q_g hne, pk_rem (by omega) (by omega) (by omega), show (32 : Int32) = nI 32 from rfl, pk_mul, nI_add]
  rfl
/-- the places of the slots from s on, d of them -/
def slR (D : Nat → Int32) (ch : List Nat) (s : Nat) : Nat → List Nat
  | 0 => []
  | d + 1 => plS D ch s :: slR D ch (s + 1) d
theorem slR_mem {D : Nat → Int32} {ch : List Nat} {q : Nat} : ∀ (d s : Nat), q ∈ slR D ch s d → ∃ r, s ≤ r ∧ r < s + d ∧ q = plS D ch r := by
  intro d
  induction d with
  | zero => intro s h; cases h
  | succ d ih =>
    intro s h
    rcases List.mem_cons.mp h with h | h
    · exact ⟨s, Nat.le_refl _, by omega, h⟩
    · obtain ⟨r, r1, r2, r3⟩ := ih (s + 1) h
      exact ⟨r, by omega, by omega, r3⟩
theorem qM_mark {K N j sl : Nat} {D : Nat → Int32} {ch : List Nat} (h : hdOk N D) (hN : N ≤ 1024) (hcl : ∀ x ∈ ch, isCl N D x) (hl : ch.length ≤ 514) (hj : j < 4200) (hsl : sl < ch.length * 16 * hc D) : ∀ (d s k : Nat) (T : MS), s + d = sl + 1 → d < k → T.v_slot j = nI sl → T.v_c = nI (hc D) → T.v_a = nI (ha D) → (∀ q, q < ch.length → T.v_folder q = nI (ch.getD q 0)) → f_Mo_remove_128 K k (nI j) (nI s) T = some ((T.u_v_disk (mk T.v_disk (slR D ch s d))).u_v_looked 0) := by
  have hC := (hd_facts h hN).1
  have hs1 : sl < 514 * 16 * hc D := Nat.lt_of_lt_of_le hsl (Nat.mul_le_mul_right _ (Nat.mul_le_mul_right _ hl))
  intro d
  induction d with
  | zero =>
    intro s k T h1 h2 h3 h4 h5 h6
    obtain ⟨k, rfl⟩ : ∃ m, k = m + 1 := ⟨k - 1, by omega⟩
    rw [f_Mo_remove_128, q_g (q_in (by omega) (by decide)), nI_clamp (by omega), h3, if_pos (nI_lt (by omega) (by omega))]
    rfl
  | succ d ih =>
    intro s k T h1 h2 h3 h4 h5 h6
    obtain ⟨k, rfl⟩ : ∃ m, k = m + 1 := ⟨k - 1, by omega⟩
    have hs : s < ch.length * 16 * hc D := by omega
    obtain ⟨p1, p2, p3⟩ := plS_in (k := 0) h hN hcl hs (by decide)
    rw [f_Mo_remove_128, q_g (q_in (by omega) (by decide)), nI_clamp (by omega), h3, if_neg (nI_nlt (by omega) (by omega)), qM_slotAtN h4 h5 h hN hcl hl h6 hs, q_c, q_g (q_in (by omega) (by decide)), nI_clamp (by omega), st_229, q_l, show (1 : Int32) = nI 1 from rfl, nI_add, q_l]
    rw [ih (s + 1) k (T.u_v_disk (st T.v_disk (plS D ch s) 229 1)) (by omega) (by omega) h3 h4 h5 h6]
    rfl
theorem qM_rmL {K N j sl pt : Nat} {D : Nat → Int32} {ch : List Nat} (hK : 1000 ≤ K) (h : hdOk N D) (hN : N ≤ 1024) (hcl : ∀ x ∈ ch, isCl N D x) (hl : ch.length ≤ 514) (hj : j < 4200) (hpt : pt ≤ sl) : ∀ (d i k : Nat) (T : MS), i + d = ch.length → d < k → T.v_links = nI ch.length → (∀ q, q < ch.length → T.v_chain q = nI (ch.getD q 0)) → T.v_v = nI (hv D) → T.v_y = nI (hy D) → T.v_z = nI (hz D) → T.v_slot j = nI sl → T.v_parts j = nI pt → f_Mo_remove_89 K k (nI j) (nI i) T = f_Mo_remove_128 K K (nI j) (nI (sl - pt)) (T.u_v_disk (lks D T.v_disk (frL (ch.drop i)))) := by
  intro d
  induction d with
  | zero =>
    intro i k T h1 h2 h3 h4 h5 h6 h7 h8 h9
    obtain ⟨k, rfl⟩ : ∃ m, k = m + 1 := ⟨k - 1, by omega⟩
    rw [f_Mo_remove_89, h3, if_pos (nI_le (by omega) (by omega)), q_g (q_in (by omega) (by decide)), q_g (q_in (by omega) (by decide)), nI_clamp (by omega), h8, h9, pk_sub hpt, q_l, List.drop_of_length_le (by omega)]
    rfl
  | succ d ih =>
    intro i k T h1 h2 h3 h4 h5 h6 h7 h8 h9
    obtain ⟨k, rfl⟩ : ∃ m, k = m + 1 := ⟨k - 1, by omega⟩
    have hi : i < ch.length := by omega
    have hmem : ch.getD i 0 ∈ ch := by
      rw [List.getD_eq_getElem?_getD, List.getElem?_eq_getElem hi]
      exact List.getElem_mem hi
    rw [f_Mo_remove_89, h3, if_neg (nI_ge hi (by omega)), q_g (q_in (by omega) (by decide)), nI_clamp (by omega), h4 i hi, show (0 : Int32) = nI 0 from rfl, qM_lk hK h hN (by have := (hcl _ hmem).2; omega) (by decide) h5 h6 h7, q_b, show (1 : Int32) = nI 1 from rfl, nI_add, q_l]
    rw [ih (i + 1) k (T.u_v_disk (lk D T.v_disk (ch.getD i 0) 0)) (by omega) (by omega) h3 h4 h5 h6 h7 h8 h9, drop_get hi]
    rfl
theorem qM_loadL {K : Nat} {ch : List Nat} (hl : ch.length ≤ 514) : ∀ (d i k : Nat) (T : MS), i + d = ch.length → d < k → T.v_links = nI ch.length → (∀ q, q < ch.length → T.v_chain q = nI (ch.getD q 0)) → (∀ q, q < i → T.v_folder q = nI (ch.getD q 0)) → ∃ f, f_Mo_loadFolder_11 K k (nI i) T = some ((T.u_v_folder f).u_v_folders (nI ch.length)) ∧ ∀ q, q < ch.length → f q = nI (ch.getD q 0) := by
  intro d
  induction d with
  | zero =>
    intro i k T h1 h2 h3 h4 h5
    obtain ⟨k, rfl⟩ : ∃ m, k = m + 1 := ⟨k - 1, by omega⟩
    refine ⟨T.v_folder, ?_, fun q hq => h5 q (by omega)⟩
    rw [f_Mo_loadFolder_11, h3, if_pos (nI_le (by omega) (by omega)), q_l]
    rfl
  | succ d ih =>
    intro i k T h1 h2 h3 h4 h5
    obtain ⟨k, rfl⟩ : ∃ m, k = m + 1 := ⟨k - 1, by omega⟩
    obtain ⟨f, e1, e2⟩ := ih (i + 1) k (T.u_v_folder (upd T.v_folder i (nI (ch.getD i 0)))) (by omega) (by omega) h3 h4 (fun q hq => by
      show upd T.v_folder i (nI (ch.getD i 0)) q = _
      by_cases w : q = i
      · rw [w, pk_us]
      · rw [pk_un w]; exact h5 q (by omega))
    refine ⟨f, ?_, e2⟩
    rw [f_Mo_loadFolder_11, h3, if_neg (nI_ge (by omega) (by omega)), q_g (q_in (by omega) (by decide)), q_g (q_in (by omega) (by decide)), nI_clamp (by omega), h4 i (by omega), q_l, show (1 : Int32) = nI 1 from rfl, nI_add, q_l, e1]
    rfl
