/-! Blocks copied, a file laid by the reference. -/
theorem ub_nar (x : Int32) : ub (vp_nar .byte x) = ub x := by
  rw [vp_nar_byte, ← pk_vb, ub_b8]
def cpB (F D : Nat → Int32) (b s : Nat) : Nat → Nat → Int32
  | 0 => F
  | j + 1 => upd (cpB F D b s j) (1024 * b + j) (vp_nar .byte (D (s + j)))
theorem cpB_o1 {F D : Nat → Int32} {b s q : Nat} : ∀ n, o1 (cpB F D b s n) q = if 1024 * b ≤ q ∧ q < 1024 * b + n then o1 D (s + (q - 1024 * b)) else o1 F q := by
  intro n
  induction n with
  | zero => rw [cpB, if_neg (by omega)]
  | succ n ih =>
    rw [cpB]
    by_cases g : q = 1024 * b + n
    · rw [g, o1_upd_s, ub_nar, if_pos (by omega), Nat.add_sub_cancel_left]
      rfl
    · rw [o1_upd_n g, ih]
      by_cases g2 : 1024 * b ≤ q ∧ q < 1024 * b + n
      · rw [if_pos g2, if_pos (by omega)]
      · rw [if_neg g2, if_neg (by omega)]
theorem ql_cp40 {K b s : Nat} {D : Nat → Int32} {T : MS} {F U : Nat → Int32} {n : Nat} {R : Rg} (hD : T.v_disk = D) (hb : b < 512) (hs : s + 1024 ≤ 524288) : ∀ (d j k : Nat), j + d = 1024 → d < k → f_Mo_copied_40 K k (nI b) (nI s) (nI j) (qS T (cpB F D b s j) U n R) = some (nI b, qS T (cpB F D b s 1024) (upd U b (vp_nar .boolean 1)) n R) := by
  intro d
  induction d with
  | zero =>
    intro j k e1 e2
    obtain ⟨k, rfl⟩ : ∃ m, k = m + 1 := ⟨k - 1, by omega⟩
    obtain rfl : j = 1024 := by omega
    rw [f_Mo_copied_40, if_pos (show (1024 : Int32) ≤ nI 1024 from nI_le (a := 1024) (by omega) (by omega)), q_g (q_in (by omega) (by decide)), q_l, nI_clamp (by omega)]
    rfl
  | succ d ih =>
    intro j k e1 e2
    obtain ⟨k, rfl⟩ : ∃ m, k = m + 1 := ⟨k - 1, by omega⟩
    rw [f_Mo_copied_40, if_neg (show ¬ (1024 : Int32) ≤ nI j from nI_ge (b := 1024) (by omega) (by omega)), nI_add, q_g (q_in (by omega) (by decide)), show (1024 : Int32) * nI b = nI (1024 * b) from pk_mul _ _, nI_add, q_g (q_in (by omega) (by decide)), nI_clamp (by omega), nI_clamp (by omega), q_l, nI_1, q_l, show (qS T (cpB F D b s j) U n R).v_disk (s + j) = D (s + j) by rw [← hD]; rfl]
    exact ih (j + 1) k (by omega) (by omega)
/-- the block from which block q of a chain comes -/
def srB (A H : Nat) (ch : List Nat) (q : Nat) : Nat := A + (ch.getD (q / H) 0 - 2) * H + q % H
theorem chL_get {A H : Nat} {gl : Nat → Nat} (hH : 1 ≤ H) : ∀ (ch : List Nat) (q : Nat), q < ch.length * H → (chL A H gl ch).getD q 0 = bOf A H gl (ch.getD (q / H) 0) + q % H := by
  intro ch
  induction ch with
  | nil => intro q h; rw [List.length_nil, Nat.zero_mul] at h; omega
  | cons c ch ih =>
    intro q h
    rw [List.length_cons, Nat.succ_mul] at h
    have hbl : ∀ d j s, s < d → (blk (bOf A H gl c) d j).getD s 0 = bOf A H gl c + (j + s) := by
      intro d
      induction d with
      | zero => intro j s hs; omega
      | succ d ihd =>
        intro j s hs
        cases s with
        | zero => rfl
        | succ s =>
          show (blk (bOf A H gl c) d (j + 1)).getD s 0 = _
          rw [ihd (j + 1) s (by omega)]
          omega
    rw [chL]
    by_cases g : q < H
    · rw [List.getD_eq_getElem?_getD, List.getElem?_append_left (by rw [blk_len]; exact g), ← List.getD_eq_getElem?_getD, hbl H 0 q g, Nat.div_eq_of_lt g, Nat.mod_eq_of_lt g, Nat.zero_add]
      rfl
    · have e1 : q / H = (q - H) / H + 1 := by
        rw [← Nat.add_div_right _ (by omega), Nat.sub_add_cancel (by omega)]
      have e2 : q % H = (q - H) % H := by
        rw [← Nat.add_mod_right (q - H) H, Nat.sub_add_cancel (by omega)]
      rw [List.getD_eq_getElem?_getD, List.getElem?_append_right (by rw [blk_len]; omega), blk_len, ← List.getD_eq_getElem?_getD, ih (q - H) (by omega), e1, e2]
      rfl
theorem ql_copied {K q : Nat} {N : Nat} {D : Nat → Int32} {fks : List Nat} {its : List It} {A H k B P g0 r : Nat} {gl : Nat → Nat} {rm ch : List Nat} {T : MS} {F U : Nat → Int32} {n : Nat} {R : Rg} (hK : 2000 ≤ K) (h : tnM N D fks its A H k B P g0 r gl rm T) (hgl : ∀ c, gl c < k + 2) (hch : ∀ s, s < ch.length → R.2.2.2.2.2.1 s = nI (ch.getD s 0)) (hcl : ∀ c ∈ ch, 2 ≤ c ∧ c < k + 2 ∧ 2 ≤ stnd gl c) (hl : ch.length ≤ 514) (hq : q < ch.length * H) : f_Mo_copied K (qS T F U n R) (nI q) = some (nI ((chL A H gl ch).getD q 0), qS T (cpB F D ((chL A H gl ch).getD q 0) (1024 * srB A H ch q) 1024) (upd U ((chL A H gl ch).getD q 0) (vp_nar .boolean 1)) n R) := by
  obtain ⟨hM, ⟨hpl, hT, hI, hr, hil⟩, hbd, hmv, -, -⟩ := h
  obtain ⟨p1, p2, p3, p4, p5, p6, p7, p8⟩ := hpl
  have hH : 1 ≤ H ∧ H ≤ 4 := by omega
  have hqH : q / H < ch.length := (Nat.div_lt_iff_lt_mul (by omega)).mpr hq
  have hx := hcl _ (getD_mem hqH)
  have hml := Nat.mod_lt q (show 0 < H by omega)
  have hdm := Nat.div_add_mod q H
  have hqb : q < 2100 := by
    have : ch.length * H ≤ 514 * 4 := Nat.mul_le_mul hl hH.2
    omega
  have hc2 : T.v_c / 2 = nI H := by rw [hT.2.1]; exact half (by omega)
  have ha2 : T.v_a / 2 = nI A := by rw [hT.1]; exact half (by omega)
  have hmo : nI q - nI q / nI H * nI H = nI (q % H) := by
    rw [pk_div (by omega) (by omega) (by omega), pk_mul, pk_sub (Nat.div_mul_le_self q H)]
    congr 1
    rw [Nat.mul_comm] at hdm
    omega
  have hdv : nI q / nI H = nI (q / H) := pk_div (by omega) (by omega) (by omega)
  rw [chL_get (by omega) ch q hq]
  generalize hxe : ch.getD (q / H) 0 = x at *
  have hst : stnd gl x < k + 2 := by
    unfold stnd
    split
    · exact hx.2.1
    · exact hgl x
  have hbl := blk_lt (j := q % H) p8 hx.2.2 hst hml
  have hbl2 := blk_lt (j := q % H) p8 hx.1 hx.2.1 hml
  have hstand : f_Mo_standing K (qS T F U n R) (nI q) = some (nI (bOf A H gl x + q % H), qS T F U n R) := by
    unfold f_Mo_standing f_Mo_standing_39
    have hmx : (qS T F U n R).v_moved (nI x).toNatClampNeg = nI (gl x) := by rw [nI_clamp (by omega)]; exact hmv x (by omega)
    rw [show (qS T F U n R).v_c / 2 = nI H from hc2, show (qS T F U n R).v_a / 2 = nI A from ha2, q_g (nI_ne0 (by omega) (by omega)), hdv, q_g (q_in (by omega) (by decide)), nI_clamp (by omega), show (qS T F U n R).v_chain (q / H) = nI x by rw [← hxe]; exact hch _ hqH, q_l, q_g (q_in (by omega) (by decide)), hmx]
    have hgx := hgl x
    have fin : ∀ y, y = stnd gl x → (nI A + (nI y - 2) * nI H) + (nI q - nI (q / H) * nI H) = nI (bOf A H gl x + q % H) := fun y hy => by
      rw [← hdv, hmo, hy, show (2 : Int32) = nI 2 from rfl, pk_sub hx.2.2, pk_mul, nI_add, nI_add]
      rfl
    by_cases g : gl x = 0
    · rw [g, if_pos (show nI 0 = 0 from rfl), q_g (nI_ne0 (by omega) (by omega)), fin x (by unfold stnd; rw [if_pos g])]
    · rw [if_neg (nI_ne0 (by omega) (by omega)), q_g (q_in (by omega) (by decide)), q_g (nI_ne0 (by omega) (by omega)), fin (gl x) (by unfold stnd; rw [if_neg g])]
  have hplace : f_Mo_place K (qS T F U n R) (nI x) = some (nI (512 * (2 * A + (x - 2) * (2 * H))), qS T F U n R) := by
    unfold f_Mo_place
    rw [show (qS T F U n R).v_a = nI (2 * A) from hT.1, show (qS T F U n R).v_c = nI (2 * H) from hT.2.1, show (2 : Int32) = nI 2 from rfl, pk_sub hx.1, pk_mul, nI_add, show (512 : Int32) = nI 512 from rfl, pk_mul]
  unfold f_Mo_copied
  rw [hstand, q_c, show (qS T F U n R).v_c / 2 = nI H from hc2, q_g (nI_ne0 (by omega) (by omega)), hdv, q_g (q_in (by omega) (by decide)), nI_clamp (by omega), show (qS T F U n R).v_chain (q / H) = nI x by rw [← hxe]; exact hch _ hqH, hplace, q_c, show (qS T F U n R).v_c / 2 = nI H from hc2, q_g (nI_ne0 (by omega) (by omega)), hmo, show (1024 : Int32) = nI 1024 from rfl, pk_mul, nI_add, q_l]
  have e9 : 512 * (2 * A + (x - 2) * (2 * H)) + 1024 * (q % H) = 1024 * srB A H ch q := by
    unfold srB
    rw [hxe]
    have : (x - 2) * (2 * H) = 2 * ((x - 2) * H) := by rw [Nat.mul_comm 2 H, ← Nat.mul_assoc, Nat.mul_comm]
    omega
  rw [e9]
  have hs : srB A H ch q < 512 := by unfold srB; rw [hxe]; omega
  have hbo : bOf A H gl x + q % H < 512 := by unfold bOf; omega
  exact ql_cp40 hM.2.1.1 hbo (by omega) 1024 0 K (by omega) (by omega)
