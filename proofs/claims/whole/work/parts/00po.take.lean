/-! A free cluster taken. -/
def zr (X : Nat → Int32) (q n : Nat) : Nat → Int32 := fun i => if q ≤ i ∧ i < q + n then vp_nar .byte 0 else X i
theorem zr_0 (X : Nat → Int32) (q : Nat) : zr X q 0 = X := funext fun i => if_neg (by omega)
theorem zr_s (X : Nat → Int32) (q n : Nat) : upd (zr X q n) (q + n) (vp_nar .byte 0) = zr X q (n + 1) := by
  funext i
  by_cases w : i = q + n
  · rw [w, pk_us]
    exact (if_pos (show q ≤ q + n ∧ q + n < q + (n + 1) by omega)).symm
  · rw [pk_un w]
    unfold zr
    by_cases y : q ≤ i ∧ i < q + n
    · rw [if_pos y, if_pos (by omega)]
    · rw [if_neg y, if_neg (by omega)]
theorem zr_o1 {X : Nat → Int32} {q n i : Nat} : o1 (zr X q n) i = if q ≤ i ∧ i < q + n then 0 else o1 X i := by
  unfold o1 zr
  by_cases y : q ≤ i ∧ i < q + n
  · rw [if_pos y, if_pos y]
    decide
  · rw [if_neg y, if_neg y]
theorem qM_zero {K N x : Nat} {D : Nat → Int32} (h : hdOk N D) (hN : N ≤ 1024) (hx : isCl N D x) : ∀ (d i k : Nat) (X : Nat → Int32) (T : MS), i + d = 512 * hc D → d < k → T.v_c = nI (hc D) → T.v_a = nI (ha D) → T.v_disk = zr X (plC D x) i → f_Mo_take_25 K k (nI x) (nI i) T = some (nI x, T.u_v_disk (zr X (plC D x) (512 * hc D))) := by
  have hC := (hd_facts h hN).1
  intro d
  induction d with
  | zero =>
    intro i k X T h1 h2 h3 h4 h5
    obtain ⟨k, rfl⟩ : ∃ m, k = m + 1 := ⟨k - 1, by omega⟩
    obtain rfl : i = 512 * hc D := by omega
    rw [f_Mo_take_25, h3, show (512 : Int32) = nI 512 from rfl, pk_mul, if_pos (nI_le (by omega) (by omega)), ← h5]
    rfl
  | succ d ih =>
    intro i k X T h1 h2 h3 h4 h5
    obtain ⟨k, rfl⟩ : ∃ m, k = m + 1 := ⟨k - 1, by omega⟩
    have hpl := plC_lt (j := i) h hN hx (by omega)
    have hP : f_Mo_place K T (nI x) = some (nI (plC D x), T) := by
      unfold f_Mo_place plC
      rw [h4, h3, show (2 : Int32) = nI 2 from rfl, pk_sub hx.1, pk_mul, nI_add, show (512 : Int32) = nI 512 from rfl, pk_mul]
    rw [f_Mo_take_25, h3, show (512 : Int32) = nI 512 from rfl, pk_mul, if_neg (nI_ge (by omega) (by omega)), hP, q_c, nI_add, q_g (q_in (by omega) (by decide)), nI_clamp (by omega), h5, zr_s, q_l, show (1 : Int32) = nI 1 from rfl, nI_add, q_l]
    rw [ih (i + 1) k X (T.u_v_disk (zr X (plC D x) (i + 1))) (by omega) (by omega) h3 h4 rfl]
    rfl
