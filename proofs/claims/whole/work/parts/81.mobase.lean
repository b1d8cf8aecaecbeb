theorem mo_xa {p : Int32} (h : ¬ 256 ≤ p) : 256 = vt_x p := by
  unfold vt_x
  rw [if_pos (Int32.not_le.mp h), if_neg (by decide)]
theorem mo_xb {p : Int32} (h : 256 ≤ p) (h2 : ¬ p ≤ 1024) : 1024 = vt_x p := by
  unfold vt_x
  rw [if_neg (Int32.not_lt.mpr h), if_pos (Int32.not_le.mp h2)]
theorem mo_xc {p : Int32} (h : 256 ≤ p) (h2 : p ≤ 1024) : p = vt_x p := by
  unfold vt_x
  rw [if_neg (Int32.not_lt.mpr h), if_neg (Int32.not_lt.mpr h2)]
theorem mo_n1 {p x : Int32} (h : x = vt_x p) (hr : x - x / 2 * 2 = 0) : x = nI (vt_n p) := by
  rw [← (vt_n_ok p).1, ← h, hr]; exact (Int32.sub_zero x).symm
theorem mo_n2 {p x : Int32} (h : x = vt_x p) (hr : ¬ x - x / 2 * 2 = 0) : x - 1 = nI (vt_n p) := by
  rw [← (vt_n_ok p).1, ← h]
  obtain ⟨j, e, h1, h2⟩ := vt_x_ok p
  rw [← h] at e
  subst e
  have e3 : nI j - nI j / 2 * 2 = nI (j % 2) := pk_rem (d := 2) (by omega) (by decide) (by decide)
  rw [e3] at hr ⊢
  have : j % 2 = 1 := by
    rcases Nat.mod_two_eq_zero_or_one j with q | q
    · rw [q] at hr; exact absurd rfl hr
    · exact q
  rw [this]
  rfl