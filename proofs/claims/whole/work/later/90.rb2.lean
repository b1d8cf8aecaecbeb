/-- the numbers of a volume: how many clusters -/
theorem tb_kN {sN lN vN : Nat} {p1 p2 p3 : Int32} (hs : sN ≤ 1024) (ev : p2 = nI vN) (hv : vN ≤ 64) (hc : p1 = 2 ∨ p1 = 4 ∨ p1 = 8) (hy : p3 = 1 ∨ p3 = 2) (hl : lN ≤ 32) (hs0 : 256 ≤ sN) : ∃ yN cN : Nat, p3 = nI yN ∧ p1 = nI cN ∧ 2 ≤ cN ∧ cN ≤ 8 ∧ 1 ≤ yN ∧ yN ≤ 2 ∧ vN + yN * lN ≤ 128 ∧ p2 + p3 * nI lN = nI (vN + yN * lN) ∧ (nI sN - p2 - p3 * nI lN) / p1 = nI ((sN - (vN + yN * lN)) / cN) ∧ (nI sN - (p2 + p3 * nI lN)) / p1 = nI ((sN - (vN + yN * lN)) / cN) := by
  obtain ⟨yN, ey, hy1, hy2⟩ : ∃ yN : Nat, p3 = nI yN ∧ 1 ≤ yN ∧ yN ≤ 2 := by
    rcases hy with rfl | rfl
    · exact ⟨1, rfl, by omega, by omega⟩
    · exact ⟨2, rfl, by omega, by omega⟩
  obtain ⟨cN, ec, hc2, hc8⟩ : ∃ cN : Nat, p1 = nI cN ∧ 2 ≤ cN ∧ cN ≤ 8 := by
    rcases hc with rfl | rfl | rfl
    · exact ⟨2, rfl, by omega, by omega⟩
    · exact ⟨4, rfl, by omega, by omega⟩
    · exact ⟨8, rfl, by omega, by omega⟩
  have hm : yN * lN ≤ 64 := Nat.mul_le_mul hy2 hl
  refine ⟨yN, cN, ey, ec, hc2, hc8, hy1, hy2, by omega, ?_, ?_, ?_⟩
  · rw [ev, ey, pk_mul, nI_add]
  · rw [ev, ey, ec, pk_mul, pk_sub (by omega), pk_sub (by omega), pk_div (by omega) (by omega) (by omega), Nat.sub_sub]
  · rw [ev, ey, ec, pk_mul, nI_add, pk_sub (by omega), pk_div (by omega) (by omega) (by omega)]
theorem tb_kb {sN lN vN : Nat} {p1 p2 p3 : Int32} (hs : sN ≤ 1024) (ev : p2 = nI vN) (hv : vN ≤ 64) (hc : p1 = 2 ∨ p1 = 4 ∨ p1 = 8) (hy : p3 = 1 ∨ p3 = 2) (hl : lN ≤ 32) (hs0 : 256 ≤ sN) : (nI sN - p2 - p3 * nI lN) / p1 ≤ 1024 := by
  obtain ⟨yN, cN, -, -, hc2, -, -, -, -, -, e1, -⟩ := tb_kN hs ev hv hc hy hl hs0
  rw [e1]
  have : (sN - (vN + yN * lN)) / cN ≤ sN - (vN + yN * lN) := Nat.div_le_self _ _
  exact nI_le (b := 1024) (by omega) (by decide)
theorem tb_rb {sN lN vN yN nl : Nat} {f : Nat → Int32} {p1 p2 p3 p5 : Int32} {u : Int32 × Int32 × Int32 × Int32 × Int32 × Int32 × Int32 × (Nat → Int32)} (hs0 : 256 ≤ sN) (hs : sN ≤ 1024) (hl : lN ≤ 32) (ev : p2 = nI vN) (hv : vN ≤ 64) (hok : tb_ok (nI sN) p1 p2 p3 (nI lN)) (hz : ∀ j : Nat, j < sN * 512 → f j = 0) :
    tb_rd (nI sN) (sN * 512) (tb_first (sN * 512) f (nI sN) p1 p2 p3 (nI lN) p5) nl u = (1, (p1, p2, p3, nI lN, 2, p2 + p3 * nI lN, tb_cw (nI sN) p1 p2 p3 (nI lN), tb_nx (sN * 512) (tb_first (sN * 512) f (nI sN) p1 p2 p3 (nI lN) p5) p2 (tb_cw (nI sN) p1 p2 p3 (nI lN)) nl u.2.2.2.2.2.2.2)) := by
  obtain ⟨hc, -, -, hy⟩ := mo_fitN hok.1
  have h0 : 4096 ≤ sN * 512 := by omega
  have h1 : sN * 512 < 2 ^ 31 := by omega
  rw [tb_rd, tb_const, tb_h11 h0 h1, tb_h17 h0 h1 hz, tb_h19 h0 h1 hz, tb_h22 h0 h1 hz, tb_h32 h0 h1 rfl hs, tb_h48 h0 h1, tb_h50 h0 h1, tb_h510 h0 h1, tb_h13 h0 h1 hc, tb_h14 h0 h1 ev hv, tb_h16 h0 h1 hy, tb_h36 h0 h1 rfl hl, tb_h44 h0 h1]
  rw [if_pos rfl, if_pos rfl, if_pos rfl, if_pos rfl, if_pos rfl, if_pos rfl, if_pos rfl, if_pos rfl, if_neg (by decide), if_neg hok.1, if_neg hok.2, if_neg (by decide)]
  refine if_pos ?_
  have h4 := mo_okN hc hok
  rw [tb_cw, if_pos (mo_c1 hc)]
  have hk : ¬ (nI sN - p2 - p3 * nI lN) / p1 < 4 := h4.1
  generalize hq : (nI sN - p2 - p3 * nI lN) / p1 = k at hk ⊢
  have hb : k ≤ 1024 := by
    rw [← hq]
    exact tb_kb hs ev hv hc hy hl hs0
  exact Int32.not_lt.mp (hd_kr hk hb)
