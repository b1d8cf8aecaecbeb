/-! One cluster more for a file. -/
def gr (D X : Nat → Int32) (p : Nat) (ch : List Nat) (x : Nat) : Nat → Int32 := if ch.length = 0 then st (st (zr (lk D X x 268435455) (plC D x) (512 * hc D)) (p + 20) (x / 65536) 2) (p + 26) x 2 else lk D (zr (lk D X x 268435455) (plC D x) (512 * hc D)) (ch.getD (ch.length - 1) 0) x
theorem qM_gr {K N x p k : Nat} {D : Nat → Int32} {e : Nat → Nat} {T : MS} {ch : List Nat} {n i : Nat} (hK : 5000 ≤ K) (h : hdOk N D) (hN : N ≤ 1024) (he : ∀ y, e y < 2 ^ 28) (hent : ∀ y, y < hk N D + 2 → f_Mo_entry K T (nI y) = some (nI (e y), T)) (h1 : T.v_v = nI (hv D)) (h2 : T.v_y = nI (hy D)) (h3 : T.v_z = nI (hz D)) (h4 : T.v_c = nI (hc D)) (h5 : T.v_a = nI (ha D)) (hx : frst e 2 x) (hxl : x < hk N D + 2) (hl : T.v_links = nI ch.length) (hll : ch.length < 514) (hch : ∀ q, q < ch.length → T.v_chain q = nI (ch.getD q 0)) (hcl : ∀ y ∈ ch, isCl N D y) (hp : p + 32 ≤ 512 * N) (hi : i < n) (hn : n < 2 ^ 31) (y2 y3 y4 y6 y7 : Int32) : ∃ f, f_Mo_append_85 K (k + 1) y2 y3 y4 (nI p) y6 y7 (nI n) (nI i) T = f_Mo_append_85 K k y2 y3 y4 (nI p) y6 y7 (nI n) (nI (i + 1)) (((T.u_v_disk (gr D T.v_disk p ch x)).u_v_chain f).u_v_links (nI (ch.length + 1))) ∧ ∀ q, q < (ch ++ [x]).length → f q = nI ((ch ++ [x]).getD q 0) := by
  have hf := hd_facts h hN
  refine ⟨upd T.v_chain ch.length (nI x), ?_, fun q hq => ?_⟩
  · rw [f_Mo_append_85, if_neg (nI_ge hi hn), qM_take hK h hN he hent h1 h2 h3 h4 h5 hx hxl, q_c, hl, q_g (q_in (by omega) (by decide)), nI_clamp (by omega), q_l]
    generalize hX1 : zr (lk D T.v_disk x 268435455) (plC D x) (512 * hc D) = X1
    obtain ⟨T2, e2⟩ : ∃ T2, (T.u_v_disk X1).u_v_chain (upd (T.u_v_disk X1).v_chain ch.length (nI x)) = T2 := ⟨_, rfl⟩
    have a1 : T2.v_links = nI ch.length := by rw [← e2]; exact hl
    have a2 : T2.v_chain = upd T.v_chain ch.length (nI x) := by rw [← e2]; rfl
    have a3 : T2.v_disk = X1 := by rw [← e2]; rfl
    rw [e2, a1]
    unfold gr f_Mo_append_176
    rw [hX1]
    by_cases g : ch.length = 0
    · have e16 : nI x >>> ((16 : Int32) &&& 31) = nI (x / 2 ^ 16) := q_shr (k := 16) (by omega) (by decide)
      have c0 : T2.v_chain (0 : Int32).toNatClampNeg = nI x := by rw [a2, g]; exact pk_us
      have hs1 : f_Mo_set K T2 (nI p + 20) 2 (T2.v_chain (0 : Int32).toNatClampNeg >>> ((16 : Int32) &&& 31)).toInt64 = some (T2.u_v_disk (st X1 (p + 20) (x / 65536) 2)) := by
        rw [c0, e16, nI_l (by omega), show (20 : Int32) = nI 20 from rfl, nI_add, show (2 : Int32) = nI 2 from rfl, qM_set (by omega) (by omega) (by omega) (by decide), a3]
      have hs2 : f_Mo_set K (T2.u_v_disk (st X1 (p + 20) (x / 65536) 2)) (nI p + 26) 2 ((T2.u_v_disk (st X1 (p + 20) (x / 65536) 2)).v_chain (0 : Int32).toNatClampNeg).toInt64 = some ((T2.u_v_disk (st X1 (p + 20) (x / 65536) 2)).u_v_disk (st (st X1 (p + 20) (x / 65536) 2) (p + 26) x 2)) := by
        rw [show (T2.u_v_disk (st X1 (p + 20) (x / 65536) 2)).v_chain (0 : Int32).toNatClampNeg = nI x from c0, nI_l (by omega), show (26 : Int32) = nI 26 from rfl, nI_add, show (2 : Int32) = nI 2 from rfl, qM_set (by omega) (by omega) (by omega) (by decide)]
        rfl
      rw [if_pos (show nI ch.length ≤ 0 by rw [g]; decide), q_g (show lf_in 0 560 by decide), hs1, q_b, q_g (show lf_in 0 560 by decide), hs2, q_b, if_pos g, show ((T2.u_v_disk (st X1 (p + 20) (x / 65536) 2)).u_v_disk (st (st X1 (p + 20) (x / 65536) 2) (p + 26) x 2)).v_links = nI ch.length from a1, show (1 : Int32) = nI 1 from rfl, nI_add, nI_add, q_l, q_l, ← e2]
      rfl
    · have hi1 : ch.length - 1 < ch.length := by omega
      have hmem : ch.getD (ch.length - 1) 0 ∈ ch := by
        rw [List.getD_eq_getElem?_getD, List.getElem?_eq_getElem hi1]
        exact List.getElem_mem hi1
      have c1 : T2.v_chain (ch.length - 1) = nI (ch.getD (ch.length - 1) 0) := by rw [a2, pk_un (by omega)]; exact hch _ hi1
      have c2 : T2.v_chain ch.length = nI x := by rw [a2]; exact pk_us
      have hlk := qM_lk (K := K) (T := T2) (x := ch.getD (ch.length - 1) 0) (v := x) (by omega) h hN (by have := (hcl _ hmem).2; omega) (by omega) (by rw [← e2]; exact h1) (by rw [← e2]; exact h2) (by rw [← e2]; exact h3)
      rw [if_neg (show ¬ nI ch.length ≤ 0 from nI_nle (by omega) (by omega)), show (1 : Int32) = nI 1 from rfl, pk_sub (by omega), q_g (q_in (by omega) (by decide)), q_g (q_in (by omega) (by decide)), nI_clamp (by omega), nI_clamp (by omega), c1, c2, hlk, q_b, if_neg g, show (T2.u_v_disk (lk D T2.v_disk (ch.getD (ch.length - 1) 0) x)).v_links = nI ch.length from a1, nI_add, nI_add, q_l, q_l, a3, ← e2]
      rfl
  · rw [List.length_append] at hq
    have hq : q < ch.length + 1 := hq
    by_cases w : q = ch.length
    · rw [w, pk_us, List.getD_eq_getElem?_getD, List.getElem?_append_right (Nat.le_refl _), Nat.sub_self]
      rfl
    · rw [pk_un w, List.getD_eq_getElem?_getD, List.getElem?_append_left (by omega), ← List.getD_eq_getElem?_getD]
      exact hch q (by omega)
