/-! Numbers put on the disk. -/
theorem l_bv (a : Nat) : (lN a).toBitVec = BitVec.ofNat 64 a := rfl
theorem l_shr {a k : Nat} (ha : a < 2 ^ 63) (hk0 : k < 8) : lN a >>> ((8 * nI k).toInt64 &&& 63) = lN (a / 256 ^ k) := by
  have e : ∀ k : Fin 8, (((8 * nI k.val).toInt64 &&& 63).toBitVec.smod 64).toNat = 8 * k.val := by decide +kernel
  have e := e ⟨k, hk0⟩
  apply Int64.toBitVec_inj.mp
  rw [Int64.toBitVec_shiftRight, BitVec.sshiftRight_eq', e, l_bv, l_bv]
  have m : (BitVec.ofNat 64 a).msb = false := by
    rw [BitVec.msb_eq_decide, BitVec.toNat_ofNat, Nat.mod_eq_of_lt (by omega)]
    exact decide_eq_false (by omega)
  rw [BitVec.sshiftRight_eq_of_msb_false m]
  apply BitVec.eq_of_toNat_eq
  have hp : 256 ^ k = 2 ^ (8 * k) := by rw [show 256 = 2 ^ 8 from rfl, ← Nat.pow_mul]
  rw [BitVec.toNat_ushiftRight, BitVec.toNat_ofNat, BitVec.toNat_ofNat, Nat.mod_eq_of_lt (by omega), Nat.shiftRight_eq_div_pow, hp, Nat.mod_eq_of_lt]
  exact Nat.lt_of_le_of_lt (Nat.div_le_self _ _) (by omega)
abbrev wb (x : Int32) : Int32 := vp_nar .byte (x.toInt8.toInt32)
/-- n bytes of a put at p -/
def st (D : Nat → Int32) (p a : Nat) : Nat → Nat → Int32
  | 0 => D
  | n + 1 => upd (st D p a n) (p + n) (wb (nI (a / 256 ^ n)))
theorem ub_nI {x : Nat} : ub (nI x) = x % 256 := by
  unfold ub
  rw [q_bv, BitVec.toNat_ofNat]
  omega
theorem st_o1 {D : Nat → Int32} {p a q : Nat} : ∀ n, o1 (st D p a n) q = if p ≤ q ∧ q < p + n then a / 256 ^ (q - p) % 256 else o1 D q := by
  intro n
  induction n with
  | zero => rw [st, if_neg (by omega)]
  | succ n ih =>
    rw [st]
    by_cases w : q = p + n
    · rw [w, o1_upd_s, ub_b8, ub_nI, if_pos (by omega), Nat.add_sub_cancel_left]
    · rw [o1_upd_n w, ih]
      by_cases y : p ≤ q ∧ q < p + n
      · rw [if_pos y, if_pos (by omega)]
      · rw [if_neg y, if_neg (by omega)]
theorem st_ag {D E : Nat → Int32} {p a n q : Nat} (h : o1 E q = o1 D q) : o1 (st E p a n) q = o1 (st D p a n) q := by rw [st_o1, st_o1, h]
theorem st_out {D : Nat → Int32} {p a n q : Nat} (h : q < p ∨ p + n ≤ q) : o1 (st D p a n) q = o1 D q := by rw [st_o1, if_neg (by omega)]
theorem qM_set3 {K p a n : Nat} (hp : p + n ≤ 524288) (ha : a < 2 ^ 63) (hn : n ≤ 8) : ∀ (d i k : Nat) (D : Nat → Int32) (T : MS), i + d = n → d < k → T.v_disk = st D p a i → f_Mo_set_3 K k (nI p) (nI n) (lN a) (nI i) T = some (T.u_v_disk (st D p a n)) := by
  intro d
  induction d with
  | zero =>
    intro i k D T h1 h2 h3
    obtain ⟨k, rfl⟩ : ∃ m, k = m + 1 := ⟨k - 1, by omega⟩
    obtain rfl : i = n := by omega
    rw [f_Mo_set_3, if_pos (nI_le (by omega) (by omega)), ← h3]
    rfl
  | succ d ih =>
    intro i k D T h1 h2 h3
    obtain ⟨k, rfl⟩ : ∃ m, k = m + 1 := ⟨k - 1, by omega⟩
    rw [f_Mo_set_3, if_neg (nI_ge (by omega) (by omega)), nI_add, q_g (q_in (by omega) (by decide)), nI_clamp (by omega), l_shr ha (by omega), lN_i, q_l, show (1 : Int32) = nI 1 from rfl, nI_add, q_l, h3]
    rw [ih (i + 1) k D (T.u_v_disk (upd (st D p a i) (p + i) (vp_nar .byte ((nI (a / 256 ^ i)).toInt8.toInt32)))) (by omega) (by omega) rfl]
    rfl
theorem qM_set {K p a n : Nat} {T : MS} (hK : 100 ≤ K) (hp : p + n ≤ 524288) (ha : a < 2 ^ 63) (hn : n ≤ 8) : f_Mo_set K T (nI p) (nI n) (lN a) = some (T.u_v_disk (st T.v_disk p a n)) := by
  unfold f_Mo_set
  exact qM_set3 hp ha hn n 0 K T.v_disk T (by omega) (by omega) rfl
theorem qC_put1 {K N p a : Nat} {G : CG} {S : CS} (hG : G.n = N) (hN1 : 256 ≤ N) (hN : N ≤ 1024) (hp : p < 512 * N) : f_Dk_putOne K G S (nI p) (nI a) = some (S.u_w_Dk_bytes (st S.w_Dk_bytes p a 1)) := by
  unfold f_Dk_putOne
  rw [if_neg (nI_pos (by omega)), hG, if_neg (nI_ge (by omega) (by omega)), q_g (q_in (by omega) (by omega)), q_l, nI_clamp (by omega)]
  show some _ = some (S.u_w_Dk_bytes (upd S.w_Dk_bytes (p + 0) (wb (nI (a / 256 ^ 0)))))
  rw [Nat.pow_zero, Nat.div_one, Nat.add_zero]
theorem qC_put2 {K N p a : Nat} {G : CG} {S : CS} (hG : G.n = N) (hN1 : 256 ≤ N) (hN : N ≤ 1024) (hp : p + 1 < 512 * N) (ha : a < 2 ^ 31) : f_Dk_putTwo K G S (nI p) (nI a) = some (S.u_w_Dk_bytes (st S.w_Dk_bytes p a 2)) := by
  unfold f_Dk_putTwo
  have e8 : nI a >>> ((8 : Int32) &&& 31) = nI (a / 2 ^ 8) := q_shr (k := 8) ha (by decide)
  rw [if_neg (nI_pos (by omega)), hG, show (2 : Int32) = nI 2 from rfl, pk_sub (by omega), if_neg (nI_nlt (by omega) (by omega)), q_g (q_in (by omega) (by omega)), q_l, nI_clamp (by omega), show (1 : Int32) = nI 1 from rfl, nI_add, q_g (q_in (by omega) (by omega)), q_l, nI_clamp (by omega), e8]
  show some _ = some (S.u_w_Dk_bytes (upd (upd S.w_Dk_bytes (p + 0) (wb (nI (a / 256 ^ 0)))) (p + 1) (wb (nI (a / 256 ^ 1)))))
  rw [Nat.pow_zero, Nat.div_one, Nat.add_zero]
  rfl
theorem qC_put4 {K N p a : Nat} {G : CG} {S : CS} (hG : G.n = N) (hN1 : 256 ≤ N) (hN : N ≤ 1024) (hp : p + 3 < 512 * N) (ha : a < 2 ^ 31) : f_Dk_putFour K G S (nI p) (nI a) = some (S.u_w_Dk_bytes (st S.w_Dk_bytes p a 4)) := by
  unfold f_Dk_putFour
  have e8 : nI a >>> ((8 : Int32) &&& 31) = nI (a / 2 ^ 8) := q_shr (k := 8) ha (by decide)
  have e16 : nI a >>> ((16 : Int32) &&& 31) = nI (a / 2 ^ 16) := q_shr (k := 16) ha (by decide)
  have e24 : nI a >>> ((24 : Int32) &&& 31) = nI (a / 2 ^ 24) := q_shr (k := 24) ha (by decide)
  rw [if_neg (nI_pos (by omega)), hG, show (4 : Int32) = nI 4 from rfl, pk_sub (by omega), if_neg (nI_nlt (by omega) (by omega)), show (1 : Int32) = nI 1 from rfl, show (2 : Int32) = nI 2 from rfl, show (3 : Int32) = nI 3 from rfl, nI_add, nI_add, nI_add, q_g (q_in (by omega) (by omega)), q_l, q_g (q_in (by omega) (by omega)), q_l, q_g (q_in (by omega) (by omega)), q_l, q_g (q_in (by omega) (by omega)), q_l, nI_clamp (by omega), nI_clamp (by omega), nI_clamp (by omega), nI_clamp (by omega), e8, e16, e24]
  show some _ = some (S.u_w_Dk_bytes (upd (upd (upd (upd S.w_Dk_bytes (p + 0) (wb (nI (a / 256 ^ 0)))) (p + 1) (wb (nI (a / 256 ^ 1)))) (p + 2) (wb (nI (a / 256 ^ 2)))) (p + 3) (wb (nI (a / 256 ^ 3)))))
  rw [Nat.pow_zero, Nat.div_one, Nat.add_zero]
  rfl
