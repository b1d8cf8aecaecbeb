/-! Four bytes of any number put on the disk. -/
theorem ub_int (z : Int32) : (ub z : Int) = z.toInt % 256 := by
  show ((z.toBitVec.toNat % 256 : Nat) : Int) = z.toBitVec.toInt % 256
  have h := z.toBitVec.isLt
  rw [BitVec.toInt_eq_toNat_cond]
  split <;> omega
theorem wb_ub {x y : Int32} (h : ub x = ub y) : wb x = wb y := by
  have : x.toInt8 = y.toInt8 := by
    apply Int8.toBitVec_inj.mp
    rw [Int32.toBitVec_toInt8, Int32.toBitVec_toInt8, BitVec.signExtend_eq_setWidth_of_le _ (by decide), BitVec.signExtend_eq_setWidth_of_le _ (by decide)]
    apply BitVec.eq_of_toNat_eq
    rw [BitVec.toNat_setWidth, BitVec.toNat_setWidth]
    exact h
  unfold wb
  rw [this]
theorem nI_cond {u : Nat} (hu : u < 2 ^ 32) : (nI u).toInt = (u : Int) ∨ (nI u).toInt = (u : Int) - 2 ^ 32 := by
  show (nI u).toBitVec.toInt = _ ∨ (nI u).toBitVec.toInt = _
  rw [q_bv, BitVec.toInt_eq_toNat_cond, BitVec.toNat_ofNat, Nat.mod_eq_of_lt hu]
  split
  · exact Or.inl rfl
  · exact Or.inr (by omega)
theorem shr_int {x : Int32} {k : Nat} (hk0 : k < 32) : (x >>> (nI k &&& 31)).toInt = x.toInt / 2 ^ k := by
  show (x >>> (nI k &&& 31)).toBitVec.toInt = x.toBitVec.toInt / 2 ^ k
  have e : ∀ k : Fin 32, ((nI k.val &&& 31).toBitVec.smod 32).toNat = k.val := by decide +kernel
  have e := e ⟨k, hk0⟩
  rw [Int32.toBitVec_shiftRight, BitVec.sshiftRight_eq', e, BitVec.toInt_sshiftRight, Int.shiftRight_eq_div_pow]
  rfl
theorem shl_int {x : Int64} {k : Nat} (hk0 : k < 8) : (x >>> ((8 * nI k).toInt64 &&& 63)).toInt = x.toInt / 2 ^ (8 * k) := by
  show (x >>> ((8 * nI k).toInt64 &&& 63)).toBitVec.toInt = x.toBitVec.toInt / 2 ^ (8 * k)
  have e : ∀ k : Fin 8, (((8 * nI k.val).toInt64 &&& 63).toBitVec.smod 64).toNat = 8 * k.val := by decide +kernel
  have e := e ⟨k, hk0⟩
  rw [Int64.toBitVec_shiftRight, BitVec.sshiftRight_eq', e, BitVec.toInt_sshiftRight, Int.shiftRight_eq_div_pow]
  rfl
theorem shr_ub {u : Nat} (hu : u < 2 ^ 32) {k : Nat} (hk0 : k = 8 ∨ k = 16 ∨ k = 24) : ub (nI u >>> (nI k &&& 31)) = u / 2 ^ k % 256 := by
  have h := ub_int (nI u >>> (nI k &&& 31))
  rw [shr_int (by omega)] at h
  have h2 := nI_cond hu
  rcases hk0 with rfl | rfl | rfl
  all_goals
    rcases h2 with h2 | h2
    all_goals
      rw [h2] at h
      omega
theorem shl_ub {u : Nat} (hu : u < 2 ^ 32) {i : Nat} (hi : i < 4) : ub ((nI u).toInt64 >>> ((8 * nI i).toInt64 &&& 63)).toInt32 = u / 256 ^ i % 256 := by
  have h := ub_int ((nI u).toInt64 >>> ((8 * nI i).toInt64 &&& 63)).toInt32
  rw [Int64.toInt_toInt32, shl_int (by omega), Int32.toInt_toInt64] at h
  have h2 := nI_cond hu
  have hb : ∀ z : Int, Int.bmod z (2 ^ 32) % 256 = z % 256 := fun z => by
    rw [Int.bmod_def]
    split <;> omega
  rw [hb] at h
  rcases (show i = 0 ∨ i = 1 ∨ i = 2 ∨ i = 3 by omega) with rfl | rfl | rfl | rfl
  all_goals
    rcases h2 with h2 | h2
    all_goals
      rw [h2] at h
      omega
theorem qM_set4 {K p u : Nat} (hp : p + 4 ≤ 524288) (hu : u < 2 ^ 32) : ∀ (d i k : Nat) (D : Nat → Int32) (T : MS), i + d = 4 → d < k → T.v_disk = st D p u i → f_Mo_set_3 K k (nI p) (nI 4) (nI u).toInt64 (nI i) T = some (T.u_v_disk (st D p u 4)) := by
  intro d
  induction d with
  | zero =>
    intro i k D T h1 h2 h3
    obtain ⟨k, rfl⟩ : ∃ m, k = m + 1 := ⟨k - 1, by omega⟩
    obtain rfl : i = 4 := by omega
    rw [f_Mo_set_3, if_pos (nI_le (by omega) (by omega)), ← h3]
    rfl
  | succ d ih =>
    intro i k D T h1 h2 h3
    obtain ⟨k, rfl⟩ : ∃ m, k = m + 1 := ⟨k - 1, by omega⟩
    have hw : wb ((nI u).toInt64 >>> ((8 * nI i).toInt64 &&& 63)).toInt32 = wb (nI (u / 256 ^ i)) := wb_ub (by rw [shl_ub hu (by omega), ub_nI])
    have hw : vp_nar .byte ((((nI u).toInt64 >>> ((8 * nI i).toInt64 &&& 63)).toInt32).toInt8.toInt32) = wb (nI (u / 256 ^ i)) := hw
    rw [f_Mo_set_3, if_neg (nI_ge (by omega) (by omega)), nI_add, q_g (q_in (by omega) (by decide)), nI_clamp (by omega), hw, q_l, show (1 : Int32) = nI 1 from rfl, nI_add, q_l, h3]
    rw [ih (i + 1) k D (T.u_v_disk (upd (st D p u i) (p + i) (wb (nI (u / 256 ^ i))))) (by omega) (by omega) rfl]
    rfl
theorem qM_setW {K p u : Nat} {T : MS} (hK : 100 ≤ K) (hp : p + 4 ≤ 524288) (hu : u < 2 ^ 32) : f_Mo_set K T (nI p) 4 (nI u).toInt64 = some (T.u_v_disk (st T.v_disk p u 4)) := by
  unfold f_Mo_set
  exact qM_set4 hp hu 4 0 K T.v_disk T (by omega) (by omega) rfl
theorem qC_put4W {K N p a : Nat} {G : CG} {S : CS} (hG : G.n = N) (hN1 : 256 ≤ N) (hN : N ≤ 1024) (hp : p + 3 < 512 * N) (ha0 : a < 2 ^ 32) : f_Dk_putFour K G S (nI p) (nI a) = some (S.u_w_Dk_bytes (st S.w_Dk_bytes p a 4)) := by
  unfold f_Dk_putFour
  have e8 : vp_nar .byte ((nI a >>> ((8 : Int32) &&& 31)).toInt8.toInt32) = wb (nI (a / 256 ^ 1)) := wb_ub (by rw [show ((8 : Int32)) = nI 8 from rfl, shr_ub ha0 (Or.inl rfl), ub_nI])
  have e16 : vp_nar .byte ((nI a >>> ((16 : Int32) &&& 31)).toInt8.toInt32) = wb (nI (a / 256 ^ 2)) := wb_ub (by rw [show ((16 : Int32)) = nI 16 from rfl, shr_ub ha0 (Or.inr (Or.inl rfl)), ub_nI])
  have e24 : vp_nar .byte ((nI a >>> ((24 : Int32) &&& 31)).toInt8.toInt32) = wb (nI (a / 256 ^ 3)) := wb_ub (by rw [show ((24 : Int32)) = nI 24 from rfl, shr_ub ha0 (Or.inr (Or.inr rfl)), ub_nI])
  rw [if_neg (nI_pos (by omega)), hG, show (4 : Int32) = nI 4 from rfl, pk_sub (by omega), if_neg (nI_nlt (by omega) (by omega)), e8, e16, e24, show (1 : Int32) = nI 1 from rfl, show (2 : Int32) = nI 2 from rfl, show (3 : Int32) = nI 3 from rfl, nI_add, nI_add, nI_add, q_g (q_in (by omega) (by omega)), q_l, q_g (q_in (by omega) (by omega)), q_l, q_g (q_in (by omega) (by omega)), q_l, q_g (q_in (by omega) (by omega)), q_l, nI_clamp (by omega), nI_clamp (by omega), nI_clamp (by omega), nI_clamp (by omega)]
  show some _ = some (S.u_w_Dk_bytes (upd (upd (upd (upd S.w_Dk_bytes (p + 0) (wb (nI (a / 256 ^ 0)))) (p + 1) (wb (nI (a / 256 ^ 1)))) (p + 2) (wb (nI (a / 256 ^ 2)))) (p + 3) (wb (nI (a / 256 ^ 3)))))
  rw [Nat.pow_zero, Nat.div_one, Nat.add_zero]
  rfl
