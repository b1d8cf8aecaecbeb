/-! Words for the functions: numbers without a sign, bytes of a disk. -/
theorem q_bv (n : Nat) : (nI n).toBitVec = BitVec.ofNat 32 n := rfl
theorem q_ext {x y : Int32} (h : x.toBitVec = y.toBitVec) : x = y := Int32.toBitVec_inj.mp h
theorem q_lit (n : Nat) : (OfNat.ofNat n : Int32) = nI (OfNat.ofNat n) := rfl
theorem ql (n : Nat) : (OfNat.ofNat n : Int32) = nI (OfNat.ofNat n) := q_ext rfl
theorem q_mod (n : Nat) : nI (n % 2 ^ 32) = nI n := by
  apply q_ext
  rw [q_bv, q_bv]
  apply BitVec.eq_of_toNat_eq
  rw [BitVec.toNat_ofNat, BitVec.toNat_ofNat, Nat.mod_mod]
theorem q_eqW {a b : Nat} (ha : a < 2 ^ 32) (hb : b < 2 ^ 32) : nI a = nI b ↔ a = b := by
  constructor
  · intro h
    have h1 := congrArg (fun x : Int32 => x.toBitVec.toNat) h
    simp only [q_bv, BitVec.toNat_ofNat] at h1
    omega
  · intro h
    rw [h]
theorem q_and (a b : Nat) : nI a &&& nI b = nI (a &&& b) := by
  apply q_ext
  rw [Int32.toBitVec_and, q_bv, q_bv, q_bv]
  apply BitVec.eq_of_toNat_eq
  rw [BitVec.toNat_and, BitVec.toNat_ofNat, BitVec.toNat_ofNat, BitVec.toNat_ofNat, Nat.and_mod_two_pow]
theorem q_or (a b : Nat) : nI a ||| nI b = nI (a ||| b) := by
  apply q_ext
  rw [Int32.toBitVec_or, q_bv, q_bv, q_bv]
  apply BitVec.eq_of_toNat_eq
  rw [BitVec.toNat_or, BitVec.toNat_ofNat, BitVec.toNat_ofNat, BitVec.toNat_ofNat, Nat.or_mod_two_pow]
theorem q_ltW {a b : Nat} (ha : a < 2 ^ 32) (hb : b < 2 ^ 31) : nI a < nI b ↔ a < b ∨ 2 ^ 31 ≤ a := by
  by_cases h : a < 2 ^ 31
  · rw [nI_ltI h hb]
    omega
  · have e : (nI a).toInt = (a : Int) - 2 ^ 32 := by
      show (nI a).toBitVec.toInt = _
      rw [q_bv, BitVec.toInt_eq_toNat_cond, BitVec.toNat_ofNat, Nat.mod_eq_of_lt ha, if_neg (by omega)]
      omega
    rw [Int32.lt_iff_toInt_lt, e, nI_toInt hb]
    omega
theorem q_leW {a b : Nat} (ha : a < 2 ^ 31) (hb : b < 2 ^ 32) : nI a ≤ nI b ↔ a ≤ b ∧ b < 2 ^ 31 := by
  have h := q_ltW hb ha
  rw [← Int32.not_lt, h]
  omega
theorem q_leV {a b : Nat} (ha : a < 2 ^ 32) (hb : b < 2 ^ 31) : nI a ≤ nI b ↔ a ≤ b ∨ 2 ^ 31 ≤ a := by
  rw [← Int32.not_lt]
  by_cases h : a < 2 ^ 31
  · rw [nI_ltI hb h]
    omega
  · have e : (nI a).toInt = (a : Int) - 2 ^ 32 := by
      show (nI a).toBitVec.toInt = _
      rw [q_bv, BitVec.toInt_eq_toNat_cond, BitVec.toNat_ofNat, Nat.mod_eq_of_lt ha, if_neg (by omega)]
      omega
    rw [Int32.lt_iff_toInt_lt, e, nI_toInt hb]
    omega
theorem q_shl (a k : Nat) (hk : k < 32) : nI a <<< (nI k &&& 31) = nI (a * 2 ^ k) := by
  apply q_ext
  rw [show (31 : Int32) = nI 31 from rfl, q_and, show k &&& 31 = k from by rw [show 31 = 2 ^ 5 - 1 from rfl, Nat.and_two_pow_sub_one_eq_mod]; omega]
  rw [Int32.toBitVec_shiftLeft, q_bv, q_bv]
  apply BitVec.eq_of_toNat_eq
  have e : ((BitVec.ofNat 32 k).smod 32).toNat = k := by
    have : ∀ k : Fin 32, ((BitVec.ofNat 32 k.val).smod 32).toNat = k.val := by decide +kernel
    exact this ⟨k, hk⟩
  rw [q_bv, BitVec.shiftLeft_eq', e, BitVec.toNat_shiftLeft, BitVec.toNat_ofNat, BitVec.toNat_ofNat, Nat.shiftLeft_eq, Nat.mod_mul_mod]
theorem q_shr {a k : Nat} (ha : a < 2 ^ 31) (hk : k < 32) : nI a >>> (nI k &&& 31) = nI (a / 2 ^ k) := by
  apply q_ext
  rw [show (31 : Int32) = nI 31 from rfl, q_and, show k &&& 31 = k from by rw [show 31 = 2 ^ 5 - 1 from rfl, Nat.and_two_pow_sub_one_eq_mod]; omega]
  rw [Int32.toBitVec_shiftRight, q_bv, q_bv]
  have e : ((BitVec.ofNat 32 k).smod 32).toNat = k := by
    have : ∀ k : Fin 32, ((BitVec.ofNat 32 k.val).smod 32).toNat = k.val := by decide +kernel
    exact this ⟨k, hk⟩
  rw [BitVec.sshiftRight_eq', e]
  have m : (BitVec.ofNat 32 a).msb = false := by
    rw [BitVec.msb_eq_decide, BitVec.toNat_ofNat, Nat.mod_eq_of_lt (by omega)]
    exact decide_eq_false (by omega)
  rw [BitVec.sshiftRight_eq_of_msb_false m]
  apply BitVec.eq_of_toNat_eq
  rw [q_bv, BitVec.toNat_ushiftRight, BitVec.toNat_ofNat, BitVec.toNat_ofNat, Nat.mod_eq_of_lt (by omega), Nat.shiftRight_eq_div_pow, Nat.mod_eq_of_lt]
  exact Nat.lt_of_le_of_lt (Nat.div_le_self _ _) (by omega)
/-- a byte without its sign -/
def ub (x : Int32) : Nat := x.toBitVec.toNat % 256
theorem ub_lt (x : Int32) : ub x < 256 := Nat.mod_lt _ (by decide)
theorem ub_and (x : Int32) : x &&& 255 = nI (ub x) := by
  apply q_ext
  rw [Int32.toBitVec_and, q_bv]
  apply BitVec.eq_of_toNat_eq
  rw [BitVec.toNat_and, BitVec.toNat_ofNat]
  show x.toBitVec.toNat &&& 255 = x.toBitVec.toNat % 256 % 2 ^ 32
  rw [show 255 = 2 ^ 8 - 1 from rfl, Nat.and_two_pow_sub_one_eq_mod]
  omega
def o1 (D : Nat → Int32) (p : Nat) : Nat := ub (D p)
def o2 (D : Nat → Int32) (p : Nat) : Nat := o1 D p + 256 * o1 D (p + 1)
def o4 (D : Nat → Int32) (p : Nat) : Nat := o2 D p + 65536 * o2 D (p + 2)
theorem o1_lt (D : Nat → Int32) (p : Nat) : o1 D p < 256 := ub_lt _
theorem o2_lt (D : Nat → Int32) (p : Nat) : o2 D p < 65536 := by
  have := o1_lt D p
  have := o1_lt D (p + 1)
  unfold o2
  omega
theorem o4_lt (D : Nat → Int32) (p : Nat) : o4 D p < 2 ^ 32 := by
  have := o2_lt D p
  have := o2_lt D (p + 2)
  unfold o4
  omega
theorem q_or8 {a b : Nat} (ha : a < 256) (k : Nat) (hk : 8 ≤ k) : a ||| b * 2 ^ k = a + b * 2 ^ k := by
  rw [Nat.or_comm, Nat.mul_comm, ← Nat.two_pow_add_eq_or_of_lt (Nat.lt_of_lt_of_le ha (Nat.pow_le_pow_right (by decide) hk : 2 ^ 8 ≤ 2 ^ k)), Nat.add_comm]
theorem q_orN {a b k : Nat} (ha : a < 2 ^ k) : a ||| b * 2 ^ k = a + b * 2 ^ k := by
  rw [Nat.or_comm, Nat.mul_comm, ← Nat.two_pow_add_eq_or_of_lt ha, Nat.add_comm]
theorem q_c {ρ σ β : Type} (r : ρ) (s : σ) (f : ρ → σ → Option β) : lf_c (some (r, s)) f = f r s := rfl
theorem q_l {α β : Type} (a : α) (f : α → Option β) : lf_l a f = f a := rfl
theorem q_b {α β : Type} (a : α) (f : α → Option β) : (some a).bind f = f a := rfl
theorem q_g {α : Type} {P : Prop} [Decidable P] {a : Option α} (h : P) : lf_g P a = a := if_pos h
theorem q_in {j n : Nat} (h : j < n) (hn : n < 2 ^ 31) : lf_in (nI j) n := vp_in_nI h hn
/-! the reference's readers -/
theorem qM_one {K : Nat} (T : MS) {p : Nat} (h : p < 524288) : f_Mo_one K T (nI p) = some (nI (o1 T.v_disk p), T) := by
  rw [f_Mo_one, q_g (q_in h (by decide)), nI_clamp (by omega), ub_and]
  rfl
theorem qM_two {K : Nat} (T : MS) {p : Nat} (h : p + 1 < 524288) : f_Mo_two K T (nI p) = some (nI (o2 T.v_disk p), T) := by
  rw [f_Mo_two, qM_one T (by omega), q_c, nI_1, qM_one T h, q_c]
  rw [show (8 : Int32) = nI 8 from rfl, q_shl _ _ (by decide), q_or, q_orN (o1_lt _ _ : _ < 2 ^ 8), Nat.mul_comm]
  rfl
theorem qM_four {K : Nat} (T : MS) {p : Nat} (h : p + 3 < 524288) : f_Mo_four K T (nI p) = some (nI (o4 T.v_disk p), T) := by
  rw [f_Mo_four, qM_two T (by omega), q_c, show (2 : Int32) = nI 2 from rfl, nI_add, qM_two T (by omega), q_c]
  rw [show (16 : Int32) = nI 16 from rfl, q_shl _ _ (by decide), q_or, q_orN (o2_lt _ _ : _ < 2 ^ 16), Nat.mul_comm]
  rfl
/-! the class's -/
theorem qV_one {K : Nat} {G : CG} (S : CS) {p : Nat} (h : p < 512 * G.n) (hn : G.n ≤ 1024) : f_Dk_one K G S (nI p) = some (nI (o1 S.w_Dk_bytes p), S) := by
  rw [f_Dk_one, if_neg (nI_pos (by omega)), if_neg (nI_ge h (by omega)), q_g (q_in h (by omega)), nI_clamp (by omega), ub_and]
  rfl
theorem qV_two {K : Nat} {G : CG} (S : CS) {p : Nat} (h : p + 1 < 512 * G.n) (hn : G.n ≤ 1024) : f_Dk_two K G S (nI p) = some (nI (o2 S.w_Dk_bytes p), S) := by
  rw [f_Dk_two, if_neg (nI_pos (by omega)), show (2 : Int32) = nI 2 from rfl, pk_sub (by omega), if_pos (nI_le (by omega) (by omega)), nI_1]
  rw [q_g (q_in (by omega) (by omega)), q_g (q_in (by omega) (by omega)), nI_clamp (by omega), nI_clamp (by omega), ub_and, ub_and]
  rw [show (8 : Int32) = nI 8 from rfl, q_shl _ _ (by decide), q_or, q_orN (ub_lt _ : _ < 2 ^ 8), Nat.mul_comm]
  rfl
theorem qV_four {K : Nat} {G : CG} (S : CS) {p : Nat} (h : p + 3 < 512 * G.n) (hn : G.n ≤ 1024) : f_Dk_four K G S (nI p) = some (nI (o4 S.w_Dk_bytes p), S) := by
  have h0 := o1_lt S.w_Dk_bytes p
  have h1 := o1_lt S.w_Dk_bytes (p + 1)
  have h2 := o1_lt S.w_Dk_bytes (p + 2)
  have h3 := o1_lt S.w_Dk_bytes (p + 3)
  rw [f_Dk_four, if_neg (nI_pos (by omega)), show (4 : Int32) = nI 4 from rfl, pk_sub (by omega), if_pos (nI_le (by omega) (by omega)), nI_1, show (2 : Int32) = nI 2 from rfl, nI_add, show (3 : Int32) = nI 3 from rfl, nI_add]
  rw [q_g (q_in (by omega) (by omega)), q_g (q_in (by omega) (by omega)), q_g (q_in (by omega) (by omega)), q_g (q_in (by omega) (by omega)), nI_clamp (by omega), nI_clamp (by omega), nI_clamp (by omega), nI_clamp (by omega), ub_and, ub_and, ub_and, ub_and]
  rw [show (8 : Int32) = nI 8 from rfl, q_shl _ _ (by decide), q_or, q_orN (ub_lt _ : _ < 2 ^ 8), show (16 : Int32) = nI 16 from rfl, q_shl _ _ (by decide), q_or, show (24 : Int32) = nI 24 from rfl, q_shl _ _ (by decide), q_or]
  change some (nI (o1 S.w_Dk_bytes p + o1 S.w_Dk_bytes (p + 1) * 2 ^ 8 ||| o1 S.w_Dk_bytes (p + 2) * 2 ^ 16 ||| o1 S.w_Dk_bytes (p + 3) * 2 ^ 24), S) = _
  rw [q_orN (show _ < 2 ^ 16 by omega), q_orN (show _ < 2 ^ 24 by omega)]
  congr 3
  unfold o4 o2
  rw [show p + 2 + 1 = p + 3 from rfl]
  omega
theorem n10 : ¬ nI 1 = nI 0 := by decide
theorem n01 : ¬ nI 0 = nI 1 := by decide
