/-! The bytes that grow puts never make a slot that counts. -/
theorem ub_add (x y : Int32) : ub (x + y) = (ub x + ub y) % 256 := by
  unfold ub
  rw [Int32.toBitVec_add, BitVec.toNat_add]
  omega
theorem ub_gP {y : Int32} {i : Nat} (hi : i < 2 ^ 31) : ub (gP y i) = (ub y + i * i + i / 256) % 256 := by
  have e : nI i >>> ((8 : Int32) &&& 31) = nI (i / 2 ^ 8) := q_shr (k := 8) hi (by decide)
  unfold gP
  rw [e, pk_mul, ub_add, ub_add, ub_nI, ub_nI]
  generalize i * i = a
  omega
def pb (a h j : Nat) : Nat := (h + (a + j) * (a + j) + (a + j) / 256) % 256
theorem pb_of (u i j : Nat) : (u + (i + j) * (i + j) + (i + j) / 256) % 256 = pb (i % 256) ((u + i / 256) % 256) j := by
  unfold pb
  have hi : i = 256 * (i / 256) + i % 256 := (Nat.div_add_mod i 256).symm
  generalize hk0 : i / 256 = k at *
  generalize ha0 : i % 256 = a at *
  have e : i + j = 256 * k + (a + j) := by omega
  have e2 : (i + j) / 256 = k + (a + j) / 256 := by omega
  rw [e2, e]
  generalize a + j = b
  have e3 : (256 * k + b) * (256 * k + b) = 256 * (k * (256 * k + b)) + (256 * (b * k) + b * b) := by
    rw [Nat.add_mul, Nat.mul_assoc, Nat.mul_add b, Nat.mul_left_comm b 256 k]
  rw [e3]
  generalize k * (256 * k + b) = x1
  generalize b * k = x2
  generalize b * b = x3
  omega
def al (f : Nat → Bool) : Nat → Bool
  | 0 => true
  | n + 1 => f n && al f n
theorem al_of {f : Nat → Bool} : ∀ n, (∀ i, i < n → f i = true) → al f n = true := by
  intro n
  induction n with
  | zero => intro _; rfl
  | succ n ih => intro h; rw [al, h n (by omega), ih (fun i hi => h i (by omega))]; rfl
theorem al_get {f : Nat → Bool} : ∀ n, al f n = true → ∀ i, i < n → f i = true := by
  intro n
  induction n with
  | zero => intro _ i hi; exact absurd hi (Nat.not_lt_zero _)
  | succ n ih =>
    intro h i hi
    rw [al, Bool.and_eq_true] at h
    by_cases w : i = n
    · rw [w]; exact h.1
    · exact ih h.2 i (by omega)
/-- sets of bytes as numbers, and where they go when a byte is added -/
def mSg : Nat := 138239711702756415242370529996065210368
def mNd : Nat := 281470681808895
def mDi : Nat := 18446462603027742720
def mTw (M : Nat) : Nat := M ||| (M <<< 256)
def kk (a j : Nat) : Nat := ((a + j) * (a + j) + (a + j) / 256) % 256
theorem pb_kk (a h j : Nat) : pb a h j = (h + kk a j) % 256 := by
  unfold pb kk
  generalize (a + j) * (a + j) = x
  omega
theorem mTw_t {M h k : Nat} (hh : h < 256) (hk0 : k < 256) (hM : M.testBit ((h + k) % 256) = true) : (mTw M >>> k).testBit h = true := by
  unfold mTw
  rw [Nat.testBit_shiftRight, Nat.testBit_or, Nat.testBit_shiftLeft]
  by_cases w : h + k < 256
  · rw [Nat.mod_eq_of_lt w, Nat.add_comm] at hM
    rw [hM]
    rfl
  · rw [show (h + k) % 256 = k + h - 256 by omega] at hM
    rw [hM, show decide (k + h ≥ 256) = true from decide_eq_true (by omega)]
    exact Bool.or_true _
theorem mSg_t : ∀ u : Fin 256, (u.val = 32 ∨ sgP u.val) → mSg.testBit u.val = true := by decide +kernel
theorem mNd_t : ∀ u : Fin 256, u.val ≤ 63 → ¬ u.val / 16 % 2 = 1 → mNd.testBit u.val = true := by decide +kernel
theorem mDi_t : ∀ u : Fin 256, u.val ≤ 63 → u.val / 16 % 2 = 1 → mDi.testBit u.val = true := by decide +kernel
theorem mNb_t : ∀ u : Fin 256, u.val ≠ 32 → (2 ^ 256 - 1 - 2 ^ 32).testBit u.val = true := by decide +kernel
def ands (f : Nat → Nat) : Nat → Nat
  | 0 => 2 ^ 256 - 1
  | n + 1 => f n &&& ands f n
theorem mAll : ∀ u : Fin 256, (2 ^ 256 - 1).testBit u.val = true := by decide +kernel
theorem ands_t {f : Nat → Nat} {h : Nat} (hh : h < 256) : ∀ n, (∀ i, i < n → (f i).testBit h = true) → (ands f n).testBit h = true := by
  intro n
  induction n with
  | zero => intro _; exact mAll ⟨h, hh⟩
  | succ n ih =>
    intro g
    rw [ands, Nat.testBit_and, g n (by omega), ih (fun i hi => g i (by omega))]
    rfl
def accS (a : Nat) : Nat := ands (fun q => mTw mSg >>> kk a q) 11 &&& (((mTw mNd >>> kk a 11) ||| ((mTw mDi >>> kk a 11) &&& ((mTw 1 >>> kk a 28) &&& (mTw 1 >>> kk a 29)))) &&& ((mTw (2 ^ 32) >>> kk a 9) ||| (mTw (2 ^ 256 - 1 - 2 ^ 32) >>> kk a 8)))
def accP (a : Nat) : Nat := ands (fun q => mTw 1 >>> kk a (if q = 0 then 12 else if q = 1 then 26 else 27)) 3
theorem noS : al (fun a => Nat.beq (accS a) 0) 256 = true := by decide +kernel
theorem noP : al (fun a => Nat.beq (accP a) 0) 256 = true := by decide +kernel
theorem pat_nocap {X : Nat → Int32} {p i0 : Nat} {y : Int32} (h : ∀ j, j < 32 → o1 X (p + j) = ub (gP y (i0 + j))) (hi : i0 + 32 < 2 ^ 31) : ¬ cpP X p := by
  have hb : ∀ j, j < 32 → o1 X (p + j) = pb (i0 % 256) ((ub y + i0 / 256) % 256) j := fun j hj => by
    rw [h j hj, ub_gP (by omega), pb_of]
  have ha1 : i0 % 256 < 256 := Nat.mod_lt _ (by decide)
  have hh1 : (ub y + i0 / 256) % 256 < 256 := Nat.mod_lt _ (by decide)
  generalize i0 % 256 = a at *
  generalize (ub y + i0 / 256) % 256 = hh at *
  have hkk : ∀ j, kk a j < 256 := fun j => Nat.mod_lt _ (by decide)
  have hb : ∀ j, j < 32 → o1 X (p + j) = (hh + kk a j) % 256 := fun j hj => by rw [hb j hj, pb_kk]
  have lt : ∀ j, (hh + kk a j) % 256 < 256 := fun j => Nat.mod_lt _ (by decide)
  have z0 : Nat.testBit 0 hh = false := Nat.zero_testBit hh
  have one : ∀ j, j < 32 → o1 X (p + j) = 0 → (mTw 1 >>> kk a j).testBit hh = true := fun j hj e => mTw_t hh1 (hkk j) (by rw [← hb j hj, e]; rfl)
  rintro (⟨⟨-, w2, w3⟩, -⟩ | ⟨w1, -, w2, w3⟩)
  · have e0 : accP a = 0 := Nat.eq_of_beq_eq_true (al_get _ noP a ha1)
    have e2 : o2 X (p + 26) = o1 X (p + 26) + 256 * o1 X (p + 27) := rfl
    have yes : (accP a).testBit hh = true := ands_t hh1 3 fun q hq => by
      by_cases g0 : q = 0
      · rw [if_pos g0]; exact one 12 (by decide) w2
      rw [if_neg g0]
      by_cases g1 : q = 1
      · rw [if_pos g1]; exact one 26 (by decide) (by omega)
      · rw [if_neg g1]; exact one 27 (by decide) (by omega)
    rw [e0, z0] at yes
    cases yes
  · have e0 : accS a = 0 := Nat.eq_of_beq_eq_true (al_get _ noS a ha1)
    have e4 : o4 X (p + 28) = o1 X (p + 28) + 256 * o1 X (p + 29) + 65536 * (o1 X (p + 30) + 256 * o1 X (p + 31)) := rfl
    have yes : (accS a).testBit hh = true := by
      unfold accS
      rw [Nat.testBit_and, Nat.testBit_and, Nat.testBit_or, Nat.testBit_and, Nat.testBit_and, Nat.testBit_or]
      have y1 : (ands (fun q => mTw mSg >>> kk a q) 11).testBit hh = true := ands_t hh1 11 fun q hq => mTw_t hh1 (hkk q) (mSg_t ⟨_, lt q⟩ (by
        have g := (w2.2 q hq).1
        rw [hb q (by omega)] at g
        exact g))
      rw [hb 11 (by decide)] at w1 w3
      have y2 : (mTw mNd >>> kk a 11).testBit hh = true ∨ ((mTw mDi >>> kk a 11).testBit hh = true ∧ (mTw 1 >>> kk a 28).testBit hh = true ∧ (mTw 1 >>> kk a 29).testBit hh = true) := by
        by_cases g : (hh + kk a 11) % 256 / 16 % 2 = 1
        · have := w3 g
          exact Or.inr ⟨mTw_t hh1 (hkk 11) (mDi_t ⟨_, lt 11⟩ w1 g), one 28 (by decide) (by omega), one 29 (by decide) (by omega)⟩
        · exact Or.inl (mTw_t hh1 (hkk 11) (mNd_t ⟨_, lt 11⟩ w1 g))
      have y3 : (mTw (2 ^ 32) >>> kk a 9).testBit hh = true ∨ (mTw (2 ^ 256 - 1 - 2 ^ 32) >>> kk a 8).testBit hh = true := by
        have g := (w2.2 9 (by decide)).2
        rcases g with g | g | g | g | g
        · exact absurd g (by decide)
        · exact absurd g (by decide)
        · exact absurd g (by decide)
        · exact Or.inl (mTw_t hh1 (hkk 9) (by rw [← hb 9 (by decide), g]; decide))
        · refine Or.inr (mTw_t hh1 (hkk 8) (mNb_t ⟨_, lt 8⟩ ?_))
          show (hh + kk a 8) % 256 ≠ 32
          rw [← hb 8 (by decide)]
          exact g
      rw [y1]
      rcases y2 with y2 | ⟨y2, y4, y5⟩
      · rw [y2]
        rcases y3 with y3 | y3
        · rw [y3]; rfl
        · rw [y3, Bool.or_true]; rfl
      · rw [y2, y4, y5, Bool.and_true, Bool.and_true, Bool.or_true]
        rcases y3 with y3 | y3
        · rw [y3]; rfl
        · rw [y3, Bool.or_true]; rfl
    rw [e0, z0] at yes
    cases yes
