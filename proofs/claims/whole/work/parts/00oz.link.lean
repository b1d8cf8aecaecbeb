/-! An entry of the tables put. -/
def ev (w v : Nat) : Nat := 2 ^ 28 * (w / 2 ^ 28) + v
theorem ev_lt {w v : Nat} (hw : w < 2 ^ 32) (hv0 : v < 2 ^ 28) : ev w v < 2 ^ 32 := by unfold ev; omega
theorem ev_mod {w v : Nat} (hv0 : v < 2 ^ 28) : ev w v % 2 ^ 28 = v := by unfold ev; omega
theorem and_top {w : Nat} (hw : w < 2 ^ 32) : w &&& 4026531840 = 2 ^ 28 * (w / 2 ^ 28) := by
  apply Nat.eq_of_testBit_eq
  intro i
  rw [Nat.testBit_and, show 4026531840 = 2 ^ 28 * (2 ^ 4 - 1) from rfl, Nat.testBit_two_pow_mul, Nat.testBit_two_pow_mul, Nat.testBit_two_pow_sub_one, Nat.testBit_div_two_pow]
  by_cases h1 : 28 ≤ i
  · rw [show decide (i ≥ 28) = true from decide_eq_true h1, Bool.true_and, Bool.true_and, show i - 28 + 28 = i by omega]
    by_cases h2 : i - 28 < 4
    · rw [decide_eq_true h2, Bool.and_true]
    · rw [decide_eq_false h2, Bool.and_false, Nat.testBit_lt_two_pow (Nat.lt_of_lt_of_le hw (Nat.pow_le_pow_right (by decide) (by omega)))]
  · rw [show decide (i ≥ 28) = false from decide_eq_false h1, Bool.false_and, Bool.and_false, Bool.false_and]
theorem ev_M {w v : Nat} (hw : w < 2 ^ 32) (hv0 : v < 2 ^ 28) : nI v ||| (nI w &&& (-268435456)) = nI (ev w v) := by
  rw [show (-268435456 : Int32) = nI 4026531840 from by decide, q_and, and_top hw, q_or, Nat.or_comm, ← Nat.two_pow_add_eq_or_of_lt hv0]
  rfl
theorem ev_C {w v : Nat} (hw : w < 2 ^ 32) (hv0 : v < 2 ^ 28) : (nI w &&& (-268435456)) ||| nI v = nI (ev w v) := by
  rw [show (-268435456 : Int32) = nI 4026531840 from by decide, q_and, and_top hw, q_or, ← Nat.two_pow_add_eq_or_of_lt hv0]
  rfl
abbrev pE (V Z t x : Nat) : Nat := 512 * (V + t * Z) + 4 * x
def sE (X : Nat → Int32) (V Z x v : Nat) : Nat → Nat → Int32
  | 0 => X
  | t + 1 => st (sE X V Z x v t) (pE V Z t x) (ev (o4 (sE X V Z x v t) (pE V Z t x)) v) 4
theorem qM_setE {K V Y Z x v : Nat} (hK : 1000 ≤ K) (hv0 : v < 2 ^ 28) (hp : ∀ t, t < Y → pE V Z t x + 4 ≤ 524288) (hY : Y ≤ 2) : ∀ (d t k : Nat) (X : Nat → Int32) (T : MS), t + d = Y → d < k → T.v_v = nI V → T.v_y = nI Y → T.v_z = nI Z → T.v_disk = sE X V Z x v t → f_Mo_setEntry_2 K k (nI x) (nI v) (nI t) T = some (T.u_v_disk (sE X V Z x v Y)) := by
  intro d
  induction d with
  | zero =>
    intro t k X T h1 h2 h3 h4 h5 h6
    obtain ⟨k, rfl⟩ : ∃ m, k = m + 1 := ⟨k - 1, by omega⟩
    obtain rfl : t = Y := by omega
    rw [f_Mo_setEntry_2, h4, if_pos (nI_le (by omega) (by omega)), ← h6]
    rfl
  | succ d ih =>
    intro t k X T h1 h2 h3 h4 h5 h6
    obtain ⟨k, rfl⟩ : ∃ m, k = m + 1 := ⟨k - 1, by omega⟩
    have hpt := hp t (by omega)
    have hA : f_Mo_entryAt K T (nI t) (nI x) = some (nI (pE V Z t x), T) := by
      unfold f_Mo_entryAt
      rw [h3, h5, pk_mul, nI_add, show (512 : Int32) = nI 512 from rfl, pk_mul, show (4 : Int32) = nI 4 from rfl, pk_mul, nI_add]
    have hw := o4_lt (sE X V Z x v t) (pE V Z t x)
    rw [f_Mo_setEntry_2, h4, if_neg (nI_ge (by omega) (by omega)), hA, q_c, qM_four T (by omega), q_c, h6, ev_M hw hv0, qM_setW (by omega) (by omega) (ev_lt hw hv0), q_b, h6, show (1 : Int32) = nI 1 from rfl, nI_add, q_l]
    rw [ih (t + 1) k X (T.u_v_disk (st (sE X V Z x v t) (pE V Z t x) (ev (o4 (sE X V Z x v t) (pE V Z t x)) v) 4)) (by omega) (by omega) h3 h4 h5 rfl]
    rfl
theorem qM_setEntry {K V Y Z x v : Nat} {T : MS} (hK : 1000 ≤ K) (hv0 : v < 2 ^ 28) (hp : ∀ t, t < Y → pE V Z t x + 4 ≤ 524288) (hY : Y ≤ 2) (h3 : T.v_v = nI V) (h4 : T.v_y = nI Y) (h5 : T.v_z = nI Z) : f_Mo_setEntry K T (nI x) (nI v) = some (T.u_v_disk (sE T.v_disk V Z x v Y)) := by
  unfold f_Mo_setEntry
  exact qM_setE hK hv0 hp hY Y 0 K T.v_disk T (by omega) (by omega) h3 h4 h5 rfl
theorem qC_linkL {K N V Y Z x v : Nat} {G : CG} (hG : G.n = N) (hN1 : 256 ≤ N) (hN : N ≤ 1024) (hv0 : v < 2 ^ 28) (hp : ∀ t, t < Y → pE V Z t x + 4 ≤ 512 * N) (hY : Y ≤ 2) : ∀ (d t k : Nat) (X : Nat → Int32) (S : CS), t + d = Y → d < k → S.v_Tb_before = nI V → S.v_Tb_copies = nI Y → S.v_Tb_length = nI Z → S.w_Dk_bytes = sE X V Z x v t → f_Tb_link_33 K G k (nI x) (nI v) (nI t) S = some (S.u_w_Dk_bytes (sE X V Z x v Y)) := by
  intro d
  induction d with
  | zero =>
    intro t k X S h1 h2 h3 h4 h5 h6
    obtain ⟨k, rfl⟩ : ∃ m, k = m + 1 := ⟨k - 1, by omega⟩
    obtain rfl : t = Y := by omega
    rw [f_Tb_link_33, h4, if_pos (nI_le (by omega) (by omega)), ← h6]
    rfl
  | succ d ih =>
    intro t k X S h1 h2 h3 h4 h5 h6
    obtain ⟨k, rfl⟩ : ∃ m, k = m + 1 := ⟨k - 1, by omega⟩
    have hpt := hp t (by omega)
    have hA : (nI V + nI t * nI Z) * 512 + 4 * nI x = nI (pE V Z t x) := by
      rw [pk_mul, nI_add, show (512 : Int32) = nI 512 from rfl, pk_mul, show (4 : Int32) = nI 4 from rfl, pk_mul, nI_add, Nat.mul_comm (V + t * Z)]
    have hw := o4_lt (sE X V Z x v t) (pE V Z t x)
    rw [f_Tb_link_33, h4, if_neg (nI_ge (by omega) (by omega)), h3, h5, hA, q_l, rV4 (sE X V Z x v t) hG h6 hN (by omega), q_c, ev_C hw hv0, qC_put4W hG hN1 hN (by omega) (ev_lt hw hv0), q_b, h6, show (1 : Int32) = nI 1 from rfl, nI_add, q_l]
    rw [ih (t + 1) k X (S.u_w_Dk_bytes (st (sE X V Z x v t) (pE V Z t x) (ev (o4 (sE X V Z x v t) (pE V Z t x)) v) 4)) (by omega) (by omega) h3 h4 h5 rfl]
    rfl
theorem qC_link {K N V Y Z x v C : Nat} {G : CG} {S : CS} (hK : 1000 ≤ K) (hG : G.n = N) (hN1 : 256 ≤ N) (hN : N ≤ 1024) (hv0 : v < 2 ^ 28) (hp : ∀ t, t < Y → pE V Z t x + 4 ≤ 512 * N) (hY : Y ≤ 2) (h3 : S.v_Tb_before = nI V) (h4 : S.v_Tb_copies = nI Y) (h5 : S.v_Tb_length = nI Z) (h6 : S.v_Tb_clusters = nI C) (hC : C + 2 < N / 2 + 2) (hx : x < C + 2) : f_Tb_link K G S (nI x) (nI v) = some ((S.u_w_Tb_next (upd S.w_Tb_next x (nI v))).u_w_Dk_bytes (sE S.w_Dk_bytes V Z x v Y)) := by
  unfold f_Tb_link
  rw [if_neg (nI_pos (by omega)), h6, show (2 : Int32) = nI 2 from rfl, nI_add, if_neg (nI_ge hx (by omega)), hG, if_pos (nI_lt (by omega) (by omega)), q_g (q_in (by omega) (by omega)), q_l, nI_clamp (by omega)]
  exact qC_linkL hG hN1 hN hv0 hp hY Y 0 K S.w_Dk_bytes (S.u_w_Tb_next (upd S.w_Tb_next x (nI v))) (by omega) (by omega) h3 h4 h5 rfl
/-- what it leaves, and what it puts -/
theorem sE_out {X : Nat → Int32} {V Z x v q : Nat} : ∀ n, (∀ t, t < n → q < pE V Z t x ∨ pE V Z t x + 4 ≤ q) → o1 (sE X V Z x v n) q = o1 X q := by
  intro n
  induction n with
  | zero => intro _; rfl
  | succ n ih =>
    intro h
    rw [sE, st_out (h n (by omega)), ih (fun t ht => h t (by omega))]
theorem st_o4 {D : Nat → Int32} {p u : Nat} (hu : u < 2 ^ 32) : o4 (st D p u 4) p = u := by
  unfold o4 o2
  rw [st_o1, st_o1, st_o1, st_o1, if_pos (by omega), if_pos (by omega), if_pos (by omega), if_pos (by omega), Nat.sub_self, Nat.add_sub_cancel_left, Nat.add_sub_cancel_left, show p + 2 + 1 - p = 3 by omega]
  omega
theorem st_o4o {D : Nat → Int32} {p u q n : Nat} (h : q + 4 ≤ p ∨ p + n ≤ q) : o4 (st D p u n) q = o4 D q := by
  unfold o4 o2
  rw [st_out (by omega), st_out (by omega), st_out (by omega), st_out (by omega)]
