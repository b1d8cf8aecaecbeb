/-! The record laid by the reference: its own blocks, what is ahead of the clusters, the mark. -/
def gpB (F v : Nat → Int32) (s : Nat) : Nat → Nat → Int32
  | 0 => F
  | j + 1 => upd (gpB F v s j) (s + j) (vp_nar .byte (v j))
theorem gpB_o1 {F v : Nat → Int32} {s q : Nat} : ∀ n, o1 (gpB F v s n) q = if s ≤ q ∧ q < s + n then o1 v (q - s) else o1 F q := by
  intro n
  induction n with
  | zero => rw [gpB, if_neg (by omega)]
  | succ n ih =>
    rw [gpB]
    by_cases g : q = s + n
    · rw [g, o1_upd_s, ub_nar, if_pos (by omega), Nat.add_sub_cancel_left]
      rfl
    · rw [o1_upd_n g, ih]
      by_cases g2 : s ≤ q ∧ q < s + n
      · rw [if_pos g2, if_pos (by omega)]
      · rw [if_neg g2, if_neg (by omega)]
/-- the record's own three blocks -/
def rvX (D : Nat → Int32) (q : Nat) : Nat → Int32 := fun j => if q < 2 then D (1024 + 1024 * q + j) else if j < 512 then D (3584 + j) else 0
theorem ql_rec19 {K q b : Nat} {D : Nat → Int32} {T : MS} {F U : Nat → Int32} {n : Nat} {R : Rg} {rec : Int32 → MS → Option MS} (hD : T.v_disk = D) (hq : q < 3) (hb : b < 512) (hR : R.1 q = nI b) : ∀ (d j k : Nat), j + d = 1024 → d < k → f_Mo_makeRecord_19 K rec k (nI q) (nI j) (qS T (gpB F (rvX D q) (1024 * b) j) U n R) = rec (nI (q + 1)) (qS T (gpB F (rvX D q) (1024 * b) 1024) U n R) := by
  intro d
  induction d with
  | zero =>
    intro j k e1 e2
    obtain ⟨k, rfl⟩ : ∃ m, k = m + 1 := ⟨k - 1, by omega⟩
    obtain rfl : j = 1024 := by omega
    rw [f_Mo_makeRecord_19, if_pos (show (1024 : Int32) ≤ nI 1024 from nI_le (a := 1024) (by omega) (by omega)), nI_1, q_l]
  | succ d ih =>
    intro j k e1 e2
    obtain ⟨k, rfl⟩ : ∃ m, k = m + 1 := ⟨k - 1, by omega⟩
    have nx := ih (j + 1) k (by omega) (by omega)
    rw [gpB] at nx
    have hrc : (qS T (gpB F (rvX D q) (1024 * b) j) U n R).v_record (nI q).toNatClampNeg = nI b := by rw [nI_clamp (by omega)]; exact hR
    have h87 : ∀ v : Int32, v = rvX D q j → f_Mo_makeRecord_87 K rec (f_Mo_makeRecord_19 K rec k) (nI q) (nI j) (nI (1024 * b + j)) v (qS T (gpB F (rvX D q) (1024 * b) j) U n R) = rec (nI (q + 1)) (qS T (gpB F (rvX D q) (1024 * b) 1024) U n R) := fun v hv => by
      unfold f_Mo_makeRecord_87
      rw [q_g (q_in (by omega) (by decide)), q_l, nI_clamp (by omega), nI_1, q_l, hv]
      exact nx
    rw [f_Mo_makeRecord_19, if_neg (show ¬ (1024 : Int32) ≤ nI j from nI_ge (b := 1024) (by omega) (by omega)), q_g (q_in (by omega) (by decide)), hrc, show (1024 : Int32) * nI b = nI (1024 * b) from pk_mul _ _, nI_add]
    by_cases g : 2 ≤ q
    · rw [if_pos (show (2 : Int32) ≤ nI q from nI_le (a := 2) g (by omega))]
      by_cases g2 : 512 ≤ j
      · rw [if_pos (show (512 : Int32) ≤ nI j from nI_le (a := 512) g2 (by omega))]
        exact h87 0 (by unfold rvX; rw [if_neg (by omega), if_neg (by omega)])
      · rw [if_neg (show ¬ (512 : Int32) ≤ nI j from nI_ge (b := 512) (by omega) (by omega)), show (3584 : Int32) = nI 3584 from rfl, nI_add, q_g (q_in (by omega) (by decide)), nI_clamp (by omega)]
        refine h87 _ ?_
        unfold rvX
        rw [if_neg (by omega), if_pos (by omega), ← hD]
        rfl
    · rw [if_neg (show ¬ (2 : Int32) ≤ nI q from nI_ge (b := 2) (by omega) (by omega)), show (1024 : Int32) * nI q = nI (1024 * q) from pk_mul _ _, show (1024 : Int32) + nI (1024 * q) = nI (1024 + 1024 * q) from nI_add _ _, nI_add, q_g (q_in (by omega) (by decide)), nI_clamp (by omega)]
      refine h87 _ ?_
      unfold rvX
      rw [if_pos (by omega), ← hD]
      rfl
theorem ql_rec133 {K b many : Nat} {D : Nat → Int32} {T : MS} {F U : Nat → Int32} {n : Nat} {R : Rg} {rec : Int32 → Int32 → MS → Option MS} (hD : T.v_disk = D) (hb : b < 512) : ∀ (d j k : Nat), j + d = 1024 → d < k → f_Mo_makeRecord_133 K rec k (nI many) (nI b) (nI j) (qS T (cpB F D b (1024 * b) j) U n R) = rec (nI many) (nI (b + 1)) (qS T (cpB F D b (1024 * b) 1024) U n R) := by
  intro d
  induction d with
  | zero =>
    intro j k e1 e2
    obtain ⟨k, rfl⟩ : ∃ m, k = m + 1 := ⟨k - 1, by omega⟩
    obtain rfl : j = 1024 := by omega
    rw [f_Mo_makeRecord_133, if_pos (show (1024 : Int32) ≤ nI 1024 from nI_le (a := 1024) (by omega) (by omega)), nI_1, q_l]
  | succ d ih =>
    intro j k e1 e2
    obtain ⟨k, rfl⟩ : ∃ m, k = m + 1 := ⟨k - 1, by omega⟩
    rw [f_Mo_makeRecord_133, if_neg (show ¬ (1024 : Int32) ≤ nI j from nI_ge (b := 1024) (by omega) (by omega)), show (1024 : Int32) * nI b = nI (1024 * b) from pk_mul _ _, nI_add, q_g (q_in (by omega) (by decide)), q_g (q_in (by omega) (by decide)), nI_clamp (by omega), q_l, nI_1, q_l, show (qS T (cpB F D b (1024 * b) j) U n R).v_disk (1024 * b + j) = D (1024 * b + j) by rw [← hD]; rfl]
    exact ih (j + 1) k (by omega) (by omega)
/-- blocks 3 .. A are kept where they are -/
theorem ql_rec104 {K A : Nat} {D : Nat → Int32} {T : MS} {n : Nat} {p : Nat → Prop} {F0 : Nat → Int32} (hK : 2000 ≤ K) (hD : T.v_disk = D) (hA : T.v_a = nI (2 * A)) (hA6 : 3 ≤ A ∧ A ≤ 64) : ∀ (d b w : Nat) (F U : Nat → Int32) (R : Rg), b + d = A → 3 ≤ b → d < w → (∀ s, 3 ≤ s → s < b → R.1 s = nI s) → (∀ q, 3072 ≤ q → q < 1024 * b → o1 F q = o1 D q) → (∀ q, (q < 3072 ∨ 1024 * b ≤ q) → o1 F q = o1 F0 q) → uM U (fun c => p c ∨ (3 ≤ c ∧ c < b)) → ∃ F' U' R', f_Mo_makeRecord_104 K w (nI b) (nI b) (qS T F U n R) = f_Mo_makeRecord_178 K K (nI A) 0 (qS T F' U' n R') ∧ (∀ s, s < 3 → R'.1 s = R.1 s) ∧ (∀ s, 3 ≤ s → s < A → R'.1 s = nI s) ∧ (∀ q, 3072 ≤ q → q < 1024 * A → o1 F' q = o1 D q) ∧ (∀ q, (q < 3072 ∨ 1024 * A ≤ q) → o1 F' q = o1 F0 q) ∧ uM U' (fun c => p c ∨ (3 ≤ c ∧ c < A)) ∧ R'.2 = R.2 := by
  have ha2 : ∀ F U n R, (qS T F U n R).v_a / 2 = nI A := fun F U n R => by show T.v_a / 2 = _; rw [hA]; exact half (by omega)
  intro d
  induction d with
  | zero =>
    intro b w F U R e1 e3 e2 h1 h2 h3 h4
    obtain ⟨w, rfl⟩ : ∃ m, w = m + 1 := ⟨w - 1, by omega⟩
    obtain rfl : b = A := by omega
    refine ⟨F, U, R, ?_, fun _ _ => rfl, h1, h2, h3, h4, rfl⟩
    rw [f_Mo_makeRecord_104, ha2, if_pos (nI_le (Nat.le_refl _) (by omega))]
  | succ d ih =>
    intro b w F U R e1 e3 e2 h1 h2 h3 h4
    obtain ⟨w, rfl⟩ : ∃ m, w = m + 1 := ⟨w - 1, by omega⟩
    have hcp : ∀ q, o1 (cpB F D b (1024 * b) 1024) q = if 1024 * b ≤ q ∧ q < 1024 * b + 1024 then o1 D q else o1 F q := fun q => by
      rw [cpB_o1]
      by_cases g : 1024 * b ≤ q ∧ q < 1024 * b + 1024
      · rw [if_pos g, if_pos g, show 1024 * b + (q - 1024 * b) = q by omega]
      · rw [if_neg g, if_neg g]
    obtain ⟨F', U', R', c1, c2, c3, c4, c5, c6, c7⟩ := ih (b + 1) w (cpB F D b (1024 * b) 1024) (upd U b (vp_nar .boolean 1)) (upd R.1 b (nI b), R.2) (by omega) (by omega) (by omega) (fun s s1 s2 => by
      show upd R.1 b (nI b) s = _
      by_cases c : s = b
      · rw [c, pk_us]
      · rw [pk_un c]; exact h1 s s1 (by omega)) (fun q q1 q2 => by
      rw [hcp q]
      by_cases g : 1024 * b ≤ q ∧ q < 1024 * b + 1024
      · rw [if_pos g]
      · rw [if_neg g]; exact h2 q q1 (by omega)) (fun q hq => by
      rw [hcp q, if_neg (by omega)]
      exact h3 q (by omega)) (fun c hc0 => by
      rw [uM_upd h4 c hc0]
      exact b01_iff ⟨fun y => y.elim (fun z => z.imp id (fun u => ⟨u.1, by omega⟩)) (fun z => Or.inr ⟨by omega, by omega⟩), fun y => y.elim (fun z => Or.inl (Or.inl z)) (fun z => by
        by_cases g : c = b
        · exact Or.inr g
        · exact Or.inl (Or.inr ⟨z.1, by omega⟩))⟩)
    refine ⟨F', U', R', ?_, fun s hs => ?_, c3, c4, c5, c6, c7⟩
    · rw [f_Mo_makeRecord_104, ha2, if_neg (nI_ge (by omega) (by omega)), q_g (q_in (by omega) (by decide)), q_l, nI_1, q_l, q_g (q_in (by omega) (by decide)), q_l, nI_clamp (by omega)]
      have e9 := ql_rec133 (K := K) (b := b) (many := b + 1) (T := T) (F := F) (U := upd U b (vp_nar .boolean 1)) (n := n) (R := (upd R.1 b (nI b), R.2)) (rec := f_Mo_makeRecord_104 K w) hD (by omega) 1024 0 K (by omega) (by omega)
      exact e9.trans c1
    · rw [c2 s hs]
      show upd R.1 b (nI b) s = _
      rw [pk_un (by omega)]
/-- the mark -/
def mkV : Nat → Int32 := fun j => if j < 4 then nI ([84, 85, 82, 78].getD j 0) else 0
theorem ql_rec178 {K A P r : Nat} {T : MS} {F U : Nat → Int32} {n : Nat} {R : Rg} (hK : 2000 ≤ K) (hP : T.v_per = nI P) (hP2 : P ≤ 256) (hI : T.v_inodes = nI (8 * r)) (hr : r < 2000) : ∃ F', f_Mo_makeRecord_178 K K (nI A) 0 (qS T F U n R) = f_Mo_makeRecord_246 K K (nI A) 0 (qS T F' U n R) ∧ ∀ q, o1 F' q = if 3584 ≤ q ∧ q < 4096 then o1 (mrkX P r) (q - 3584) else o1 F q := by
  have key : ∀ (d j k : Nat), j + d = 512 → d < k → f_Mo_makeRecord_178 K k (nI A) (nI j) (qS T (gpB F mkV 3584 j) U n R) = f_Mo_makeRecord_246 K K (nI A) 0 (qS T (st (st (gpB F mkV 3584 512) 3588 P 4) 3592 (8 * r) 4) U n R) := by
    intro d
    induction d with
    | zero =>
      intro j k e1 e2
      obtain ⟨k, rfl⟩ : ∃ m, k = m + 1 := ⟨k - 1, by omega⟩
      obtain rfl : j = 512 := by omega
      rw [f_Mo_makeRecord_178, if_pos (show (512 : Int32) ≤ nI 512 from nI_le (a := 512) (by omega) (by omega)), show (qS T (gpB F mkV 3584 512) U n R).v_per = nI P from hP, show (3588 : Int32) = nI 3588 from rfl, ql_4 (by omega) (by omega) (by omega), q_b, show (qS T (st (gpB F mkV 3584 512) 3588 P 4) U n R).v_inodes = nI (8 * r) from hI, show (3592 : Int32) = nI 3592 from rfl, ql_4 (by omega) (by omega) (by omega), q_b]
    | succ d ih =>
      intro j k e1 e2
      obtain ⟨k, rfl⟩ : ∃ m, k = m + 1 := ⟨k - 1, by omega⟩
      have nx := ih (j + 1) k (by omega) (by omega)
      rw [gpB] at nx
      have h211 : ∀ v : Int32, v = mkV j → f_Mo_makeRecord_211 K (f_Mo_makeRecord_178 K k) (nI A) (nI j) (3584 + nI j) v (qS T (gpB F mkV 3584 j) U n R) = f_Mo_makeRecord_246 K K (nI A) 0 (qS T (st (st (gpB F mkV 3584 512) 3588 P 4) 3592 (8 * r) 4) U n R) := fun v hv => by
        unfold f_Mo_makeRecord_211
        rw [show (3584 : Int32) = nI 3584 from rfl, nI_add, q_g (q_in (by omega) (by decide)), q_l, nI_clamp (by omega), nI_1, q_l, hv]
        exact nx
      rw [f_Mo_makeRecord_178, if_neg (show ¬ (512 : Int32) ≤ nI j from nI_ge (b := 512) (by omega) (by omega))]
      by_cases g : 4 ≤ j
      · rw [if_pos (show (4 : Int32) ≤ nI j from nI_le (a := 4) g (by omega))]
        exact h211 0 (by unfold mkV; rw [if_neg (by omega)])
      · rw [if_neg (show ¬ (4 : Int32) ≤ nI j from nI_ge (b := 4) (by omega) (by omega))]
        have hs : ∀ j : Fin 4, (str_at [84, 85, 82, 78] (nI j.val)).map (fun x => x.toInt8.toInt32) = some (mkV j.val) := by decide
        have hs := hs ⟨j, by omega⟩
        have hs : (str_at [84, 85, 82, 78] (nI j)).map (fun x => x.toInt8.toInt32) = some (mkV j) := hs
        cases ex : str_at [84, 85, 82, 78] (nI j) with
        | none => rw [ex] at hs; cases hs
        | some x =>
          rw [ex] at hs
          rw [q_b]
          exact h211 _ (Option.some.inj hs)
  refine ⟨_, key 512 0 K (by omega) (by omega), fun q => ?_⟩
  rw [st_o1, st_o1, gpB_o1]
  unfold mrkX
  by_cases g : 3584 ≤ q ∧ q < 4096
  · rw [if_pos g, if_pos (show 3584 ≤ q ∧ q < 3584 + 512 by omega), st_o1, st_o1, st_o1]
    by_cases g1 : 3592 ≤ q ∧ q < 3592 + 4
    · rw [if_pos g1, if_pos (by omega), show q - 3592 = q - 3584 - 8 by omega]
    · rw [if_neg g1, if_neg (show ¬ (8 ≤ q - 3584 ∧ q - 3584 < 8 + 4) by omega)]
      by_cases g2 : 3588 ≤ q ∧ q < 3588 + 4
      · rw [if_pos g2, if_pos (by omega), show q - 3588 = q - 3584 - 4 by omega]
      · rw [if_neg g2, if_neg (show ¬ (4 ≤ q - 3584 ∧ q - 3584 < 4 + 4) by omega)]
        by_cases g3 : q - 3584 < 4
        · rw [if_pos (show 0 ≤ q - 3584 ∧ q - 3584 < 0 + 4 by omega)]
          have hv : ∀ j : Fin 4, o1 mkV j.val = 1314018644 / 256 ^ (j.val - 0) % 256 := by decide
          exact hv ⟨q - 3584, g3⟩
        · rw [if_neg (by omega)]
          show ub (if q - 3584 < 4 then _ else 0) = 0
          rw [if_neg g3]
          decide
  · rw [if_neg g, if_neg (by omega), if_neg (by omega), if_neg (by omega)]
