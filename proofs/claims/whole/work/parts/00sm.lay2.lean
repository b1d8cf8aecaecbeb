/-! make: the loops that lay an entry and its parts. -/
theorem st1_upd (X : Nat → Int32) (q a : Nat) : upd X q (wb (nI a)) = st X q a 1 := by
  show _ = upd (st X q a 0) (q + 0) (wb (nI (a / 256 ^ 0)))
  rw [Nat.pow_zero, Nat.div_one]
  rfl
/-- what the reference has loaded of a directory: where its slots stand -/
abbrev slM (K : Nat) (N L : Nat) (P : Nat → Nat) (T : MS) : Prop := ∀ s f, s < L → f_Mo_slotAt K (T.u_v_disk f) (nI s) = some (nI (P s), T.u_v_disk f) ∧ P s + 32 ≤ 512 * N
theorem qM_zero387 {K N L b s : Nat} {P : Nat → Nat} {T : MS} {a1 a2 a3 a4 a6 a7 : Int32} {rc : Int32 → Int32 → Int32 → Int32 → Int32 → Int32 → Int32 → MS → Option (Int32 × MS)} (hN : N ≤ 1024) (hT : slM K N L P T) (hs : s < L) (hL : L < 2 ^ 31) : ∀ (d i k : Nat) (X : Nat → Int32), i + d = 32 → d < k → f_Mo_make_387 K rc k a1 a2 a3 a4 a6 a7 (nI s) (nI i) (T.u_v_disk (zr X (P s) i)) = rc a1 a2 a3 a4 a6 a7 (nI (s + 1)) (T.u_v_disk (zr X (P s) 32)) := by
  intro d
  induction d with
  | zero =>
    intro i k X h1 h2
    obtain ⟨k, rfl⟩ : ∃ m, k = m + 1 := ⟨k - 1, by omega⟩
    obtain rfl : i = 32 := by omega
    rw [f_Mo_make_387, if_pos (show (32 : Int32) ≤ nI 32 by decide), q_l, nI_1]
  | succ d ih =>
    intro i k X h1 h2
    obtain ⟨k, rfl⟩ : ∃ m, k = m + 1 := ⟨k - 1, by omega⟩
    obtain ⟨e1, e2⟩ := hT s (zr X (P s) i) hs
    rw [f_Mo_make_387, if_neg (show ¬ (32 : Int32) ≤ nI i from nI_ge (show i < 32 by omega) (by decide)), e1, q_c, nI_add, q_g (q_in (by omega) (by decide)), q_l, q_l, nI_1, nI_clamp (by omega)]
    show f_Mo_make_387 K rc k a1 a2 a3 a4 a6 a7 (nI s) (nI (i + 1)) (T.u_v_disk (upd (zr X (P s) i) (P s + i) (vp_nar .byte 0))) = _
    rw [zr_s]
    exact ih (i + 1) k X (by omega) (by omega)
theorem qM_zero374 {K N L b W : Nat} {P : Nat → Nat} {T : MS} {a1 a3 a4 a7 : Int32} (hK : 1000 ≤ K) (hN : N ≤ 1024) (hT : slM K N L P T) (hW : 1 ≤ W) (hW2 : W ≤ 100) (hb : b + W ≤ L) (hL : L < 19000) : ∀ (d i k : Nat) (X : Nat → Int32), i + d = W → d < k → f_Mo_make_374 K k a1 (nI W) a3 a4 (nI b) a7 (nI (b + i)) (T.u_v_disk (zrS (fun i => P (b + i)) X i)) = f_Mo_make_437 K K a1 (nI W) a3 a4 (nI b) a7 (nI (P (b + W - 1))) 0 (T.u_v_disk (zrS (fun i => P (b + i)) X W)) := by
  intro d
  induction d with
  | zero =>
    intro i k X h1 h2
    obtain ⟨k, rfl⟩ : ∃ m, k = m + 1 := ⟨k - 1, by omega⟩
    obtain rfl : i = W := by omega
    rw [f_Mo_make_374, nI_add, if_pos (Int32.le_refl _), show (1 : Int32) = nI 1 from rfl, pk_sub (by omega), (hT (b + i - 1) _ (by omega)).1, q_c]
  | succ d ih =>
    intro i k X h1 h2
    obtain ⟨k, rfl⟩ : ∃ m, k = m + 1 := ⟨k - 1, by omega⟩
    rw [f_Mo_make_374, nI_add, if_neg (nI_ge (by omega) (by omega))]
    have := qM_zero387 (K := K) (b := b) (s := b + i) (a1 := a1) (a2 := nI W) (a3 := a3) (a4 := a4) (a6 := nI b) (a7 := a7) (rc := f_Mo_make_374 K k) hN hT (by omega) (by omega) 32 0 K (zrS (fun i => P (b + i)) X i) rfl (by omega)
    rw [zr_0] at this
    refine this.trans ?_
    exact ih (i + 1) k X (by omega) (by omega)
theorem qM_name437 {K N p : Nat} {nm : Nat → Nat} {T : MS} {a1 a2 a3 a4 a6 a7 : Int32} (hN : N ≤ 1024) (hp : p + 32 ≤ 512 * N) (hnm : ∀ q, q < 11 → T.v_brief q = nI (nm q)) : ∀ (d i k : Nat) (X : Nat → Int32), i + d = 11 → d < k → f_Mo_make_437 K k a1 a2 a3 a4 a6 a7 (nI p) (nI i) (T.u_v_disk (nmW X p nm i)) = f_Mo_make_472 K K a1 a2 a3 a4 a6 a7 (nI p) a6 (T.u_v_disk (nmW X p nm 11)) := by
  intro d
  induction d with
  | zero =>
    intro i k X h1 h2
    obtain ⟨k, rfl⟩ : ∃ m, k = m + 1 := ⟨k - 1, by omega⟩
    obtain rfl : i = 11 := by omega
    rw [f_Mo_make_437, if_pos (show (11 : Int32) ≤ nI 11 by decide)]
  | succ d ih =>
    intro i k X h1 h2
    obtain ⟨k, rfl⟩ : ∃ m, k = m + 1 := ⟨k - 1, by omega⟩
    rw [f_Mo_make_437, if_neg (show ¬ (11 : Int32) ≤ nI i from nI_ge (show i < 11 by omega) (by decide)), q_g (q_in (by omega) (by decide)), nI_add, q_g (q_in (by omega) (by decide)), q_l, q_l, nI_1, nI_clamp (by omega), nI_clamp (by omega)]
    show f_Mo_make_437 K k a1 a2 a3 a4 a6 a7 (nI p) (nI (i + 1)) (T.u_v_disk (upd (nmW X p nm i) (p + i) (wb (T.v_brief i)))) = _
    rw [hnm i (by omega), st1_upd]
    exact ih (i + 1) k X (by omega) (by omega)
theorem qM_parts472 {K N L b W : Nat} {P : Nat → Nat} {nm : Nat → Nat} {us : List Nat} {T : MS} {a1 a3 a4 a7 : Int32} (hK : 1000 ≤ K) (hN : N ≤ 1024) (hT : slM K N L P T) (hW : 1 ≤ W) (hW2 : W ≤ 21) (hb : b + W ≤ L) (hL : L < 19000) (hs : T.v_size = nI us.length) (hbf : bufR T.v_name us) (hl : us.length ≤ 255) (hu : ∀ u ∈ us, u < 65536) (hd : disP (fun i => P (b + i)) W) (X : Nat → Int32) (hX : ∀ i, i < 11 → o1 X (P (b + W - 1) + i) = nm i) (hsm : smN nm 11 < 256) : ∀ (d i k : Nat), i + d + 1 = W → d < k → f_Mo_make_472 K k a1 (nI W) a3 a4 (nI b) a7 (nI (P (b + W - 1))) (nI (b + i)) (T.u_v_disk (ptM (fun i => P (b + i)) W (smN nm 11) us X i)) = (if a1 = 0 then f_Mo_make_548 K a1 (nI W) a3 a4 (nI b) a7 (nI (P (b + W - 1))) (nI (P (b + W - 1)) + 11) 1 32 (T.u_v_disk (ptM (fun i => P (b + i)) W (smN nm 11) us X (W - 1))) else f_Mo_make_548 K a1 (nI W) a3 a4 (nI b) a7 (nI (P (b + W - 1))) (nI (P (b + W - 1)) + 11) 1 48 (T.u_v_disk (ptM (fun i => P (b + i)) W (smN nm 11) us X (W - 1)))) := by
  have hpe := (hT (b + W - 1) X (by omega)).2
  intro d
  induction d with
  | zero =>
    intro i k h1 h2
    obtain ⟨k, rfl⟩ : ∃ m, k = m + 1 := ⟨k - 1, by omega⟩
    obtain rfl : i = W - 1 := by omega
    rw [f_Mo_make_472, nI_add, show nI (b + W) - 1 = nI (b + W - 1) from pk_sub (b := 1) (by omega), if_pos (nI_le (by omega) (by omega))]
  | succ d ih =>
    intro i k h1 h2
    obtain ⟨k, rfl⟩ : ∃ m, k = m + 1 := ⟨k - 1, by omega⟩
    obtain ⟨e1, e2⟩ := hT (b + i) (ptM (fun i => P (b + i)) W (smN nm 11) us X i) (by omega)
    have hsum : f_Mo_sumOf K (T.u_v_disk (ptM (fun i => P (b + i)) W (smN nm 11) us X i)) (nI (P (b + W - 1))) = some (nI (smN nm 11), T.u_v_disk (ptM (fun i => P (b + i)) W (smN nm 11) us X i)) := by
      rw [qM_sum (D := ptM (fun i => P (b + i)) W (smN nm 11) us X i) hK rfl (by omega), sm_N (nm := nm) (fun j hj => ?_) 11 (Nat.le_refl _)]
      rw [ptM_out i fun j' h3 h4 => ?_, hX j hj]
      have := hd j' (W - 1) (by omega) (by omega) (by omega)
      have this : P (b + j') + 32 ≤ P (b + (W - 1)) ∨ P (b + (W - 1)) + 32 ≤ P (b + j') := this
      rw [show b + (W - 1) = b + W - 1 by omega] at this
      have h4 : P (b + j') ≤ P (b + W - 1) + j ∧ P (b + W - 1) + j < P (b + j') + 32 := h4
      omega
    have fin : ∀ la : Int32, (la = 0 ↔ i ≠ 0) → f_Mo_make_513 K (f_Mo_make_472 K k) a1 (nI W) a3 a4 (nI b) a7 (nI (P (b + W - 1))) (nI (b + i)) (nI (P (b + i))) (nI W - 1 - (nI (b + i) - nI b)) la (T.u_v_disk (ptM (fun i => P (b + i)) W (smN nm 11) us X i)) = f_Mo_make_472 K k a1 (nI W) a3 a4 (nI b) a7 (nI (P (b + W - 1))) (nI (b + (i + 1))) (T.u_v_disk (ptM (fun i => P (b + i)) W (smN nm 11) us X (i + 1))) := fun la hla => by
      unfold f_Mo_make_513
      have lay := qM_layPart (K := K) (n := W - 1 - i) (p := P (b + i)) (m := smN nm 11) (us := us) (T := T.u_v_disk (ptM (fun i => P (b + i)) W (smN nm 11) us X i)) (la := la) (by omega) hs hbf hl hu (by omega) (by omega) (by omega) hsm
      rw [hsum, q_c, pk_sub (show b ≤ b + i by omega), show b + i - b = i by omega, show nI W - 1 = nI (W - 1) from pk_sub (b := 1) (by omega), pk_sub (by omega), lay, q_b, q_l, nI_1]
      have ea : (if la = 0 then W - 1 - i else W - 1 - i + 64) = ptA W i := by
        unfold ptA
        by_cases c : i = 0
        · rw [if_neg (fun y => (hla.mp y) c), if_pos c]
        · rw [if_pos (hla.mpr c), if_neg c]
      rw [ea]
      rfl
    rw [f_Mo_make_472, nI_add, show nI (b + W) - 1 = nI (b + W - 1) from pk_sub (b := 1) (by omega), if_neg (nI_ge (by omega) (by omega)), e1, q_c]
    by_cases c : i = 0
    · rw [if_pos (show nI (b + i) = nI b from by rw [c]; rfl), fin 1 ⟨fun y => absurd y (by decide), fun y => absurd c y⟩]
      exact ih (i + 1) k (by omega) (by omega)
    · rw [if_neg (fun y => c (by have := (nI_eq (show b + i < 2 ^ 31 by omega) (show b < 2 ^ 31 by omega)).mp y; omega)), fin 0 ⟨fun _ => c, fun _ => rfl⟩]
      exact ih (i + 1) k (by omega) (by omega)
