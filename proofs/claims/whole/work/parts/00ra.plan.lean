/-! The plan: groups and fixed blocks. -/
abbrev plN (A H k B P G r : Nat) : Prop := (5 ≤ A ∧ A ≤ 64) ∧ (H = 1 ∨ H = 2 ∨ H = 4) ∧ k < 512 ∧ (128 ≤ B ∧ B ≤ 512) ∧ (P = 64 ∨ P = 128 ∨ P = 256) ∧ G = (B - 1 + P - 1) / P ∧ r < 2000 ∧ A + k * H ≤ B
def mBk (A P g : Nat) : Nat := if g = 0 then A else 3 + g * P
def gSz (B P G g : Nat) : Nat := if G - 1 ≤ g then B - 1 - g * P else P
def lstB (A r g : Nat) : Nat := if g = 0 then A + r + 9 else r + 12
/-- fixed by the groups before n -/
def fxd (A P r n b : Nat) : Prop := ∃ g, g < n ∧ (b = 1 + g * P ∨ b = 2 + g * P ∨ (mBk A P g ≤ b ∧ b < mBk A P g + (2 + r)))
def okBk (A H k b : Nat) : Prop := b < 3 ∨ (A ≤ b ∧ b < A + k * H)
def rmy (A H k B P G r : Nat) : Prop := (∀ g, g < G → lstB A r g ≤ gSz B P G g) ∧ ∀ b, b < B → fxd A P r G b → okBk A H k b
theorem gr_le {A H k B P G r g : Nat} (h : plN A H k B P G r) (hg : g < G) : 1 ≤ P ∧ P ≤ 256 ∧ G ≤ 8 ∧ g * P + 1 < B ∧ g * P + 1 + gSz B P G g ≤ B ∧ 1 ≤ G ∧ gSz B P G g ≤ P := by
  obtain ⟨-, -, -, hB, hP, hG, -, -⟩ := h
  unfold gSz
  rcases hP with e | e | e <;> subst e <;> split <;> omega
theorem gr_in {A H k B P G r g : Nat} (h : plN A H k B P G r) (hg : g < G) (hl : lstB A r g ≤ gSz B P G g) : 1 + g * P < B ∧ 2 + g * P < B ∧ mBk A P g + (2 + r) ≤ B ∧ mBk A P g + (2 + r) ≤ g * P + 1 + gSz B P G g ∧ 3 + g * P ≤ mBk A P g := by
  obtain ⟨a1, a2, a3, a4, a5, a6, a7⟩ := gr_le h hg
  obtain ⟨hA, -⟩ := h
  unfold lstB at hl
  unfold mBk
  by_cases w : g = 0
  · rw [if_pos w] at hl ⊢
    subst w
    rw [Nat.zero_mul] at *
    omega
  · rw [if_neg w] at hl ⊢
    generalize g * P = x at *
    omega
/-- how many numbers below n there are -/
noncomputable def cntP (p : Nat → Prop) : Nat → Nat
  | 0 => 0
  | n + 1 => cntP p n + cif (p n) 1 0
theorem cntP_le (p : Nat → Prop) : ∀ n, cntP p n ≤ n := by
  intro n
  induction n with
  | zero => exact Nat.le_refl _
  | succ n ih =>
    rw [cntP]
    by_cases w : p n
    · rw [cif_t w]; omega
    · rw [cif_f w]; omega
theorem cntP_congr {p q : Nat → Prop} : ∀ n, (∀ b, b < n → (p b ↔ q b)) → cntP p n = cntP q n := by
  intro n
  induction n with
  | zero => intro _; rfl
  | succ n ih =>
    intro h
    rw [cntP, cntP, ih (fun b hb => h b (by omega)), propext (h n (by omega))]
theorem cntP_or {p q : Nat → Prop} : ∀ n, (∀ b, b < n → p b → ¬ q b) → cntP (fun b => p b ∨ q b) n = cntP p n + cntP q n := by
  intro n
  induction n with
  | zero => intro _; rfl
  | succ n ih =>
    intro h
    rw [cntP, cntP, cntP, ih (fun b hb => h b (by omega))]
    by_cases w : p n
    · rw [cif_t (Or.inl w), cif_t w, cif_f (h n (by omega) w)]; omega
    · by_cases g : q n
      · rw [cif_t (Or.inr g), cif_f w, cif_t g]; omega
      · rw [cif_f (fun y => y.elim w g), cif_f w, cif_f g]; omega
theorem cntP_no {p : Nat → Prop} (n : Nat) (h : ∀ b, b < n → ¬ p b) : cntP p n = 0 := by
  induction n with
  | zero => rfl
  | succ n ih => rw [cntP, ih (fun b hb => h b (by omega)), cif_f (h n (by omega))]
theorem cntP_iv {a c : Nat} (hac : a ≤ c) : ∀ n, c ≤ n → cntP (fun b => a ≤ b ∧ b < c) n = c - a := by
  have low : ∀ n, n ≤ a → cntP (fun b => a ≤ b ∧ b < c) n = 0 := fun n hn => cntP_no n (fun b hb y => by omega)
  have mid : ∀ d, a + d ≤ c → cntP (fun b => a ≤ b ∧ b < c) (a + d) = d := by
    intro d
    induction d with
    | zero => intro _; exact low a (Nat.le_refl _)
    | succ d ih =>
      intro hd
      rw [show a + (d + 1) = (a + d) + 1 from rfl, cntP, ih (by omega), cif_t (by omega)]
  have top : ∀ e, cntP (fun b => a ≤ b ∧ b < c) (c + e) = c - a := by
    intro e
    induction e with
    | zero =>
      have := mid (c - a) (by omega)
      rw [show a + (c - a) = c by omega] at this
      exact this
    | succ e ih => rw [show c + (e + 1) = (c + e) + 1 from rfl, cntP, ih, cif_f (by omega), Nat.add_zero]
  intro n hn
  have := top (n - c)
  rw [show c + (n - c) = n by omega] at this
  exact this
theorem fxd_cnt {A H k B P G r : Nat} (h : plN A H k B P G r) (hl : ∀ g, g < G → lstB A r g ≤ gSz B P G g) : ∀ n, n ≤ G → cntP (fxd A P r n) B = n * (4 + r) := by
  intro n
  induction n with
  | zero => intro _; rw [Nat.zero_mul]; exact cntP_no B (fun b _ ⟨g, g1, _⟩ => by omega)
  | succ n ih =>
    intro hn
    obtain ⟨a1, a2, a3, a4, a5, a6, a7⟩ := gr_le h (show n < G by omega)
    obtain ⟨b1, b2, b3, b4, b5⟩ := gr_in h (show n < G by omega) (hl n (by omega))
    have e : ∀ b, fxd A P r (n + 1) b ↔ (fxd A P r n b ∨ ((1 + n * P ≤ b ∧ b < 3 + n * P) ∨ (mBk A P n ≤ b ∧ b < mBk A P n + (2 + r)))) := by
      intro b
      constructor
      · rintro ⟨g, g1, g2⟩
        by_cases w : g = n
        · subst w
          refine Or.inr ?_
          rcases g2 with g2 | g2 | g2
          · exact Or.inl (by omega)
          · exact Or.inl (by omega)
          · exact Or.inr g2
        · exact Or.inl ⟨g, by omega, g2⟩
      · rintro (⟨g, g1, g2⟩ | g2 | g2)
        · exact ⟨g, by omega, g2⟩
        · refine ⟨n, by omega, ?_⟩
          by_cases w : b = 1 + n * P
          · exact Or.inl w
          · exact Or.inr (Or.inl (by omega))
        · exact ⟨n, by omega, Or.inr (Or.inr g2)⟩
    rw [cntP_congr B (fun b _ => e b), cntP_or B (fun b hb => ?_), cntP_or B (fun b hb => ?_), ih (by omega), cntP_iv (by omega) B (by omega), cntP_iv (by omega) B b3, Nat.add_mul, Nat.one_mul]
    · omega
    · intro w y; omega
    · rintro ⟨g, g1, g2⟩ w
      have hgn := Nat.mul_le_mul_right P (show g + 1 ≤ n by omega)
      rw [Nat.add_mul, Nat.one_mul] at hgn
      obtain ⟨c1, c2, c3, c4, c5, c6, c7⟩ := gr_le h (show g < G by omega)
      obtain ⟨d1, d2, d3, d4, d5⟩ := gr_in h (show g < G by omega) (hl g (by omega))
      generalize g * P = x at *
      generalize n * P = y at *
      omega
abbrev plM (A H k B P G r : Nat) (T : MS) : Prop := T.v_a = nI (2 * A) ∧ T.v_c = nI (2 * H) ∧ T.v_k = nI k ∧ T.v_blocks = nI B ∧ T.v_per = nI P ∧ T.v_groups = nI G ∧ T.v_rows = nI r
theorem qM_groupSize {K A H k B P G r g : Nat} {T : MS} (h : plN A H k B P G r) (hT : plM A H k B P G r T) (hg : g < G) : f_Mo_groupSize K T (nI g) = some (nI (gSz B P G g), T) := by
  obtain ⟨t1, t2, t3, t4, t5, t6, t7⟩ := hT
  obtain ⟨a1, a2, a3, a4, a5, a6, a7⟩ := gr_le h hg
  have hB := h.2.2.2.1
  unfold f_Mo_groupSize gSz
  rw [t6, t4, t5, show (1 : Int32) = nI 1 from rfl, pk_sub (by omega), pk_sub (by omega), pk_mul]
  by_cases w : G - 1 ≤ g
  · rw [if_pos (nI_le w (by omega)), if_pos w, pk_sub (by omega)]
  · rw [if_neg (nI_ge (by omega) (by omega)), if_neg w]
theorem half {a : Nat} (h : a < 2 ^ 30) : nI (2 * a) / 2 = nI a := by
  rw [show (2 : Int32) = nI 2 from rfl, pk_div (by omega) (by decide) (by decide), Nat.mul_comm, Nat.mul_div_cancel _ (by decide)]
theorem qM_mapOf {K A H k B P G r g : Nat} {T : MS} (h : plN A H k B P G r) (hT : plM A H k B P G r T) (hg : g < G) : f_Mo_mapOf K T (nI g) = some (nI (mBk A P g), T) := by
  obtain ⟨t1, t2, t3, t4, t5, t6, t7⟩ := hT
  obtain ⟨a1, a2, a3, a4, a5, a6, a7⟩ := gr_le h hg
  have hA := h.1
  unfold f_Mo_mapOf mBk
  rw [t1, half (by omega), t5]
  by_cases w : g = 0
  · rw [if_pos (show nI g = 0 by rw [w]; rfl), if_pos w]
  · rw [if_neg (nI_ne0 (by omega) (by omega)), if_neg w, pk_mul, show (3 : Int32) = nI 3 from rfl, nI_add]
theorem qM_rm4 {K A H k B P G r : Nat} {T : MS} (h : plN A H k B P G r) (hT : plM A H k B P G r T) : ∀ (d g q : Nat), g + d = G → d < q → f_Mo_isRoomy_4 K q (nI 0) (nI g) T = some (0, T) ∧ ((∀ g', g ≤ g' → g' < G → lstB A r g' ≤ gSz B P G g') → f_Mo_isRoomy_4 K q (nI 1) (nI g) T = f_Mo_isRoomy_72 K K 1 0 T) ∧ (¬ (∀ g', g ≤ g' → g' < G → lstB A r g' ≤ gSz B P G g') → f_Mo_isRoomy_4 K q (nI 1) (nI g) T = some (0, T)) := by
  obtain ⟨t1, t2, t3, t4, t5, t6, t7⟩ := hT
  have hA := h.1
  have hr := h.2.2.2.2.2.2.1
  have hG8 : G ≤ 8 := by
    obtain ⟨-, -, -, hB, hP, hG, -, -⟩ := h
    rcases hP with e | e | e <;> subst e <;> omega
  intro d
  induction d with
  | zero =>
    intro g q h1 h2
    obtain ⟨q, rfl⟩ : ∃ m, q = m + 1 := ⟨q - 1, by omega⟩
    obtain rfl : g = G := by omega
    refine ⟨?_, fun _ => ?_, fun w => absurd (fun g' a b => absurd a (by omega)) w⟩
    · rw [f_Mo_isRoomy_4, t6, if_pos (Int32.le_refl _), if_pos (show nI 0 = 0 from rfl)]
    · rw [f_Mo_isRoomy_4, t6, if_pos (Int32.le_refl _), if_neg (show ¬ nI 1 = 0 by decide)]
      rfl
  | succ d ih =>
    intro g q h1 h2
    obtain ⟨q, rfl⟩ : ∃ m, q = m + 1 := ⟨q - 1, by omega⟩
    obtain ⟨i1, i2, i3⟩ := ih (g + 1) q (by omega) (by omega)
    obtain ⟨a1, a2, a3, a4, a5, a6, a7⟩ := gr_le h (show g < G by omega)
    have h0 : f_Mo_isRoomy_4 K (q + 1) (nI 0) (nI g) T = some (0, T) := by
      rw [f_Mo_isRoomy_4]
      unfold f_Mo_isRoomy_56 f_Mo_isRoomy_57
      rw [t6, if_neg (nI_ge (by omega) (by omega)), if_pos (show nI 0 = 0 from rfl), show (1 : Int32) = nI 1 from rfl, nI_add, q_l]
      exact i1
    have hstep : f_Mo_isRoomy_4 K (q + 1) (nI 1) (nI g) T = if nI (gSz B P G g) < nI (lstB A r g) then f_Mo_isRoomy_4 K q (nI 0) (nI (g + 1)) T else f_Mo_isRoomy_4 K q (nI 1) (nI (g + 1)) T := by
      rw [f_Mo_isRoomy_4]
      unfold f_Mo_isRoomy_49 f_Mo_isRoomy_56 f_Mo_isRoomy_57
      rw [t6, if_neg (nI_ge (by omega) (by omega)), if_neg (show ¬ nI 1 = 0 by decide), qM_groupSize h ⟨t1, t2, t3, t4, t5, t6, t7⟩ (by omega), q_c, t1, half (by omega), t7, nI_add, show (9 : Int32) = nI 9 from rfl, nI_add, show (12 : Int32) = nI 12 from rfl, nI_add, show (1 : Int32) = nI 1 from rfl, nI_add, q_l, q_l]
      unfold lstB
      by_cases w : g = 0
      · rw [if_pos (show nI g = 0 by rw [w]; rfl), if_pos w]
        rfl
      · rw [if_neg (nI_ne0 (by omega) (by omega)), if_neg w]
        rfl
    have hlt : lstB A r g < 2 ^ 31 := by unfold lstB; split <;> omega
    refine ⟨h0, fun w => ?_, fun w => ?_⟩
    · rw [hstep, if_neg (nI_nlt (w g (Nat.le_refl _) (by omega)) (by omega))]
      exact i2 (fun g' a b => w g' (by omega) b)
    · rw [hstep]
      by_cases y : lstB A r g ≤ gSz B P G g
      · rw [if_neg (nI_nlt y (by omega))]
        refine i3 (fun y2 => w fun g' a b => ?_)
        by_cases e : g' = g
        · rw [e]; exact y
        · exact y2 g' (by omega) b
      · rw [if_pos (nI_lt (by omega) hlt)]
        exact i1
theorem qM_rm72 {K : Nat} {T : MS} (y : Int32) : ∀ (d i q : Nat) (f : Nat → Int32), i + d = 512 → d < q → (∀ b, b < i → f b = nI 0) → ∃ f', (∀ b, b < 512 → f' b = nI 0) ∧ f_Mo_isRoomy_72 K q y (nI i) (T.u_v_fixed f) = f_Mo_isRoomy_94 K K y 0 (T.u_v_fixed f') := by
  intro d
  induction d with
  | zero =>
    intro i q f h1 h2 hf
    obtain ⟨q, rfl⟩ : ∃ m, q = m + 1 := ⟨q - 1, by omega⟩
    obtain rfl : i = 512 := by omega
    exact ⟨f, hf, by rw [f_Mo_isRoomy_72, if_pos (show 512 ≤ nI 512 by decide)]⟩
  | succ d ih =>
    intro i q f h1 h2 hf
    obtain ⟨q, rfl⟩ : ∃ m, q = m + 1 := ⟨q - 1, by omega⟩
    obtain ⟨f', a, b⟩ := ih (i + 1) q (upd f i (nI 0)) (by omega) (by omega) (fun b hb => by
      by_cases w : b = i
      · rw [w, pk_us]
      · rw [pk_un w]; exact hf b (by omega))
    refine ⟨f', a, ?_⟩
    rw [f_Mo_isRoomy_72, if_neg (show ¬ 512 ≤ nI i from nI_ge (b := 512) (by omega) (by decide)), q_g (q_in (by omega) (by decide)), q_l, show (1 : Int32) = nI 1 from rfl, nI_add, q_l, nI_clamp (by omega)]
    exact b
/-- one more fixed -/
theorem fx_upd {f : Nat → Int32} {p : Nat → Prop} {c n : Nat} (h : ∀ b, b < n → f b = b01 (p b)) : ∀ b, b < n → upd f c (vp_nar .boolean 1) b = b01 (p b ∨ b = c) := fun b hb => by
  by_cases w : b = c
  · rw [w, pk_us, b01_t (Or.inr rfl)]; decide
  · rw [pk_un w, h b hb]
    exact congrArg b01 (propext ⟨Or.inl, fun y => y.resolve_right w⟩)
theorem qM_rm132 {K A H k B P G r g : Nat} {T : MS} (h : plN A H k B P G r) (hT : plM A H k B P G r T) (hg : g < G) (hl : lstB A r g ≤ gSz B P G g) (p : Nat → Prop) (y : Int32) (rec : Int32 → Int32 → MS → Option (Int32 × MS)) : ∀ (d j q : Nat) (f : Nat → Int32), j + d = 2 + r → d < q → (∀ b, b < 512 → f b = b01 (p b ∨ (mBk A P g ≤ b ∧ b < mBk A P g + j))) → ∃ f', (∀ b, b < 512 → f' b = b01 (p b ∨ (mBk A P g ≤ b ∧ b < mBk A P g + (2 + r)))) ∧ f_Mo_isRoomy_132 K rec q y (nI g) (nI j) (T.u_v_fixed f) = rec y (nI (g + 1)) (T.u_v_fixed f') := by
  have hr := h.2.2.2.2.2.2.1
  obtain ⟨b1, b2, b3, b4, b5⟩ := gr_in h hg hl
  have hB := h.2.2.2.1
  intro d
  induction d with
  | zero =>
    intro j q f h1 h2 hf
    obtain ⟨q, rfl⟩ : ∃ m, q = m + 1 := ⟨q - 1, by omega⟩
    obtain rfl : j = 2 + r := by omega
    refine ⟨f, hf, ?_⟩
    rw [f_Mo_isRoomy_132, show (T.u_v_fixed f).v_rows = nI r from hT.2.2.2.2.2.2, show (2 : Int32) = nI 2 from rfl, nI_add, if_pos (Int32.le_refl _), show (1 : Int32) = nI 1 from rfl, nI_add, q_l]
  | succ d ih =>
    intro j q f h1 h2 hf
    obtain ⟨q, rfl⟩ : ∃ m, q = m + 1 := ⟨q - 1, by omega⟩
    obtain ⟨f', a, b⟩ := ih (j + 1) q (upd f (mBk A P g + j) (vp_nar .boolean 1)) (by omega) (by omega) (fun b hb => by
      rw [fx_upd hf b hb]
      refine congrArg b01 (propext ⟨fun y => ?_, fun y => ?_⟩)
      · rcases y with (y | y) | y
        · exact Or.inl y
        · exact Or.inr (by omega)
        · exact Or.inr (by omega)
      · rcases y with y | y
        · exact Or.inl (Or.inl y)
        · by_cases e : b = mBk A P g + j
          · exact Or.inr e
          · exact Or.inl (Or.inr (by omega)))
    refine ⟨f', a, ?_⟩
    rw [f_Mo_isRoomy_132, show (T.u_v_fixed f).v_rows = nI r from hT.2.2.2.2.2.2, show (2 : Int32) = nI 2 from rfl, nI_add, if_neg (nI_ge (by omega) (by omega)), qM_mapOf (T := T.u_v_fixed f) h hT hg, q_c, nI_add, q_g (q_in (by omega) (by decide)), q_l, show (1 : Int32) = nI 1 from rfl, nI_add, q_l, nI_clamp (by omega)]
    exact b
theorem qM_rm94 {K A H k B P G r : Nat} {T : MS} (hK : 3000 ≤ K) (h : plN A H k B P G r) (hT : plM A H k B P G r T) (hl : ∀ g, g < G → lstB A r g ≤ gSz B P G g) (y : Int32) : ∀ (d g q : Nat) (f : Nat → Int32), g + d = G → d < q → (∀ b, b < 512 → f b = b01 (fxd A P r g b)) → ∃ f', (∀ b, b < 512 → f' b = b01 (fxd A P r G b)) ∧ f_Mo_isRoomy_94 K q y (nI g) (T.u_v_fixed f) = f_Mo_isRoomy_174 K K y 0 ((T.u_v_fixed f').u_v_fixedBlocks 0) := by
  have hB := h.2.2.2.1
  have hr := h.2.2.2.2.2.2.1
  have hG8 : G ≤ 8 := by
    obtain ⟨-, -, -, hB, hP, hG, -, -⟩ := h
    rcases hP with e | e | e <;> subst e <;> omega
  intro d
  induction d with
  | zero =>
    intro g q f h1 h2 hf
    obtain ⟨q, rfl⟩ : ∃ m, q = m + 1 := ⟨q - 1, by omega⟩
    obtain rfl : g = G := by omega
    refine ⟨f, hf, ?_⟩
    rw [f_Mo_isRoomy_94, show (T.u_v_fixed f).v_groups = nI g from hT.2.2.2.2.2.1, if_pos (Int32.le_refl _), q_l]
  | succ d ih =>
    intro g q f h1 h2 hf
    obtain ⟨q, rfl⟩ : ∃ m, q = m + 1 := ⟨q - 1, by omega⟩
    obtain ⟨a1, a2, a3, a4, a5, a6, a7⟩ := gr_le h (show g < G by omega)
    obtain ⟨b1, b2, b3, b4, b5⟩ := gr_in h (show g < G by omega) (hl g (by omega))
    obtain ⟨f2, c1, c2⟩ := qM_rm132 (K := K) (T := T) h hT (show g < G by omega) (hl g (by omega)) (fun b => (fxd A P r g b ∨ b = 1 + g * P) ∨ b = 2 + g * P) y (f_Mo_isRoomy_94 K q) (2 + r) 0 K (upd (upd f (1 + g * P) (vp_nar .boolean 1)) (2 + g * P) (vp_nar .boolean 1)) (by omega) (by omega) (fun b hb => by
      rw [fx_upd (fx_upd hf) b hb]
      exact congrArg b01 (propext ⟨Or.inl, fun y => y.resolve_right (by omega)⟩))
    obtain ⟨f', a, b⟩ := ih (g + 1) q f2 (by omega) (by omega) (fun b hb => by
      rw [c1 b hb]
      refine congrArg b01 (propext ⟨fun y => ?_, fun y => ?_⟩)
      · rcases y with ((⟨g', g1, g2⟩ | y) | y) | y
        · exact ⟨g', by omega, g2⟩
        · exact ⟨g, by omega, Or.inl y⟩
        · exact ⟨g, by omega, Or.inr (Or.inl y)⟩
        · exact ⟨g, by omega, Or.inr (Or.inr y)⟩
      · obtain ⟨g', g1, g2⟩ := y
        by_cases e : g' = g
        · rw [e] at g2
          rcases g2 with g2 | g2 | g2
          · exact Or.inl (Or.inl (Or.inr g2))
          · exact Or.inl (Or.inr g2)
          · exact Or.inr g2
        · exact Or.inl (Or.inl (Or.inl ⟨g', by omega, g2⟩)))
    refine ⟨f', a, ?_⟩
    have c2 : f_Mo_isRoomy_132 K (f_Mo_isRoomy_94 K q) K y (nI g) 0 (T.u_v_fixed (upd (upd f (1 + g * P) (vp_nar .boolean 1)) (2 + g * P) (vp_nar .boolean 1))) = _ := c2
    have hper : ∀ f, (T.u_v_fixed f).v_per = nI P := fun _ => hT.2.2.2.2.1
    rw [f_Mo_isRoomy_94, show (T.u_v_fixed f).v_groups = nI G from hT.2.2.2.2.2.1, if_neg (nI_ge (by omega) (by omega)), hper, pk_mul, show (1 : Int32) = nI 1 from rfl, nI_add, q_g (q_in (by omega) (by decide)), q_l, nI_clamp (by omega)]
    rw [show ((T.u_v_fixed f).u_v_fixed (upd (T.u_v_fixed f).v_fixed (1 + g * P) (vp_nar .boolean (nI 1)))).v_per = nI P from hT.2.2.2.2.1, pk_mul, show (2 : Int32) = nI 2 from rfl, nI_add, q_g (q_in (by omega) (by decide)), q_l, nI_clamp (by omega)]
    exact c2.trans b
