abbrev plK (A H k B P g0 : Nat) (S : CS) : Prop := S.v_Tb_start = nI (2 * A) ∧ S.v_Tb_cluster = nI (2 * H) ∧ S.v_Tb_clusters = nI k ∧ S.v_Pl_blocks = nI B ∧ S.v_Pl_size = nI P ∧ S.v_Pl_groups = nI g0
theorem qC_fix34 {K A H k B a n : Nat} {G : CG} {S : CS} (hA : 5 ≤ A ∧ A ≤ 64) (hk0 : A + k * H ≤ B) (hB : 128 ≤ B ∧ B ≤ 512) (hG : G.n / 2 = B) (hS : S.v_Pl_blocks = nI B) (ha1 : 1 ≤ a) (han : a + n ≤ B) (p : Nat → Prop) : ∀ (d b q : Nat) (f : Nat → Int32), b + d = a + n → d < q → a ≤ b → (∀ x, x < B → f x = b01 (p x ∨ (a ≤ x ∧ x < b))) → ∃ f', f_Pl_fix_34 K G q (nI a) (nI n) (nI A) (nI (A + k * H)) (nI b) (S.u_w_Pl_fixed f) = some (b01 (∀ x, b ≤ x → x < a + n → okBk A H k x), S.u_w_Pl_fixed f') ∧ ((∀ x, b ≤ x → x < a + n → okBk A H k x) → ∀ x, x < B → f' x = b01 (p x ∨ (a ≤ x ∧ x < a + n))) := by
  intro d
  induction d with
  | zero =>
    intro b q f h1 h2 h3 hf
    obtain ⟨q, rfl⟩ : ∃ m, q = m + 1 := ⟨q - 1, by omega⟩
    obtain rfl : b = a + n := by omega
    refine ⟨f, ?_, fun _ => hf⟩
    rw [f_Pl_fix_34, nI_add, if_pos (Int32.le_refl _), b01_t (fun x g1 g2 => absurd g1 (by omega))]
    rfl
  | succ d ih =>
    intro b q f h1 h2 h3 hf
    obtain ⟨q, rfl⟩ : ∃ m, q = m + 1 := ⟨q - 1, by omega⟩
    have hkeep : ¬ okBk A H k b → ∃ f', some ((0 : Int32), S.u_w_Pl_fixed f) = some (b01 (∀ x, b ≤ x → x < a + n → okBk A H k x), S.u_w_Pl_fixed f') ∧ ((∀ x, b ≤ x → x < a + n → okBk A H k x) → ∀ x, x < B → f' x = b01 (p x ∨ (a ≤ x ∧ x < a + n))) := fun w => ⟨f, by rw [b01_f (fun y => w (y b (Nat.le_refl _) (by omega)))]; rfl, fun y => absurd (y b (Nat.le_refl _) (by omega)) w⟩
    have hset : okBk A H k b → ∃ f', f_Pl_fix_79 K G (f_Pl_fix_34 K G q) (nI a) (nI n) (nI A) (nI (A + k * H)) (nI b) (S.u_w_Pl_fixed f) = some (b01 (∀ x, b ≤ x → x < a + n → okBk A H k x), S.u_w_Pl_fixed f') ∧ ((∀ x, b ≤ x → x < a + n → okBk A H k x) → ∀ x, x < B → f' x = b01 (p x ∨ (a ≤ x ∧ x < a + n))) := fun w => by
      obtain ⟨f', c1, c2⟩ := ih (b + 1) q (upd f b (vp_nar .boolean 1)) (by omega) (by omega) (by omega) (fun x hx => by
        rw [fx_upd hf x hx]
        refine congrArg b01 (propext ⟨fun y => ?_, fun y => ?_⟩)
        · rcases y with (y | y) | y
          · exact Or.inl y
          · exact Or.inr (by omega)
          · exact Or.inr (by omega)
        · rcases y with y | y
          · exact Or.inl (Or.inl y)
          · by_cases e : x = b
            · exact Or.inr e
            · exact Or.inl (Or.inr (by omega)))
      have hall : (∀ x, b + 1 ≤ x → x < a + n → okBk A H k x) = (∀ x, b ≤ x → x < a + n → okBk A H k x) := propext ⟨fun y x g1 g2 => by
        by_cases e : x = b
        · rw [e]; exact w
        · exact y x (by omega) g2, fun y x g1 g2 => y x (by omega) g2⟩
      rw [hall] at c1 c2
      refine ⟨f', ?_, c2⟩
      unfold f_Pl_fix_79
      rw [if_neg (nI_pos (by omega)), show (S.u_w_Pl_fixed f).v_Pl_blocks = nI B from hS, if_pos (nI_lt (by omega) (by omega)), hG, q_g (q_in (by omega) (by omega)), q_l, show (1 : Int32) = nI 1 from rfl, nI_add, q_l, nI_clamp (by omega)]
      exact c1
    rw [f_Pl_fix_34, nI_add, if_neg (nI_ge (by omega) (by omega))]
    unfold f_Pl_fix_54 f_Pl_fix_59 f_Pl_fix_93
    by_cases e1 : b = 1
    · rw [if_pos (show nI b = 1 by rw [e1]; rfl), if_neg (by decide)]
      exact hset (Or.inl (by omega))
    have e1' : ¬ nI b = 1 := fun y => e1 ((nI_eq (b := 1) (by omega) (by decide)).mp y)
    rw [if_neg e1']
    by_cases e2 : b = 2
    · rw [if_pos (show nI b = 2 by rw [e2]; rfl), if_neg (by decide)]
      exact hset (Or.inl (by omega))
    have e2' : ¬ nI b = 2 := fun y => e2 ((nI_eq (b := 2) (by omega) (by decide)).mp y)
    rw [if_neg e2', if_pos rfl]
    by_cases e3 : b < A
    · rw [if_pos (nI_lt e3 (by omega))]
      exact hkeep (fun y => y.elim (by omega) (by omega))
    rw [if_neg (nI_nlt (by omega) (by omega))]
    by_cases e4 : A + k * H ≤ b
    · rw [if_pos (nI_le e4 (by omega))]
      exact hkeep (fun y => y.elim (by omega) (by omega))
    rw [if_neg (nI_ge (by omega) (by omega))]
    exact hset (Or.inr (by omega))
theorem qC_fix {K A H k B P g0 a n : Nat} {G : CG} {S : CS} (hK : 5000 ≤ K) (hA : 5 ≤ A ∧ A ≤ 64) (hH : H ≤ 4) (hk5 : k < 512) (hk0 : A + k * H ≤ B) (hB : 128 ≤ B ∧ B ≤ 512) (hG : G.n / 2 = B) (hS : plK A H k B P g0 S) (ha1 : 1 ≤ a) (han : a + n ≤ B) (p : Nat → Prop) (f : Nat → Int32) (hf : ∀ x, x < B → f x = b01 (p x)) : ∃ f', f_Pl_fix K G (S.u_w_Pl_fixed f) (nI a) (nI n) = some (b01 (∀ x, a ≤ x → x < a + n → okBk A H k x), S.u_w_Pl_fixed f') ∧ ((∀ x, a ≤ x → x < a + n → okBk A H k x) → ∀ x, x < B → f' x = b01 (p x ∨ (a ≤ x ∧ x < a + n))) := by
  obtain ⟨t1, t2, t3, t4, t5, t6⟩ := hS
  obtain ⟨f', c1, c2⟩ := qC_fix34 (K := K) (S := S) hA hk0 hB hG t4 ha1 han p n a K f (by omega) (by omega) (Nat.le_refl _) (fun x hx => by
    rw [hf x hx]
    exact congrArg b01 (propext ⟨Or.inl, fun y => y.resolve_right (by omega)⟩))
  refine ⟨f', ?_, c2⟩
  unfold f_Pl_fix
  rw [show (S.u_w_Pl_fixed f).v_Tb_start = nI (2 * A) from t1, show (S.u_w_Pl_fixed f).v_Tb_cluster = nI (2 * H) from t2, show (S.u_w_Pl_fixed f).v_Tb_clusters = nI k from t3, half (by omega), half (by omega), q_l, pk_mul, nI_add, q_l]
  exact c1
theorem qC_blocksOf {K A H k B P g0 r g : Nat} {G : CG} {S : CS} (h : plN A H k B P g0 r) (hS : plK A H k B P g0 S) (hg : g < g0) : f_Pl_blocksOf K G S (nI g) = some (nI (gSz B P g0 g), S) ∧ f_Pl_firstBlock K G S (nI g) = some (nI (1 + g * P), S) ∧ f_Pl_mapBlock K G S (nI g) = some (nI (mBk A P g), S) := by
  obtain ⟨t1, t2, t3, t4, t5, t6⟩ := hS
  obtain ⟨a1, a2, a3, a4, a5, a6, a7⟩ := gr_le h hg
  have hA := h.1
  have hB := h.2.2.2.1
  have hfb : f_Pl_firstBlock K G S (nI g) = some (nI (1 + g * P), S) := by
    unfold f_Pl_firstBlock
    rw [t5, pk_mul, show (1 : Int32) = nI 1 from rfl, nI_add]
  refine ⟨?_, hfb, ?_⟩
  · unfold f_Pl_blocksOf
    rw [hfb, q_c, t4, t5, pk_sub (by omega)]
    have hgz : gSz B P g0 g = if B - (1 + g * P) < P then B - (1 + g * P) else P := by
      obtain ⟨-, -, -, hB, hP, hG0, -, -⟩ := h
      unfold gSz
      rcases hP with e | e | e <;> subst e <;> split <;> split <;> omega
    rw [hgz]
    by_cases w : B - (1 + g * P) < P
    · rw [if_pos w, if_pos (nI_lt w (by omega))]
    · rw [if_neg w, if_neg (nI_nlt (by omega) (by omega))]
  · unfold f_Pl_mapBlock mBk
    rw [hfb, q_c, t1, half (by omega)]
    by_cases w : g = 0
    · rw [if_pos (show nI g = 0 by rw [w]; rfl), if_pos w]
    · rw [if_neg (nI_ne0 (by omega) (by omega)), if_neg w, show (2 : Int32) = nI 2 from rfl, nI_add, show 1 + g * P + 2 = 3 + g * P by omega]
/-- what a group asks for -/
abbrev rmG (A H k B P g0 r g : Nat) : Prop := lstB A r g ≤ gSz B P g0 g ∧ (∀ x, 1 + g * P ≤ x → x < 1 + g * P + 2 → okBk A H k x) ∧ (∀ x, mBk A P g ≤ x → x < mBk A P g + (2 + r) → okBk A H k x)
theorem rmy_G {A H k B P g0 r : Nat} (h : plN A H k B P g0 r) : (∀ g, 0 ≤ g → g < g0 → rmG A H k B P g0 r g) ↔ rmy A H k B P g0 r := by
  constructor
  · intro y
    refine ⟨fun g hg => (y g (Nat.zero_le _) hg).1, fun b _ ⟨g, g1, g2⟩ => ?_⟩
    obtain ⟨-, y2, y3⟩ := y g (Nat.zero_le _) g1
    rcases g2 with e | e | e
    · exact y2 b (by omega) (by omega)
    · exact y2 b (by omega) (by omega)
    · exact y3 b e.1 e.2
  · rintro ⟨y1, y2⟩ g - hg
    obtain ⟨b1, b2, b3, b4, b5⟩ := gr_in h hg (y1 g hg)
    refine ⟨y1 g hg, fun x g1 g2 => y2 x (by omega) ⟨g, hg, ?_⟩, fun x g1 g2 => y2 x (by omega) ⟨g, hg, Or.inr (Or.inr ⟨g1, g2⟩)⟩⟩
    by_cases e : x = 1 + g * P
    · exact Or.inl e
    · exact Or.inr (Or.inl (by omega))
theorem qC_lay46 {K A H k B P g0 r : Nat} {G : CG} {S : CS} (hK : 5000 ≤ K) (h : plN A H k B P g0 r) (hG : G.n / 2 = B) (hS : plK A H k B P g0 S) : ∀ (d g q : Nat) (f : Nat → Int32), g + d = g0 → d < q → (∀ x, x < B → f x = b01 (fxd A P r g x)) → ∃ f', f_Pl_layOut_46 K G q (nI r) (nI g) (S.u_w_Pl_fixed f) = some (b01 (∀ g', g ≤ g' → g' < g0 → rmG A H k B P g0 r g'), S.u_w_Pl_fixed f') ∧ ((∀ g', g ≤ g' → g' < g0 → rmG A H k B P g0 r g') → ∀ x, x < B → f' x = b01 (fxd A P r g0 x)) := by
  have hA := h.1
  have hH := h.2.1
  have hk5 := h.2.2.1
  have hB := h.2.2.2.1
  have hr := h.2.2.2.2.2.2.1
  have hAk := h.2.2.2.2.2.2.2
  have hG8 : g0 ≤ 8 := by
    obtain ⟨-, -, -, hB, hP, hG, -, -⟩ := h
    rcases hP with e | e | e <;> subst e <;> omega
  intro d
  induction d with
  | zero =>
    intro g q f h1 h2 hf
    obtain ⟨q, rfl⟩ : ∃ m, q = m + 1 := ⟨q - 1, by omega⟩
    obtain rfl : g = g0 := by omega
    refine ⟨f, ?_, fun _ => hf⟩
    rw [f_Pl_layOut_46, show (S.u_w_Pl_fixed f).v_Pl_groups = nI g from hS.2.2.2.2.2, if_pos (Int32.le_refl _), b01_t (fun g' a b => absurd a (by omega))]
    rfl
  | succ d ih =>
    intro g q f h1 h2 hf
    obtain ⟨q, rfl⟩ : ∃ m, q = m + 1 := ⟨q - 1, by omega⟩
    have hg : g < g0 := by omega
    obtain ⟨a1, a2, a3, a4, a5, a6, a7⟩ := gr_le h hg
    have hbl := fun f => qC_blocksOf (K := K) (G := G) (S := S.u_w_Pl_fixed f) h hS hg
    have hlt : lstB A r g < 2 ^ 31 := by unfold lstB; split <;> omega
    have no : ∀ f, ¬ rmG A H k B P g0 r g → ∃ f', some ((0 : Int32), S.u_w_Pl_fixed f) = some (b01 (∀ g', g ≤ g' → g' < g0 → rmG A H k B P g0 r g'), S.u_w_Pl_fixed f') ∧ ((∀ g', g ≤ g' → g' < g0 → rmG A H k B P g0 r g') → ∀ x, x < B → f' x = b01 (fxd A P r g0 x)) := fun f w => ⟨f, by rw [b01_f (fun y => w (y g (Nat.le_refl _) hg))]; rfl, fun y => absurd (y g (Nat.le_refl _) hg) w⟩
    have key : ∃ f', f_Pl_layOut_79 K G (f_Pl_layOut_46 K G q) (nI r) (nI g) (nI (lstB A r g)) (S.u_w_Pl_fixed f) = some (b01 (∀ g', g ≤ g' → g' < g0 → rmG A H k B P g0 r g'), S.u_w_Pl_fixed f') ∧ ((∀ g', g ≤ g' → g' < g0 → rmG A H k B P g0 r g') → ∀ x, x < B → f' x = b01 (fxd A P r g0 x)) := by
      unfold f_Pl_layOut_79 f_Pl_layOut_119
      rw [(hbl f).1, q_c]
      by_cases w : lstB A r g ≤ gSz B P g0 g
      rotate_left
      · rw [if_pos (nI_lt (by omega) hlt)]
        exact no f (fun y => w y.1)
      obtain ⟨b1, b2, b3, b4, b5⟩ := gr_in h hg w
      rw [if_neg (nI_nlt w (by omega)), (hbl f).2.1, q_c]
      obtain ⟨f1, c1, c2⟩ := qC_fix (K := K) (a := 1 + g * P) (n := 2) hK hA (by omega) hk5 hAk hB hG hS (by omega) (by omega) (fxd A P r g) f hf
      have c1 : f_Pl_fix K G (S.u_w_Pl_fixed f) (nI (1 + g * P)) 2 = _ := c1
      rw [c1, q_c]
      by_cases w2 : ∀ x, 1 + g * P ≤ x → x < 1 + g * P + 2 → okBk A H k x
      rotate_left
      · rw [b01_f w2, if_pos (show nI 0 = 0 from rfl)]
        exact no f1 (fun y => w2 y.2.1)
      rw [b01_t w2, if_neg (show ¬ nI 1 = 0 by decide), (hbl f1).2.2, q_c, show (2 : Int32) = nI 2 from rfl, nI_add]
      obtain ⟨f2, e1, e2⟩ := qC_fix (K := K) (a := mBk A P g) (n := 2 + r) hK hA (by omega) hk5 hAk hB hG hS (by omega) b3 (fun x => fxd A P r g x ∨ (1 + g * P ≤ x ∧ x < 1 + g * P + 2)) f1 (c2 w2)
      rw [e1, q_c]
      by_cases w3 : ∀ x, mBk A P g ≤ x → x < mBk A P g + (2 + r) → okBk A H k x
      rotate_left
      · rw [b01_f w3, if_pos (show nI 0 = 0 from rfl)]
        exact no f2 (fun y => w3 y.2.2)
      rw [b01_t w3, if_neg (show ¬ nI 1 = 0 by decide), show (1 : Int32) = nI 1 from rfl, nI_add, q_l]
      obtain ⟨f', i1, i2⟩ := ih (g + 1) q f2 (by omega) (by omega) (fun x hx => by
        rw [e2 w3 x hx]
        refine congrArg b01 (propext ⟨fun y => ?_, fun y => ?_⟩)
        · rcases y with (⟨g', g1, g2⟩ | y) | y
          · exact ⟨g', by omega, g2⟩
          · refine ⟨g, by omega, ?_⟩
            by_cases e : x = 1 + g * P
            · exact Or.inl e
            · exact Or.inr (Or.inl (by omega))
          · exact ⟨g, by omega, Or.inr (Or.inr y)⟩
        · obtain ⟨g', g1, g2⟩ := y
          by_cases e : g' = g
          · rw [e] at g2
            rcases g2 with g2 | g2 | g2
            · exact Or.inl (Or.inr (by omega))
            · exact Or.inl (Or.inr (by omega))
            · exact Or.inr g2
          · exact Or.inl (Or.inl ⟨g', by omega, g2⟩))
      have hall : (∀ g', g + 1 ≤ g' → g' < g0 → rmG A H k B P g0 r g') = (∀ g', g ≤ g' → g' < g0 → rmG A H k B P g0 r g') := propext ⟨fun y x g1 g2 => by
        by_cases e : x = g
        · rw [e]; exact ⟨w, w2, w3⟩
        · exact y x (by omega) g2, fun y x g1 g2 => y x (by omega) g2⟩
      rw [hall] at i1 i2
      exact ⟨f', i1, i2⟩
    rw [f_Pl_layOut_46, show (S.u_w_Pl_fixed f).v_Pl_groups = nI g0 from hS.2.2.2.2.2, if_neg (nI_ge (by omega) (by omega)), show (S.u_w_Pl_fixed f).v_Tb_start = nI (2 * A) from hS.1, half (by omega), nI_add, show (9 : Int32) = nI 9 from rfl, nI_add, show (12 : Int32) = nI 12 from rfl, nI_add]
    unfold lstB at key
    by_cases w : g = 0
    · rw [if_pos w] at key
      rw [if_pos (show nI g = 0 by rw [w]; rfl)]
      exact key
    · rw [if_neg w] at key
      rw [if_neg (nI_ne0 (by omega) (by omega))]
      exact key
theorem qC_lay23 {K B : Nat} {G : CG} {S : CS} (hB : 128 ≤ B ∧ B ≤ 512) (hG : G.n / 2 = B) (hS : S.v_Pl_blocks = nI B) (y : Int32) : ∀ (d i q : Nat) (f : Nat → Int32), i + d = B → d < q → (∀ b, b < i → f b = nI 0) → ∃ f', (∀ b, b < B → f' b = nI 0) ∧ f_Pl_layOut_23 K G q y (nI i) (S.u_w_Pl_fixed f) = f_Pl_layOut_46 K G K y 0 (S.u_w_Pl_fixed f') := by
  intro d
  induction d with
  | zero =>
    intro i q f h1 h2 hf
    obtain ⟨q, rfl⟩ : ∃ m, q = m + 1 := ⟨q - 1, by omega⟩
    obtain rfl : i = B := by omega
    exact ⟨f, hf, by rw [f_Pl_layOut_23, show (S.u_w_Pl_fixed f).v_Pl_blocks = nI i from hS, if_pos (Int32.le_refl _)]⟩
  | succ d ih =>
    intro i q f h1 h2 hf
    obtain ⟨q, rfl⟩ : ∃ m, q = m + 1 := ⟨q - 1, by omega⟩
    obtain ⟨f', a, b⟩ := ih (i + 1) q (upd f i (nI 0)) (by omega) (by omega) (fun b hb => by
      by_cases w : b = i
      · rw [w, pk_us]
      · rw [pk_un w]; exact hf b (by omega))
    refine ⟨f', a, ?_⟩
    rw [f_Pl_layOut_23, show (S.u_w_Pl_fixed f).v_Pl_blocks = nI B from hS, if_neg (nI_ge (by omega) (by omega)), hG, q_g (q_in (by omega) (by omega)), q_l, show (1 : Int32) = nI 1 from rfl, nI_add, q_l, nI_clamp (by omega)]
    exact b
theorem qC_layOut {K A H k B P g0 r : Nat} {G : CG} {S : CS} (hK : 5000 ≤ K) (h : plN A H k B P g0 r) (hr1 : 1 ≤ r) (hG : G.n / 2 = B) (hS : plK A H k B P g0 S) : ∃ f, f_Pl_layOut K G S (nI (8 * r)) = some (b01 (rmy A H k B P g0 r), (S.u_v_Pl_inodes (nI (8 * r))).u_w_Pl_fixed f) ∧ (rmy A H k B P g0 r → ∀ x, x < B → f x = b01 (fxd A P r g0 x)) := by
  have hB := h.2.2.2.1
  have hr := h.2.2.2.2.2.2.1
  have hG8 : g0 ≤ 8 := by
    obtain ⟨-, -, -, hB, hP, hG, -, -⟩ := h
    rcases hP with e | e | e <;> subst e <;> omega
  obtain ⟨S1, eS⟩ : ∃ S1, S.u_v_Pl_inodes (nI (8 * r)) = S1 := ⟨_, rfl⟩
  have hS1 : plK A H k B P g0 S1 := by rw [← eS]; exact hS
  obtain ⟨f1, b1, b2⟩ := qC_lay23 (K := K) (G := G) (S := S1) hB hG hS1.2.2.2.1 (nI r) B 0 K S1.w_Pl_fixed (by omega) (by omega) (fun b hb => absurd hb (Nat.not_lt_zero _))
  obtain ⟨f2, c1, c2⟩ := qC_lay46 (K := K) (G := G) (S := S1) hK h hG hS1 g0 0 K f1 (by omega) (by omega) (fun b hb => by rw [b1 b hb, b01_f (fun ⟨g, g1, _⟩ => by omega)])
  rw [propext (rmy_G h)] at c1 c2
  refine ⟨f2, ?_, c2⟩
  have b2 : f_Pl_layOut_23 K G K (nI r) 0 S1 = _ := b2
  have c1 : f_Pl_layOut_46 K G K (nI r) 0 (S1.u_w_Pl_fixed f1) = _ := c1
  unfold f_Pl_layOut
  rw [if_pos (show 8 ≤ nI (8 * r) from nI_le (a := 8) (by omega) (by omega)), q_l, eS, show S1.v_Pl_inodes = nI (8 * r) by rw [← eS]; rfl, show (8 : Int32) = nI 8 from rfl, pk_div (by omega) (by decide) (by decide), Nat.mul_div_cancel_left _ (by decide), q_l, b2, c1]
