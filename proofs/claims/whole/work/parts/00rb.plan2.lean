theorem qM_rm174 {K A H k B P G r : Nat} {T : MS} (h : plN A H k B P G r) (hT : plM A H k B P G r T) (hf : ∀ b, b < 512 → T.v_fixed b = b01 (fxd A P r G b)) : ∀ (d b q : Nat), b + d = B → d < q → f_Mo_isRoomy_174 K q (b01 (∀ b', b' < b → fxd A P r G b' → okBk A H k b')) (nI b) (T.u_v_fixedBlocks (nI (cntP (fxd A P r G) b))) = some (b01 (∀ b', b' < B → fxd A P r G b' → okBk A H k b'), T.u_v_fixedBlocks (nI (cntP (fxd A P r G) B))) := by
  obtain ⟨t1, t2, t3, t4, t5, t6, t7⟩ := hT
  obtain ⟨hA, hH, hk0, hB, -, -, -, hAk⟩ := h
  intro d
  induction d with
  | zero =>
    intro b q h1 h2
    obtain ⟨q, rfl⟩ : ∃ m, q = m + 1 := ⟨q - 1, by omega⟩
    obtain rfl : b = B := by omega
    rw [f_Mo_isRoomy_174, show (T.u_v_fixedBlocks (nI (cntP (fxd A P r G) b))).v_blocks = nI b from t4, if_pos (Int32.le_refl _), q_g (b01_or _)]
  | succ d ih =>
    intro b q h1 h2
    obtain ⟨q, rfl⟩ : ∃ m, q = m + 1 := ⟨q - 1, by omega⟩
    have hb5 : b < 512 := by omega
    have hcl := cntP_le (fxd A P r G) b
    obtain ⟨T2, eT⟩ : ∃ T2, T.u_v_fixedBlocks (nI (cntP (fxd A P r G) b)) = T2 := ⟨_, rfl⟩
    have e1 : T2.v_blocks = nI B := by rw [← eT]; exact t4
    have e2 : T2.v_fixed b = b01 (fxd A P r G b) := by rw [← eT]; exact hf b hb5
    have e3 : T2.v_fixedBlocks = nI (cntP (fxd A P r G) b) := by rw [← eT]; rfl
    have ihb := ih (b + 1) q (by omega) (by omega)
    -- the next turn, whatever was found
    have nx : ∀ (y : Int32) (c : Nat), y = b01 (∀ b', b' < b + 1 → fxd A P r G b' → okBk A H k b') → c = cntP (fxd A P r G) (b + 1) → f_Mo_isRoomy_174 K q y (nI (b + 1)) (T.u_v_fixedBlocks (nI c)) = some (b01 (∀ b', b' < B → fxd A P r G b' → okBk A H k b'), T.u_v_fixedBlocks (nI (cntP (fxd A P r G) B))) := fun y c hy hc => by rw [hy, hc]; exact ihb
    have u2 : ∀ x, T2.u_v_fixedBlocks x = T.u_v_fixedBlocks x := fun x => by rw [← eT]; rfl
    rw [eT, f_Mo_isRoomy_174, e1, if_neg (nI_ge (by omega) (by omega)), q_g (q_in hb5 (by decide)), nI_clamp (by omega), e2, e3]
    unfold f_Mo_isRoomy_201 f_Mo_isRoomy_245 f_Mo_isRoomy_249 f_Mo_isRoomy_250
    by_cases w : fxd A P r G b
    · rw [b01_t w, if_neg (show ¬ nI 1 = 0 by decide), show (1 : Int32) = nI 1 from rfl, nI_add, q_l, u2, nI_add b 1, q_l, q_l]
      have hc1 : cntP (fxd A P r G) b + 1 = cntP (fxd A P r G) (b + 1) := by rw [cntP, cif_t w]
      by_cases F : ∀ b', b' < b → fxd A P r G b' → okBk A H k b'
      · have good : okBk A H k b → f_Mo_isRoomy_174 K q (nI 1) (nI (b + 1)) (T.u_v_fixedBlocks (nI (cntP (fxd A P r G) b + 1))) = some (b01 (∀ b', b' < B → fxd A P r G b' → okBk A H k b'), T.u_v_fixedBlocks (nI (cntP (fxd A P r G) B))) := fun y => nx _ _ (b01_t (fun b' g1 g2 => by
          by_cases e : b' = b
          · rw [e]; exact y
          · exact F b' (by omega) g2)).symm hc1
        have bad : ¬ okBk A H k b → f_Mo_isRoomy_174 K q 0 (nI (b + 1)) (T.u_v_fixedBlocks (nI (cntP (fxd A P r G) b + 1))) = some (b01 (∀ b', b' < B → fxd A P r G b' → okBk A H k b'), T.u_v_fixedBlocks (nI (cntP (fxd A P r G) B))) := fun y => nx _ _ (b01_f (fun z => y (z b (by omega) w))).symm hc1
        rw [b01_t F, if_neg (show ¬ nI 1 = 0 by decide), q_g (q_in hb5 (by decide)), nI_clamp (by omega), show (T.u_v_fixedBlocks (nI (cntP (fxd A P r G) b + 1))).v_fixed b = b01 (fxd A P r G b) from hf b hb5, b01_t w, if_neg (show ¬ nI 1 = 0 by decide)]
        by_cases g3 : b < 3
        · rw [if_pos (show nI b < 3 from nI_lt (b := 3) g3 (by decide))]
          exact good (Or.inl g3)
        rw [if_neg (show ¬ nI b < 3 from nI_nlt (b := 3) (by omega) (by omega)), show (T.u_v_fixedBlocks (nI (cntP (fxd A P r G) b + 1))).v_a = nI (2 * A) from t1, half (by omega)]
        by_cases gA : b < A
        · rw [if_pos (nI_lt gA (by omega))]
          exact bad (fun y => y.elim (by omega) (by omega))
        rw [if_neg (nI_nlt (by omega) (by omega))]
        have hco : f_Mo_clusterOf K (T.u_v_fixedBlocks (nI (cntP (fxd A P r G) b + 1))) (nI b) = some (nI (2 + (b - A) / H), T.u_v_fixedBlocks (nI (cntP (fxd A P r G) b + 1))) := by
          unfold f_Mo_clusterOf
          rw [show (T.u_v_fixedBlocks (nI (cntP (fxd A P r G) b + 1))).v_c = nI (2 * H) from t2, show (T.u_v_fixedBlocks (nI (cntP (fxd A P r G) b + 1))).v_a = nI (2 * A) from t1, half (by omega), half (by omega), q_g (nI_ne0 (by omega) (by omega)), pk_sub (by omega), pk_div (by omega) (by omega) (by omega), show (2 : Int32) = nI 2 from rfl, nI_add]
        have hdl : (b - A) / H ≤ b - A := Nat.div_le_self _ _
        rw [hco, q_c, qM_isCl' (T := T.u_v_fixedBlocks (nI (cntP (fxd A P r G) b + 1))) t3 (by omega) (by omega), q_c]
        have hiff : okBk A H k b ↔ (2 ≤ 2 + (b - A) / H ∧ 2 + (b - A) / H ≤ k + 1) := by
          unfold okBk
          have : (b - A) / H < k ↔ b - A < k * H := Nat.div_lt_iff_lt_mul (by omega)
          constructor
          · rintro (y | ⟨y1, y2⟩)
            · omega
            · have := this.mpr (by omega)
              refine ⟨Nat.le_add_right _ _, ?_⟩
              clear hdl hco
              generalize (b - A) / H = u at *
              omega
          · rintro ⟨-, y⟩
            have := this.mp (by clear hdl hco; generalize (b - A) / H = u at *; omega)
            exact Or.inr (by omega)
        by_cases y : 2 ≤ 2 + (b - A) / H ∧ 2 + (b - A) / H ≤ k + 1
        · rw [if_pos y, if_neg (show ¬ nI 1 = 0 by decide)]
          exact good (hiff.mpr y)
        · rw [if_neg y, if_pos (show nI 0 = 0 from rfl)]
          exact bad (fun z => y (hiff.mp z))
      · rw [b01_f F, if_pos (show nI 0 = 0 from rfl)]
        exact nx _ _ (b01_f (fun z => F fun b' g1 g2 => z b' (by omega) g2)).symm hc1
    · rw [b01_f w, if_pos (show nI 0 = 0 from rfl), show (1 : Int32) = nI 1 from rfl, Int32.add_zero, q_l, u2, nI_add b 1, q_l, q_l]
      have hc1 : cntP (fxd A P r G) b = cntP (fxd A P r G) (b + 1) := by rw [cntP, cif_f w]; rfl
      have hF : (∀ b', b' < b → fxd A P r G b' → okBk A H k b') = (∀ b', b' < b + 1 → fxd A P r G b' → okBk A H k b') := propext ⟨fun y b' g1 g2 => by
        by_cases e : b' = b
        · rw [e] at g2; exact absurd g2 w
        · exact y b' (by omega) g2, fun y b' g1 g2 => y b' (by omega) g2⟩
      by_cases F : ∀ b', b' < b → fxd A P r G b' → okBk A H k b'
      · rw [b01_t F, if_neg (show ¬ nI 1 = 0 by decide), q_g (q_in hb5 (by decide)), nI_clamp (by omega), show (T.u_v_fixedBlocks (nI (cntP (fxd A P r G) b))).v_fixed b = b01 (fxd A P r G b) from hf b hb5, b01_f w, if_pos (show nI 0 = 0 from rfl)]
        exact nx _ _ (by rw [← hF, b01_t F]) hc1
      · rw [b01_f F, if_pos (show nI 0 = 0 from rfl)]
        exact nx _ _ (by rw [← hF, b01_f F]; rfl) hc1
theorem qM_isRoomy {K A H k B P G r : Nat} {T : MS} (hK : 5000 ≤ K) (h : plN A H k B P G r) (hT : plM A H k B P G r T) : ∃ f x, f_Mo_isRoomy K T = some (b01 (rmy A H k B P G r), (T.u_v_fixed f).u_v_fixedBlocks x) ∧ (rmy A H k B P G r → x = nI (G * (4 + r)) ∧ ∀ b, b < 512 → f b = b01 (fxd A P r G b)) := by
  have hB := h.2.2.2.1
  have hG8 : G ≤ 8 := by
    obtain ⟨-, -, -, hB, hP, hG, -, -⟩ := h
    rcases hP with e | e | e <;> subst e <;> omega
  obtain ⟨-, a2, a3⟩ := qM_rm4 (K := K) h hT G 0 K (by omega) (by omega)
  have a2 : _ → f_Mo_isRoomy K T = _ := a2
  have a3 : _ → f_Mo_isRoomy K T = _ := a3
  by_cases w : ∀ g', 0 ≤ g' → g' < G → lstB A r g' ≤ gSz B P G g'
  · have hl : ∀ g, g < G → lstB A r g ≤ gSz B P G g := fun g hg => w g (Nat.zero_le _) hg
    obtain ⟨f1, b1, b2⟩ := qM_rm72 (K := K) (T := T) 1 512 0 K T.v_fixed (by omega) (by omega) (fun b hb => absurd hb (Nat.not_lt_zero _))
    have b2 : f_Mo_isRoomy_72 K K 1 0 T = _ := b2
    obtain ⟨f2, c1, c2⟩ := qM_rm94 (K := K) (T := T) (by omega) h hT hl 1 G 0 K f1 (by omega) (by omega) (fun b hb => by rw [b1 b hb, b01_f (fun ⟨g, g1, _⟩ => by omega)])
    have c2 : f_Mo_isRoomy_94 K K 1 0 (T.u_v_fixed f1) = _ := c2
    have d1 := qM_rm174 (K := K) (T := T.u_v_fixed f2) h hT c1 B 0 K (by omega) (by omega)
    rw [b01_t (fun b' g => absurd g (Nat.not_lt_zero _))] at d1
    have d1 : f_Mo_isRoomy_174 K K 1 0 ((T.u_v_fixed f2).u_v_fixedBlocks 0) = _ := d1
    have e : (∀ b', b' < B → fxd A P r G b' → okBk A H k b') = rmy A H k B P G r := propext ⟨fun y => ⟨hl, y⟩, fun y => y.2⟩
    refine ⟨f2, nI (cntP (fxd A P r G) B), ?_, fun _ => ⟨by rw [fxd_cnt h hl G (Nat.le_refl _)], c1⟩⟩
    rw [a2 w, b2, c2, d1, e]
  · refine ⟨T.v_fixed, T.v_fixedBlocks, ?_, fun y => absurd (fun g' _ g2 => y.1 g' g2) w⟩
    rw [a3 w, b01_f (fun y => w (fun g' _ g2 => y.1 g' g2))]
    rfl
