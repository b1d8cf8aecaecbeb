/-! Maps and heads laid by the reference. -/
theorem orb : ∀ t : Fin 8, ub (((1 : Int32) <<< ((nI t.val) &&& 31)).toInt8.toInt32) = 2 ^ t.val := by decide +kernel
theorem orb_b : ∀ s t : Fin 8, ((2 ^ t.val).testBit s.val = true ↔ s.val = t.val) := by decide +kernel
/-- one bit set -/
theorem or_mp {F : Nat → Int32} {a q : Nat} {P : Nat → Prop} (hF : ∀ j, j < 1024 → o1 F (a + j) = mpB P j) (hq : q < 8192) : ∀ j, j < 1024 → o1 (upd F (a + q / 8) (vp_nar .byte (((F (a + q / 8)) ||| (((1 : Int32) <<< ((nI (q % 8)) &&& 31)).toInt8.toInt32)).toInt8.toInt32))) (a + j) = mpB (fun x => P x ∨ x = q) j := by
  intro j hj
  by_cases g : j = q / 8
  · rw [g, o1_upd_s, ub_b8, ubO]
    have hv : ub (F (a + q / 8)) = mpB P (q / 8) := hF _ (by omega)
    have hm := orb ⟨q % 8, Nat.mod_lt _ (by decide)⟩
    have hm : ub (((1 : Int32) <<< (nI (q % 8) &&& 31)).toInt8.toInt32) = 2 ^ (q % 8) := hm
    rw [hv, hm]
    have h8 : 2 ^ (q % 8) < 256 := by
      have : q % 8 ≤ 7 := by omega
      exact Nat.lt_of_le_of_lt (Nat.pow_le_pow_right (by decide) this) (by decide)
    refine byte_ext (Nat.or_lt_two_pow (n := 8) (mpB_lt _ _) h8) (mpB_lt _ _) (fun t ht => ?_)
    rw [Nat.testBit_or, Bool.or_eq_true, mpB_bit ht, mpB_bit ht]
    have := orb_b ⟨t, ht⟩ ⟨q % 8, Nat.mod_lt _ (by decide)⟩
    have : (2 ^ (q % 8)).testBit t = true ↔ t = q % 8 := this
    rw [this]
    exact or_congr Iff.rfl (by omega)
  · rw [o1_upd_n (by omega), hF j hj]
    exact mpB_congr fun t ht => ⟨Or.inl, fun y => y.resolve_right (by omega)⟩
theorem ql_maps {K g : Nat} {N : Nat} {D : Nat → Int32} {fks : List Nat} {its : List It} {A H k B P g0 r to : Nat} {gl e : Nat → Nat} {T : MS} {F U : Nat → Int32} {n : Nat} {R : Rg} {us : Nat → Prop} (hK : 20000 ≤ K) (h : tnU N D fks its A H k B P g0 r to gl e T) (hg : g < g0) (hU : uM U us) (hz : ∀ j, j < 2048 → o1 F (1024 * mBk A P g + j) = 0) : ∃ F', f_Mo_makeMaps K (qS T F U n R) (nI g) = some (qS T F' U n R) ∧ bkA F' (mBk A P g) (mX (bmP us B P g0 g)) ∧ bkA F' (mBk A P g + 1) (mX (imP (8 * r) (10 + its.length) g)) ∧ ∀ q, (q < 1024 * mBk A P g ∨ 1024 * mBk A P g + 2048 ≤ q) → o1 F' q = o1 F q := by
  obtain ⟨⟨hM, ⟨hpl, hT, hI, hr, hil⟩, hbd, hmv, -, -⟩, hu, hgl⟩ := h
  have hlen := hM.2.2.2.1.2.1
  obtain ⟨y1, y2, y3, y4, y5, y6, y7⟩ := gr_le hpl hg
  obtain ⟨z1, z2, z3, z4, z5⟩ := gr_in hpl hg (hu.2.1.1 g hg)
  have hB := hpl.2.2.2.1
  have hr2 : r ≤ 256 := by
    have := hu.2.1.1 g hg
    unfold lstB at this
    split at this <;> omega
  have hgI : g * (8 * r) ≤ 8 * 2048 := Nat.mul_le_mul (by omega) (by omega)
  generalize hme : mBk A P g = mb at *
  have h8 : ∀ q, q < 8192 → nI q / 8 = nI (q / 8) ∧ nI q - nI q / 8 * 8 = nI (q % 8) := fun q hq => by
    have e1 : nI q / 8 = nI (q / 8) := pk_div (d := 8) (by omega) (by decide) (by decide)
    refine ⟨e1, ?_⟩
    rw [e1, show (8 : Int32) = nI 8 from rfl, pk_mul, pk_sub (by omega)]
    congr 1
    omega
  have key : ∀ (d q w : Nat) (F1 : Nat → Int32), q + d = 8192 → d < w → (∀ j, j < 1024 → o1 F1 (1024 * mb + j) = mpB (fun x => x < q ∧ bmP us B P g0 g x) j) → (∀ j, j < 1024 → o1 F1 (1024 * mb + 1024 + j) = mpB (fun x => x < q ∧ imP (8 * r) (10 + its.length) g x) j) → (∀ x, (x < 1024 * mb ∨ 1024 * mb + 2048 ≤ x) → o1 F1 x = o1 F x) → ∃ F', f_Mo_makeMaps_12 K w (nI g) (nI (1024 * mb)) (nI q) (qS T F1 U n R) = some (qS T F' U n R) ∧ (∀ j, j < 1024 → o1 F' (1024 * mb + j) = mpB (bmP us B P g0 g) j) ∧ (∀ j, j < 1024 → o1 F' (1024 * mb + 1024 + j) = mpB (imP (8 * r) (10 + its.length) g) j) ∧ ∀ x, (x < 1024 * mb ∨ 1024 * mb + 2048 ≤ x) → o1 F' x = o1 F x := by
    intro d
    induction d with
    | zero =>
      intro q w F1 e1 e2 h1 h2 h3
      obtain ⟨w, rfl⟩ : ∃ m, w = m + 1 := ⟨w - 1, by omega⟩
      obtain rfl : q = 8192 := by omega
      refine ⟨F1, ?_, fun j hj => ?_, fun j hj => ?_, h3⟩
      · rw [f_Mo_makeMaps_12, if_pos (show (8192 : Int32) ≤ nI 8192 from nI_le (a := 8192) (by omega) (by omega))]
      · rw [h1 j hj]
        exact mpB_congr fun t ht => ⟨fun y => y.2, fun y => ⟨by omega, y⟩⟩
      · rw [h2 j hj]
        exact mpB_congr fun t ht => ⟨fun y => y.2, fun y => ⟨by omega, y⟩⟩
    | succ d ih =>
      intro q w F1 e1 e2 h1 h2 h3
      obtain ⟨w, rfl⟩ : ∃ m, w = m + 1 := ⟨w - 1, by omega⟩
      obtain ⟨d8, m8⟩ := h8 q (by omega)
      -- behind the inode map's bit
      have h119 : ∀ F2 : Nat → Int32, (∀ j, j < 1024 → o1 F2 (1024 * mb + j) = mpB (fun x => x < q + 1 ∧ bmP us B P g0 g x) j) → (∀ j, j < 1024 → o1 F2 (1024 * mb + 1024 + j) = mpB (fun x => x < q + 1 ∧ imP (8 * r) (10 + its.length) g x) j) → (∀ x, (x < 1024 * mb ∨ 1024 * mb + 2048 ≤ x) → o1 F2 x = o1 F x) → ∃ F', f_Mo_makeMaps_119 K (f_Mo_makeMaps_12 K w) (nI g) (nI (1024 * mb)) (nI q) (qS T F2 U n R) = some (qS T F' U n R) ∧ (∀ j, j < 1024 → o1 F' (1024 * mb + j) = mpB (bmP us B P g0 g) j) ∧ (∀ j, j < 1024 → o1 F' (1024 * mb + 1024 + j) = mpB (imP (8 * r) (10 + its.length) g) j) ∧ ∀ x, (x < 1024 * mb ∨ 1024 * mb + 2048 ≤ x) → o1 F' x = o1 F x := fun F2 k1 k2 k3 => by
        unfold f_Mo_makeMaps_119
        rw [nI_1, q_l]
        exact ih (q + 1) w F2 (by omega) (by omega) k1 k2 k3
      have h68 : ∀ F2 : Nat → Int32, (∀ j, j < 1024 → o1 F2 (1024 * mb + j) = mpB (fun x => x < q + 1 ∧ bmP us B P g0 g x) j) → (∀ j, j < 1024 → o1 F2 (1024 * mb + 1024 + j) = mpB (fun x => x < q ∧ imP (8 * r) (10 + its.length) g x) j) → (∀ x, (x < 1024 * mb ∨ 1024 * mb + 2048 ≤ x) → o1 F2 x = o1 F x) → ∃ F', f_Mo_makeMaps_68 K (f_Mo_makeMaps_12 K w) (nI g) (nI (1024 * mb)) (nI q) (qS T F2 U n R) = some (qS T F' U n R) ∧ (∀ j, j < 1024 → o1 F' (1024 * mb + j) = mpB (bmP us B P g0 g) j) ∧ (∀ j, j < 1024 → o1 F' (1024 * mb + 1024 + j) = mpB (imP (8 * r) (10 + its.length) g) j) ∧ ∀ x, (x < 1024 * mb ∨ 1024 * mb + 2048 ≤ x) → o1 F' x = o1 F x := fun F2 k1 k2 k3 => by
        have set93 : imP (8 * r) (10 + its.length) g q → ∃ F', f_Mo_makeMaps_93 K (f_Mo_makeMaps_12 K w) (nI g) (nI (1024 * mb)) (nI q) (qS T F2 U n R) = some (qS T F' U n R) ∧ (∀ j, j < 1024 → o1 F' (1024 * mb + j) = mpB (bmP us B P g0 g) j) ∧ (∀ j, j < 1024 → o1 F' (1024 * mb + 1024 + j) = mpB (imP (8 * r) (10 + its.length) g) j) ∧ ∀ x, (x < 1024 * mb ∨ 1024 * mb + 2048 ≤ x) → o1 F' x = o1 F x := fun hp => by
          unfold f_Mo_makeMaps_93
          rw [d8, show (1024 : Int32) = nI 1024 from rfl, nI_add, nI_add, q_g (q_in (by omega) (by decide)), q_g (q_in (by omega) (by decide)), q_l, nI_clamp (by omega), ← d8, m8]
          refine h119 _ (fun j hj => ?_) (fun j hj => ?_) (fun x hx => ?_)
          · rw [o1_upd_n (by omega)]; exact k1 j hj
          · have := or_mp (F := F2) (a := 1024 * mb + 1024) (q := q) k2 (by omega) j hj
            refine Eq.trans this (mpB_congr fun t ht => ⟨fun y => ?_, fun y => ?_⟩)
            · rcases y with y | y
              · exact ⟨by omega, y.2⟩
              · rw [y]; exact ⟨by omega, hp⟩
            · by_cases c : 8 * j + t = q
              · exact Or.inr c
              · exact Or.inl ⟨by omega, y.2⟩
          · rw [o1_upd_n (by omega)]; exact k3 x hx
        have no93 : ¬ imP (8 * r) (10 + its.length) g q → ∃ F', f_Mo_makeMaps_119 K (f_Mo_makeMaps_12 K w) (nI g) (nI (1024 * mb)) (nI q) (qS T F2 U n R) = some (qS T F' U n R) ∧ (∀ j, j < 1024 → o1 F' (1024 * mb + j) = mpB (bmP us B P g0 g) j) ∧ (∀ j, j < 1024 → o1 F' (1024 * mb + 1024 + j) = mpB (imP (8 * r) (10 + its.length) g) j) ∧ ∀ x, (x < 1024 * mb ∨ 1024 * mb + 2048 ≤ x) → o1 F' x = o1 F x := fun hp => h119 F2 k1 (fun j hj => by
          rw [k2 j hj]
          refine mpB_congr fun t ht => ⟨fun y => ⟨by omega, y.2⟩, fun y => ⟨?_, y.2⟩⟩
          have : 8 * j + t ≠ q := fun c => hp (by rw [← c]; exact y.2)
          omega) k3
        unfold f_Mo_makeMaps_68
        rw [show (qS T F2 U n R).v_inodes = nI (8 * r) from hI]
        by_cases c : 8 * r ≤ q
        · rw [if_pos (nI_le c (by omega))]
          exact set93 (Or.inl c)
        · rw [if_neg (nI_ge (by omega) (by omega)), pk_mul, nI_add, nI_1]
          unfold f_Mo_isUsed
          rw [show (qS T F2 U n R).v_items = nI its.length from hM.2.2.1.1, show (10 : Int32) = nI 10 from rfl, nI_add]
          by_cases c2 : g * (8 * r) + q < 10 + its.length
          · rw [if_neg (nI_nlt (by omega) (by omega)), q_c, if_neg (by decide)]
            exact set93 (Or.inr c2)
          · rw [if_pos (nI_lt (by omega) (by omega)), q_c, if_pos rfl]
            exact no93 (fun y => y.elim c c2)
      have set46 : bmP us B P g0 g q → ∃ F', f_Mo_makeMaps_46 K (f_Mo_makeMaps_12 K w) (nI g) (nI (1024 * mb)) (nI q) (qS T F1 U n R) = some (qS T F' U n R) ∧ (∀ j, j < 1024 → o1 F' (1024 * mb + j) = mpB (bmP us B P g0 g) j) ∧ (∀ j, j < 1024 → o1 F' (1024 * mb + 1024 + j) = mpB (imP (8 * r) (10 + its.length) g) j) ∧ ∀ x, (x < 1024 * mb ∨ 1024 * mb + 2048 ≤ x) → o1 F' x = o1 F x := fun hp => by
        unfold f_Mo_makeMaps_46
        rw [d8, nI_add, q_g (q_in (by omega) (by decide)), q_g (q_in (by omega) (by decide)), q_l, nI_clamp (by omega), ← d8, m8]
        refine h68 _ (fun j hj => ?_) (fun j hj => ?_) (fun x hx => ?_)
        · have := or_mp (F := F1) (a := 1024 * mb) (q := q) h1 (by omega) j hj
          refine Eq.trans this (mpB_congr fun t ht => ⟨fun y => ?_, fun y => ?_⟩)
          · rcases y with y | y
            · exact ⟨by omega, y.2⟩
            · rw [y]; exact ⟨by omega, hp⟩
          · by_cases c : 8 * j + t = q
            · exact Or.inr c
            · exact Or.inl ⟨by omega, y.2⟩
        · rw [o1_upd_n (by omega)]; exact h2 j hj
        · rw [o1_upd_n (by omega)]; exact h3 x hx
      rw [f_Mo_makeMaps_12, if_neg (show ¬ (8192 : Int32) ≤ nI q from nI_ge (b := 8192) (by omega) (by omega)), qM_groupSize (T := qS T F1 U n R) hpl hT hg, q_c]
      by_cases c : gSz B P g0 g ≤ q
      · rw [if_pos (nI_le c (by omega))]
        exact set46 (Or.inl c)
      · have hun : (qS T F1 U n R).v_used (nI (1 + g * P + q)).toNatClampNeg = b01 (us (1 + g * P + q)) := by rw [nI_clamp (by omega)]; exact hU _ (by omega)
        rw [if_neg (nI_ge (by omega) (by omega)), show (qS T F1 U n R).v_per = nI P from hT.2.2.2.2.1, pk_mul, show (1 : Int32) = nI 1 from rfl, nI_add, nI_add, q_g (q_in (by omega) (by decide)), hun]
        by_cases c2 : us (1 + g * P + q)
        · rw [b01_t c2, if_neg (show ¬ nI 1 = 0 by decide)]
          exact set46 (Or.inr c2)
        · rw [b01_f c2, if_pos (show nI 0 = 0 from rfl)]
          refine h68 F1 (fun j hj => ?_) h2 h3
          rw [h1 j hj]
          refine mpB_congr fun t ht => ⟨fun y => ⟨by omega, y.2⟩, fun y => ⟨?_, y.2⟩⟩
          have : 8 * j + t ≠ q := fun c3 => by
            have y2 := y.2
            rw [c3] at y2
            exact y2.elim c c2
          omega
  have z8 : ∀ p : Nat → Prop, ∀ j, mpB (fun x => x < 0 ∧ p x) j = 0 := fun p j => byte_ext (mpB_lt _ _) (by decide) (fun t ht => by
    rw [mpB_bit ht, Nat.zero_testBit]
    exact ⟨fun y => by omega, fun y => (Bool.false_ne_true y).elim⟩)
  obtain ⟨F', a1, a2, a3, a4⟩ := key 8192 0 K F (by omega) (by omega) (fun j hj => by rw [z8]; exact hz j (by omega)) (fun j hj => by rw [z8, Nat.add_assoc]; exact hz (1024 + j) (by omega)) (fun _ _ => rfl)
  refine ⟨F', ?_, fun j hj => by rw [a2 j hj, mX_o1], fun j hj => by rw [show 1024 * (mb + 1) + j = 1024 * mb + 1024 + j by omega, a3 j hj, mX_o1], a4⟩
  unfold f_Mo_makeMaps
  rw [qM_mapOf (T := qS T F U n R) hpl hT hg, q_c, hme, show (1024 : Int32) = nI 1024 from rfl, pk_mul, q_l]
  exact a1
