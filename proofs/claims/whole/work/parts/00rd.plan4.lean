/-! The plan: names and times. -/
theorem ar_ino (w g : Nat) (hg : 1 ≤ g) : ((w + g - 1) / g + 7) / 8 = (w + 8 * g - 1) / (8 * g) := by
  have e : (w + g - 1) / g + 7 = (w + g - 1 + 7 * g) / g := by rw [Nat.add_mul_div_right _ _ (by omega)]
  rw [e, Nat.div_div_eq_div_mul, Nat.mul_comm g 8]
  congr 1
  omega
def rcN : List Nat := [46, 116, 117, 114, 110, 101, 100]
abbrev nmOk (its : List It) : Prop := ∀ i, 1 ≤ i → i < its.length → tsz (inm (itr its i)) ≤ 255
abbrev rcTk (its : List It) : Prop := ∃ j, 1 ≤ j ∧ j < its.length ∧ ipa (itr its j) = 0 ∧ alk (inm (itr its j)) rcN
theorem take_s {l : List Nat} {i : Nat} (h : i < l.length) : l.take (i + 1) = l.take i ++ [l.getD i 0] := by
  rw [List.take_succ_eq_append_getElem h, List.getD_eq_getElem?_getD, List.getElem?_eq_getElem h]
  rfl
theorem qM_textSize {K N j : Nat} {its : List It} {T : MS} (hK : 1000 ≤ K) (hT : rmI its T) (ho : itsOk N its) (h1 : 1 ≤ j) (hj : j < its.length) : f_Mo_textSize K T (nI j) = some (nI (tsz (inm (itr its j))), T) := by
  obtain ⟨-, -, hI, hU⟩ := hT
  obtain ⟨-, -, -, -, n1, n2⟩ := hI j h1 hj
  have hlen := ho.2.1
  have hul := ho.2.2.1
  have n4 := uns_len hj
  have n5 := (ho.2.2.2.2 j h1 hj).2.2.2.2.1
  have hin : lf_in (nI j) 4200 := q_in (by omega) (by decide)
  have hcl : (nI j).toNatClampNeg = j := nI_clamp (by omega)
  have n2c : T.v_nameSize (nI j).toNatClampNeg = nI (inm (itr its j)).length := by rw [hcl]; exact n2
  have n1c : T.v_nameAt (nI j).toNatClampNeg = nI (uns (its.take j)).length := by rw [hcl]; exact n1
  have loop : ∀ (d i kk : Nat), i + d = (inm (itr its j)).length → d < kk → f_Mo_textSize_4 K kk (nI j) (nI (tsz ((inm (itr its j)).take i))) (nI i) T = some (nI (tsz (inm (itr its j))), T) := by
    intro d
    induction d with
    | zero =>
      intro i kk g1 g2
      obtain ⟨kk, rfl⟩ : ∃ q, kk = q + 1 := ⟨kk - 1, by omega⟩
      rw [f_Mo_textSize_4, q_g hin, n2c, if_pos (nI_le (by omega) (by omega)), List.take_of_length_le (by omega)]
    | succ d ih =>
      intro i kk g1 g2
      obtain ⟨kk, rfl⟩ : ∃ q, kk = q + 1 := ⟨kk - 1, by omega⟩
      have hlt : (inm (itr its j)).getD i 0 < 65536 := by rw [← uns_get hj (by omega)]; exact getD_lt ho.2.2.2.1 (by decide)
      have hun : T.v_unit ((uns (its.take j)).length + i) = nI ((inm (itr its j)).getD i 0) := by rw [hU _ (by omega), uns_get hj (by omega)]
      rw [f_Mo_textSize_4, q_g hin, n2c, if_neg (nI_ge (by omega) (by omega)), q_g hin, n1c, nI_add, q_g (q_in (by omega) (by decide)), nI_clamp (by omega), hun, qM_bytesOf (by omega), q_b, nI_add, q_l, show (1 : Int32) = nI 1 from rfl, nI_add, q_l]
      have e : tsz ((inm (itr its j)).take i) + widN ((inm (itr its j)).getD i 0) = tsz ((inm (itr its j)).take (i + 1)) := by
        rw [take_s (by omega), tsz_app]
        rfl
      rw [e]
      exact ih (i + 1) kk (by omega) (by omega)
  exact loop (inm (itr its j)).length 0 K (by omega) (by omega)
theorem rcN_c : ∀ i : Fin 7, ([46, 116, 117, 114, 110, 101, 100] : List Int32).getD i.val 0 = nI (rcN.getD i.val 0) ∧ vp_nar .char (nI (rcN.getD i.val 0)) = nI (rcN.getD i.val 0) := by decide
theorem rcN_at {i : Nat} (hi : i < 7) : str_at [46, 116, 117, 114, 110, 101, 100] (nI i) = some (nI (rcN.getD i 0)) := by
  unfold str_at
  rw [if_pos (show lf_in (nI i) ([46, 116, 117, 114, 110, 101, 100] : List Int32).length from q_in hi (by decide)), nI_clamp (by omega), (rcN_c ⟨i, hi⟩).1]
theorem rcN_lt : ∀ u ∈ rcN, u < 65536 := by decide
theorem qM_badNames {K N : Nat} {D : Nat → Int32} {fks : List Nat} {its : List It} {T : MS} (hK : 20000 ≤ K) (hT : rmI its T) (ho : itsOk N its) (hk0 : kdR fks its.length T) (hkd : kdS fks its) (hfl : 1 ≤ fks.length) : ∃ f, f_Mo_badNames K T = some (b01 (¬ (nmOk its ∧ ¬ rcTk its)), (T.u_v_size 7).u_v_name f) := by
  have hlen := ho.2.1
  have hlen1 := ho.1
  have l47 : ∀ (y : Int32) (d i q : Nat) (f : Nat → Int32), i + d = 7 → d < q → (∀ x, x < i → f x = nI (rcN.getD x 0)) → ∃ f', bufR f' rcN ∧ f_Mo_badNames_47 K q y (nI i) ((T.u_v_size 7).u_v_name f) = (if y = 0 then lf_c (f_Mo_isTaken K ((T.u_v_size 7).u_v_name f') 0) (fun r_8 S_8 => if r_8 = 0 then (some (0, S_8)) else (f_Mo_badNames_84 K S_8)) else f_Mo_badNames_84 K ((T.u_v_size 7).u_v_name f')) := by
    intro y d
    induction d with
    | zero =>
      intro i q f h1 h2 hf
      obtain ⟨q, rfl⟩ : ∃ m, q = m + 1 := ⟨q - 1, by omega⟩
      obtain rfl : i = 7 := by omega
      exact ⟨f, hf, by rw [f_Mo_badNames_47, if_pos (show 7 ≤ nI 7 by decide)]⟩
    | succ d ih =>
      intro i q f h1 h2 hf
      obtain ⟨q, rfl⟩ : ∃ m, q = m + 1 := ⟨q - 1, by omega⟩
      obtain ⟨f', a, b⟩ := ih (i + 1) q (upd f i (nI (rcN.getD i 0))) (by omega) (by omega) (fun x hx => by
        by_cases w : x = i
        · rw [w, pk_us]
        · rw [pk_un w]; exact hf x (by omega))
      refine ⟨f', a, ?_⟩
      rw [f_Mo_badNames_47, if_neg (show ¬ 7 ≤ nI i from nI_ge (b := 7) (by omega) (by decide)), rcN_at (by omega), q_b, q_g (q_in (by omega) (by decide)), q_l, show (1 : Int32) = nI 1 from rfl, nI_add, q_l, nI_clamp (by omega), (rcN_c ⟨i, by omega⟩).2]
      exact b
  have fin : ∀ P : Prop, ∃ f, f_Mo_badNames_47 K K (b01 P) 0 (T.u_v_size 7) = some (b01 (P ∨ rcTk its), (T.u_v_size 7).u_v_name f) := fun P => by
    obtain ⟨f, a, b⟩ := l47 (b01 P) 7 0 K T.v_name (by omega) (by omega) (fun x hx => absurd hx (Nat.not_lt_zero _))
    have b : f_Mo_badNames_47 K K (b01 P) 0 (T.u_v_size 7) = _ := b
    obtain ⟨k1, k2⟩ := hk0 0 (by omega)
    obtain ⟨d1, d2, d3, d4, d5⟩ := hkd 0 (by omega)
    have hkc : fkI fks 0 + kcI fks its.length 0 = fks.getD (0 + 1) its.length := by unfold kcI; unfold fkI at *; omega
    have ht := qM_taken (K := K) (T := (T.u_v_size 7).u_v_name f) (us := rcN) (i := 0) (by omega) hT ho (by decide) k1 k2 d1 (by rw [hkc]; exact d3) rfl (by decide) a rcN_lt
    have ht : f_Mo_isTaken K ((T.u_v_size 7).u_v_name f) 0 = _ := ht
    have e : (∃ j, fkI fks 0 ≤ j ∧ j < fkI fks 0 + kcI fks its.length 0 ∧ alk (inm (itr its j)) rcN) = rcTk its := by
      rw [hkc]
      refine propext ⟨fun ⟨j, j1, j2, j3⟩ => ⟨j, by omega, by omega, (d5 j (by omega) (by omega)).mpr ⟨j1, j2⟩, j3⟩, fun ⟨j, j1, j2, j3, j4⟩ => ?_⟩
      obtain ⟨g1, g2⟩ := (d5 j j1 j2).mp j3
      exact ⟨j, g1, g2, j4⟩
    rw [e] at ht
    refine ⟨f, ?_⟩
    rw [b]
    unfold f_Mo_badNames_84
    by_cases w : P
    · rw [b01_t w, if_neg (show ¬ nI 1 = 0 by decide), b01_t (Or.inl w)]; rfl
    · rw [b01_f w, if_pos (show nI 0 = 0 from rfl), ht, q_c]
      by_cases g : rcTk its
      · rw [b01_t g, if_neg (show ¬ nI 1 = 0 by decide), b01_t (Or.inr g)]; rfl
      · rw [b01_f g, if_pos (show nI 0 = 0 from rfl), b01_f (fun y => y.elim w g)]; rfl
  have l4 : ∀ (d i q : Nat) (P : Prop), i + d = its.length → d < q → 1 ≤ i → ∃ f, f_Mo_badNames_4 K q (b01 P) (nI i) T = some (b01 ((P ∨ ∃ j, i ≤ j ∧ j < its.length ∧ ¬ tsz (inm (itr its j)) ≤ 255) ∨ rcTk its), (T.u_v_size 7).u_v_name f) := by
    intro d
    induction d with
    | zero =>
      intro i q P h1 h2 h3
      obtain ⟨q, rfl⟩ : ∃ m, q = m + 1 := ⟨q - 1, by omega⟩
      obtain rfl : i = its.length := by omega
      obtain ⟨f, a⟩ := fin P
      refine ⟨f, ?_⟩
      rw [f_Mo_badNames_4, hT.1, if_pos (Int32.le_refl _), q_l, a]
      have : (P ∨ ∃ j, its.length ≤ j ∧ j < its.length ∧ ¬ tsz (inm (itr its j)) ≤ 255) = P := propext ⟨fun y => y.elim id (fun ⟨j, j1, j2, _⟩ => by omega), Or.inl⟩
      rw [this]
    | succ d ih =>
      intro i q P h1 h2 h3
      obtain ⟨q, rfl⟩ : ∃ m, q = m + 1 := ⟨q - 1, by omega⟩
      have hsz : tsz (inm (itr its i)) < 2 ^ 31 := by
        have := tsz_le (inm (itr its i))
        have := (ho.2.2.2.2 i h3 (by omega)).2.2.2.2.1
        omega
      have split1 : ∀ Q : Prop, (Q ↔ (P ∨ ¬ tsz (inm (itr its i)) ≤ 255)) → (Q ∨ ∃ j, i + 1 ≤ j ∧ j < its.length ∧ ¬ tsz (inm (itr its j)) ≤ 255) = (P ∨ ∃ j, i ≤ j ∧ j < its.length ∧ ¬ tsz (inm (itr its j)) ≤ 255) := fun Q hQ => by
        refine propext ⟨fun y => ?_, fun y => ?_⟩
        · rcases y with y | ⟨j, j1, j2, j3⟩
          · rcases hQ.mp y with y | y
            · exact Or.inl y
            · exact Or.inr ⟨i, Nat.le_refl _, by omega, y⟩
          · exact Or.inr ⟨j, by omega, j2, j3⟩
        · rcases y with y | ⟨j, j1, j2, j3⟩
          · exact Or.inl (hQ.mpr (Or.inl y))
          · by_cases e : j = i
            · rw [e] at j3; exact Or.inl (hQ.mpr (Or.inr j3))
            · exact Or.inr ⟨j, by omega, j2, j3⟩
      rw [f_Mo_badNames_4]
      unfold f_Mo_badNames_32 f_Mo_badNames_27 f_Mo_badNames_32
      rw [hT.1, if_neg (nI_ge (by omega) (by omega)), qM_textSize (by omega) hT ho h3 (by omega), q_c, show (1 : Int32) = nI 1 from rfl, nI_add, q_l, q_l]
      by_cases w : P
      · obtain ⟨f, a⟩ := ih (i + 1) q True (by omega) (by omega) (by omega)
        rw [split1 True ⟨fun _ => Or.inl w, fun _ => trivial⟩, b01_t trivial] at a
        rw [b01_t w, if_neg (show ¬ nI 1 = 0 by decide)]
        exact ⟨f, a⟩
      · rw [b01_f w, if_pos (show nI 0 = 0 from rfl)]
        by_cases g : tsz (inm (itr its i)) ≤ 255
        · obtain ⟨f, a⟩ := ih (i + 1) q False (by omega) (by omega) (by omega)
          rw [split1 False ⟨fun y => y.elim, fun y => y.elim w (fun z => z g)⟩, b01_f (fun y => y)] at a
          rw [if_pos (show nI (tsz (inm (itr its i))) ≤ 255 from nI_le (b := 255) g (by decide))]
          exact ⟨f, a⟩
        · obtain ⟨f, a⟩ := ih (i + 1) q True (by omega) (by omega) (by omega)
          rw [split1 True ⟨fun _ => Or.inr g, fun _ => trivial⟩, b01_t trivial] at a
          rw [if_neg (show ¬ nI (tsz (inm (itr its i))) ≤ 255 from nI_ge (a := 255) (by omega) hsz)]
          exact ⟨f, a⟩
  obtain ⟨f, a⟩ := l4 (its.length - 1) 1 K False (by omega) (by omega) (Nat.le_refl _)
  refine ⟨f, ?_⟩
  rw [b01_f (fun y => y)] at a
  have a : f_Mo_badNames K T = _ := a
  rw [a]
  have : ((False ∨ ∃ j, 1 ≤ j ∧ j < its.length ∧ ¬ tsz (inm (itr its j)) ≤ 255) ∨ rcTk its) = ¬ (nmOk its ∧ ¬ rcTk its) := by
    refine propext ⟨fun y z => ?_, fun y => ?_⟩
    · rcases y with (y | ⟨j, j1, j2, j3⟩) | y
      · exact y
      · exact j3 (z.1 j j1 j2)
      · exact z.2 y
    · refine Classical.byContradiction fun z => y ⟨fun i i1 i2 => Classical.byContradiction fun w => z (Or.inl (Or.inr ⟨i, i1, i2, w⟩)), fun w => z (Or.inr w)⟩
  rw [this]
theorem qC_named7 {K N j : Nat} {G : CG} {D : Nat → Int32} {mp : Nat → Nat} {its : List It} {S : CS} (hK : 1000 ≤ K) (hG : gOk N G) (hS : rcI D mp its S) (hl : its.length ≤ G.l_parent) (hp : (uns its).length ≤ G.l_pool) (hu : ∀ u ∈ uns its, u < 65536) (hj : j < its.length) (hnl : (inm (itr its j)).length ≤ 260) : f_Tr_isNamedAsRecord K G S (nI j) = some (b01 (alk (inm (itr its j)) rcN), S) := by
  obtain ⟨g0, ⟨-, -, -, -, -, -, -, -, ga, gl, -⟩, g2, g3, g4, g5⟩ := hG
  obtain ⟨c1, c2, c3, c4⟩ := hS
  obtain ⟨-, -, -, -, -, -, n1, n2, -⟩ := c3 j hj
  have n4 := uns_len hj
  have hr7 : rcN.length = 7 := rfl
  unfold f_Tr_isNamedAsRecord f_Tr_isNamedAsRecord_22
  rw [qC_has c1 (by omega) (by omega), q_c, b01_t hj, if_neg (by decide), q_g (q_in (by omega) (by omega)), nI_clamp (by omega), n2]
  by_cases e : (inm (itr its j)).length = 7
  rotate_left
  · rw [if_neg (show ¬ nI (inm (itr its j)).length = 7 from fun w => e ((nI_eq (b := 7) (by omega) (by decide)).mp w)), b01_f (fun w => e (alk_iff.mp w).1)]; rfl
  rw [if_pos (show nI (inm (itr its j)).length = 7 by rw [e]; rfl)]
  have loop : ∀ (d i k : Nat), i + d = 7 → d < k → f_Tr_isNamedAsRecord_26 K G k (nI j) (nI i) S = some (b01 (∀ q, i ≤ q → q < 7 → capN ((inm (itr its j)).getD q 0) = capN (rcN.getD q 0)), S) := by
    intro d
    induction d with
    | zero =>
      intro i k h1 h2
      obtain ⟨k, rfl⟩ : ∃ q, k = q + 1 := ⟨k - 1, by omega⟩
      obtain rfl : i = 7 := by omega
      rw [f_Tr_isNamedAsRecord_26, if_pos (show 7 ≤ nI 7 by decide), b01_t (fun q a b => by omega)]; rfl
    | succ d ih =>
      intro i k h1 h2
      obtain ⟨k, rfl⟩ : ∃ q, k = q + 1 := ⟨k - 1, by omega⟩
      have b1 : (inm (itr its j)).getD i 0 < 65536 := by rw [← uns_get hj (by omega)]; exact getD_lt hu (by decide)
      have b2 : rcN.getD i 0 < 65536 := getD_lt rcN_lt (by decide)
      have nx := ih (i + 1) k (by omega) (by omega)
      have e1 : S.w_Tr_nameAt (nI j).toNatClampNeg = nI (uns (its.take j)).length := by rw [nI_clamp (by omega)]; exact n1
      rw [f_Tr_isNamedAsRecord_26, if_neg (show ¬ 7 ≤ nI i from nI_ge (b := 7) (by omega) (by decide)), q_g (q_in (by omega) (by omega)), e1, nI_add, q_g (q_in (by omega) (by omega)), nI_clamp (by omega), c4 _ (by omega), uns_get hj (by omega), qV_capital K (by omega), q_b, rcN_at (by omega), q_b, qV_capital K (by omega), q_b]
      have c1 := capN_lt b1
      have c2 := capN_lt b2
      by_cases ec : capN ((inm (itr its j)).getD i 0) = capN (rcN.getD i 0)
      · rw [if_pos (by rw [ec]), show (1 : Int32) = nI 1 from rfl, nI_add, q_l, nx]
        congr 2
        refine b01_iff ⟨fun h q a b => ?_, fun h q a b => h q (by omega) b⟩
        rcases Nat.lt_or_ge i q with z | z
        · exact h q z b
        · obtain rfl : q = i := by omega
          exact ec
      · rw [if_neg (fun w => ec ((nI_eq (by omega) (by omega)).mp w)), b01_f (fun w => ec (w i (Nat.le_refl _) (by omega)))]; rfl
  rw [show (0 : Int32) = nI 0 from rfl, loop 7 0 K (by omega) (by omega)]
  congr 2
  refine b01_iff ⟨fun h => alk_iff.mpr ⟨e.trans hr7.symm, fun q hq => h q (Nat.zero_le _) hq⟩, fun h q _ hq => (alk_iff.mp h).2 q hq⟩
theorem qC_namesFit {K N : Nat} {G : CG} {D : Nat → Int32} {mp : Nat → Nat} {its : List It} {S : CS} (hK : 5000 ≤ K) (hG : gOk N G) (hS : rcI D mp its S) (hl : its.length ≤ G.l_parent) (hp : (uns its).length ≤ G.l_pool) (ho : itsOk N its) : f_Pl_namesFit K G S = some (b01 (nmOk its ∧ ¬ rcTk its), S) := by
  have hlen := ho.2.1
  have hlen1 := ho.1
  have loop : ∀ (d i q : Nat), i + d = its.length → d < q → 1 ≤ i → f_Pl_namesFit_2 K G q (nI i) S = some (b01 (∀ j, i ≤ j → j < its.length → tsz (inm (itr its j)) ≤ 255 ∧ ¬ (ipa (itr its j) = 0 ∧ alk (inm (itr its j)) rcN)), S) := by
    intro d
    induction d with
    | zero =>
      intro i q h1 h2 h3
      obtain ⟨q, rfl⟩ : ∃ m, q = m + 1 := ⟨q - 1, by omega⟩
      obtain rfl : i = its.length := by omega
      rw [f_Pl_namesFit_2, hS.1, if_pos (Int32.le_refl _), b01_t (fun j a b => by omega)]
      rfl
    | succ d ih =>
      intro i q h1 h2 h3
      obtain ⟨q, rfl⟩ : ∃ m, q = m + 1 := ⟨q - 1, by omega⟩
      have hi : i < its.length := by omega
      have hpa := (ho.2.2.2.2 i h3 hi).2.2.2.1
      have hsz : tsz (inm (itr its i)) < 2 ^ 31 := by
        have := tsz_le (inm (itr its i))
        have := (ho.2.2.2.2 i h3 (by omega)).2.2.2.2.1
        omega
      have nx := ih (i + 1) q (by omega) (by omega) (by omega)
      have good : (tsz (inm (itr its i)) ≤ 255 ∧ ¬ (ipa (itr its i) = 0 ∧ alk (inm (itr its i)) rcN)) → f_Pl_namesFit_2 K G q (nI (i + 1)) S = some (b01 (∀ j, i ≤ j → j < its.length → tsz (inm (itr its j)) ≤ 255 ∧ ¬ (ipa (itr its j) = 0 ∧ alk (inm (itr its j)) rcN)), S) := fun w => by
        rw [nx]
        congr 2
        refine b01_iff ⟨fun h j a b => ?_, fun h j a b => h j (by omega) b⟩
        by_cases e : j = i
        · rw [e]; exact w
        · exact h j (by omega) b
      have bad : ¬ (tsz (inm (itr its i)) ≤ 255 ∧ ¬ (ipa (itr its i) = 0 ∧ alk (inm (itr its i)) rcN)) → some ((0 : Int32), S) = some (b01 (∀ j, i ≤ j → j < its.length → tsz (inm (itr its j)) ≤ 255 ∧ ¬ (ipa (itr its j) = 0 ∧ alk (inm (itr its j)) rcN)), S) := fun w => by
        rw [b01_f (fun y => w (y i (Nat.le_refl _) hi))]; rfl
      rw [f_Pl_namesFit_2]
      unfold f_Pl_namesFit_29 f_Pl_namesFit_59 f_Pl_namesFit_61
      rw [hS.1, if_neg (nI_ge (by omega) (by omega)), qC_parent hG hS hl hi, q_c, qC_nameSize hG hS hl hi, q_c, show (1 : Int32) = nI 1 from rfl, nI_add, q_l, qC_named7 (by omega) hG hS hl hp ho.2.2.2.1 hi (by have := (ho.2.2.2.2 i h3 (by omega)).2.2.2.2.1; omega), q_c, if_neg (show ¬ nI 1 = 0 by decide), q_c, if_pos (show (0 : Int32) = 0 from rfl)]
      by_cases g : tsz (inm (itr its i)) ≤ 255
      rotate_left
      · have h255 : 255 < nI (tsz (inm (itr its i))) := nI_lt (a := 255) (by omega) hsz
        split
        · exact bad (fun y => g y.1)
        · exact bad (fun y => g y.1)
      have h255 : ¬ 255 < nI (tsz (inm (itr its i))) := nI_nlt (a := 255) g (by omega)
      by_cases r0 : ipa (itr its i) = 0
      · rw [if_pos (show nI (ipa (itr its i)) = 0 by rw [r0]; rfl), if_neg h255]
        by_cases a : alk (inm (itr its i)) rcN
        · rw [b01_t a, if_neg (show ¬ nI 1 = 0 by decide)]
          exact bad (fun y => y.2 ⟨r0, a⟩)
        · rw [b01_f a, if_pos (show nI 0 = 0 from rfl), q_l]
          exact good ⟨g, fun y => a y.2⟩
      · rw [if_neg (nI_ne0 (by omega) (by omega)), if_neg h255]
        exact good ⟨g, fun y => r0 y.1⟩
  have := loop (its.length - 1) 1 K (by omega) (by omega) (Nat.le_refl _)
  have this : f_Pl_namesFit K G S = _ := this
  rw [this]
  congr 2
  refine b01_iff ⟨fun h => ⟨fun i a b => (h i a b).1, fun ⟨j, j1, j2, j3, j4⟩ => (h j j1 j2).2 ⟨j3, j4⟩⟩, fun h j a b => ⟨h.1 j a b, fun y => h.2 ⟨j, a, b, y.1, y.2⟩⟩⟩
