/-! An entry in the class. -/
theorem qC_bits {K N p p' : Nat} {G : CG} {D E : Nat → Int32} {S : CS} (hG : G.n = N) (hN : N ≤ 1024) (hE : S.w_Dk_bytes = E) (hq : slq E p' D p) (hp' : p' + 32 ≤ 512 * N) {r : Nat} (hr : r < 256) : f_Rd_bitsFit K G S (nI p') (nI r) = some (b01 (r ≤ 63 ∧ (r / 8 % 2 = 1 → r / 16 % 2 = 0 ∧ fc D p = 0 ∧ o4 D (p + 28) = 0) ∧ (r / 16 % 2 = 1 → o4 D (p + 28) = 0)), S) := by
  have b28 := o4_lt D (p + 28)
  have bf := fc_lt D p
  have f4 : f_Dk_four K G S (nI p' + 28) = some (nI (o4 D (p + 28)), S) := by
    rw [show (28 : Int32) = nI 28 from rfl, nI_add, rV4 E hG hE hN (by omega), slq_4 hq (by decide)]
  have f1 : f_Rd_firstCluster K G S (nI p') = some (nI (fc D p), S) := by rw [qV_first hG hE hN (by omega), slq_fc hq]
  have n1 : ¬ (1 : Int32) = 0 := by decide
  have e67 : f_Rd_bitsFit_67 K G (nI p') S = some (b01 (o4 D (p + 28) = 0), S) := by
    unfold f_Rd_bitsFit_67 f_Rd_bitsFit_81
    rw [f4, q_c]
    by_cases g : o4 D (p + 28) = 0
    · rw [if_pos (by rw [g]; rfl), b01_t g]; rfl
    · rw [if_neg (fun z : nI (o4 D (p + 28)) = 0 => g ((q_eqW (b := 0) b28 (by decide)).mp z)), b01_f g]; rfl
  have bad : ∀ P : Prop, ¬ P → some ((0 : Int32), S) = some (b01 P, S) := fun P h => by rw [b01_f h]; rfl
  unfold f_Rd_bitsFit f_Rd_bitsFit_12 f_Rd_bitsFit_25 f_Rd_bitsFit_42 f_Rd_bitsFit_44 f_Rd_bitsFit_58 f_Rd_bitsFit_81
  rw [show (8 : Int32) = nI 8 from rfl, q_and, q_and8 hr, show (16 : Int32) = nI 16 from rfl, q_and, q_and16 hr, f1, e67]
  by_cases g0 : r ≤ 63
  rotate_left
  · simp only [if_pos (show 63 < nI r from nI_lt (a := 63) (by omega) (by omega)), ite_self]
    exact bad _ (fun w => g0 w.1)
  simp only [if_neg (show ¬ 63 < nI r from nI_nlt (a := 63) g0 (by omega)), if_true, if_neg n1]
  by_cases g1 : r / 8 % 2 = 1
  · rw [g1, if_neg (show ¬ nI (8 * 1) = 0 by decide)]
    by_cases g2 : r / 16 % 2 = 1
    · rw [g2, if_neg (show ¬ nI (16 * 1) = 0 by decide)]
      exact bad _ (fun w => by have := (w.2.1 rfl).1; omega)
    · rw [show r / 16 % 2 = 0 by omega, if_pos (show nI (16 * 0) = 0 by decide), q_c]
      by_cases g3 : fc D p = 0
      · rw [if_pos (by rw [g3]; rfl), e67]
        congr 2
        exact b01_iff ⟨fun w => ⟨g0, fun _ => ⟨rfl, g3, w⟩, fun w => by omega⟩, fun w => (w.2.1 rfl).2.2⟩
      · rw [if_neg (fun z : nI (fc D p) = 0 => g3 ((q_eqW (b := 0) bf (by decide)).mp z))]
        exact bad _ (fun w => g3 (w.2.1 rfl).2.1)
  · rw [show r / 8 % 2 = 0 by omega, if_pos (show nI (8 * 0) = 0 by decide)]
    by_cases g2 : r / 16 % 2 = 1
    · rw [g2, if_neg (show ¬ nI (16 * 1) = 0 by decide)]
      congr 2
      exact b01_iff ⟨fun w => ⟨g0, fun w => by omega, fun _ => w⟩, fun w => w.2.2 rfl⟩
    · rw [show r / 16 % 2 = 0 by omega, if_pos (show nI (16 * 0) = 0 by decide)]
      rw [b01_t ⟨g0, fun w => by omega, fun w => by omega⟩]; rfl
theorem qC_close {K N p p' : Nat} {G : CG} {D E : Nat → Int32} {S : CS} {x : Pend} (hK : 1000 ≤ K) (hG : G.n = N) (hN : N ≤ 1024) (hE : S.w_Dk_bytes = E) (hq : slq E p' D p) (hp' : p' + 32 ≤ 512 * N) (hx : peOk x) (hS : rcP x S) (h0 : pM x ≠ 0) : f_Rd_closeParts K G S (nI p') = some (nI (cif (pL x = 0 ∧ sm D p 11 = pS x ∧ sdP (pU x)) (tw (pU x)).length 0), S) := by
  obtain ⟨x1, x2, x3, x4⟩ := hx
  obtain ⟨s1, s2⟩ := hS
  obtain ⟨u1, u2, u4⟩ := s2 h0
  have hsm := sm_lt D p 11
  unfold f_Rd_closeParts f_Rd_closeParts_39
  rw [s1, if_neg h0, show (13 : Int32) = nI 13 from rfl, pk_mul, q_l, u1, u2]
  by_cases a4 : pL x = 0
  rotate_left
  · rw [if_neg (nI_ne0 (by omega) (by omega)), cif_f (fun w => a4 w.1)]; rfl
  rw [if_pos (by rw [a4]; rfl), qV_sum hK hG hE hN (by omega), q_c, slq_sm hq 11 (by decide)]
  by_cases a5 : sm D p 11 = pS x
  rotate_left
  · rw [if_neg (fun w => a5 ((nI_eq (by omega) (by omega)).mp w).symm), cif_f (fun w => a5 w.2.1)]; rfl
  rw [if_pos (by rw [a5]), a4, Nat.add_zero, if_pos (show nI (pM x * 13) ≤ 260 from nI_le (b := 260) (by omega) (by decide))]
  generalize hus : pU x = us at *
  have hb : bufR S.w_Rd_units us := fun j hj => by
    have := u4 j (by omega)
    rw [a4, Nat.mul_zero, Nat.zero_add] at this
    exact this
  obtain ⟨t1, t2, t3⟩ := tw_pre us
  have hut : ∀ u ∈ tw us, u < 65536 := fun u h => x4 u (List.takeWhile_subset _ h)
  rw [show pM x * 13 = us.length by omega]
  have p68 : ∀ d j k, j + d = us.length → (tw us).length < j → d < k → f_Rd_closeParts_68 K G k (nI us.length) (nI (tw us).length) (nI j) S = some (nI (cif ((∀ i, j ≤ i → i < us.length → us.getD i 0 = 65535) ∧ us.length < (tw us).length + 13 ∧ nmP (tw us)) (tw us).length 0), S) := by
    intro d
    induction d with
    | zero =>
      intro j k h1 h2 h3
      obtain ⟨k, rfl⟩ : ∃ q, k = q + 1 := ⟨k - 1, by omega⟩
      unfold f_Rd_closeParts_68 f_Rd_closeParts_117
      rw [if_pos (nI_le (by omega) (by omega)), show (13 : Int32) = nI 13 from rfl, pk_sub (by omega)]
      by_cases g2 : us.length < (tw us).length + 13
      · rw [if_neg (nI_ge (by omega) (by omega)), b01_of (qV_isName_Rdunits hK (by omega) (fun j hj => by rw [hb j (by omega), (t2 j hj).1]) hut), q_c]
        by_cases g3 : nmP (tw us)
        · rw [b01_t g3, if_neg (by decide), cif_t ⟨fun i a b => by omega, g2, g3⟩]
        · rw [b01_f g3, if_pos (by decide), cif_f (fun z => g3 z.2.2)]; rfl
      · rw [if_pos (nI_le (by omega) (by omega)), cif_f (fun z => g2 z.2.1)]; rfl
    | succ d ih =>
      intro j k h1 h2 h3
      obtain ⟨k, rfl⟩ : ∃ q, k = q + 1 := ⟨k - 1, by omega⟩
      have hlt : us.getD j 0 < 65536 := getD_lt x4 (by decide)
      rw [f_Rd_closeParts_68, if_neg (nI_ge (by omega) (by omega)), q_g (q_in (by omega) (by decide)), nI_clamp (by omega), hb j (by omega)]
      by_cases g2 : us.getD j 0 = 65535
      · rw [if_pos (by rw [g2]; rfl), q_l, nI_1, ih (j + 1) k (by omega) (by omega) (by omega)]
        by_cases w : (∀ i, j + 1 ≤ i → i < us.length → us.getD i 0 = 65535) ∧ us.length < (tw us).length + 13 ∧ nmP (tw us)
        · rw [cif_t w, cif_t ⟨fun i a b => by
            rcases Nat.lt_or_ge j i with y | y
            · exact w.1 i y b
            · obtain rfl : i = j := by omega
              exact g2, w.2⟩]
        · rw [cif_f w, cif_f (fun y => w ⟨fun i a b => y.1 i (by omega) b, y.2⟩)]
      · rw [if_neg (fun z : nI (us.getD j 0) = 65535 => g2 ((nI_eq (b := 65535) (by omega) (by omega)).mp z)), cif_f (fun z => g2 (z.1 j (Nat.le_refl _) (by omega)))]; rfl
  have p63 : f_Rd_closeParts_63 K G (nI us.length) (nI (tw us).length) S = some (nI (cif (sdP us) (tw us).length 0), S) := by
    unfold f_Rd_closeParts_63
    rw [q_l, nI_1]
    by_cases w : (tw us).length + 1 ≤ us.length
    · rw [p68 (us.length - ((tw us).length + 1)) ((tw us).length + 1) K (by omega) (by omega) (by omega)]
      congr 2
    · obtain ⟨k, rfl⟩ : ∃ q, K = q + 1 := ⟨K - 1, by omega⟩
      have el : (tw us).length = us.length := by omega
      unfold f_Rd_closeParts_68 f_Rd_closeParts_117
      rw [if_pos (nI_le (by omega) (by omega)), show (13 : Int32) = nI 13 from rfl, pk_sub (by omega), if_neg (nI_ge (by omega) (by omega)), b01_of (qV_isName_Rdunits hK (by omega) (fun j hj => by rw [hb j (by omega), (t2 j hj).1]) hut), q_c]
      by_cases g3 : nmP (tw us)
      · rw [b01_t g3, if_neg (by decide), cif_t ⟨fun i a b => by omega, by omega, g3⟩]
      · rw [b01_f g3, if_pos (by decide), cif_f (fun z => g3 z.2.2)]; rfl
  have p43 : ∀ d j k, j + d = (tw us).length → d < k → f_Rd_closeParts_43 K G k (nI us.length) (nI j) S = some (nI (cif (sdP us) (tw us).length 0), S) := by
    intro d
    induction d with
    | zero =>
      intro j k h1 h2
      obtain ⟨k, rfl⟩ : ∃ q, k = q + 1 := ⟨k - 1, by omega⟩
      obtain rfl : j = (tw us).length := by omega
      rw [f_Rd_closeParts_43]
      by_cases g : us.length ≤ (tw us).length
      · rw [if_pos (nI_le g (by omega)), p63]
      · rw [if_neg (nI_ge (by omega) (by omega)), q_g (q_in (by omega) (by decide)), nI_clamp (by omega), hb _ (by omega), t3 (by omega), if_pos (by rfl), p63]
    | succ d ih =>
      intro j k h1 h2
      obtain ⟨k, rfl⟩ : ∃ q, k = q + 1 := ⟨k - 1, by omega⟩
      have hlt : us.getD j 0 < 65536 := getD_lt x4 (by decide)
      have := (t2 j (by omega)).2
      rw [f_Rd_closeParts_43, if_neg (nI_ge (by omega) (by omega)), q_g (q_in (by omega) (by decide)), nI_clamp (by omega), hb _ (by omega), if_neg (nI_ne0 (by omega) (by omega)), q_l, nI_1, ih (j + 1) k (by omega) (by omega)]
  rw [show (0 : Int32) = nI 0 from rfl, p43 (tw us).length 0 K (by omega) (by omega)]
  by_cases w : sdP us
  · rw [cif_t w, cif_t ⟨rfl, a5, w⟩]
  · rw [cif_f w, cif_f (fun y => w y.2.2)]
