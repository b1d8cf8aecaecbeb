/-! The plan: rooms given to owners. -/
noncomputable def dBI (fks : List Nat) (D : Nat → Int32) (its : List It) (i : Nat) : Nat := cif (isDr D its i) (flB fks its i + indN (flB fks its i)) 0
noncomputable def fBI (D : Nat → Int32) (its : List It) (i : Nat) : Nat := cif (isDr D its i) 0 (indN (fbN D its i))
theorem bd_split {fks : List Nat} {D : Nat → Int32} {its : List It} (n : Nat) : sumN (bdI fks D its) n = sumN (dBI fks D its) n + sumN (fBI D its) n := by
  rw [← sumN_add]
  refine sumN_congr n fun i _ => ?_
  unfold bdI dBI fBI
  by_cases w : isDr D its i
  · rw [cif_t w, cif_t w, cif_t w]; rfl
  · rw [cif_f w, cif_f w, cif_f w, Nat.zero_add]
/-- where an owner's rooms begin, b0 being those before all -/
noncomputable def boN (fks : List Nat) (D : Nat → Int32) (its : List It) (b0 i : Nat) : Nat := cif (isDr D its i) (b0 + sumN (dBI fks D its) i) (b0 + sumN (dBI fks D its) its.length + sumN (fBI D its) i)
noncomputable def bbN (fks : List Nat) (D : Nat → Int32) (its : List It) (i : Nat) : Nat := cif (isDr D its i) (flB fks its i) 0
def aS2 (S : CS) (b : Int32) (w1 w2 : Nat → Int32) : CS := ((S.u_v_Pl_built b).u_w_Tr_built w1).u_w_Tr_builtBlocks w2
theorem qC_setBuilt {K N k i : Nat} {D : Nat → Int32} {mp : Nat → Nat} {fks : List Nat} {its : List It} {e : Nat → Nat} {G : CG} {S : CS} {b : Int32} {w1 w2 : Nat → Int32} (h : trC N D mp fks its k e G S) (hi : i < its.length) (x y : Int32) : f_Tr_setBuilt K G (aS2 S b w1 w2) (nI i) x y = some (aS2 S b (upd w1 i x) (upd w2 i y)) := by
  obtain ⟨⟨g0, ⟨-, -, -, -, -, -, -, -, -, -, -, g1, g2⟩, g3, g4, -⟩, hr, hl, hok, -⟩ := h
  have hlen := hok.2.1
  unfold f_Tr_setBuilt
  rw [qC_has (S := aS2 S b w1 w2) hr.1 (by omega) (by omega), q_c, b01_t hi, if_neg (by decide), q_g (q_in (by omega) (by omega)), q_l, q_g (q_in (by omega) (by omega)), q_l, nI_clamp (by omega)]
  rfl
theorem fl_lt {N k i : Nat} {D : Nat → Int32} {mp : Nat → Nat} {fks : List Nat} {its : List It} {e : Nat → Nat} {G : CG} {S : CS} (h : trC N D mp fks its k e G S) (hi : i < its.length) : flB fks its i ≤ 4301 ∧ 1 ≤ flB fks its i := by
  have hlen := h.2.2.2.1.2.1
  have hes := eSz_le h.2.2.2.1 h.2.2.2.2.2.1.1 (show i < fks.length by rw [h.2.2.2.2.2.1.2]; exact hi)
  obtain ⟨d1, d2, d3, d4, d5⟩ := h.2.2.2.2.2.1.1 i (by rw [h.2.2.2.2.2.1.2]; exact hi)
  have hno : eNo fks its i ≤ 4300 := by
    unfold eNo kcI
    unfold fkI at *
    split <;> omega
  have := pkS_le hes (eNo fks its i)
  unfold flB
  omega
theorem qC_as84 {K N k : Nat} {D : Nat → Int32} {mp : Nat → Nat} {fks : List Nat} {its : List It} {e : Nat → Nat} {G : CG} {S : CS} {rl : Nat} (h : trC N D mp fks its k e G S) (hrl : S.v_Pl_roomCount = nI rl) (hrl2 : rl < 2 ^ 31) (b0 : Nat) (hb0 : b0 + sumN (dBI fks D its) its.length + sumN (fBI D its) its.length < 2 ^ 31) : ∀ (d i q : Nat) (w1 w2 : Nat → Int32), i + d = its.length → d < q → (∀ j, j < its.length → (isDr D its j ∨ j < i) → w1 j = nI (boN fks D its b0 j) ∧ w2 j = nI (bbN fks D its j)) → ∃ w1' w2', (∀ j, j < its.length → w1' j = nI (boN fks D its b0 j) ∧ w2' j = nI (bbN fks D its j)) ∧ f_Pl_assign_84 K G q (nI i) (aS2 S (nI (b0 + sumN (dBI fks D its) its.length + sumN (fBI D its) i)) w1 w2) = some (b01 (b0 + sumN (dBI fks D its) its.length + sumN (fBI D its) its.length ≤ rl), aS2 S (nI (b0 + sumN (dBI fks D its) its.length + sumN (fBI D its) its.length)) w1' w2') := by
  have hlen := h.2.2.2.1.2.1
  intro d
  induction d with
  | zero =>
    intro i q w1 w2 h1 h2 hw
    obtain ⟨q, rfl⟩ : ∃ m, q = m + 1 := ⟨q - 1, by omega⟩
    obtain rfl : i = its.length := by omega
    refine ⟨w1, w2, fun j hj => hw j hj (Or.inr hj), ?_⟩
    obtain ⟨S1, eS⟩ : ∃ S1, aS2 S (nI (b0 + sumN (dBI fks D its) its.length + sumN (fBI D its) its.length)) w1 w2 = S1 := ⟨_, rfl⟩
    rw [eS, f_Pl_assign_84, show S1.v_Tr_count = nI its.length by rw [← eS]; exact h.2.1.1, if_pos (Int32.le_refl _), show S1.v_Pl_roomCount = nI rl by rw [← eS]; exact hrl, show S1.v_Pl_built = nI (b0 + sumN (dBI fks D its) its.length + sumN (fBI D its) its.length) by rw [← eS]; rfl]
    by_cases w : b0 + sumN (dBI fks D its) its.length + sumN (fBI D its) its.length ≤ rl
    · rw [if_neg (nI_nlt w hrl2), b01_t w]; rfl
    · rw [if_pos (nI_lt (by omega) hb0), b01_f w]; rfl
  | succ d ih =>
    intro i q w1 w2 h1 h2 hw
    obtain ⟨q, rfl⟩ : ∃ m, q = m + 1 := ⟨q - 1, by omega⟩
    have hi : i < its.length := by omega
    rw [f_Pl_assign_84]
    unfold f_Pl_assign_149
    obtain ⟨S1, eS⟩ : ∃ S1, aS2 S (nI (b0 + sumN (dBI fks D its) its.length + sumN (fBI D its) i)) w1 w2 = S1 := ⟨_, rfl⟩
    have hisd : f_Tr_isDirectory K G S1 (nI i) = some (b01 (isDr D its i), S1) := by rw [← eS]; exact qC_isDir (S := aS2 S (nI (b0 + sumN (dBI fks D its) its.length + sumN (fBI D its) i)) w1 w2) h.1 h.2.1 h.2.2.1 hi
    rw [eS, show S1.v_Tr_count = nI its.length by rw [← eS]; exact h.2.1.1, if_neg (nI_ge hi (by omega)), hisd, q_c]
    by_cases w : isDr D its i
    · have hs : sumN (fBI D its) (i + 1) = sumN (fBI D its) i := by
        rw [sumN, show fBI D its i = 0 from cif_t w]; rfl
      obtain ⟨w1', w2', a1, a2⟩ := ih (i + 1) q w1 w2 (by omega) (by omega) (fun j hj g => hw j hj (by
        rcases g with g | g
        · exact Or.inl g
        · by_cases e1 : j = i
          · rw [e1]; exact Or.inl w
          · exact Or.inr (by omega)))
      refine ⟨w1', w2', a1, ?_⟩
      rw [hs, eS] at a2
      rw [b01_t w, if_neg (show ¬ nI 1 = 0 by decide), nI_1, q_l]
      exact a2
    · have hsz := h.2.2.2.2.2.2.2.1 i hi w
      have hs : b0 + sumN (dBI fks D its) its.length + sumN (fBI D its) (i + 1) = b0 + sumN (dBI fks D its) its.length + sumN (fBI D its) i + indN (fbN D its i) := by
        rw [sumN, show fBI D its i = indN (fbN D its i) from cif_f w, Nat.add_assoc (b0 + sumN (dBI fks D its) its.length)]
      obtain ⟨w1', w2', a1, a2⟩ := ih (i + 1) q (upd w1 i (nI (b0 + sumN (dBI fks D its) its.length + sumN (fBI D its) i))) (upd w2 i 0) (by omega) (by omega) (fun j hj g => by
        by_cases e1 : j = i
        · rw [e1, pk_us, pk_us, show boN fks D its b0 i = b0 + sumN (dBI fks D its) its.length + sumN (fBI D its) i from cif_f w, show bbN fks D its i = 0 from cif_f w]
          exact ⟨rfl, rfl⟩
        · rw [pk_un e1, pk_un e1]
          exact hw j hj (by rcases g with g | g
                            · exact Or.inl g
                            · exact Or.inr (by omega)))
      refine ⟨w1', w2', a1, ?_⟩
      have hsb : f_Tr_setBuilt K G S1 (nI i) S1.v_Pl_built 0 = some (aS2 S (nI (b0 + sumN (dBI fks D its) its.length + sumN (fBI D its) i)) (upd w1 i (nI (b0 + sumN (dBI fks D its) its.length + sumN (fBI D its) i))) (upd w2 i 0)) := by
        rw [show S1.v_Pl_built = nI (b0 + sumN (dBI fks D its) its.length + sumN (fBI D its) i) by rw [← eS]; rfl, ← eS]
        exact qC_setBuilt h hi _ _
      rw [b01_f w, if_pos (show nI 0 = 0 from rfl), hsb, q_b]
      obtain ⟨S2, eS2⟩ : ∃ S2, aS2 S (nI (b0 + sumN (dBI fks D its) its.length + sumN (fBI D its) i)) (upd w1 i (nI (b0 + sumN (dBI fks D its) its.length + sumN (fBI D its) i))) (upd w2 i 0) = S2 := ⟨_, rfl⟩
      have hsz2 : f_Tr_sizeOf K G S2 (nI i) = some (nI (szI D its i), S2) := by rw [← eS2]; exact qC_size (S := aS2 S (nI (b0 + sumN (dBI fks D its) its.length + sumN (fBI D its) i)) (upd w1 i (nI (b0 + sumN (dBI fks D its) its.length + sumN (fBI D its) i))) (upd w2 i 0)) h.1 h.2.1 h.2.2.1 hi
      have hfb : (nI (szI D its i) + 1024 - 1) / 1024 = nI (fbN D its i) := by
        unfold fbN
        rw [show (1024 : Int32) = nI 1024 from rfl, nI_add, show (1 : Int32) = nI 1 from rfl, pk_sub (by omega), pk_div (by omega) (by decide) (by decide), show szI D its i + 1024 - 1 = szI D its i + 1023 by omega]
      have hfl : fbN D its i < 2 ^ 30 := by unfold fbN; omega
      rw [eS2, hsz2, q_c, hfb, qC_indirects hfl, q_b, show S2.v_Pl_built = nI (b0 + sumN (dBI fks D its) its.length + sumN (fBI D its) i) by rw [← eS2]; rfl, nI_add, q_l, nI_1, q_l, ← hs, ← eS2]
      exact a2
theorem qC_as20 {K N k : Nat} {D : Nat → Int32} {mp : Nat → Nat} {fks : List Nat} {its : List It} {e : Nat → Nat} {G : CG} {S : CS} (hK : 20000 ≤ K) (h : trC N D mp fks its k e G S) (b0 : Nat) : ∀ (d i q : Nat) (w1 w2 : Nat → Int32), i + d = its.length → d < q → (∀ j, j < its.length → (isDr D its j ∧ j < i) → w1 j = nI (boN fks D its b0 j) ∧ w2 j = nI (bbN fks D its j)) → ∃ w1' w2', (∀ j, j < its.length → isDr D its j → w1' j = nI (boN fks D its b0 j) ∧ w2' j = nI (bbN fks D its j)) ∧ f_Pl_assign_20 K G q (nI i) (aS2 S (nI (b0 + sumN (dBI fks D its) i)) w1 w2) = f_Pl_assign_84 K G K 0 (aS2 S (nI (b0 + sumN (dBI fks D its) its.length)) w1' w2') := by
  have hlen := h.2.2.2.1.2.1
  intro d
  induction d with
  | zero =>
    intro i q w1 w2 h1 h2 hw
    obtain ⟨q, rfl⟩ : ∃ m, q = m + 1 := ⟨q - 1, by omega⟩
    obtain rfl : i = its.length := by omega
    refine ⟨w1, w2, fun j hj g => hw j hj ⟨g, hj⟩, ?_⟩
    rw [f_Pl_assign_20, show (aS2 S (nI (b0 + sumN (dBI fks D its) its.length)) w1 w2).v_Tr_count = nI its.length from h.2.1.1, if_pos (Int32.le_refl _)]
  | succ d ih =>
    intro i q w1 w2 h1 h2 hw
    obtain ⟨q, rfl⟩ : ∃ m, q = m + 1 := ⟨q - 1, by omega⟩
    have hi : i < its.length := by omega
    rw [f_Pl_assign_20]
    unfold f_Pl_assign_76
    obtain ⟨S1, eS⟩ : ∃ S1, aS2 S (nI (b0 + sumN (dBI fks D its) i)) w1 w2 = S1 := ⟨_, rfl⟩
    have ht1 : trC N D mp fks its k e G S1 := by rw [← eS]; exact h
    rw [eS, ht1.2.1.1, if_neg (nI_ge hi (by omega)), qC_isDir ht1.1 ht1.2.1 ht1.2.2.1 hi, q_c]
    by_cases w : isDr D its i
    · obtain ⟨f1, f2⟩ := fl_lt h hi
      have hs : b0 + sumN (dBI fks D its) (i + 1) = b0 + sumN (dBI fks D its) i + (flB fks its i + indN (flB fks its i)) := by
        rw [sumN, show dBI fks D its i = flB fks its i + indN (flB fks its i) from cif_t w, Nat.add_assoc b0]
      obtain ⟨w1', w2', a1, a2⟩ := ih (i + 1) q (upd w1 i (nI (b0 + sumN (dBI fks D its) i))) (upd w2 i (nI (flB fks its i))) (by omega) (by omega) (fun j hj g => by
        by_cases e1 : j = i
        · rw [e1, pk_us, pk_us, show boN fks D its b0 i = b0 + sumN (dBI fks D its) i from cif_t w, show bbN fks D its i = flB fks its i from cif_t w]
          exact ⟨rfl, rfl⟩
        · rw [pk_un e1, pk_un e1]
          exact hw j hj ⟨g.1, by have := g.2; omega⟩)
      refine ⟨w1', w2', a1, ?_⟩
      have hsb : f_Tr_setBuilt K G S1 (nI i) S1.v_Pl_built (nI (flB fks its i)) = some (aS2 S (nI (b0 + sumN (dBI fks D its) i)) (upd w1 i (nI (b0 + sumN (dBI fks D its) i))) (upd w2 i (nI (flB fks its i)))) := by
        rw [show S1.v_Pl_built = nI (b0 + sumN (dBI fks D its) i) by rw [← eS]; rfl, ← eS]
        exact qC_setBuilt h hi _ _
      rw [b01_t w, if_neg (show ¬ nI 1 = 0 by decide), qC_blocksBuilt hK ht1 hi w, q_c, hsb, q_b, qC_indirects (by omega), q_b, show (aS2 S (nI (b0 + sumN (dBI fks D its) i)) (upd w1 i (nI (b0 + sumN (dBI fks D its) i))) (upd w2 i (nI (flB fks its i)))).v_Pl_built = nI (b0 + sumN (dBI fks D its) i) from rfl, nI_add, nI_add, q_l, nI_1, q_l, ← hs]
      exact a2
    · have hs : sumN (dBI fks D its) (i + 1) = sumN (dBI fks D its) i := by
        rw [sumN, show dBI fks D its i = 0 from cif_f w]; rfl
      obtain ⟨w1', w2', a1, a2⟩ := ih (i + 1) q w1 w2 (by omega) (by omega) (fun j hj g => hw j hj ⟨g.1, by
        have := g.2
        by_cases e1 : j = i
        · rw [e1] at g; exact absurd g.1 w
        · omega⟩)
      refine ⟨w1', w2', a1, ?_⟩
      rw [hs, eS] at a2
      rw [b01_f w, if_pos (show nI 0 = 0 from rfl), nI_1, q_l]
      exact a2
theorem bd_lt {N k A H B : Nat} {D : Nat → Int32} {mp : Nat → Nat} {fks : List Nat} {its : List It} {e : Nat → Nat} {G : CG} {S : CS} (h : trC N D mp fks its k e G S) (hAk : A + k * H ≤ B) (hB : B ≤ 512) : rcB N D its A H ≤ B ∧ bdN N fks D its A H < 2 ^ 27 ∧ bdN N fks D its A H = 3 + indN (rcB N D its A H) + sumN (dBI fks D its) its.length + sumN (fBI D its) its.length := by
  have hlen := h.2.2.2.1.2.1
  have a1 := cHn_tot (N := N) (D := D) (its := its) (H := H) its.length
  have a3 := Nat.mul_le_mul_right H h.2.2.2.2.2.2.2.2
  have hr : rcB N D its A H ≤ B := by unfold rcB; omega
  refine ⟨hr, ?_, ?_⟩
  · have hi := indN_le (rcB N D its A H)
    have hs := sumN_le (f := bdI fks D its) (c := 9000) its.length (fun i hi => by
      unfold bdI
      by_cases w : isDr D its i
      · have := fl_lt h hi
        have := indN_le (flB fks its i)
        rw [cif_t w]
        omega
      · have hsz := h.2.2.2.2.2.2.2.1 i hi w
        have := indN_le (fbN D its i)
        have hfl : fbN D its i ≤ 4097 := by unfold fbN; omega
        rw [cif_f w]
        omega)
    unfold bdN
    omega
  · unfold bdN
    rw [bd_split]
    omega
theorem qC_assign {K A H k B N : Nat} {D : Nat → Int32} {mp : Nat → Nat} {fks : List Nat} {its : List It} {e gl : Nat → Nat} {rm : List Nat} {G : CG} {S : CS} (hK : 20000 ≤ K) (h : lsC A H k B N e gl G S) (ht : trC N D mp fks its k e G S) (hAk : A + k * H ≤ B) (hrm : rmC B rm S) : ∃ f x w1 w2, f_Pl_assign K G S = some (b01 (bdN N fks D its A H ≤ rm.length), aS2 (gSt S f x) (nI (bdN N fks D its A H)) w1 w2) ∧ (∀ j, j < its.length → w1 j = nI (boN fks D its (3 + indN (rcB N D its A H)) j) ∧ w2 j = nI (bbN fks D its j)) := by
  have hA := h.1.1
  have hB := h.1.2.2.2
  obtain ⟨q1, q2, q3⟩ := bd_lt ht hAk hB.2
  obtain ⟨f, a1, a2⟩ := qC_gatherR (K := K) hK h ht hAk hrm
  rw [recL_len (by omega)] at a2
  obtain ⟨S1, eS⟩ : ∃ S1, gSt S f (nI (rcB N D its A H)) = S1 := ⟨_, rfl⟩
  have ht1 : trC N D mp fks its k e G S1 := by rw [← eS]; exact ht
  obtain ⟨w1, w2, b1, b2⟩ := qC_as20 (K := K) (S := S1) hK ht1 (3 + indN (rcB N D its A H)) its.length 0 K S1.w_Tr_built S1.w_Tr_builtBlocks (by omega) (by have := ht.2.2.2.1.2.1; omega) (fun j _ g => by have := g.2; omega)
  have b2 : f_Pl_assign_20 K G K 0 (S1.u_v_Pl_built (nI (3 + indN (rcB N D its A H)))) = _ := b2
  obtain ⟨w1', w2', c1, c2⟩ := qC_as84 (K := K) (S := S1) ht1 (show S1.v_Pl_roomCount = nI rm.length by rw [← eS]; exact hrm.1) (by have := hrm.2.2; omega) (3 + indN (rcB N D its A H)) (by rw [← q3]; omega) its.length 0 K w1 w2 (by omega) (by have := ht.2.2.2.1.2.1; omega) (fun j hj g => b1 j hj (g.resolve_right (by omega)))
  have c2 : f_Pl_assign_84 K G K 0 (aS2 S1 (nI (3 + indN (rcB N D its A H) + sumN (dBI fks D its) its.length)) w1 w2) = _ := c2
  refine ⟨f, nI (rcB N D its A H), w1', w2', ?_, c1⟩
  unfold f_Pl_assign
  rw [a2, q_b, eS, show S1.v_Pl_listed = nI (rcB N D its A H) by rw [← eS]; rfl, qC_indirects (by omega), q_b, show (3 : Int32) = nI 3 from rfl, nI_add, q_l, b2, c2, ← q3]
/-- the blocks of a file or a directory -/
noncomputable def ownL (N : Nat) (D : Nat → Int32) (fks : List Nat) (its : List It) (A H b0 : Nat) (gl : Nat → Nat) (rm : List Nat) (i : Nat) : List Nat := cif (isDr D its i) (rmF rm (boN fks D its b0 i) (flB fks its i)) ((chL A H gl (chI N D its i)).take (fbN D its i))
theorem qC_gatherO {K A H k B N i b0 : Nat} {D : Nat → Int32} {mp : Nat → Nat} {fks : List Nat} {its : List It} {e gl : Nat → Nat} {rm : List Nat} {G : CG} {S : CS} (hK : 20000 ≤ K) (h : lsC A H k B N e gl G S) (ht : trC N D mp fks its k e G S) (hAk : A + k * H ≤ B) (hrm : rmC B rm S) (hw : ∀ j, j < its.length → S.w_Tr_built j = nI (boN fks D its b0 j) ∧ S.w_Tr_builtBlocks j = nI (bbN fks D its j)) (hb : ∀ j, j < its.length → boN fks D its b0 j + bbN fks D its j ≤ B) (hi : i < its.length) : ∃ f, arr f (ownL N D fks its A H b0 gl rm i) ∧ f_Pl_gather K G S (nI i) = some (gSt S f (nI (ownL N D fks its A H b0 gl rm i).length)) := by
  have hA := h.1.1
  have hB := h.1.2.2.2
  have hBN := h.2.1.2.2.1
  have hlen := ht.2.2.2.1.2.1
  obtain ⟨g0, ⟨-, -, -, -, -, -, -, -, -, -, -, g1, g2⟩, g3, g4, -⟩ := ht.1
  have hbi := hb i hi
  have hne : ¬ nI i = -1 := nI_nm1 (by omega)
  have hbb : f_Tr_builtBlocksOf K G (S.u_v_Pl_listed 0) (nI i) = some (nI (bbN fks D its i), S.u_v_Pl_listed 0) := by
    unfold f_Tr_builtBlocksOf
    rw [qC_has (S := S.u_v_Pl_listed 0) ht.2.1.1 (by omega) (by omega), q_c, b01_t hi, if_neg (by decide), q_g (q_in (by have := ht.2.2.1; omega) (by omega)), nI_clamp (by omega)]
    exact congrArg (fun x => some (x, S.u_v_Pl_listed 0)) (hw i hi).2
  have hbo : f_Tr_builtOf K G (S.u_v_Pl_listed 0) (nI i) = some (nI (boN fks D its b0 i), S.u_v_Pl_listed 0) := by
    unfold f_Tr_builtOf
    rw [qC_has (S := S.u_v_Pl_listed 0) ht.2.1.1 (by omega) (by omega), q_c, b01_t hi, if_neg (by decide), q_g (q_in (by have := ht.2.2.1; omega) (by omega)), nI_clamp (by omega)]
    exact congrArg (fun x => some (x, S.u_v_Pl_listed 0)) (hw i hi).1
  obtain ⟨f1, a1, a2⟩ := qC_g44 (K := K) (S := S) h.2.1.1 hBN hB.2 hrm (nI i) (own := bbN fks D its i) (a := boN fks D its b0 i) (by omega) (bbN fks D its i) 0 K [] S.w_Pl_list (by omega) (by omega) (by rw [List.length_nil]; omega) (fun i hi => absurd hi (Nat.not_lt_zero _))
  rw [List.nil_append, Nat.add_zero] at a1 a2
  have a2 : f_Pl_gather_44 K G K (nI i) (nI (bbN fks D its i)) (nI (boN fks D its b0 i)) 0 (S.u_v_Pl_listed 0) = _ := a2
  obtain ⟨S2, eS2⟩ : ∃ S2, gSt S f1 (nI (rmF rm (boN fks D its b0 i) (bbN fks D its i)).length) = S2 := ⟨_, rfl⟩
  have h71 : f_Pl_gather_71 K G K (nI i) 3 S2 = f_Pl_gather_158 K G (nI i) S2 := by
    obtain ⟨kk, hkk⟩ : ∃ m, K = m + 1 := ⟨K - 1, by omega⟩
    have g71 : ∀ kk, f_Pl_gather_71 K G (kk + 1) (nI i) 3 S2 = f_Pl_gather_102 K G (nI i) S2 := fun kk => by rw [f_Pl_gather_71, if_neg hne]
    have g105 : ∀ kk, f_Pl_gather_105 K G (kk + 1) (nI i) 0 S2 = f_Pl_gather_158 K G (nI i) S2 := fun kk => by rw [f_Pl_gather_105, if_neg hne]
    have e1 := g71 kk
    have e2 := g105 kk
    rw [← hkk] at e1 e2
    rw [e1]
    unfold f_Pl_gather_102
    exact e2
  have hst : f_Pl_gather K G S (nI i) = f_Pl_gather_158 K G (nI i) S2 := by
    unfold f_Pl_gather f_Pl_gather_22 f_Pl_gather_40
    rw [q_l, if_neg hne, hbb, q_c, if_neg hne, hbo, q_c, a2, eS2, h71]
  have hisd : f_Tr_isDirectory K G S2 (nI i) = some (b01 (isDr D its i), S2) := by rw [← eS2]; exact qC_isDir (S := gSt S f1 (nI (rmF rm (boN fks D its b0 i) (bbN fks D its i)).length)) ht.1 ht.2.1 ht.2.2.1 hi
  rw [hst]
  unfold f_Pl_gather_158 ownL
  rw [if_neg hne, hisd, q_c]
  by_cases w : isDr D its i
  · have hbe : bbN fks D its i = flB fks its i := cif_t w
    rw [hbe] at a1 eS2
    refine ⟨f1, by rw [cif_t w]; exact a1, ?_⟩
    rw [b01_t w, if_neg (show ¬ nI 1 = 0 by decide), cif_t w, ← eS2]
  · have hbe : bbN fks D its i = 0 := cif_f w
    rw [hbe, rmF] at a1 eS2
    obtain ⟨c1, c2, c3⟩ := ht.2.2.2.2.2.2.1 i hi
    have hsz := ht.2.2.2.2.2.2.2.1 i hi w
    have hfb : (nI (szI D its i) + 1024 - 1) / 1024 = nI (fbN D its i) := by
      unfold fbN
      rw [show (1024 : Int32) = nI 1024 from rfl, nI_add, show (1 : Int32) = nI 1 from rfl, pk_sub (by omega), pk_div (by omega) (by decide) (by decide), show szI D its i + 1024 - 1 = szI D its i + 1023 by omega]
    have hfl : fbN D its i < 2 ^ 20 := by unfold fbN; omega
    have hcm := Nat.mul_le_mul_right H c1
    obtain ⟨f', b1, b2⟩ := qC_listChain (K := K) (S := S) (left := fbN D its i) (l := []) (f := f1) (by omega) h c1 c2 c3 hfl (by rw [List.length_nil]; omega) a1
    rw [List.nil_append] at b1 b2
    refine ⟨f', by rw [cif_f w]; exact b1, ?_⟩
    have e1 : S2 = gSt S f1 (nI ([] : List Nat).length) := eS2.symm
    rw [b01_f w, if_pos (show nI 0 = 0 from rfl), cif_f w, e1, qC_first (S := gSt S f1 (nI ([] : List Nat).length)) ht.1 ht.2.1 ht.2.2.1 hi, q_c, qC_size (S := gSt S f1 (nI ([] : List Nat).length)) ht.1 ht.2.1 ht.2.2.1 hi, q_c, hfb, b2, q_b]
