theorem nI_nleM {n : Nat} (h : n < 2 ^ 31) : ¬ nI n ≤ -1 := fun w => by
  rw [Int32.le_iff_toInt_le, nI_toInt h, show (-1 : Int32).toInt = -1 from by decide] at w
  omega
/-- all that marking asks for -/
abbrev mkC (N : Nat) (D : Nat → Int32) (mp : Nat → Nat) (fks : List Nat) (its : List It) (A H k B P g0 r to : Nat) (gl e : Nat → Nat) (G : CG) (S : CS) : Prop := lsC A H k B N e gl G S ∧ trC N D mp fks its k e G S ∧ usF N D its A H k B P g0 r to gl e (bdN N fks D its A H) ∧ plK A H k B P g0 S ∧ rmC B (rml A H (fxd A P r g0) e gl k) S ∧ (∀ b, b < B → S.w_Pl_fixed b = b01 (fxd A P r g0 b)) ∧ (∀ j, j < its.length → S.w_Tr_built j = nI (boN fks D its (3 + indN (rcB N D its A H)) j) ∧ S.w_Tr_builtBlocks j = nI (bbN fks D its j))
theorem qC_mk30 {K N : Nat} {D : Nat → Int32} {mp : Nat → Nat} {fks : List Nat} {its : List It} {A H k B P g0 r to : Nat} {gl e : Nat → Nat} {G : CG} {S : CS} (hK : 20000 ≤ K) (h : mkC N D mp fks its A H k B P g0 r to gl e G S) {f0 u0 : Nat → Int32} {x0 : Int32} (hu0 : ∀ c, c < B → u0 c = b01 (fxd A P r g0 c)) : ∃ f x u, (∀ c, c < B → u c = b01 (usd N D its A H gl (rml A H (fxd A P r g0) e gl k) (bdN N fks D its A H) (fxd A P r g0) c)) ∧ f_Pl_markUsed_30 K G K (-1) (uSt S f0 x0 u0) = f_Pl_markUsed_121 K G K 0 ((uSt S f x u).u_v_Pl_free 0) := by
  obtain ⟨hL, ht, hU, hP, hrm, hfx, hw⟩ := h
  have hA := hL.1.1
  have hH := hL.1.2.1
  have hB := hL.1.2.2.2
  have hG := hL.2.1.1
  have hBN := hL.2.1.2.2.1
  have hAk := hU.1.2.2.2.2.2.2.2
  have hlen := ht.2.2.2.1.2.1
  obtain ⟨q1, q2, q3⟩ := bd_lt ht hAk hB.2
  obtain ⟨k1, k2⟩ := kLs_f hU
  have hbd := hU.2.2.2.2.2.2
  have hfb := hU.2.2.2.2.2.1
  have hrl := hrm.2.2
  have hrb : ∀ b ∈ rml A H (fxd A P r g0) e gl k, b < B := fun b hb => by have := (rml_lt hb).2.1; omega
  have hrF : ∀ a d, a + d ≤ (rml A H (fxd A P r g0) e gl k).length → ∀ b ∈ rmF (rml A H (fxd A P r g0) e gl k) a d, b < B := fun a d hd b hb => by
    obtain ⟨q, z1, z2, z3⟩ := (rmF_mem _ _).mp hb
    rw [z3]
    exact hrb _ (getD_mem (by omega))
  have hkb : ∀ i, i < its.length → ∀ b ∈ kLi N D its A H gl i, b < B := fun i hi b hb => by
    have := (k2 b ((kLs_mem _).mpr ⟨i, hi, hb⟩)).2.1
    omega
  have hend := fun i (hi : i < its.length) => own_end (fks := fks) (D := D) (b0 := 3 + indN (rcB N D its A H)) hi
  have hfle : ∀ j, j < its.length → boN fks D its (3 + indN (rcB N D its A H)) j + bbN fks D its j ≤ B := fun j hj => by
    have := hend j hj
    unfold fiN at this
    omega
  have howB : ∀ i, i < its.length → ∀ b ∈ ownL N D fks its A H (3 + indN (rcB N D its A H)) gl (rml A H (fxd A P r g0) e gl k) i, b < B := fun i hi b hb => by
    unfold ownL at hb
    by_cases w : isDr D its i
    · rw [cif_t w] at hb
      have := hend i hi
      unfold fiN at this
      rw [show bbN fks D its i = flB fks its i from cif_t w] at this
      exact hrF _ _ (by omega) b hb
    · rw [cif_f w] at hb
      refine hkb i hi b ?_
      unfold kLi
      rw [cif_f w]
      exact hb
  have howL : ∀ i, i < its.length → (ownL N D fks its A H (3 + indN (rcB N D its A H)) gl (rml A H (fxd A P r g0) e gl k) i).length ≤ B + 4 := fun i hi => by
    rw [own_len (hfb i hi)]
    by_cases w : isDr D its i
    · rw [cif_t w]
      have := hfle i hi
      rw [show bbN fks D its i = flB fks its i from cif_t w] at this
      omega
    · rw [cif_f w]
      have := hfb i hi w
      have := Nat.mul_le_mul_right H (ht.2.2.2.2.2.2.1 i hi).1
      omega
  have hreB : ∀ b ∈ recL N D its A H gl (rml A H (fxd A P r g0) e gl k), b < B := fun b hb => by
    unfold recL at hb
    rcases List.mem_append.mp hb with hb | hb
    · rcases List.mem_append.mp hb with hb | hb
      · exact hrF 0 3 (by omega) b hb
      · have := (blk_mem _ _).mp hb
        omega
    · have hsub : ∀ n, n ≤ its.length → ∀ b ∈ rcD N D its A H gl n, b < B := by
        intro n
        induction n with
        | zero => intro _ b hb; cases hb
        | succ n ih =>
          intro hn b hb
          rw [rcD] at hb
          rcases List.mem_append.mp hb with hb | hb
          · exact ih (by omega) b hb
          · by_cases w : isDr D its n
            · rw [cif_t w] at hb
              refine hkb n (by omega) b ?_
              unfold kLi
              rw [cif_t w]
              exact hb
            · rw [cif_f w] at hb; cases hb
      exact hsub _ (Nat.le_refl _) b hb
  -- the owners
  have loop : ∀ (d i q : Nat) (f u : Nat → Int32) (x : Int32), i + d = its.length → d < q → (∀ c, c < B → u c = b01 (mkd N D fks its A H (3 + indN (rcB N D its A H)) gl (rml A H (fxd A P r g0) e gl k) (fxd A P r g0) i c)) → ∃ f' x' u', (∀ c, c < B → u' c = b01 (mkd N D fks its A H (3 + indN (rcB N D its A H)) gl (rml A H (fxd A P r g0) e gl k) (fxd A P r g0) its.length c)) ∧ f_Pl_markUsed_30 K G q (nI i) (uSt S f x u) = f_Pl_markUsed_121 K G K 0 ((uSt S f' x' u').u_v_Pl_free 0) := by
    intro d
    induction d with
    | zero =>
      intro i q f u x h1 h2 hu
      obtain ⟨q, rfl⟩ : ∃ m, q = m + 1 := ⟨q - 1, by omega⟩
      obtain rfl : i = its.length := by omega
      exact ⟨f, x, u, hu, by rw [f_Pl_markUsed_30, show (uSt S f x u).v_Tr_count = nI its.length from ht.2.1.1, if_pos (Int32.le_refl _), q_l]⟩
    | succ d ih =>
      intro i q f u x h1 h2 hu
      obtain ⟨q, rfl⟩ : ∃ m, q = m + 1 := ⟨q - 1, by omega⟩
      have hi : i < its.length := by omega
      obtain ⟨f1, a1, a2⟩ := qC_gatherO (K := K) (S := uSt S f x u) hK hL ht hAk hrm hw hfle hi
      have a2 : f_Pl_gather K G (uSt S f x u) (nI i) = some (uSt S f1 (nI (ownL N D fks its A H (3 + indN (rcB N D its A H)) gl (rml A H (fxd A P r g0) e gl k) i).length) u) := a2
      have hfi : ∀ u, f_Pl_firstIndirect K G (uSt S f1 (nI (ownL N D fks its A H (3 + indN (rcB N D its A H)) gl (rml A H (fxd A P r g0) e gl k) i).length) u) (nI i) = some (nI (fiN fks D its (3 + indN (rcB N D its A H)) i), uSt S f1 (nI (ownL N D fks its A H (3 + indN (rcB N D its A H)) gl (rml A H (fxd A P r g0) e gl k) i).length) u) := fun u => by
        obtain ⟨S3, eS3⟩ : ∃ S3, uSt S f1 (nI (ownL N D fks its A H (3 + indN (rcB N D its A H)) gl (rml A H (fxd A P r g0) e gl k) i).length) u = S3 := ⟨_, rfl⟩
        have ht3 : trC N D mp fks its k e G S3 := by rw [← eS3]; exact ht
        have hw3 : S3.w_Tr_built i = nI (boN fks D its (3 + indN (rcB N D its A H)) i) := by rw [← eS3]; exact (hw i hi).1
        have hl3 : S3.v_Pl_listed = nI (ownL N D fks its A H (3 + indN (rcB N D its A H)) gl (rml A H (fxd A P r g0) e gl k) i).length := by rw [← eS3]; rfl
        have hbo : f_Tr_builtOf K G S3 (nI i) = some (nI (boN fks D its (3 + indN (rcB N D its A H)) i), S3) := by
          obtain ⟨g0', ⟨-, -, -, -, -, -, -, -, -, -, -, g1, g2⟩, g3, g4, -⟩ := ht.1
          unfold f_Tr_builtOf
          rw [qC_has ht3.2.1.1 (by omega) (by omega), q_c, b01_t hi, if_neg (by decide), q_g (q_in (by have := ht.2.2.1; omega) (by omega)), nI_clamp (by omega), hw3]
        rw [eS3]
        unfold f_Pl_firstIndirect fiN
        rw [if_neg (nI_nm1 (by omega)), qC_isDir ht3.1 ht3.2.1 ht3.2.2.1 hi, q_c, hbo, q_c, q_c, hl3, own_len (hfb i hi), nI_add]
        by_cases w : isDr D its i
        · rw [b01_t w, if_neg (show ¬ nI 1 = 0 by decide), cif_t w, show bbN fks D its i = flB fks its i from cif_t w]
        · rw [b01_f w, if_pos (show nI 0 = 0 from rfl), show bbN fks D its i = 0 from cif_f w, Nat.add_zero]
      have hin : fiN fks D its (3 + indN (rcB N D its A H)) i + indN (ownL N D fks its A H (3 + indN (rcB N D its A H)) gl (rml A H (fxd A P r g0) e gl k) i).length ≤ (rml A H (fxd A P r g0) e gl k).length := by
        rw [own_len (hfb i hi)]
        have := hend i hi
        omega
      obtain ⟨u1, b1, b2⟩ := qC_mk48 (K := K) (S := S) (f := f1) (own := nI i) (by omega) hG hBN hB.2 hP.2.2.2.1 hrm hfi hin hrb a1 (howL i hi) (howB i hi) (f_Pl_markUsed_30 K G q) (mkd N D fks its A H (3 + indN (rcB N D its A H)) gl (rml A H (fxd A P r g0) e gl k) (fxd A P r g0) i) (ownL N D fks its A H (3 + indN (rcB N D its A H)) gl (rml A H (fxd A P r g0) e gl k) i).length 0 K u (by omega) (by have := howL i hi; omega) (fun c hc => by
        rw [hu c hc, List.take_zero]
        exact b01_iff ⟨Or.inl, fun y => y.resolve_right (fun z => by cases z)⟩)
      have b2 : f_Pl_markUsed_48 K G (f_Pl_markUsed_30 K G q) K (nI i) 0 (uSt S f1 (nI (ownL N D fks its A H (3 + indN (rcB N D its A H)) gl (rml A H (fxd A P r g0) e gl k) i).length) u) = _ := b2
      obtain ⟨f', x', u', c1, c2⟩ := ih (i + 1) q f1 u1 (nI (ownL N D fks its A H (3 + indN (rcB N D its A H)) gl (rml A H (fxd A P r g0) e gl k) i).length) (by omega) (by omega) (fun c hc => by
        rw [b1 c hc]
        refine b01_iff ⟨fun y => ?_, fun y => ?_⟩
        · rcases y with ((y | ⟨j, j1, j2⟩) | y) | y
          · exact Or.inl y
          · exact Or.inr ⟨j, by omega, j2⟩
          · exact Or.inr ⟨i, by omega, Or.inl y⟩
          · exact Or.inr ⟨i, by omega, Or.inr y⟩
        · rcases y with y | ⟨j, j1, j2⟩
          · exact Or.inl (Or.inl (Or.inl y))
          · by_cases e1 : j = i
            · rw [e1] at j2
              rcases j2 with j2 | j2
              · exact Or.inl (Or.inr j2)
              · exact Or.inr j2
            · exact Or.inl (Or.inl (Or.inr ⟨j, by omega, j2⟩)))
      refine ⟨f', x', u', c1, ?_⟩
      rw [f_Pl_markUsed_30, show (uSt S f x u).v_Tr_count = nI its.length from ht.2.1.1, if_neg (nI_ge hi (by omega)), a2, q_b, b2, nI_1]
      exact c2
  -- the record
  obtain ⟨f1, a1, a2⟩ := qC_gatherR (K := K) (S := uSt S f0 x0 u0) hK hL ht hAk hrm
  have a2 : f_Pl_gather K G (uSt S f0 x0 u0) (-1) = some (uSt S f1 (nI (recL N D its A H gl (rml A H (fxd A P r g0) e gl k)).length) u0) := a2
  have hrl2 := recL_len (N := N) (D := D) (its := its) (A := A) (H := H) (gl := gl) (rm := rml A H (fxd A P r g0) e gl k) (by omega)
  obtain ⟨kk, hkk⟩ : ∃ m, K = m + 1 := ⟨K - 1, by omega⟩
  obtain ⟨u1, b1, b2⟩ := qC_mk48 (K := K) (S := S) (f := f1) (fi := 3) (own := -1) (by omega) hG hBN hB.2 hP.2.2.2.1 hrm (fun u => by unfold f_Pl_firstIndirect; rw [if_pos rfl]; rfl) (by rw [hrl2]; omega) hrb a1 (by rw [hrl2]; omega) hreB (f_Pl_markUsed_30 K G kk) (fxd A P r g0) (recL N D its A H gl (rml A H (fxd A P r g0) e gl k)).length 0 K u0 (by omega) (by rw [hrl2]; omega) (fun c hc => by
    rw [hu0 c hc, List.take_zero]
    exact b01_iff ⟨Or.inl, fun y => y.resolve_right (fun z => by cases z)⟩)
  have b2 : f_Pl_markUsed_48 K G (f_Pl_markUsed_30 K G kk) K (-1) 0 (uSt S f1 (nI (recL N D its A H gl (rml A H (fxd A P r g0) e gl k)).length) u0) = f_Pl_markUsed_30 K G kk (nI 0) (uSt S f1 (nI (recL N D its A H gl (rml A H (fxd A P r g0) e gl k)).length) u1) := b2
  obtain ⟨f', x', u', c1, c2⟩ := loop its.length 0 kk f1 u1 (nI (recL N D its A H gl (rml A H (fxd A P r g0) e gl k)).length) (by omega) (by omega) (fun c hc => by
    rw [b1 c hc, hrl2]
    refine b01_iff ⟨fun y => ?_, fun y => ?_⟩
    · rcases y with (y | y) | y
      · exact Or.inl (Or.inl y)
      · exact Or.inl (Or.inr (Or.inl y))
      · exact Or.inl (Or.inr (Or.inr y))
    · rcases y with (y | y | y) | ⟨j, j1, _⟩
      · exact Or.inl (Or.inl y)
      · exact Or.inl (Or.inr y)
      · exact Or.inr y
      · omega)
  refine ⟨f', x', u', fun c hc => ?_, ?_⟩
  · rw [c1 c hc]
    exact b01_iff (mkd_usd (by omega) hfb q3 c)
  · have hone : ∀ kk, f_Pl_markUsed_30 K G (kk + 1) (-1) (uSt S f0 x0 u0) = f_Pl_markUsed_48 K G (f_Pl_markUsed_30 K G kk) K (-1) 0 (uSt S f1 (nI (recL N D its A H gl (rml A H (fxd A P r g0) e gl k)).length) u0) := fun kk => by
      rw [f_Pl_markUsed_30, show (uSt S f0 x0 u0).v_Tr_count = nI its.length from ht.2.1.1, if_neg (nI_nleM (by omega)), a2, q_b]
    have := hone kk
    rw [← hkk] at this
    rw [this, b2]
    exact c2
theorem qC_freeB {K A H k B P g0 r N g : Nat} {G : CG} {S : CS} {p : Nat → Prop} (hK : 2000 ≤ K) (hp : plN A H k B P g0 r) (hG : G.n / 2 = B) (hP : plK A H k B P g0 S) (hu : ∀ c, c < B → S.w_Pl_used c = b01 (p c)) (hg : g < g0) : f_Pl_freeBlocks K G S (nI g) = some (nI (cntP (fun b => ¬ p b) (1 + g * P + gSz B P g0 g) - cntP (fun b => ¬ p b) (1 + g * P)), S) := by
  have hB := hp.2.2.2.1
  obtain ⟨a1, a2, a3, a4, a5, a6, a7⟩ := gr_le hp hg
  obtain ⟨hb1, hb2, hb3⟩ := qC_blocksOf (K := K) (G := G) hp hP hg
  have loop : ∀ (d j q : Nat), j + d = gSz B P g0 g → d < q → f_Pl_freeBlocks_4 K G q (nI g) (nI (cntP (fun b => ¬ p b) (1 + g * P + j) - cntP (fun b => ¬ p b) (1 + g * P))) (nI j) S = some (nI (cntP (fun b => ¬ p b) (1 + g * P + gSz B P g0 g) - cntP (fun b => ¬ p b) (1 + g * P)), S) := by
    intro d
    induction d with
    | zero =>
      intro j q h1 h2
      obtain ⟨q, rfl⟩ : ∃ m, q = m + 1 := ⟨q - 1, by omega⟩
      obtain rfl : j = gSz B P g0 g := by omega
      rw [f_Pl_freeBlocks_4, hb1, q_c, if_pos (Int32.le_refl _)]
    | succ d ih =>
      intro j q h1 h2
      obtain ⟨q, rfl⟩ : ∃ m, q = m + 1 := ⟨q - 1, by omega⟩
      have hm := cntP_mono (p := fun b => ¬ p b) (a := 1 + g * P) j
      have nx := ih (j + 1) q (by omega) (by omega)
      have hlt : 1 + g * P + j < B := by omega
      rw [← Nat.add_assoc, cntP] at nx
      rw [f_Pl_freeBlocks_4]
      unfold f_Pl_freeBlocks_33 f_Pl_isUsed f_Pl_isUsed_21
      rw [hb1, q_c, if_neg (nI_ge (by omega) (by omega)), hb2, q_c, nI_add, if_neg (nI_pos (by omega)), hP.2.2.2.1, if_neg (nI_ge hlt (by omega)), hG, q_g (q_in hlt (by omega)), nI_clamp (by omega), hu _ hlt, nI_1 j]
      by_cases w : p (1 + g * P + j)
      · rw [cif_f (fun y => y w), Nat.add_zero] at nx
        rw [b01_t w, if_neg (show ¬ nI 1 = 0 by decide), q_c, if_neg (by decide), Int32.add_zero, q_l, q_l]
        exact nx
      · rw [cif_t w, show cntP (fun b => ¬ p b) (1 + g * P + j) + 1 - cntP (fun b => ¬ p b) (1 + g * P) = cntP (fun b => ¬ p b) (1 + g * P + j) - cntP (fun b => ¬ p b) (1 + g * P) + 1 by omega] at nx
        rw [b01_f w, if_pos (show nI 0 = 0 from rfl), q_c, if_pos rfl, nI_1, q_l, q_l]
        exact nx
  have := loop (gSz B P g0 g) 0 K (by omega) (by omega)
  rw [Nat.add_zero, Nat.sub_self] at this
  exact this
theorem qC_mk121 {K A H k B P g0 r N : Nat} {G : CG} {S : CS} {p : Nat → Prop} (hK : 2000 ≤ K) (hp : plN A H k B P g0 r) (hG : G.n / 2 = B) (hP : plK A H k B P g0 S) (hu : ∀ c, c < B → S.w_Pl_used c = b01 (p c)) : f_Pl_markUsed_121 K G K 0 (S.u_v_Pl_free 0) = some (S.u_v_Pl_free (nI (cntP (fun b => ¬ p b) B - cntP (fun b => ¬ p b) 1))) := by
  have hB := hp.2.2.2.1
  have hG8 : g0 ≤ 8 ∧ 1 ≤ g0 := by
    obtain ⟨-, -, -, hB, hP, hG, -, -⟩ := hp
    rcases hP with e | e | e <;> subst e <;> omega
  -- where a group begins, or the end
  have hst : ∀ g, g < g0 → (if g + 1 < g0 then 1 + (g + 1) * P else B) = 1 + g * P + gSz B P g0 g := fun g hg => by
    obtain ⟨-, -, -, hB, hP, hG, -, -⟩ := hp
    unfold gSz
    rcases hP with e | e | e <;> subst e <;> split <;> split <;> omega
  have loop : ∀ (d g q : Nat), g + d = g0 → d < q → f_Pl_markUsed_121 K G q (nI g) (S.u_v_Pl_free (nI (cntP (fun b => ¬ p b) (if g < g0 then 1 + g * P else B) - cntP (fun b => ¬ p b) 1))) = some (S.u_v_Pl_free (nI (cntP (fun b => ¬ p b) B - cntP (fun b => ¬ p b) 1))) := by
    intro d
    induction d with
    | zero =>
      intro g q h1 h2
      obtain ⟨q, rfl⟩ : ∃ m, q = m + 1 := ⟨q - 1, by omega⟩
      obtain rfl : g = g0 := by omega
      rw [f_Pl_markUsed_121, if_neg (Nat.lt_irrefl _), show (S.u_v_Pl_free (nI (cntP (fun b => ¬ p b) B - cntP (fun b => ¬ p b) 1))).v_Pl_groups = nI g from hP.2.2.2.2.2, if_pos (Int32.le_refl _)]
    | succ d ih =>
      intro g q h1 h2
      obtain ⟨q, rfl⟩ : ∃ m, q = m + 1 := ⟨q - 1, by omega⟩
      have hg : g < g0 := by omega
      have m1 := cntP_mono (p := fun b => ¬ p b) (a := 1) (g * P)
      have m2 := cntP_mono (p := fun b => ¬ p b) (a := 1 + g * P) (gSz B P g0 g)
      have nx := ih (g + 1) q (by omega) (by omega)
      rw [hst g hg] at nx
      rw [if_pos hg]
      have hfb := qC_freeB (K := K) (N := N) (S := S.u_v_Pl_free (nI (cntP (fun b => ¬ p b) (1 + g * P) - cntP (fun b => ¬ p b) 1))) (p := p) hK hp hG hP hu hg
      rw [f_Pl_markUsed_121, show (S.u_v_Pl_free (nI (cntP (fun b => ¬ p b) (1 + g * P) - cntP (fun b => ¬ p b) 1))).v_Pl_groups = nI g0 from hP.2.2.2.2.2, if_neg (nI_ge hg (by omega)), hfb, q_c, show (S.u_v_Pl_free (nI (cntP (fun b => ¬ p b) (1 + g * P) - cntP (fun b => ¬ p b) 1))).v_Pl_free = nI (cntP (fun b => ¬ p b) (1 + g * P) - cntP (fun b => ¬ p b) 1) from rfl, nI_add, q_l, nI_1, q_l]
      rw [show cntP (fun b => ¬ p b) (1 + g * P) - cntP (fun b => ¬ p b) 1 + (cntP (fun b => ¬ p b) (1 + g * P + gSz B P g0 g) - cntP (fun b => ¬ p b) (1 + g * P)) = cntP (fun b => ¬ p b) (1 + g * P + gSz B P g0 g) - cntP (fun b => ¬ p b) 1 by omega]
      exact nx
  have := loop g0 0 K (by omega) (by omega)
  rw [if_pos (by omega), Nat.zero_mul, Nat.add_zero, Nat.sub_self] at this
  exact this
theorem qC_mk2 {K B : Nat} {G : CG} {S : CS} {p : Nat → Prop} (hB : B ≤ 512) (hG : G.n / 2 = B) (hS : S.v_Pl_blocks = nI B) (hf : ∀ b, b < B → S.w_Pl_fixed b = b01 (p b)) : ∀ (d i q : Nat) (u : Nat → Int32), i + d = B → d < q → (∀ b, b < i → u b = b01 (p b)) → ∃ u', (∀ b, b < B → u' b = b01 (p b)) ∧ f_Pl_markUsed_2 K G q (nI i) (S.u_w_Pl_used u) = f_Pl_markUsed_30 K G K (-1) (S.u_w_Pl_used u') := by
  intro d
  induction d with
  | zero =>
    intro i q u h1 h2 hu
    obtain ⟨q, rfl⟩ : ∃ m, q = m + 1 := ⟨q - 1, by omega⟩
    obtain rfl : i = B := by omega
    exact ⟨u, hu, by rw [f_Pl_markUsed_2, show (S.u_w_Pl_used u).v_Pl_blocks = nI i from hS, if_pos (Int32.le_refl _)]⟩
  | succ d ih =>
    intro i q u h1 h2 hu
    obtain ⟨q, rfl⟩ : ∃ m, q = m + 1 := ⟨q - 1, by omega⟩
    have hnar : vp_nar .boolean (b01 (p i)) = b01 (p i) := by
      by_cases w : p i
      · rw [b01_t w]; decide
      · rw [b01_f w]; decide
    obtain ⟨u', a, b⟩ := ih (i + 1) q (upd u i (b01 (p i))) (by omega) (by omega) (fun b hb => by
      by_cases w : b = i
      · rw [w, pk_us]
      · rw [pk_un w]; exact hu b (by omega))
    refine ⟨u', a, ?_⟩
    rw [f_Pl_markUsed_2, show (S.u_w_Pl_used u).v_Pl_blocks = nI B from hS, if_neg (nI_ge (by omega) (by omega)), hG, q_g (q_in (by omega) (by omega)), q_g (q_in (by omega) (by omega)), q_l, nI_1, q_l, nI_clamp (by omega), show (S.u_w_Pl_used u).w_Pl_fixed i = b01 (p i) from hf i (by omega), hnar]
    exact b
theorem qC_markUsed {K N : Nat} {D : Nat → Int32} {mp : Nat → Nat} {fks : List Nat} {its : List It} {A H k B P g0 r to : Nat} {gl e : Nat → Nat} {G : CG} {S : CS} (hK : 20000 ≤ K) (h : mkC N D mp fks its A H k B P g0 r to gl e G S) : ∃ f x u, (∀ c, c < B → u c = b01 (usd N D its A H gl (rml A H (fxd A P r g0) e gl k) (bdN N fks D its A H) (fxd A P r g0) c)) ∧ g0 * (4 + r) + (bdN N fks D its A H + kpN N D its A H) ≤ B - 1 ∧ f_Pl_markUsed K G S = some ((uSt S f x u).u_v_Pl_free (nI (B - 1 - (g0 * (4 + r) + (bdN N fks D its A H + kpN N D its A H))))) := by
  have h0 := h
  obtain ⟨hL, ht, hU, hP, hrm, hfx, hw⟩ := h
  have hB := hL.1.2.2.2
  have hA := hL.1.1
  have hG : G.n / 2 = B := by rw [hL.2.1.1]; exact hL.2.1.2.2.1.symm
  obtain ⟨u1, a1, a2⟩ := qC_mk2 (K := K) (S := S) hB.2 hG hP.2.2.2.1 hfx B 0 K S.w_Pl_used (by omega) (by omega) (fun b hb => absurd hb (Nat.not_lt_zero _))
  obtain ⟨f, x, u, b1, b2⟩ := qC_mk30 (K := K) hK h0 (f0 := S.w_Pl_list) (x0 := S.v_Pl_listed) a1
  have a2 : f_Pl_markUsed K G S = f_Pl_markUsed_30 K G K (-1) (uSt S S.w_Pl_list S.v_Pl_listed u1) := a2
  have c1 := qC_mk121 (K := K) (N := N) (S := uSt S f x u) (p := usd N D its A H gl (rml A H (fxd A P r g0) e gl k) (bdN N fks D its A H) (fxd A P r g0)) (by omega) hU.1 hG hP b1
  have hc := usd_cnt hU
  have hn := cntP_not (p := usd N D its A H gl (rml A H (fxd A P r g0) e gl k) (bdN N fks D its A H) (fxd A P r g0)) B
  have h1 : cntP (fun b => ¬ usd N D its A H gl (rml A H (fxd A P r g0) e gl k) (bdN N fks D its A H) (fxd A P r g0) b) 1 = 1 := by
    rw [cntP, cntP, cif_t ?_]
    rintro (⟨g, g1, g2⟩ | ⟨q, q1, q2⟩ | y | y)
    · rcases g2 with g2 | g2 | ⟨g2, g3⟩
      · omega
      · omega
      · have := (gr_in hU.1 g1 (hU.2.1.1 g g1)).2.2.2.2
        omega
    · have hbd := hU.2.2.2.2.2.2
      have := (rml_lt (getD_mem (show q < (rml A H (fxd A P r g0) e gl k).length by omega))).1
      rw [← q2] at this
      omega
    · omega
    · have := ((kLs_f hU).2 _ y).1
      omega
  have hm := cntP_mono (p := fun b => ¬ usd N D its A H gl (rml A H (fxd A P r g0) e gl k) (bdN N fks D its A H) (fxd A P r g0) b) (a := 1) (B - 1)
  rw [show 1 + (B - 1) = B by omega, h1] at hm
  refine ⟨f, x, u, b1, ?_, ?_⟩
  · unfold kpN
    omega
  · rw [a2, b2, c1, h1]
    unfold kpN
    rw [show cntP (fun b => ¬ usd N D its A H gl (rml A H (fxd A P r g0) e gl k) (bdN N fks D its A H) (fxd A P r g0) b) B - 1 = B - 1 - (g0 * (4 + r) + (bdN N fks D its A H + (A - 3 + sumN (kpI N D its H) its.length))) by omega]
