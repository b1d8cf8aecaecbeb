theorem cntP_not {p : Nat → Prop} : ∀ n, cntP (fun b => ¬ p b) n + cntP p n = n := by
  intro n
  induction n with
  | zero => rfl
  | succ n ih =>
    rw [cntP, cntP]
    by_cases w : p n
    · rw [cif_t w, cif_f (fun y => y w)]; omega
    · rw [cif_f w, cif_t w]; omega
theorem cntP_mono {p : Nat → Prop} {a : Nat} : ∀ d, cntP p a ≤ cntP p (a + d) := by
  intro d
  induction d with
  | zero => exact Nat.le_refl _
  | succ d ih => rw [show a + (d + 1) = (a + d) + 1 from rfl, cntP]; omega
def uSt (S : CS) (f : Nat → Int32) (x : Int32) (u : Nat → Int32) : CS := (gSt S f x).u_w_Pl_used u
theorem qC_mkB {K B N b : Nat} {G : CG} {S : CS} {f u : Nat → Int32} {x : Int32} {p : Nat → Prop} (hG : G.n = N) (hBN : B = N / 2) (hB : B ≤ 512) (hS : S.v_Pl_blocks = nI B) (hb : b < B) (hu : ∀ c, c < B → u c = b01 (p c)) : ∃ u', (∀ c, c < B → u' c = b01 (p c ∨ c = b)) ∧ f_Pl_mark K G (uSt S f x u) (nI b) = some (uSt S f x u') := by
  refine ⟨upd u b (vp_nar .boolean 1), fx_upd hu, ?_⟩
  unfold f_Pl_mark
  rw [if_neg (nI_pos (by omega)), show (uSt S f x u).v_Pl_blocks = nI B from hS, if_neg (nI_ge hb (by omega)), hG, ← hBN, q_g (q_in hb (by omega)), q_l, nI_clamp (by omega)]
  rfl
theorem qC_mk82 {K B N n fi : Nat} {rm : List Nat} {G : CG} {S : CS} {f : Nat → Int32} {x own : Int32} (hG : G.n = N) (hBN : B = N / 2) (hB : B ≤ 512) (hS : S.v_Pl_blocks = nI B) (hrm : rmC B rm S) (hfi : ∀ u, f_Pl_firstIndirect K G (uSt S f x u) own = some (nI fi, uSt S f x u)) (hin : fi + n ≤ rm.length) (hrb : ∀ b ∈ rm, b < B) (rec : Int32 → CS → Option CS) (p : Nat → Prop) : ∀ (d j q : Nat) (u : Nat → Int32), j + d = n → d < q → (∀ c, c < B → u c = b01 (p c ∨ c ∈ rmF rm fi j)) → ∃ u', (∀ c, c < B → u' c = b01 (p c ∨ c ∈ rmF rm fi n)) ∧ f_Pl_markUsed_82 K G rec q own (nI n) (nI j) (uSt S f x u) = rec (own + 1) (uSt S f x u') := by
  intro d
  induction d with
  | zero =>
    intro j q u h1 h2 hu
    obtain ⟨q, rfl⟩ : ∃ m, q = m + 1 := ⟨q - 1, by omega⟩
    obtain rfl : j = n := by omega
    exact ⟨u, hu, by rw [f_Pl_markUsed_82, if_pos (Int32.le_refl _), q_l]⟩
  | succ d ih =>
    intro j q u h1 h2 hu
    obtain ⟨q, rfl⟩ : ∃ m, q = m + 1 := ⟨q - 1, by omega⟩
    have hrl := hrm.2.2
    have hbm : rm.getD (fi + j) 0 < B := hrb _ (getD_mem (by omega))
    obtain ⟨u1, a1, a2⟩ := qC_mkB (K := K) (S := S) (f := f) (x := x) hG hBN hB hS hbm hu
    obtain ⟨u', b1, b2⟩ := ih (j + 1) q u1 (by omega) (by omega) (fun c hc => by
      rw [a1 c hc]
      refine b01_iff ⟨fun y => ?_, fun y => ?_⟩
      · rcases y with (y | y) | y
        · exact Or.inl y
        · obtain ⟨z, z1, z2, z3⟩ := (rmF_mem j fi).mp y
          exact Or.inr ((rmF_mem _ _).mpr ⟨z, z1, by omega, z3⟩)
        · exact Or.inr ((rmF_mem _ _).mpr ⟨fi + j, by omega, by omega, y⟩)
      · rcases y with y | y
        · exact Or.inl (Or.inl y)
        · obtain ⟨z, z1, z2, z3⟩ := (rmF_mem _ fi).mp y
          by_cases e : z = fi + j
          · rw [e] at z3; exact Or.inr z3
          · exact Or.inl (Or.inr ((rmF_mem _ _).mpr ⟨z, z1, by omega, z3⟩)))
    refine ⟨u', b1, ?_⟩
    rw [f_Pl_markUsed_82, if_neg (nI_ge (by omega) (by omega)), hfi, q_c, nI_add, qC_room (S := uSt S f x u) hG hBN hB hrm (by omega), q_c, a2, q_b, nI_1, q_l, b2]
theorem qC_mk48 {K B N fi : Nat} {rm l : List Nat} {G : CG} {S : CS} {f : Nat → Int32} {own : Int32} (hK : 5000 ≤ K) (hG : G.n = N) (hBN : B = N / 2) (hB : B ≤ 512) (hS : S.v_Pl_blocks = nI B) (hrm : rmC B rm S) (hfi : ∀ u, f_Pl_firstIndirect K G (uSt S f (nI l.length) u) own = some (nI fi, uSt S f (nI l.length) u)) (hin : fi + indN l.length ≤ rm.length) (hrb : ∀ b ∈ rm, b < B) (hf : arr f l) (hl : l.length ≤ B + 4) (hlb : ∀ b ∈ l, b < B) (rec : Int32 → CS → Option CS) (p : Nat → Prop) : ∀ (d j q : Nat) (u : Nat → Int32), j + d = l.length → d < q → (∀ c, c < B → u c = b01 (p c ∨ c ∈ l.take j)) → ∃ u', (∀ c, c < B → u' c = b01 ((p c ∨ c ∈ l) ∨ c ∈ rmF rm fi (indN l.length))) ∧ f_Pl_markUsed_48 K G rec q own (nI j) (uSt S f (nI l.length) u) = rec (own + 1) (uSt S f (nI l.length) u') := by
  have hind := indN_le l.length
  intro d
  induction d with
  | zero =>
    intro j q u h1 h2 hu
    obtain ⟨q, rfl⟩ : ∃ m, q = m + 1 := ⟨q - 1, by omega⟩
    obtain rfl : j = l.length := by omega
    rw [List.take_of_length_le (Nat.le_refl _)] at hu
    obtain ⟨u', a1, a2⟩ := qC_mk82 (K := K) (S := S) hG hBN hB hS hrm hfi hin hrb rec (fun c => p c ∨ c ∈ l) (indN l.length) 0 K u (by omega) (by omega) (fun c hc => by
      rw [hu c hc]
      exact b01_iff ⟨Or.inl, fun y => y.resolve_right (fun z => by cases z)⟩)
    refine ⟨u', a1, ?_⟩
    have a2 : f_Pl_markUsed_82 K G rec K own (nI (indN l.length)) 0 (uSt S f (nI l.length) u) = _ := a2
    rw [f_Pl_markUsed_48, show (uSt S f (nI l.length) u).v_Pl_listed = nI l.length from rfl, if_pos (Int32.le_refl _), qC_indirects (by omega), q_b, a2]
  | succ d ih =>
    intro j q u h1 h2 hu
    obtain ⟨q, rfl⟩ : ∃ m, q = m + 1 := ⟨q - 1, by omega⟩
    have hbm : l.getD j 0 < B := hlb _ (getD_mem (by omega))
    obtain ⟨u1, a1, a2⟩ := qC_mkB (K := K) (S := S) (f := f) (x := nI l.length) hG hBN hB hS hbm hu
    obtain ⟨u', b1, b2⟩ := ih (j + 1) q u1 (by omega) (by omega) (fun c hc => by
      rw [a1 c hc, take_s (show j < l.length by omega)]
      refine b01_iff ⟨fun y => ?_, fun y => ?_⟩
      · rcases y with (y | y) | y
        · exact Or.inl y
        · exact Or.inr (List.mem_append.mpr (Or.inl y))
        · exact Or.inr (List.mem_append.mpr (Or.inr (List.mem_singleton.mpr y)))
      · rcases y with y | y
        · exact Or.inl (Or.inl y)
        · rcases List.mem_append.mp y with y | y
          · exact Or.inl (Or.inr y)
          · exact Or.inr (List.mem_singleton.mp y))
    refine ⟨u', b1, ?_⟩
    rw [f_Pl_markUsed_48, show (uSt S f (nI l.length) u).v_Pl_listed = nI l.length from rfl, if_neg (nI_ge (by omega) (by omega)), hG, ← hBN, q_g (q_in (by omega) (by omega)), nI_clamp (by omega), show (uSt S f (nI l.length) u).w_Pl_list j = nI (l.getD j 0) from hf j (by omega), a2, q_b, nI_1, q_l, b2]
/-- an owner's indirect blocks begin there -/
noncomputable def fiN (fks : List Nat) (D : Nat → Int32) (its : List It) (b0 i : Nat) : Nat := boN fks D its b0 i + bbN fks D its i
theorem own_len {N : Nat} {D : Nat → Int32} {fks : List Nat} {its : List It} {A H b0 : Nat} {gl : Nat → Nat} {rm : List Nat} {i : Nat} (hf : ¬ isDr D its i → fbN D its i ≤ (chI N D its i).length * H) : (ownL N D fks its A H b0 gl rm i).length = cif (isDr D its i) (flB fks its i) (fbN D its i) := by
  unfold ownL
  by_cases w : isDr D its i
  · rw [cif_t w, cif_t w, rmF_len]
  · have := hf w
    rw [cif_f w, cif_f w, List.length_take, chL_len]
    omega
/-- the end of an owner's rooms is within all -/
theorem own_end {D : Nat → Int32} {fks : List Nat} {its : List It} {b0 i : Nat} (hi : i < its.length) : fiN fks D its b0 i + indN (cif (isDr D its i) (flB fks its i) (fbN D its i)) ≤ b0 + sumN (dBI fks D its) its.length + sumN (fBI D its) its.length := by
  have a1 := sumN_mono (f := dBI fks D its) (a := i + 1) (its.length - (i + 1))
  have a2 := sumN_mono (f := fBI D its) (a := i + 1) (its.length - (i + 1))
  rw [show i + 1 + (its.length - (i + 1)) = its.length by omega, sumN] at a1 a2
  unfold fiN boN bbN
  by_cases w : isDr D its i
  · rw [cif_t w, cif_t w, cif_t w]
    rw [show dBI fks D its i = flB fks its i + indN (flB fks its i) from cif_t w] at a1
    omega
  · rw [cif_f w, cif_f w, cif_f w]
    rw [show fBI D its i = indN (fbN D its i) from cif_f w] at a2
    omega
/-- what is marked: of the record and of the owners before n -/
def mkd (N : Nat) (D : Nat → Int32) (fks : List Nat) (its : List It) (A H b0 : Nat) (gl : Nat → Nat) (rm : List Nat) (fx : Nat → Prop) (n c : Nat) : Prop := (fx c ∨ c ∈ recL N D its A H gl rm ∨ c ∈ rmF rm 3 (indN (rcB N D its A H))) ∨ ∃ i, i < n ∧ (c ∈ ownL N D fks its A H b0 gl rm i ∨ c ∈ rmF rm (fiN fks D its b0 i) (indN (ownL N D fks its A H b0 gl rm i).length))
theorem mkd_usd {N : Nat} {D : Nat → Int32} {fks : List Nat} {its : List It} {A H : Nat} {gl : Nat → Nat} {rm : List Nat} {fx : Nat → Prop} {bd : Nat} (hA : 3 ≤ A) (hf : ∀ i, i < its.length → ¬ isDr D its i → fbN D its i ≤ (chI N D its i).length * H) (hbd : bd = 3 + indN (rcB N D its A H) + sumN (dBI fks D its) its.length + sumN (fBI D its) its.length) (c : Nat) : mkd N D fks its A H (3 + indN (rcB N D its A H)) gl rm fx its.length c ↔ usd N D its A H gl rm bd fx c := by
  have hrcD : ∀ n b, b ∈ rcD N D its A H gl n ↔ ∃ i, i < n ∧ isDr D its i ∧ b ∈ chL A H gl (chI N D its i) := by
    intro n b
    induction n with
    | zero => exact ⟨fun h => (by cases h), fun ⟨i, h, _⟩ => by omega⟩
    | succ n ih =>
      rw [rcD, List.mem_append, ih]
      by_cases w : isDr D its n
      · rw [cif_t w]
        constructor
        · rintro (⟨i, i1, i2⟩ | h)
          · exact ⟨i, by omega, i2⟩
          · exact ⟨n, by omega, w, h⟩
        · rintro ⟨i, i1, i2, i3⟩
          by_cases e : i = n
          · rw [e] at i3; exact Or.inr i3
          · exact Or.inl ⟨i, by omega, i2, i3⟩
      · rw [cif_f w]
        constructor
        · rintro (⟨i, i1, i2⟩ | h)
          · exact ⟨i, by omega, i2⟩
          · cases h
        · rintro ⟨i, i1, i2, i3⟩
          by_cases e : i = n
          · rw [e] at i2; exact absurd i2 w
          · exact Or.inl ⟨i, by omega, i2, i3⟩
  constructor
  · rintro ((y | y | y) | ⟨i, i1, y | y⟩)
    · exact Or.inl y
    · unfold recL at y
      rcases List.mem_append.mp y with y | y
      · rcases List.mem_append.mp y with y | y
        · obtain ⟨q, q1, q2, q3⟩ := (rmF_mem _ _).mp y
          exact Or.inr (Or.inl ⟨q, by omega, q3⟩)
        · have := (blk_mem _ _).mp y
          exact Or.inr (Or.inr (Or.inl (by omega)))
      · obtain ⟨i, i1, i2, i3⟩ := (hrcD _ _).mp y
        refine Or.inr (Or.inr (Or.inr ((kLs_mem _).mpr ⟨i, i1, ?_⟩)))
        unfold kLi
        rw [cif_t i2]
        exact i3
    · obtain ⟨q, q1, q2, q3⟩ := (rmF_mem _ _).mp y
      exact Or.inr (Or.inl ⟨q, by omega, q3⟩)
    · have hend := own_end (fks := fks) (D := D) (b0 := 3 + indN (rcB N D its A H)) i1
      unfold ownL at y
      by_cases w : isDr D its i
      · rw [cif_t w] at y
        obtain ⟨q, q1, q2, q3⟩ := (rmF_mem _ _).mp y
        unfold fiN at hend
        rw [show bbN fks D its i = flB fks its i from cif_t w] at hend
        exact Or.inr (Or.inl ⟨q, by omega, q3⟩)
      · rw [cif_f w] at y
        refine Or.inr (Or.inr (Or.inr ((kLs_mem _).mpr ⟨i, i1, ?_⟩)))
        unfold kLi
        rw [cif_f w]
        exact y
    · have hend := own_end (fks := fks) (D := D) (b0 := 3 + indN (rcB N D its A H)) i1
      rw [own_len (hf i i1)] at y
      obtain ⟨q, q1, q2, q3⟩ := (rmF_mem _ _).mp y
      exact Or.inr (Or.inl ⟨q, by omega, q3⟩)
  · rintro (y | ⟨q, q1, q2⟩ | y | y)
    · exact Or.inl (Or.inl y)
    · by_cases a : q < 3
      · refine Or.inl (Or.inr (Or.inl ?_))
        unfold recL
        exact List.mem_append.mpr (Or.inl (List.mem_append.mpr (Or.inl ((rmF_mem _ _).mpr ⟨q, Nat.zero_le _, by omega, q2⟩))))
      by_cases b : q < 3 + indN (rcB N D its A H)
      · exact Or.inl (Or.inr (Or.inr ((rmF_mem _ _).mpr ⟨q, by omega, by omega, q2⟩)))
      by_cases d : q < 3 + indN (rcB N D its A H) + sumN (dBI fks D its) its.length
      · obtain ⟨i, i1, i2, i3⟩ := sumN_find (q := q - (3 + indN (rcB N D its A H))) its.length (show _ < sumN (dBI fks D its) its.length by omega)
        by_cases w : isDr D its i
        · have hd : dBI fks D its i = flB fks its i + indN (flB fks its i) := cif_t w
          have hbo : boN fks D its (3 + indN (rcB N D its A H)) i = 3 + indN (rcB N D its A H) + sumN (dBI fks D its) i := cif_t w
          have hbb : bbN fks D its i = flB fks its i := cif_t w
          refine Or.inr ⟨i, i1, ?_⟩
          rw [own_len (hf i i1), cif_t w]
          unfold ownL fiN
          rw [cif_t w, hbo, hbb]
          by_cases g : q < 3 + indN (rcB N D its A H) + sumN (dBI fks D its) i + flB fks its i
          · exact Or.inl ((rmF_mem _ _).mpr ⟨q, by omega, g, q2⟩)
          · exact Or.inr ((rmF_mem _ _).mpr ⟨q, by omega, by omega, q2⟩)
        · rw [show dBI fks D its i = 0 from cif_f w] at i3
          omega
      · obtain ⟨i, i1, i2, i3⟩ := sumN_find (q := q - (3 + indN (rcB N D its A H) + sumN (dBI fks D its) its.length)) its.length (show _ < sumN (fBI D its) its.length by omega)
        by_cases w : isDr D its i
        · rw [show fBI D its i = 0 from cif_t w] at i3
          omega
        · have hd : fBI D its i = indN (fbN D its i) := cif_f w
          have hbo : boN fks D its (3 + indN (rcB N D its A H)) i = 3 + indN (rcB N D its A H) + sumN (dBI fks D its) its.length + sumN (fBI D its) i := cif_f w
          have hbb : bbN fks D its i = 0 := cif_f w
          refine Or.inr ⟨i, i1, Or.inr ?_⟩
          rw [own_len (hf i i1), cif_f w]
          unfold fiN
          rw [hbo, hbb]
          exact (rmF_mem _ _).mpr ⟨q, by omega, by omega, q2⟩
    · refine Or.inl (Or.inr (Or.inl ?_))
      unfold recL
      exact List.mem_append.mpr (Or.inl (List.mem_append.mpr (Or.inr ((blk_mem _ _).mpr (by omega)))))
    · obtain ⟨i, i1, i2⟩ := (kLs_mem _).mp y
      unfold kLi at i2
      by_cases w : isDr D its i
      · rw [cif_t w] at i2
        refine Or.inl (Or.inr (Or.inl ?_))
        unfold recL
        exact List.mem_append.mpr (Or.inr ((hrcD _ _).mpr ⟨i, i1, w, i2⟩))
      · rw [cif_f w] at i2
        refine Or.inr ⟨i, i1, Or.inl ?_⟩
        unfold ownL
        rw [cif_f w]
        exact i2
