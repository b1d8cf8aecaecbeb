/-! The plan: goals of clusters, and rooms. -/
def hfx (A H : Nat) (fx : Nat → Prop) (c : Nat) : Prop := ∃ j, j < H ∧ fx (A + (c - 2) * H + j)
abbrev obs (A H : Nat) (fx : Nat → Prop) (e : Nat → Nat) (c : Nat) : Prop := e c ≠ 0 ∧ hfx A H fx c
abbrev avl (A H : Nat) (fx : Nat → Prop) (e : Nat → Nat) (c : Nat) : Prop := e c = 0 ∧ ¬ hfx A H fx c
abbrev fsA (A H k : Nat) (fx : Nat → Prop) (e : Nat → Nat) (s t : Nat) : Prop := s ≤ t ∧ t < k + 2 ∧ avl A H fx e t ∧ ∀ y, s ≤ y → y < t → ¬ avl A H fx e y
def uN (g : Nat → Nat) (c t : Nat) : Nat → Nat := fun x => if x = c then t else g x
/-- after n clusters: where the search goes on, and the goals -/
def aimR (A H k : Nat) (fx : Nat → Prop) (e : Nat → Nat) : Nat → Nat → (Nat → Nat) → Prop
  | 0, to, gl => to = 2 ∧ gl = fun _ => 0
  | n + 1, to, gl => ∃ to0 gl0, aimR A H k fx e n to0 gl0 ∧ ((¬ obs A H fx e (n + 2) ∧ to = to0 ∧ gl = gl0) ∨ (obs A H fx e (n + 2) ∧ ∃ t, fsA A H k fx e to0 t ∧ to = t + 1 ∧ gl = uN gl0 (n + 2) t))
abbrev aimB (A H k : Nat) (fx : Nat → Prop) (e : Nat → Nat) (n : Nat) : Prop := ∃ to gl, aimR A H k fx e n to gl ∧ obs A H fx e (n + 2) ∧ ¬ ∃ t, fsA A H k fx e to t
theorem aimR_or {A H k : Nat} {fx : Nat → Prop} {e : Nat → Nat} : ∀ n, (∃ to gl, aimR A H k fx e n to gl) ∨ ∃ i, i < n ∧ aimB A H k fx e i := by
  intro n
  induction n with
  | zero => exact Or.inl ⟨2, _, rfl, rfl⟩
  | succ n ih =>
    rcases ih with ⟨to, gl, h⟩ | ⟨i, i1, i2⟩
    · by_cases w : obs A H fx e (n + 2)
      · by_cases g : ∃ t, fsA A H k fx e to t
        · obtain ⟨t, g⟩ := g
          exact Or.inl ⟨t + 1, _, to, gl, h, Or.inr ⟨w, t, g, rfl, rfl⟩⟩
        · exact Or.inr ⟨n, by omega, to, gl, h, w, g⟩
      · exact Or.inl ⟨to, gl, to, gl, h, Or.inl ⟨w, rfl, rfl⟩⟩
    · exact Or.inr ⟨i, by omega, i2⟩
theorem aimR_inv {A H k : Nat} {fx : Nat → Prop} {e : Nat → Nat} : ∀ n to gl, aimR A H k fx e n to gl → 2 ≤ to ∧ to ≤ k + 2 ∧ (∀ x, gl x ≠ 0 → 2 ≤ x ∧ x < n + 2 ∧ obs A H fx e x ∧ avl A H fx e (gl x) ∧ 2 ≤ gl x ∧ gl x < to) ∧ (∀ x, 2 ≤ x → x < n + 2 → obs A H fx e x → gl x ≠ 0) ∧ (∀ t, 2 ≤ t → t < to → avl A H fx e t → ∃ x, gl x = t) ∧ (∀ x y, gl x ≠ 0 → gl x = gl y → x = y) := by
  intro n
  induction n with
  | zero =>
    rintro to gl ⟨rfl, rfl⟩
    exact ⟨Nat.le_refl _, by omega, fun x h => absurd rfl h, fun x h1 h2 => by omega, fun t h1 h2 => by omega, fun x y h => absurd rfl h⟩
  | succ n ih =>
    rintro to gl ⟨to0, gl0, h, ⟨w, rfl, rfl⟩ | ⟨w, t, ⟨f1, f2, f3, f4⟩, rfl, rfl⟩⟩
    · obtain ⟨a1, a2, a3, a4, a5, a6⟩ := ih to gl h
      refine ⟨a1, a2, fun x hx => ?_, fun x h1 h2 h3 => ?_, a5, a6⟩
      · obtain ⟨b1, b2, b3⟩ := a3 x hx
        exact ⟨b1, by omega, b3⟩
      · by_cases e1 : x = n + 2
        · rw [e1] at h3; exact absurd h3 w
        · exact a4 x h1 (by omega) h3
    · obtain ⟨a1, a2, a3, a4, a5, a6⟩ := ih to0 gl0 h
      have hu : ∀ x, uN gl0 (n + 2) t x = if x = n + 2 then t else gl0 x := fun x => rfl
      have hg0 : ∀ x, gl0 x ≠ 0 → x ≠ n + 2 := fun x hx e1 => by
        have := (a3 x hx).2.1
        omega
      refine ⟨by omega, by omega, fun x hx => ?_, fun x h1 h2 h3 => ?_, fun y h1 h2 h3 => ?_, fun x y hx hxy => ?_⟩
      · rw [hu] at hx ⊢
        by_cases e1 : x = n + 2
        · rw [if_pos e1, e1]
          exact ⟨by omega, by omega, w, f3, by omega, by omega⟩
        · rw [if_neg e1] at hx ⊢
          obtain ⟨b1, b2, b3, b4, b5, b6⟩ := a3 x hx
          exact ⟨b1, by omega, b3, b4, b5, by omega⟩
      · rw [hu]
        by_cases e1 : x = n + 2
        · rw [if_pos e1]; omega
        · rw [if_neg e1]; exact a4 x h1 (by omega) h3
      · by_cases e1 : y = t
        · exact ⟨n + 2, by rw [hu, if_pos rfl, e1]⟩
        · have : y < to0 := Classical.byContradiction fun z => f4 y (by omega) (by omega) h3
          obtain ⟨x, hx⟩ := a5 y h1 this h3
          refine ⟨x, ?_⟩
          rw [hu, if_neg (hg0 x (by rw [hx]; omega)), hx]
      · rw [hu] at hx
        rw [hu, hu] at hxy
        by_cases e1 : x = n + 2
        · rw [if_pos e1] at hxy
          by_cases e2 : y = n + 2
          · rw [e1, e2]
          · rw [if_neg e2] at hxy
            have := (a3 y (by rw [← hxy]; omega)).2.2.2.2.2
            omega
        · rw [if_neg e1] at hx hxy
          by_cases e2 : y = n + 2
          · rw [if_pos e2] at hxy
            have := (a3 x hx).2.2.2.2.2
            omega
          · rw [if_neg e2] at hxy
            exact a6 x y hx hxy
/-- rooms for what is built: of one cluster, and of all before n + 2 -/
noncomputable def rmB (A H : Nat) (fx : Nat → Prop) (c : Nat) : Nat → List Nat
  | 0 => []
  | j + 1 => rmB A H fx c j ++ cif (fx (A + (c - 2) * H + j)) [] [A + (c - 2) * H + j]
noncomputable def rml (A H : Nat) (fx : Nat → Prop) (e gl : Nat → Nat) : Nat → List Nat
  | 0 => []
  | n + 1 => rml A H fx e gl n ++ cif (e (n + 2) = 0 ∧ ∀ x, gl x ≠ n + 2) (rmB A H fx (n + 2) H) []
theorem rmB_len {A H : Nat} {fx : Nat → Prop} {c : Nat} : ∀ j, (rmB A H fx c j).length ≤ j := by
  intro j
  induction j with
  | zero => exact Nat.le_refl _
  | succ j ih =>
    rw [rmB, List.length_append]
    by_cases w : fx (A + (c - 2) * H + j)
    · rw [cif_t w]; simp only [List.length_nil]; omega
    · rw [cif_f w]; simp only [List.length_cons, List.length_nil]; omega
theorem rml_len {A H : Nat} {fx : Nat → Prop} {e gl : Nat → Nat} : ∀ n, (rml A H fx e gl n).length ≤ n * H := by
  intro n
  induction n with
  | zero => exact Nat.zero_le _
  | succ n ih =>
    rw [rml, List.length_append, Nat.add_mul, Nat.one_mul]
    by_cases w : e (n + 2) = 0 ∧ ∀ x, gl x ≠ n + 2
    · rw [cif_t w]
      have := rmB_len (A := A) (H := H) (fx := fx) (c := n + 2) H
      omega
    · rw [cif_f w]; simp only [List.length_nil]; omega
theorem rmB_mem {A H : Nat} {fx : Nat → Prop} {c b : Nat} : ∀ j, b ∈ rmB A H fx c j ↔ ∃ i, i < j ∧ b = A + (c - 2) * H + i ∧ ¬ fx b := by
  intro j
  induction j with
  | zero => exact ⟨fun h => (by cases h), fun ⟨i, h, _⟩ => by omega⟩
  | succ j ih =>
    rw [rmB, List.mem_append, ih]
    by_cases w : fx (A + (c - 2) * H + j)
    · rw [cif_t w]
      constructor
      · rintro (⟨i, i1, i2⟩ | h)
        · exact ⟨i, by omega, i2⟩
        · cases h
      · rintro ⟨i, i1, i2, i3⟩
        refine Or.inl ⟨i, ?_, i2, i3⟩
        by_cases e1 : i = j
        · rw [i2, e1] at i3; exact absurd w i3
        · omega
    · rw [cif_f w]
      constructor
      · rintro (⟨i, i1, i2⟩ | h)
        · exact ⟨i, by omega, i2⟩
        · have h := List.mem_singleton.mp h
          exact ⟨j, by omega, h, by rw [h]; exact w⟩
      · rintro ⟨i, i1, i2, i3⟩
        by_cases e1 : i = j
        · exact Or.inr (List.mem_singleton.mpr (by rw [i2, e1]))
        · exact Or.inl ⟨i, by omega, i2, i3⟩
theorem rml_mem {A H : Nat} {fx : Nat → Prop} {e gl : Nat → Nat} {b : Nat} : ∀ n, b ∈ rml A H fx e gl n ↔ ∃ c, 2 ≤ c ∧ c < n + 2 ∧ (e c = 0 ∧ ∀ x, gl x ≠ c) ∧ ∃ i, i < H ∧ b = A + (c - 2) * H + i ∧ ¬ fx b := by
  intro n
  induction n with
  | zero => exact ⟨fun h => (by cases h), fun ⟨c, h1, h2, _⟩ => by omega⟩
  | succ n ih =>
    rw [rml, List.mem_append, ih]
    by_cases w : e (n + 2) = 0 ∧ ∀ x, gl x ≠ n + 2
    · rw [cif_t w, rmB_mem]
      constructor
      · rintro (⟨c, c1, c2, c3⟩ | h)
        · exact ⟨c, c1, by omega, c3⟩
        · exact ⟨n + 2, by omega, by omega, w, h⟩
      · rintro ⟨c, c1, c2, c3, c4⟩
        by_cases e1 : c = n + 2
        · rw [e1] at c4; exact Or.inr c4
        · exact Or.inl ⟨c, c1, by omega, c3, c4⟩
    · rw [cif_f w]
      constructor
      · rintro (⟨c, c1, c2, c3⟩ | h)
        · exact ⟨c, c1, by omega, c3⟩
        · cases h
      · rintro ⟨c, c1, c2, c3, c4⟩
        by_cases e1 : c = n + 2
        · rw [e1] at c3; exact absurd c3 w
        · exact Or.inl ⟨c, c1, by omega, c3, c4⟩
theorem rml_lt {A H : Nat} {fx : Nat → Prop} {e gl : Nat → Nat} {n b : Nat} (h : b ∈ rml A H fx e gl n) : A ≤ b ∧ b < A + n * H ∧ ¬ fx b := by
  obtain ⟨c, c1, c2, -, i, i1, i2, i3⟩ := (rml_mem n).mp h
  have := Nat.mul_le_mul_right H (show c - 2 + 1 ≤ n by omega)
  rw [Nat.add_mul, Nat.one_mul] at this
  exact ⟨by omega, by omega, i3⟩
theorem rmB_nd {A H : Nat} {fx : Nat → Prop} {c : Nat} : ∀ j, (rmB A H fx c j).Nodup := by
  intro j
  induction j with
  | zero => exact List.nodup_nil
  | succ j ih =>
    rw [rmB]
    by_cases w : fx (A + (c - 2) * H + j)
    · rw [cif_t w, List.append_nil]; exact ih
    · rw [cif_f w]
      refine nd_snoc ih fun h => ?_
      obtain ⟨i, i1, i2, -⟩ := (rmB_mem j).mp h
      omega
theorem rml_nd {A H : Nat} {fx : Nat → Prop} {e gl : Nat → Nat} : ∀ n, (rml A H fx e gl n).Nodup := by
  intro n
  induction n with
  | zero => exact List.nodup_nil
  | succ n ih =>
    rw [rml]
    by_cases w : e (n + 2) = 0 ∧ ∀ x, gl x ≠ n + 2
    · rw [cif_t w]
      refine List.nodup_append.mpr ⟨ih, rmB_nd H, fun a ha1 b hb e1 => ?_⟩
      have h1 := (rml_lt ha1).2.1
      obtain ⟨i, i1, i2, -⟩ := (rmB_mem H).mp hb
      rw [show n + 2 - 2 = n by omega] at i2
      omega
    · rw [cif_f w, List.append_nil]; exact ih
/-- a block of a cluster is below the end -/
theorem blk_lt {A H k B c j : Nat} (h : A + k * H ≤ B) (h2 : 2 ≤ c) (hc0 : c < k + 2) (hj : j < H) : A + (c - 2) * H + j < A + k * H ∧ A + (c - 2) * H + j < B := by
  have := Nat.mul_le_mul_right H (show c - 2 + 1 ≤ k by omega)
  rw [Nat.add_mul, Nat.one_mul] at this
  omega
theorem qM_isFx {K A H k B P G r c : Nat} {T : MS} {fx : Nat → Prop} (hK : 100 ≤ K) (h : plN A H k B P G r) (hT : plM A H k B P G r T) (hf : ∀ b, b < 512 → T.v_fixed b = b01 (fx b)) (h2 : 2 ≤ c) (hc0 : c < k + 2) : f_Mo_isFixed K T (nI c) = some (b01 (hfx A H fx c), T) := by
  obtain ⟨t1, t2, t3, t4, t5, t6, t7⟩ := hT
  obtain ⟨hA, hH, hk0, hB, -, -, -, hAk⟩ := h
  have loop : ∀ (d j q : Nat) (P : Prop), j + d = H → d < q → f_Mo_isFixed_4 K q (nI c) (b01 P) (nI j) T = some (b01 (P ∨ ∃ i, j ≤ i ∧ i < H ∧ fx (A + (c - 2) * H + i)), T) := by
    intro d
    induction d with
    | zero =>
      intro j q P h1 h2
      obtain ⟨q, rfl⟩ : ∃ m, q = m + 1 := ⟨q - 1, by omega⟩
      obtain rfl : j = H := by omega
      rw [f_Mo_isFixed_4, t2, half (by omega), if_pos (Int32.le_refl _), q_g (b01_or _)]
      congr 2
      exact b01_iff ⟨Or.inl, fun y => y.elim id (fun ⟨i, i1, i2, _⟩ => by omega)⟩
    | succ d ih =>
      intro j q P h1 h2'
      obtain ⟨q, rfl⟩ : ∃ m, q = m + 1 := ⟨q - 1, by omega⟩
      have hb := blk_lt (j := j) hAk h2 hc0 (by omega)
      have nx : ∀ Q : Prop, (Q ↔ (P ∨ fx (A + (c - 2) * H + j))) → f_Mo_isFixed_4 K q (nI c) (b01 Q) (nI (j + 1)) T = some (b01 (P ∨ ∃ i, j ≤ i ∧ i < H ∧ fx (A + (c - 2) * H + i)), T) := fun Q hQ => by
        rw [ih (j + 1) q Q (by omega) (by omega)]
        congr 2
        refine b01_iff ⟨fun y => ?_, fun y => ?_⟩
        · rcases y with y | ⟨i, i1, i2, i3⟩
          · rcases hQ.mp y with y | y
            · exact Or.inl y
            · exact Or.inr ⟨j, Nat.le_refl _, by omega, y⟩
          · exact Or.inr ⟨i, by omega, i2, i3⟩
        · rcases y with y | ⟨i, i1, i2, i3⟩
          · exact Or.inl (hQ.mpr (Or.inl y))
          · by_cases e1 : i = j
            · rw [e1] at i3; exact Or.inl (hQ.mpr (Or.inr i3))
            · exact Or.inr ⟨i, by omega, i2, i3⟩
      rw [f_Mo_isFixed_4]
      unfold f_Mo_isFixed_45 f_Mo_isFixed_50
      have hpos : T.v_a / 2 + (nI c - 2) * (T.v_c / 2) + nI j = nI (A + (c - 2) * H + j) := by
        rw [t1, t2, half (by omega), half (by omega), show (2 : Int32) = nI 2 from rfl, pk_sub h2, pk_mul, nI_add, nI_add]
      rw [hpos, t2, half (by omega), if_neg (nI_ge (by omega) (by omega)), show (1 : Int32) = nI 1 from rfl, nI_add j 1, q_l, q_l]
      by_cases w : P
      · rw [b01_t w, if_neg (show ¬ nI 1 = 0 by decide)]
        have := nx True ⟨fun _ => Or.inl w, fun _ => trivial⟩
        rw [b01_t trivial] at this
        exact this
      · rw [b01_f w, if_pos (show nI 0 = 0 from rfl), q_g (q_in (by omega) (by decide)), nI_clamp (by omega), hf _ (by omega)]
        by_cases g : fx (A + (c - 2) * H + j)
        · rw [b01_t g, if_neg (show ¬ nI 1 = 0 by decide)]
          have := nx True ⟨fun _ => Or.inr g, fun _ => trivial⟩
          rw [b01_t trivial] at this
          exact this
        · rw [b01_f g, if_pos (show nI 0 = 0 from rfl)]
          have := nx False ⟨fun y => y.elim, fun y => y.elim w g⟩
          rw [b01_f (fun y => y)] at this
          exact this
  have := loop H 0 K False (by omega) (by omega)
  rw [b01_f (fun y => y)] at this
  have this : f_Mo_isFixed K T (nI c) = _ := this
  rw [this]
  congr 2
  exact b01_iff ⟨fun y => y.elim (fun z => z.elim) (fun ⟨i, _, i2, i3⟩ => ⟨i, i2, i3⟩), fun ⟨i, i2, i3⟩ => Or.inr ⟨i, Nat.zero_le _, i2, i3⟩⟩
theorem qC_hasFx {K A H k B P g0 r c : Nat} {G : CG} {S : CS} {fx : Nat → Prop} (hK : 100 ≤ K) (h : plN A H k B P g0 r) (hG : G.n / 2 = B) (hS : plK A H k B P g0 S) (hf : ∀ b, b < B → S.w_Pl_fixed b = b01 (fx b)) (h2 : 2 ≤ c) (hc0 : c < k + 2) : f_Pl_blockOfCluster K G S (nI c) = some (nI (A + (c - 2) * H), S) ∧ f_Pl_hasFixed K G S (nI c) = some (b01 (hfx A H fx c), S) := by
  obtain ⟨t1, t2, t3, t4, t5, t6⟩ := hS
  obtain ⟨hA, hH, hk0, hB, -, -, -, hAk⟩ := h
  have hbk : f_Pl_blockOfCluster K G S (nI c) = some (nI (A + (c - 2) * H), S) := by
    unfold f_Pl_blockOfCluster
    rw [t1, t2, half (by omega), half (by omega), show (2 : Int32) = nI 2 from rfl, pk_sub h2, pk_mul, nI_add]
  have loop : ∀ (d j q : Nat), j + d = H → d < q → f_Pl_hasFixed_8 K G q (nI (A + (c - 2) * H)) (nI (A + (c - 2) * H + j)) S = some (b01 (∃ i, j ≤ i ∧ i < H ∧ fx (A + (c - 2) * H + i)), S) := by
    have hb0 := blk_lt (j := 0) hAk h2 hc0 (by omega)
    intro d
    induction d with
    | zero =>
      intro j q h1 h2'
      obtain ⟨q, rfl⟩ : ∃ m, q = m + 1 := ⟨q - 1, by omega⟩
      obtain rfl : j = H := by omega
      rw [f_Pl_hasFixed_8, t2, half (by omega), nI_add, if_pos (Int32.le_refl _), b01_f (fun ⟨i, i1, i2, _⟩ => by omega)]
      rfl
    | succ d ih =>
      intro j q h1 h2'
      obtain ⟨q, rfl⟩ : ∃ m, q = m + 1 := ⟨q - 1, by omega⟩
      have hb := blk_lt (j := j) hAk h2 hc0 (by omega)
      rw [f_Pl_hasFixed_8]
      unfold f_Pl_hasFixed_46
      rw [t2, half (by omega), nI_add, if_neg (nI_ge (by omega) (by omega)), if_neg (nI_pos (by omega)), t4, if_neg (nI_ge (by omega) (by omega)), hG, q_g (q_in (by omega) (by omega)), nI_clamp (by omega), hf _ (by omega), show (1 : Int32) = nI 1 from rfl, nI_add (A + (c - 2) * H + j) 1, q_l]
      by_cases g : fx (A + (c - 2) * H + j)
      · rw [b01_t g, if_neg (show ¬ nI 1 = 0 by decide), b01_t ⟨j, Nat.le_refl _, by omega, g⟩]
      · rw [b01_f g, if_pos (show nI 0 = 0 from rfl)]
        have := ih (j + 1) q (by omega) (by omega)
        rw [← Nat.add_assoc] at this
        rw [this]
        congr 2
        refine b01_iff ⟨fun ⟨i, i1, i2, i3⟩ => ⟨i, by omega, i2, i3⟩, fun ⟨i, i1, i2, i3⟩ => ⟨i, ?_, i2, i3⟩⟩
        by_cases e1 : i = j
        · rw [e1] at i3; exact absurd i3 g
        · omega
  refine ⟨hbk, ?_⟩
  unfold f_Pl_hasFixed
  have := loop H 0 K (by omega) (by omega)
  rw [Nat.add_zero] at this
  rw [hbk, q_c, this]
  congr 2
  exact b01_iff ⟨fun ⟨i, _, i2, i3⟩ => ⟨i, i2, i3⟩, fun ⟨i, i2, i3⟩ => ⟨i, Nat.zero_le _, i2, i3⟩⟩
