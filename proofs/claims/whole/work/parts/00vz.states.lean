/-! States of the class's disk in a run. -/
abbrev pPl (N : Nat) (D : Nat → Int32) (fks : List Nat) (its : List It) (A H k B P g0 r to : Nat) (gl : Nat → Nat) : Prop := (hdOk N D ∧ (256 ≤ N ∧ N ≤ 1024) ∧ N % 2 = 0 ∧ sec27 D) ∧ (ha D = 2 * A ∧ hc D = 2 * H ∧ k = hk N D ∧ B = N / 2) ∧ usF N D its A H k B P g0 r to gl (ent D) (bdN N fks D its A H) ∧ 1 ≤ r ∧ 10 + its.length ≤ g0 * (8 * r) ∧ 1 ≤ its.length ∧ rcB N D its A H ≤ 512
def sYc (D : Nat → Int32) (A H c i : Nat) : Nat → Int32 := fun j => D (512 * (sc A H c + i) + j)
abbrev dU (N : Nat) (D E : Nat → Int32) : Prop := ∀ p, p < 512 * N → shn N D p → o1 E p = o1 D p
abbrev dM (N : Nat) (D : Nat → Int32) (fks : List Nat) (its : List It) (A H k P g0 r : Nat) (gl : Nat → Nat) (E : Nat → Int32) : Prop := (∀ q, q < 1024 → o1 E q = o1 D q) ∧ (∀ q, 3072 ≤ q → q < 1024 * A → o1 E q = if 3584 ≤ q ∧ q < 4096 then o1 (mrkX P r) (q - 3584) else o1 D q) ∧ (∀ c, 2 ≤ c → c < k + 2 → ent D c ≠ 0 → ∀ j, j < 1024 * H → o1 E (1024 * bOf A H gl c + j) = o1 D (1024 * (A + (c - 2) * H) + j)) ∧ agW E (kpS (rml A H (fxd A P r g0) (ent D) gl k) (sYs D)) ∧ agW E (inW (rml A H (fxd A P r g0) (ent D) gl k) 3 (recL N D its A H gl (rml A H (fxd A P r g0) (ent D) gl k)) (indN (recL N D its A H gl (rml A H (fxd A P r g0) (ent D) gl k)).length)) ∧ agW E (owF N D fks its A H (3 + indN (rcB N D its A H)) gl (rml A H (fxd A P r g0) (ent D) gl k) its.length 0)
/-- a sector of a free cluster -/
abbrev frQ (D : Nat → Int32) (A H k s : Nat) : Prop := ∃ c, 2 ≤ c ∧ c < k + 2 ∧ ent D c = 0 ∧ A + (c - 2) * H ≤ s / 2 ∧ s / 2 < A + (c - 2) * H + H
theorem cl_sec {D : Nat → Int32} {A H c p : Nat} (h1 : ha D = 2 * A) (h2 : hc D = 2 * H) (hH : 1 ≤ H) (hc2 : 2 ≤ c) (h3 : A + (c - 2) * H ≤ p / 1024) (h4 : p / 1024 < A + (c - 2) * H + H) : clOf D p = c := by
  unfold clOf
  rw [h1, h2]
  have e : p / 512 - 2 * A = 2 * H * (c - 2) + (p / 512 - 2 * (A + (c - 2) * H)) := by
    rw [Nat.mul_assoc, Nat.mul_comm H]
    omega
  rw [e, Nat.mul_add_div (by omega), Nat.div_eq_of_lt (by omega)]
  omega
theorem fr_hid {N : Nat} {D : Nat → Int32} {A H k s p : Nat} (h1 : ha D = 2 * A) (h2 : hc D = 2 * H) (hH : 1 ≤ H) (h : frQ D A H k s) (p1 : 512 * s ≤ p) (p2 : p < 512 * s + 512) : ¬ shn N D p := by
  obtain ⟨c, c1, c2, c3, c4, c5⟩ := h
  intro hs
  rcases hs with g | ⟨g1, g2⟩
  · rw [h1] at g; omega
  · rw [cl_sec (c := c) h1 h2 hH c1 (by omega) (by omega)] at g2
    exact g2 c3
theorem dU_free {N : Nat} {D : Nat → Int32} {A H k s : Nat} {Y E : Nat → Int32} (h1 : ha D = 2 * A) (h2 : hc D = 2 * H) (hH : 1 ≤ H) (h : frQ D A H k s) (hE : dU N D E) : dU N D (wS E s Y 0) := fun p hp hs => by
  rw [wS_o1, if_neg (fun g => fr_hid h1 h2 hH h g.1 g.2 hs)]
  exact hE p hp hs
theorem dU_ok {N : Nat} {D : Nat → Int32} : jOk (dU N D) := fun E E' h hE p hp hs => by rw [h p]; exact hE p hp hs
theorem mvF_mem {A H : Nat} {gl : Nat → Nat} {Y : Nat → Nat → Nat → Int32} {w : Wr} : ∀ n c0, w ∈ mvF A H gl Y n c0 ↔ ∃ c i, c0 ≤ c ∧ c < c0 + n ∧ gl c ≠ 0 ∧ i < 2 * H ∧ w = (sc A H (gl c) + i, Y c i) := by
  have cp : ∀ d (Z : Nat → Nat → Int32) n i0, w ∈ cpF A H Z d n i0 ↔ ∃ i, i0 ≤ i ∧ i < i0 + n ∧ w = (sc A H d + i, Z i) := by
    intro d Z n
    induction n with
    | zero => exact fun i0 => ⟨fun h => (by cases h), fun ⟨i, h, h2, _⟩ => by omega⟩
    | succ n ih =>
      intro i0
      rw [cpF, List.mem_cons, ih]
      constructor
      · rintro (h | ⟨i, i1, i2, i3⟩)
        · exact ⟨i0, Nat.le_refl _, by omega, h⟩
        · exact ⟨i, by omega, by omega, i3⟩
      · rintro ⟨i, i1, i2, i3⟩
        by_cases e : i = i0
        · rw [e] at i3; exact Or.inl i3
        · exact Or.inr ⟨i, by omega, by omega, i3⟩
  intro n
  induction n with
  | zero => exact fun c0 => ⟨fun h => (by cases h), fun ⟨c, i, h, h2, _⟩ => by omega⟩
  | succ n ih =>
    intro c0
    rw [mvF, List.mem_append, ih]
    constructor
    · rintro (h | ⟨c, i, i1, i2, i3⟩)
      · by_cases g : gl c0 = 0
        · rw [if_pos g] at h; cases h
        · rw [if_neg g] at h
          obtain ⟨i, i1, i2, i3⟩ := (cp _ _ _ _).mp h
          exact ⟨c0, i, Nat.le_refl _, by omega, g, by omega, i3⟩
      · exact ⟨c, i, by omega, by omega, i3⟩
    · rintro ⟨c, i, i1, i2, i3, i4, i5⟩
      by_cases e : c = c0
      · rw [e] at i3 i5
        rw [if_neg i3]
        exact Or.inl ((cp _ _ _ _).mpr ⟨i, Nat.zero_le _, by omega, i5⟩)
      · exact Or.inr ⟨c, i, by omega, by omega, i3, i4, i5⟩
theorem owF_bl {N : Nat} {D : Nat → Int32} {fks : List Nat} {its : List It} {A H b0 : Nat} {gl : Nat → Nat} {rm : List Nat} (hfb : ∀ i, i < its.length → ¬ isDr D its i → fbN D its i ≤ (chI N D its i).length * H) {w : Wr} : ∀ n i, i + n = its.length → w ∈ owF N D fks its A H b0 gl rm n i → ∃ s, s < b0 + sumN (dBI fks D its) its.length + sumN (fBI D its) its.length ∧ w.1 / 2 = rm.getD s 0 := by
  intro n
  induction n with
  | zero => intro i _ h; cases h
  | succ n ih =>
    intro i hi h
    have hil : i < its.length := by omega
    have hend := own_end (fks := fks) (D := D) (b0 := b0) hil
    rw [owF] at h
    rcases List.mem_append.mp h with y | y
    · by_cases g : isDr D its i
      · rw [cif_t g] at y
        rw [cif_t g] at hend
        have hbb : bbN fks D its i = flB fks its i := cif_t g
        unfold fiN at hend
        have hpk0 : flB fks its i = (pkS (eSz fks its i) (0 + eNo fks its i)).1 := by rw [Nat.zero_add]; rfl
        obtain ⟨s, s1, s2, s3⟩ := dwG_bl (b0 := boN fks D its b0 i) (eNo fks its i) 0 Zd 0 0 (boN fks D its b0 i) rfl rfl w y
        exact ⟨s, by omega, s3⟩
      · rw [cif_f g] at y; cases y
    · rcases List.mem_append.mp y with z | z
      · obtain ⟨s, s1, s2, s3⟩ := inW_bl w z
        have hol : (ownL N D fks its A H b0 gl rm i).length = cif (isDr D its i) (flB fks its i) (fbN D its i) := by
          unfold ownL
          by_cases g : isDr D its i
          · rw [cif_t g, cif_t g]; exact rmF_len _ _ _
          · rw [cif_f g, cif_f g, List.length_take, chL_len]; exact Nat.min_eq_left (hfb i hil g)
        rw [hol] at s2
        exact ⟨s, by omega, s3⟩
      · exact ih (i + 1) (by omega) z
theorem owF_ag {N : Nat} {D : Nat → Int32} {fks : List Nat} {its : List It} {A H P r b0 : Nat} {gl : Nat → Nat} {rm : List Nat} {F : Nat → Int32} (h1 : ∀ j, j < its.length → isDr D its j → fdA N D fks its A H P r gl rm b0 F j) (h2 : ∀ j, j < its.length → ¬ isDr D its j → flA N D fks its A H P r gl rm b0 F j) : ∀ n i, i + n = its.length → agW F (owF N D fks its A H b0 gl rm n i) := by
  intro n
  induction n with
  | zero => intro i _ w hw; cases hw
  | succ n ih =>
    intro i hi
    rw [owF]
    by_cases g : isDr D its i
    · rw [cif_t g]
      exact agW_app (h1 i (by omega) g).1 (agW_app (h1 i (by omega) g).2.1 (ih (i + 1) (by omega)))
    · rw [cif_f g, List.nil_append]
      exact agW_app (h2 i (by omega) g).2.1 (ih (i + 1) (by omega))
/-- writes that speak with one voice all stand at the end -/
theorem ApL_ag : ∀ (L : List Wr) (E : Nat → Int32) (p : Option Nat), (∀ w, p = some w → L.length ≤ w) → (∀ w ∈ L, ∀ v ∈ L, w.1 = v.1 → ∀ j, j < 512 → o1 w.2 j = o1 v.2 j) → agW (ApL p L E) L := by
  have keep : ∀ (w : Wr) (L : List Wr) (E : Nat → Int32) (p : Option Nat), (∀ v ∈ L, w.1 = v.1 → ∀ j, j < 512 → o1 w.2 j = o1 v.2 j) → (∀ j, j < 512 → o1 E (512 * w.1 + j) = o1 w.2 j) → ∀ j, j < 512 → o1 (ApL p L E) (512 * w.1 + j) = o1 w.2 j := by
    intro w L
    induction L with
    | nil => intro E p _ h; exact h
    | cons v L ih =>
      intro E p h1 h2
      rw [ApL]
      refine ih _ _ (fun u hu => h1 u (List.mem_cons_of_mem _ hu)) (fun j hj => ?_)
      unfold aW
      by_cases c : p = some 0
      · rw [cif_t c]; exact h2 j hj
      · rw [cif_f c, wS_o1]
        by_cases g : 512 * v.1 ≤ 512 * w.1 + j ∧ 512 * w.1 + j < 512 * v.1 + 512
        · rw [if_pos g]
          have e : w.1 = v.1 := by omega
          rw [h1 v List.mem_cons_self e j hj, e, Nat.add_sub_cancel_left, Nat.zero_add]
        · rw [if_neg g]; exact h2 j hj
  intro L
  induction L with
  | nil => intro E p _ _ w hw; cases hw
  | cons v L ih =>
    intro E p hp hc w hw j hj
    rw [ApL]
    have hp0 : p ≠ some 0 := fun e => by have := hp 0 e; rw [List.length_cons] at this; omega
    rcases List.mem_cons.mp hw with y | y
    · rw [y]
      refine keep v L _ _ (fun u hu => hc v List.mem_cons_self u (List.mem_cons_of_mem _ hu)) (fun x hx => ?_) j hj
      unfold aW
      rw [cif_f hp0, wS_o1, if_pos (by omega), Nat.add_sub_cancel_left, Nat.zero_add]
    · refine ih _ _ (fun u e => ?_) (fun a ha0 b hb => hc a (List.mem_cons_of_mem _ ha0) b (List.mem_cons_of_mem _ hb)) w y j hj
      cases p with
      | none => cases e
      | some u0 =>
        have := hp u0 rfl
        rw [List.length_cons] at this
        cases e
        omega
theorem ApL_out : ∀ (L : List Wr) (E : Nat → Int32) (p : Option Nat) (q : Nat), (∀ w ∈ L, q < 512 * w.1 ∨ 512 * w.1 + 512 ≤ q) → o1 (ApL p L E) q = o1 E q := by
  intro L
  induction L with
  | nil => intro E p q _; rfl
  | cons v L ih =>
    intro E p q h
    rw [ApL, ih _ _ _ (fun w hw => h w (List.mem_cons_of_mem _ hw))]
    unfold aW
    by_cases c : p = some 0
    · rw [cif_t c]
    · rw [cif_f c, wS_o1, if_neg (by have := h v List.mem_cons_self; omega)]
