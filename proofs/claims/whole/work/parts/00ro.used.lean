/-! The plan: which blocks are used, and how many. -/
theorem cntP_one {a n : Nat} (h : a < n) : cntP (fun b => b = a) n = 1 := by
  have e := cntP_iv (a := a) (c := a + 1) (by omega) n (by omega)
  rw [show a + 1 - a = 1 by omega] at e
  rw [← e]
  exact cntP_congr n (fun b _ => by omega)
theorem cntP_mem : ∀ (l : List Nat) (n : Nat), l.Nodup → (∀ b ∈ l, b < n) → cntP (fun b => b ∈ l) n = l.length := by
  intro l
  induction l with
  | nil => intro n _ _; exact cntP_no n (fun b _ h => by cases h)
  | cons a l ih =>
    intro n hn hl
    obtain ⟨h1, h2⟩ := List.nodup_cons.mp hn
    rw [cntP_congr n (q := fun b => b = a ∨ b ∈ l) (fun b _ => List.mem_cons), cntP_or n (fun b _ e => by rw [e]; exact h1), cntP_one (hl a List.mem_cons_self), ih n h2 (fun b hb => hl b (List.mem_cons_of_mem _ hb)), List.length_cons, Nat.add_comm]
theorem sumN_find {f : Nat → Nat} {q : Nat} : ∀ n, q < sumN f n → ∃ i, i < n ∧ sumN f i ≤ q ∧ q < sumN f i + f i := by
  intro n
  induction n with
  | zero => intro h; exact absurd h (Nat.not_lt_zero _)
  | succ n ih =>
    intro h
    rw [sumN] at h
    by_cases w : q < sumN f n
    · obtain ⟨i, i1, i2⟩ := ih w
      exact ⟨i, by omega, i2⟩
    · exact ⟨n, by omega, by omega, h⟩
theorem rmF_mem {rm : List Nat} {b : Nat} : ∀ d a, b ∈ rmF rm a d ↔ ∃ q, a ≤ q ∧ q < a + d ∧ b = rm.getD q 0 := by
  intro d
  induction d with
  | zero => intro a; exact ⟨fun h => (by cases h), fun ⟨q, h1, h2, _⟩ => by omega⟩
  | succ d ih =>
    intro a
    rw [rmF, List.mem_cons, ih]
    constructor
    · rintro (h | ⟨q, q1, q2, q3⟩)
      · exact ⟨a, Nat.le_refl _, by omega, h⟩
      · exact ⟨q, by omega, by omega, q3⟩
    · rintro ⟨q, q1, q2, q3⟩
      by_cases e : q = a
      · rw [e] at q3; exact Or.inl q3
      · exact Or.inr ⟨q, by omega, by omega, q3⟩
theorem blk_nd (b : Nat) : ∀ d j, (blk b d j).Nodup := by
  intro d
  induction d with
  | zero => intro j; exact List.nodup_nil
  | succ d ih =>
    intro j
    rw [blk]
    exact List.nodup_cons.mpr ⟨fun h => by have := (blk_mem d (j + 1)).mp h; omega, ih (j + 1)⟩
theorem chL_mem {A H b : Nat} {gl : Nat → Nat} : ∀ l, b ∈ chL A H gl l ↔ ∃ c ∈ l, bOf A H gl c ≤ b ∧ b < bOf A H gl c + H := by
  intro l
  induction l with
  | nil => exact ⟨fun h => (by cases h), fun ⟨c, h, _⟩ => by cases h⟩
  | cons a l ih =>
    rw [chL, List.mem_append, ih, blk_mem, Nat.add_zero]
    constructor
    · rintro (h | ⟨c, c1, c2⟩)
      · exact ⟨a, List.mem_cons_self, h⟩
      · exact ⟨c, List.mem_cons_of_mem _ c1, c2⟩
    · rintro ⟨c, c1, c2⟩
      rcases List.mem_cons.mp c1 with e | e
      · rw [e] at c2; exact Or.inl c2
      · exact Or.inr ⟨c, e, c2⟩
theorem bOf_dis {A H b : Nat} {gl : Nat → Nat} {c d : Nat} (hc2 : 2 ≤ stnd gl c) (hd2 : 2 ≤ stnd gl d) (h1 : bOf A H gl c ≤ b ∧ b < bOf A H gl c + H) (h2 : bOf A H gl d ≤ b ∧ b < bOf A H gl d + H) : stnd gl c = stnd gl d := by
  unfold bOf at h1 h2
  rcases Nat.lt_trichotomy (stnd gl c) (stnd gl d) with w | w | w
  · have := Nat.mul_le_mul_right H (show stnd gl c - 2 + 1 ≤ stnd gl d - 2 by omega)
    rw [Nat.add_mul, Nat.one_mul] at this
    omega
  · exact w
  · have := Nat.mul_le_mul_right H (show stnd gl d - 2 + 1 ≤ stnd gl c - 2 by omega)
    rw [Nat.add_mul, Nat.one_mul] at this
    omega
theorem chL_nd {A H : Nat} {gl : Nat → Nat} : ∀ l : List Nat, l.Nodup → (∀ c ∈ l, 2 ≤ stnd gl c) → (∀ c ∈ l, ∀ d ∈ l, stnd gl c = stnd gl d → c = d) → (chL A H gl l).Nodup := by
  intro l
  induction l with
  | nil => intro _ _ _; exact List.nodup_nil
  | cons a l ih =>
    intro hn h2 hi
    obtain ⟨n1, n2⟩ := List.nodup_cons.mp hn
    rw [chL]
    refine List.nodup_append.mpr ⟨blk_nd _ _ _, ih n2 (fun c hc => h2 c (List.mem_cons_of_mem _ hc)) (fun c hc d hd => hi c (List.mem_cons_of_mem _ hc) d (List.mem_cons_of_mem _ hd)), fun x hx y hy0 e => ?_⟩
    rw [← e] at hy0
    have x1 := (blk_mem H 0).mp hx
    rw [Nat.add_zero] at x1
    obtain ⟨c, c1, c2⟩ := (chL_mem l).mp hy0
    have := bOf_dis (h2 a List.mem_cons_self) (h2 c (List.mem_cons_of_mem _ c1)) x1 c2
    have := hi a List.mem_cons_self c (List.mem_cons_of_mem _ c1) this
    rw [this] at n1
    exact n1 c1
theorem chL_app {A H : Nat} {gl : Nat → Nat} : ∀ l m, chL A H gl (l ++ m) = chL A H gl l ++ chL A H gl m := by
  intro l
  induction l with
  | nil => intro m; rfl
  | cons a l ih => intro m; rw [List.cons_append, chL, chL, ih, List.append_assoc]
/-- the clusters of the items before n -/
noncomputable def alC (N : Nat) (D : Nat → Int32) (its : List It) : Nat → List Nat
  | 0 => []
  | n + 1 => alC N D its n ++ chI N D its n
theorem alC_mem {N : Nat} {D : Nat → Int32} {its : List It} {x : Nat} : ∀ n, x ∈ alC N D its n ↔ ∃ i, i < n ∧ x ∈ chI N D its i := by
  intro n
  induction n with
  | zero => exact ⟨fun h => (by cases h), fun ⟨i, h, _⟩ => by omega⟩
  | succ n ih =>
    rw [alC, List.mem_append, ih]
    constructor
    · rintro (⟨i, i1, i2⟩ | h)
      · exact ⟨i, by omega, i2⟩
      · exact ⟨n, by omega, h⟩
    · rintro ⟨i, i1, i2⟩
      by_cases e : i = n
      · rw [e] at i2; exact Or.inr i2
      · exact Or.inl ⟨i, by omega, i2⟩
theorem alC_len {N : Nat} {D : Nat → Int32} {its : List It} : ∀ n, (alC N D its n).length = sumN (fun i => (chI N D its i).length) n := by
  intro n
  induction n with
  | zero => rfl
  | succ n ih => rw [alC, List.length_append, ih, sumN]
theorem alC_nd {N : Nat} {D : Nat → Int32} {its : List It} (hn : ∀ i, i < its.length → (chI N D its i).Nodup) (hd : ∀ i j, i < its.length → j < its.length → i ≠ j → ∀ x ∈ chI N D its i, x ∉ chI N D its j) : ∀ n, n ≤ its.length → (alC N D its n).Nodup := by
  intro n
  induction n with
  | zero => intro _; exact List.nodup_nil
  | succ n ih =>
    intro h
    rw [alC]
    refine List.nodup_append.mpr ⟨ih (by omega), hn n (by omega), fun a ha1 b hb e => ?_⟩
    obtain ⟨i, i1, i2⟩ := (alC_mem n).mp ha1
    rw [← e] at hb
    exact hd i n (by omega) (by omega) (by omega) a i2 hb
/-- what stands of the chains: directories' whole, of files what they hold -/
noncomputable def kLi (N : Nat) (D : Nat → Int32) (its : List It) (A H : Nat) (gl : Nat → Nat) (i : Nat) : List Nat := cif (isDr D its i) (chL A H gl (chI N D its i)) ((chL A H gl (chI N D its i)).take (fbN D its i))
noncomputable def kLs (N : Nat) (D : Nat → Int32) (its : List It) (A H : Nat) (gl : Nat → Nat) : Nat → List Nat
  | 0 => []
  | n + 1 => kLs N D its A H gl n ++ kLi N D its A H gl n
theorem kLi_sub {N : Nat} {D : Nat → Int32} {its : List It} {A H : Nat} {gl : Nat → Nat} {i : Nat} : (kLi N D its A H gl i).Sublist (chL A H gl (chI N D its i)) := by
  unfold kLi
  by_cases w : isDr D its i
  · rw [cif_t w]; exact List.Sublist.refl _
  · rw [cif_f w]; exact List.take_sublist _ _
theorem kLs_sub {N : Nat} {D : Nat → Int32} {its : List It} {A H : Nat} {gl : Nat → Nat} : ∀ n, (kLs N D its A H gl n).Sublist (chL A H gl (alC N D its n)) := by
  intro n
  induction n with
  | zero => exact List.Sublist.refl _
  | succ n ih => rw [kLs, alC, chL_app]; exact List.Sublist.append ih kLi_sub
theorem kLs_mem {N : Nat} {D : Nat → Int32} {its : List It} {A H : Nat} {gl : Nat → Nat} {b : Nat} : ∀ n, b ∈ kLs N D its A H gl n ↔ ∃ i, i < n ∧ b ∈ kLi N D its A H gl i := by
  intro n
  induction n with
  | zero => exact ⟨fun h => (by cases h), fun ⟨i, h, _⟩ => by omega⟩
  | succ n ih =>
    rw [kLs, List.mem_append, ih]
    constructor
    · rintro (⟨i, i1, i2⟩ | h)
      · exact ⟨i, by omega, i2⟩
      · exact ⟨n, by omega, h⟩
    · rintro ⟨i, i1, i2⟩
      by_cases e : i = n
      · rw [e] at i2; exact Or.inr i2
      · exact Or.inl ⟨i, by omega, i2⟩
theorem kLs_len {N : Nat} {D : Nat → Int32} {its : List It} {A H : Nat} {gl : Nat → Nat} (hf : ∀ i, i < its.length → ¬ isDr D its i → fbN D its i ≤ (chI N D its i).length * H) : ∀ n, n ≤ its.length → (kLs N D its A H gl n).length = sumN (kpI N D its H) n := by
  intro n
  induction n with
  | zero => intro _; rfl
  | succ n ih =>
    intro h
    rw [kLs, List.length_append, ih (by omega), sumN]
    unfold kLi kpI
    by_cases w : isDr D its n
    · rw [cif_t w, cif_t w, chL_len]
    · have := hf n (by omega) w
      rw [cif_f w, cif_f w, List.length_take, chL_len]
      omega
/-- the blocks that are used -/
noncomputable def usd (N : Nat) (D : Nat → Int32) (its : List It) (A H : Nat) (gl : Nat → Nat) (rm : List Nat) (bd : Nat) (fx : Nat → Prop) (b : Nat) : Prop := fx b ∨ ((∃ q, q < bd ∧ b = rm.getD q 0) ∨ ((3 ≤ b ∧ b < A) ∨ b ∈ kLs N D its A H gl its.length))
/-- what the count asks for -/
abbrev usF (N : Nat) (D : Nat → Int32) (its : List It) (A H k B P G r to : Nat) (gl : Nat → Nat) (e : Nat → Nat) (bd : Nat) : Prop := plN A H k B P G r ∧ rmy A H k B P G r ∧ aimR A H k (fxd A P r G) e k to gl ∧ (∀ i, i < its.length → (chI N D its i).Nodup ∧ ∀ x ∈ chI N D its i, (2 ≤ x ∧ x < k + 2) ∧ e x ≠ 0) ∧ (∀ i j, i < its.length → j < its.length → i ≠ j → ∀ x ∈ chI N D its i, x ∉ chI N D its j) ∧ (∀ i, i < its.length → ¬ isDr D its i → fbN D its i ≤ (chI N D its i).length * H) ∧ bd ≤ (rml A H (fxd A P r G) e gl k).length
theorem stnd_f {A H k P G r to : Nat} {e gl : Nat → Nat} (hR : aimR A H k (fxd A P r G) e k to gl) : (∀ c, 2 ≤ c → c < k + 2 → e c ≠ 0 → 2 ≤ stnd gl c ∧ stnd gl c < k + 2 ∧ ¬ hfx A H (fxd A P r G) (stnd gl c) ∧ (e (stnd gl c) ≠ 0 ∨ ∃ x, gl x = stnd gl c)) ∧ (∀ c d, 2 ≤ c → c < k + 2 → e c ≠ 0 → 2 ≤ d → d < k + 2 → e d ≠ 0 → stnd gl c = stnd gl d → c = d) := by
  obtain ⟨r1, r2, r3, r4, r5, r6⟩ := aimR_inv k to gl hR
  refine ⟨fun c c1 c2 c3 => ?_, fun c d c1 c2 c3 d1 d2 d3 h => ?_⟩
  · unfold stnd
    by_cases w : gl c = 0
    · rw [if_pos w]
      exact ⟨c1, c2, fun y => r4 c c1 c2 ⟨c3, y⟩ w, Or.inl c3⟩
    · rw [if_neg w]
      obtain ⟨-, -, -, b4, b5, b6⟩ := r3 c w
      exact ⟨b5, by omega, b4.2, Or.inr ⟨c, rfl⟩⟩
  · unfold stnd at h
    by_cases w : gl c = 0
    · rw [if_pos w] at h
      by_cases y : gl d = 0
      · rw [if_pos y] at h; exact h
      · rw [if_neg y] at h
        have := (r3 d y).2.2.2.1.1
        rw [← h] at this
        exact absurd this c3
    · rw [if_neg w] at h
      by_cases y : gl d = 0
      · rw [if_pos y] at h
        have := (r3 c w).2.2.2.1.1
        rw [h] at this
        exact absurd this d3
      · rw [if_neg y] at h
        exact r6 c d w h
theorem kLs_f {N : Nat} {D : Nat → Int32} {its : List It} {A H k B P G r to : Nat} {gl e : Nat → Nat} {bd : Nat} (h : usF N D its A H k B P G r to gl e bd) : (kLs N D its A H gl its.length).Nodup ∧ ∀ b ∈ kLs N D its A H gl its.length, A ≤ b ∧ b < A + k * H ∧ ¬ fxd A P r G b ∧ ∃ s, 2 ≤ s ∧ s < k + 2 ∧ (e s ≠ 0 ∨ ∃ x, gl x = s) ∧ A + (s - 2) * H ≤ b ∧ b < A + (s - 2) * H + H := by
  obtain ⟨hP, hr, hR, hch, hdis, hfb, hbd⟩ := h
  obtain ⟨s1, s2⟩ := stnd_f hR
  have hal : ∀ c ∈ alC N D its its.length, 2 ≤ c ∧ c < k + 2 ∧ e c ≠ 0 := fun c hc => by
    obtain ⟨i, i1, i2⟩ := (alC_mem _).mp hc
    have := (hch i i1).2 c i2
    exact ⟨this.1.1, this.1.2, this.2⟩
  refine ⟨(chL_nd _ (alC_nd (fun i hi => (hch i hi).1) hdis _ (Nat.le_refl _)) (fun c hc => ?_) (fun c hc d hd => ?_)).sublist (kLs_sub _), fun b hb => ?_⟩
  · obtain ⟨a, b, c0⟩ := hal c hc
    exact (s1 c a b c0).1
  · obtain ⟨a, b, c0⟩ := hal c hc
    obtain ⟨a', b', c0'⟩ := hal d hd
    exact s2 c d a b c0 a' b' c0'
  · obtain ⟨c, c1, c2⟩ := (chL_mem _).mp ((kLs_sub _).subset hb)
    obtain ⟨a, a', c0⟩ := hal c c1
    obtain ⟨t1, t2, t3, t4⟩ := s1 c a a' c0
    unfold bOf at c2
    have hb1 := blk_lt (j := b - (A + (stnd gl c - 2) * H)) (show A + k * H ≤ A + k * H from Nat.le_refl _) t1 t2 (by omega)
    rw [show A + (stnd gl c - 2) * H + (b - (A + (stnd gl c - 2) * H)) = b by omega] at hb1
    refine ⟨by omega, hb1.1, fun y => t3 ⟨b - (A + (stnd gl c - 2) * H), by omega, ?_⟩, stnd gl c, t1, t2, t4, c2⟩
    rw [show A + (stnd gl c - 2) * H + (b - (A + (stnd gl c - 2) * H)) = b by omega]
    exact y
theorem usd_cnt {N : Nat} {D : Nat → Int32} {its : List It} {A H k B P G r to : Nat} {gl e : Nat → Nat} {bd : Nat} (h : usF N D its A H k B P G r to gl e bd) : cntP (usd N D its A H gl (rml A H (fxd A P r G) e gl k) bd (fxd A P r G)) B = G * (4 + r) + (bd + (A - 3 + sumN (kpI N D its H) its.length)) := by
  have h0 := h
  obtain ⟨hP, hr, hR, hch, hdis, hfb, hbd⟩ := h
  obtain ⟨k1, k2⟩ := kLs_f h0
  have hA := hP.1
  have hAk := hP.2.2.2.2.2.2.2
  have hB := hP.2.2.2.1
  have hrm : ∀ q, q < bd → (rml A H (fxd A P r G) e gl k).getD q 0 ∈ rml A H (fxd A P r G) e gl k := fun q hq => getD_mem (by omega)
  have htk : ∀ b, (∃ q, q < bd ∧ b = (rml A H (fxd A P r G) e gl k).getD q 0) ↔ b ∈ (rml A H (fxd A P r G) e gl k).take bd := fun b => by
    rw [List.mem_take_iff_getElem]
    constructor
    · rintro ⟨q, q1, q2⟩
      refine ⟨q, by omega, ?_⟩
      rw [q2, List.getD_eq_getElem?_getD, List.getElem?_eq_getElem (by omega)]
      rfl
    · rintro ⟨q, q1, q2⟩
      refine ⟨q, by omega, ?_⟩
      rw [← q2, List.getD_eq_getElem?_getD, List.getElem?_eq_getElem (by omega)]
      rfl
  unfold usd
  rw [cntP_or B (fun b hb y z => ?_), cntP_or B (fun b hb y z => ?_), cntP_or B (fun b hb y z => ?_), fxd_cnt hP hr.1 G (Nat.le_refl _), cntP_iv (by omega) B (by omega), cntP_mem _ B k1 (fun b hb => by have := (k2 b hb).2.1; omega), kLs_len hfb _ (Nat.le_refl _), cntP_congr B (fun b _ => htk b), cntP_mem _ B ((rml_nd k).sublist (List.take_sublist _ _)) (fun b hb => by have := (rml_lt (List.mem_of_mem_take hb)).2.1; omega), List.length_take, Nat.min_eq_left hbd]
  · have := (k2 b z).1
    omega
  · obtain ⟨q, q1, q2⟩ := y
    have hm := hrm q q1
    rw [← q2] at hm
    have m1 := rml_lt hm
    rcases z with z | z
    · omega
    · obtain ⟨c, c1, c2, ⟨c3, c4⟩, i, i1, i2, i3⟩ := (rml_mem k).mp hm
      obtain ⟨-, -, -, s, s1, s2, s3, s4⟩ := k2 b z
      have hs : s = c := by
        have g : ∀ u w : Nat, 2 ≤ u → u < w → A + (u - 2) * H + H ≤ A + (w - 2) * H := fun u w a b => by
          have := Nat.mul_le_mul_right H (show u - 2 + 1 ≤ w - 2 by omega)
          rw [Nat.add_mul, Nat.one_mul] at this
          omega
        rcases Nat.lt_trichotomy s c with w | w | w
        · have := g s c s1 w; omega
        · exact w
        · have := g c s c1 w; omega
      rw [hs] at s3
      rcases s3 with s3 | ⟨x, hx⟩
      · exact s3 c3
      · exact c4 x hx
  · rcases z with ⟨q, q1, q2⟩ | z | z
    · have hm := hrm q q1
      rw [← q2] at hm
      exact (rml_lt hm).2.2 y
    · have := hr.2 b hb y
      unfold okBk at this
      omega
    · exact (k2 b z).2.2.1 y
