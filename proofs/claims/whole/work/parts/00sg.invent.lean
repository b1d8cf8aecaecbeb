/-! make: the first candidate that is free. -/
theorem pig : ∀ (n : Nat) (f : Nat → Nat), (∀ i, i ≤ n → f i < n) → ∃ i j, i < j ∧ j ≤ n ∧ f i = f j := by
  intro n
  induction n with
  | zero => intro f h; exact absurd (h 0 (Nat.le_refl _)) (by omega)
  | succ n ih =>
    intro f h
    by_cases w : ∃ i, i ≤ n ∧ f i = f (n + 1)
    · obtain ⟨i, a, b⟩ := w
      exact ⟨i, n + 1, by omega, Nat.le_refl _, b⟩
    · have hne : ∀ i, i ≤ n → f i ≠ f (n + 1) := fun i a b => w ⟨i, a, b⟩
      have hb := h (n + 1) (Nat.le_refl _)
      obtain ⟨i, j, a, b, c⟩ := ih (fun i => if f i = n then f (n + 1) else f i) (fun i hi => by
        show (if f i = n then f (n + 1) else f i) < n
        have h1 := h i (by omega)
        have h2 := hne i hi
        split <;> omega)
      have c : (if f i = n then f (n + 1) else f i) = (if f j = n then f (n + 1) else f j) := c
      have h1 := hne i (by omega)
      have h2 := hne j b
      refine ⟨i, j, a, by omega, ?_⟩
      split at c <;> split at c <;> omega
theorem leastN {P : Nat → Prop} {B : Nat} (h : ∃ m, 1 ≤ m ∧ m ≤ B ∧ ¬ P m) : ∃ m, 1 ≤ m ∧ m ≤ B ∧ ¬ P m ∧ ∀ q, 1 ≤ q → q < m → P q := by
  obtain ⟨m, a, b, c⟩ := h
  induction m using Nat.strongRecOn with
  | ind m ih =>
    by_cases w : ∃ q, 1 ≤ q ∧ q < m ∧ ¬ P q
    · obtain ⟨q, x, y, z⟩ := w
      exact ih q y x (by omega) z
    · exact ⟨m, a, b, c, fun q x y => Classical.byContradiction fun z => w ⟨q, x, y, z⟩⟩
theorem cd_dig {st tl : List Nat} {k j : Nat} (h : j < dg k) : cdN st tl k (ctN st.length k + dg k - j) = 48 + k / 10 ^ j % 10 := by
  unfold cdN cdP
  rw [if_pos (by omega), show ctN st.length k + dg k - (ctN st.length k + dg k - j) = j by omega]
theorem dg_pow {k : Nat} (h : k < 10000) : k < 10 ^ dg k := by
  unfold dg
  split
  · exact Nat.lt_of_lt_of_le ‹_› (by decide)
  · split
    · exact Nat.lt_of_lt_of_le ‹_› (by decide)
    · split
      · exact Nat.lt_of_lt_of_le ‹_› (by decide)
      · exact h
theorem cd_inj {st tl : List Nat} {a b : Nat} (ha : a < 10000) (hb : b < 10000) (h : ∀ q, q < 11 → cdN st tl a q = cdN st tl b q) : a = b := by
  have lt : ∀ {a b : Nat}, dg a < dg b → ¬ ∀ q, q < 11 → cdN st tl a q = cdN st tl b q := fun {a b} hl w => by
    have da := dg_le a
    have db := dg_le b
    have ca : ctN st.length a = min (7 - dg a) st.length := rfl
    have cb : ctN st.length b = min (7 - dg b) st.length := rfl
    generalize ctN st.length a = x at *
    generalize ctN st.length b = y at *
    by_cases e : y < x
    · have := w x (by omega)
      unfold cdN cdP at this
      rw [if_neg (by rw [ca]; unfold ctN; omega), if_pos (by rw [cb] at e; unfold ctN; omega)] at this
      unfold bsN ctN at this
      rw [← ca, if_neg (Nat.lt_irrefl _), if_pos rfl] at this
      omega
    · have e2 : x = y := by omega
      have := w (x + dg a + 1) (by omega)
      unfold cdN cdP at this
      rw [if_neg (by unfold ctN; omega), if_pos (by unfold ctN; omega)] at this
      unfold bsN ctN at this
      rw [if_neg (by omega), if_neg (by omega), if_pos (by omega)] at this
      omega
  rcases Nat.lt_trichotomy (dg a) (dg b) with c | c | c
  · exact absurd h (lt c)
  · have dig : ∀ j, j < dg a → a / 10 ^ j % 10 = b / 10 ^ j % 10 := fun j hj => by
      have h1 := dg_le a
      have e : ctN st.length a = ctN st.length b := by unfold ctN; rw [c]
      have h2 : ctN st.length a + dg a ≤ 7 := by unfold ctN; omega
      have := h (ctN st.length a + dg a - j) (by omega)
      rw [cd_dig hj] at this
      rw [e, c, cd_dig (by omega)] at this
      omega
    have pa := dg_pow ha
    have pb := dg_pow hb
    rw [← c] at pb
    have h1 := dg_le a
    obtain e | e | e | e : dg a = 1 ∨ dg a = 2 ∨ dg a = 3 ∨ dg a = 4 := by omega
    · rw [e] at pa pb dig
      have d0 := dig 0 (by omega)
      simp only [Nat.reducePow] at *
      omega
    · rw [e] at pa pb dig
      have d0 := dig 0 (by omega)
      have d1 := dig 1 (by omega)
      simp only [Nat.reducePow] at *
      omega
    · rw [e] at pa pb dig
      have d0 := dig 0 (by omega)
      have d1 := dig 1 (by omega)
      have d2 := dig 2 (by omega)
      simp only [Nat.reducePow] at *
      omega
    · rw [e] at pa pb dig
      have d0 := dig 0 (by omega)
      have d1 := dig 1 (by omega)
      have d2 := dig 2 (by omega)
      have d3 := dig 3 (by omega)
      simp only [Nat.reducePow] at *
      omega
  · exact absurd (fun q hq => (h q hq).symm) (lt c)
theorem free_cand {D : Nat → Int32} {its : List It} {fk n : Nat} {st tl : List Nat} (hn : n < 4300) : ∃ m, 1 ≤ m ∧ m ≤ n + 1 ∧ ¬ shT D its fk n (cdN st tl m) ∧ ∀ q, 1 ≤ q → q < m → shT D its fk n (cdN st tl q) := by
  refine leastN (P := fun m => shT D its fk n (cdN st tl m)) (Classical.byContradiction fun w => ?_)
  have all : ∀ m, 1 ≤ m → m ≤ n + 1 → shT D its fk n (cdN st tl m) := fun m a b => Classical.byContradiction fun c => w ⟨m, a, b, c⟩
  have ex : ∀ i, ∃ j, i ≤ n → fk ≤ j ∧ j < fk + n ∧ ∀ q, q < 11 → o1 D (isp (itr its j) + q) = cdN st tl (i + 1) q := fun i => by
    by_cases c : i ≤ n
    · obtain ⟨j, h⟩ := all (i + 1) (by omega) (by omega)
      exact ⟨j, fun _ => h⟩
    · exact ⟨0, fun y => absurd y c⟩
  obtain ⟨i, j, a, b, c⟩ := pig n (fun i => Classical.choose (ex i) - fk) (fun i hi => by
    have := Classical.choose_spec (ex i) hi
    show Classical.choose (ex i) - fk < n
    omega)
  have c : Classical.choose (ex i) - fk = Classical.choose (ex j) - fk := c
  obtain ⟨p1, p2, p3⟩ := Classical.choose_spec (ex i) (by omega)
  obtain ⟨q1, q2, q3⟩ := Classical.choose_spec (ex j) b
  have e : Classical.choose (ex i) = Classical.choose (ex j) := by omega
  rw [e] at p3
  have := cd_inj (st := st) (tl := tl) (a := i + 1) (b := j + 1) (by omega) (by omega) fun q hq => by rw [← p3 q hq, ← q3 q hq]
  omega
theorem dg_next {n : Nat} (h : n < 9999) : (n + 1 = 10 ^ dg n ∧ dg (n + 1) = dg n + 1) ∨ (n + 1 ≠ 10 ^ dg n ∧ dg (n + 1) = dg n) := by
  unfold dg
  by_cases a : n < 10
  · rw [if_pos a]
    by_cases b : n = 9
    · exact Or.inl ⟨by rw [b], by rw [b]; rfl⟩
    · exact Or.inr ⟨by simp only [Nat.reducePow]; omega, by rw [if_pos (by omega)]⟩
  rw [if_neg a, if_neg (show ¬ n + 1 < 10 by omega)]
  by_cases a2 : n < 100
  · rw [if_pos a2]
    by_cases b : n = 99
    · exact Or.inl ⟨by rw [b], by rw [b]; rfl⟩
    · exact Or.inr ⟨by simp only [Nat.reducePow]; omega, by rw [if_pos (by omega)]⟩
  rw [if_neg a2, if_neg (show ¬ n + 1 < 100 by omega)]
  by_cases a3 : n < 1000
  · rw [if_pos a3]
    by_cases b : n = 999
    · exact Or.inl ⟨by rw [b], by rw [b]; rfl⟩
    · exact Or.inr ⟨by simp only [Nat.reducePow]; omega, by rw [if_pos (by omega)]⟩
  rw [if_neg a3, if_neg (show ¬ n + 1 < 1000 by omega)]
  exact Or.inr ⟨by simp only [Nat.reducePow]; omega, rfl⟩
/-! the reference's search -/
theorem qM_search {K N i fk n m : Nat} {its : List It} {D : Nat → Int32} {st tl : List Nat} {T : MS} (hK : 20000 ≤ K) (hN : N ≤ 1024) (hT : rmI its T) (ho : itsOk N its) (hD : T.v_disk = D) (hi : i < 4200) (hf : T.v_firstKid i = nI fk) (hn : T.v_kids i = nI n) (h1 : 1 ≤ fk) (h2 : fk + n ≤ its.length) (hs : ∀ i, i < st.length → T.v_stem i = nI (st.getD i 0)) (ht : ∀ i, i < tl.length → T.v_tail i = nI (tl.getD i 0)) (hsl : st.length ≤ 255) (htl : tl.length ≤ 3) (hsg : ∀ u ∈ st, sgP u) (htg : ∀ u ∈ tl, sgP u) (hm : m < 9999) (hno : ¬ shT D its fk n (cdN st tl m)) : ∀ (e q k : Nat) (g0 : Nat → Int32), q + e = m → 1 ≤ q → e + 1 < k → (∀ r, q ≤ r → r < m → shT D its fk n (cdN st tl r)) → ∃ g, (∀ r, r < 11 → g r = nI (cdN st tl m r)) ∧ f_Mo_shorten_176 K k (nI i) (nI st.length) (nI tl.length) 1 (nI q) (T.u_v_brief g0) = some (T.u_v_brief g) := by
  intro e
  induction e with
  | zero =>
    intro q k g0 a1 a2 a3 a4
    obtain ⟨k, rfl⟩ : ∃ x, k = x + 2 := ⟨k - 2, by omega⟩
    obtain rfl : q = m := by omega
    obtain ⟨g, b1, b2⟩ := qM_cand (K := K) (p := nI i) (T := T.u_v_brief g0) (st := st) (tl := tl) (rc := f_Mo_shorten_176 K (k + 1)) hK hs ht hsl htl a2 (by omega)
    refine ⟨g, b1, ?_⟩
    have bt := qM_briefTaken (K := K) (T := T.u_v_brief g) (b := cdN st tl q) (by omega) hN hT ho hD hi hf hn h1 h2 b1 (fun r _ => Nat.lt_trans (cd_lt hsg htg q r) (by decide))
    rw [f_Mo_shorten_176, if_neg (by decide), b2]
    show lf_c (f_Mo_isBriefTaken K (T.u_v_brief g) (nI i)) _ = _
    rw [bt, q_c, b01_f hno, f_Mo_shorten_176, if_pos (show nI 0 = 0 from rfl)]
  | succ e ih =>
    intro q k g0 a1 a2 a3 a4
    obtain ⟨k, rfl⟩ : ∃ x, k = x + 1 := ⟨k - 1, by omega⟩
    obtain ⟨g, b1, b2⟩ := qM_cand (K := K) (p := nI i) (T := T.u_v_brief g0) (st := st) (tl := tl) (rc := f_Mo_shorten_176 K k) hK hs ht hsl htl a2 (by omega)
    have bt := qM_briefTaken (K := K) (T := T.u_v_brief g) (b := cdN st tl q) (by omega) hN hT ho hD hi hf hn h1 h2 b1 (fun r _ => Nat.lt_trans (cd_lt hsg htg q r) (by decide))
    obtain ⟨g', c1, c2⟩ := ih (q + 1) k g (by omega) (by omega) (by omega) (fun r x y => a4 r (by omega) y)
    refine ⟨g', c1, ?_⟩
    rw [f_Mo_shorten_176, if_neg (by decide), b2]
    show lf_c (f_Mo_isBriefTaken K (T.u_v_brief g) (nI i)) _ = _
    rw [bt, q_c, b01_t (a4 q (Nat.le_refl _) (by omega))]
    exact c2
