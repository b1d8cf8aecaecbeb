/-! make: a candidate of a short name, the reference. -/
def dg (k : Nat) : Nat := if k < 10 then 1 else if k < 100 then 2 else if k < 1000 then 3 else 4
theorem dg_le (k : Nat) : 1 ≤ dg k ∧ dg k ≤ 4 := by unfold dg; split <;> (try split) <;> (try split) <;> omega
def ctN (s k : Nat) : Nat := min (7 - dg k) s
def bsN (st tl : List Nat) (c r : Nat) : Nat := if r < c then st.getD r 0 else if r = c then 126 else if r ≤ 7 then 32 else tl.getD (r - 8) 32
def cdP (st tl : List Nat) (c d k i r : Nat) : Nat := if c < r ∧ r ≤ c + i then 48 + k / 10 ^ (c + d - r) % 10 else bsN st tl c r
def cdN (st tl : List Nat) (k q : Nat) : Nat := cdP st tl (ctN st.length k) (dg k) k (dg k) q
theorem q_m10 {a : Nat} (ha : a < 2 ^ 31) : nI a - nI a / 10 * 10 = nI (a % 10) := by
  rw [show (10 : Int32) = nI 10 from rfl, pk_div ha (by decide) (by decide), pk_mul, pk_sub (by omega)]
  congr 1
  omega
theorem cd_lt {st tl : List Nat} (hs : ∀ u ∈ st, sgP u) (ht : ∀ u ∈ tl, sgP u) (k q : Nat) : cdN st tl k q < 256 := by
  have A : ∀ (l : List Nat) (i x : Nat), (∀ u ∈ l, sgP u) → x < 256 → l.getD i x < 256 := fun l i x h hx => by
    rw [List.getD_eq_getElem?_getD]
    cases e : l[i]? with
    | none => exact hx
    | some u =>
      have := sg_lt (h u (List.mem_of_getElem? e))
      show u < 256
      omega
  unfold cdN cdP bsN
  split
  · omega
  · split
    · exact A _ _ _ hs (by decide)
    · split
      · decide
      · split
        · decide
        · exact A _ _ _ ht (by decide)
theorem qM_187 {K k s : Nat} {p t : Int32} {T : MS} {rc : Int32 → Int32 → Int32 → Int32 → Int32 → MS → Option MS} (hK : 20000 ≤ K) (h1 : 1 ≤ k) (h2 : k < 10000) (hs : s ≤ 255) : f_Mo_shorten_187 K rc K p (nI s) t (nI k) 1 1 T = f_Mo_shorten_228 K rc p (nI s) t (nI k) (nI (dg k)) (nI (10 ^ (dg k - 1))) (nI (ctN s k)) T := by
  have st1 : ∀ k' d w, 1 ≤ w → w ≤ 1000 → 1 ≤ d → d ≤ 4 → k / w ≤ 9 → f_Mo_shorten_187 K rc (k' + 1) p (nI s) t (nI k) (nI d) (nI w) T = f_Mo_shorten_228 K rc p (nI s) t (nI k) (nI d) (nI w) (nI (min (7 - d) s)) T := fun k' d w a b c1 c2 c => by
    rw [f_Mo_shorten_187, q_g (nI_ne0 (by omega) (by omega)), pk_div (by omega) (by omega) (by omega), if_pos (show nI (k / w) ≤ 9 from nI_le (b := 9) c (by decide)), show (7 : Int32) = nI 7 from rfl, pk_sub (by omega)]
    by_cases e : 7 - d ≤ s
    · rw [if_pos (nI_le e (by omega)), Nat.min_eq_left e]
    · rw [if_neg (nI_ge (by omega) (by omega)), Nat.min_eq_right (by omega)]
  have st2 : ∀ k' d w, 1 ≤ w → w ≤ 1000 → ¬ k / w ≤ 9 → f_Mo_shorten_187 K rc (k' + 1) p (nI s) t (nI k) (nI d) (nI w) T = f_Mo_shorten_187 K rc k' p (nI s) t (nI k) (nI (d + 1)) (nI (w * 10)) T := fun k' d w a b c => by
    have : k / w ≤ k := Nat.div_le_self _ _
    rw [f_Mo_shorten_187, q_g (nI_ne0 (by omega) (by omega)), pk_div (by omega) (by omega) (by omega), if_neg (show ¬ nI (k / w) ≤ 9 from nI_ge (a := 9) (by omega) (by omega)), q_l, q_l, nI_1, show (10 : Int32) = nI 10 from rfl, pk_mul]
  obtain ⟨K', hK'⟩ : ∃ m, K = m + 1 + 1 + 1 + 1 := ⟨K - 4, by omega⟩
  have go : ∀ q, q = K → f_Mo_shorten_187 K rc q p (nI s) t (nI k) (nI 1) (nI 1) T = f_Mo_shorten_228 K rc p (nI s) t (nI k) (nI (dg k)) (nI (10 ^ (dg k - 1))) (nI (ctN s k)) T := fun q hq => by
    rw [hq.trans hK']
    unfold ctN dg
    by_cases a : k < 10
    · rw [st1 _ 1 1 (by omega) (by omega) (by omega) (by omega) (by omega)]
      simp only [if_pos a]
    rw [st2 _ 1 1 (by omega) (by omega) (by omega)]
    by_cases b : k < 100
    · rw [st1 _ 2 (1 * 10) (by omega) (by omega) (by omega) (by omega) (by omega)]
      simp only [if_neg a, if_pos b]
    rw [st2 _ 2 (1 * 10) (by omega) (by omega) (by omega)]
    by_cases c : k < 1000
    · rw [st1 _ 3 (1 * 10 * 10) (by omega) (by omega) (by omega) (by omega) (by omega)]
      simp only [if_neg a, if_neg b, if_pos c]
    rw [st2 _ 3 (1 * 10 * 10) (by omega) (by omega) (by omega), st1 _ 4 (1 * 10 * 10 * 10) (by omega) (by omega) (by omega) (by omega) (by omega)]
    simp only [if_neg a, if_neg b, if_neg c]
  exact go K rfl
theorem qM_233 {K c : Nat} {p a5 a6 a7 : Int32} {T : MS} {st tl : List Nat} {rc : Int32 → Int32 → Int32 → Int32 → Int32 → MS → Option MS} (hs : ∀ i, i < st.length → T.v_stem i = nI (st.getD i 0)) (ht : ∀ i, i < tl.length → T.v_tail i = nI (tl.getD i 0)) (hsl : st.length ≤ 255) (htl : tl.length ≤ 3) (hc : c ≤ 7) (hcs : c ≤ st.length) : ∀ (e q k : Nat) (g : Nat → Int32), q + e = 11 → e < k → (∀ r, r < q → g r = nI (bsN st tl c r)) → ∃ g', (∀ r, r < 11 → g' r = nI (bsN st tl c r)) ∧ f_Mo_shorten_233 K rc k p (nI st.length) (nI tl.length) a5 a6 a7 (nI c) (nI q) (T.u_v_brief g) = f_Mo_shorten_317 K rc K p (nI st.length) (nI tl.length) a5 a6 a7 (nI c) 0 (T.u_v_brief g') := by
  intro e
  induction e with
  | zero =>
    intro q k g h1 h2 h3
    obtain ⟨k, rfl⟩ : ∃ m, k = m + 1 := ⟨k - 1, by omega⟩
    obtain rfl : q = 11 := by omega
    exact ⟨g, h3, by rw [f_Mo_shorten_233, if_pos (show (11 : Int32) ≤ nI 11 by decide)]⟩
  | succ e ih =>
    intro q k g h1 h2 h3
    obtain ⟨k, rfl⟩ : ∃ m, k = m + 1 := ⟨k - 1, by omega⟩
    have go : ∀ w : Int32, w = nI (bsN st tl c q) → ∃ g', (∀ r, r < 11 → g' r = nI (bsN st tl c r)) ∧ f_Mo_shorten_307 K rc (f_Mo_shorten_233 K rc k) p (nI st.length) (nI tl.length) a5 a6 a7 (nI c) (nI q) (nI q) w (T.u_v_brief g) = f_Mo_shorten_317 K rc K p (nI st.length) (nI tl.length) a5 a6 a7 (nI c) 0 (T.u_v_brief g') := fun w ew => by
      unfold f_Mo_shorten_307
      rw [q_g (q_in (by omega) (by decide)), q_l, q_l, nI_1, nI_clamp (by omega)]
      refine ih (q + 1) k (upd g q w) (by omega) (by omega) fun r hr => ?_
      by_cases er : r = q
      · rw [er, upE, ew]
      · rw [upN er]; exact h3 r (by omega)
    rw [f_Mo_shorten_233, if_neg (show ¬ (11 : Int32) ≤ nI q from nI_ge (show q < 11 by omega) (by decide))]
    unfold f_Mo_shorten_305
    by_cases c1 : c ≤ q
    · rw [if_pos (nI_le c1 (by omega))]
      by_cases c2 : q = c
      · rw [if_pos (by rw [c2])]
        refine go _ ?_
        unfold bsN
        rw [if_neg (by omega), if_pos c2]
        rfl
      rw [if_neg (fun y => c2 ((nI_eq (by omega) (by omega)).mp y))]
      by_cases c3 : q ≤ 7
      · rw [if_pos (show nI q ≤ 7 from nI_le (b := 7) c3 (by decide))]
        refine go _ ?_
        unfold bsN
        rw [if_neg (by omega), if_neg c2, if_pos c3]
        rfl
      rw [if_neg (show ¬ nI q ≤ 7 from nI_ge (a := 7) (by omega) (by omega)), show (8 : Int32) = nI 8 from rfl, pk_sub (by omega)]
      by_cases c4 : tl.length ≤ q - 8
      · rw [if_pos (nI_le c4 (by omega))]
        refine go _ ?_
        unfold bsN
        rw [if_neg (by omega), if_neg c2, if_neg c3, List.getD_eq_getElem?_getD, List.getElem?_eq_none (by omega)]
        rfl
      · rw [if_neg (nI_ge (by omega) (by omega)), q_g (q_in (by omega) (by decide)), nI_clamp (show q - 8 < 2 ^ 31 by omega)]
        refine go _ ?_
        unfold bsN
        rw [if_neg (by omega), if_neg c2, if_neg c3, show (T.u_v_brief g).v_tail (q - 8) = _ from ht (q - 8) (by omega), List.getD_eq_getElem?_getD, List.getD_eq_getElem?_getD, List.getElem?_eq_getElem (by omega)]
        rfl
    · rw [if_neg (nI_ge (by omega) (by omega)), q_g (q_in (by omega) (by decide)), nI_clamp (show q < 2 ^ 31 by omega)]
      refine go _ ?_
      unfold bsN
      rw [if_pos (by omega), show (T.u_v_brief g).v_stem q = _ from hs q (by omega)]
theorem qM_317 {K c d n : Nat} {p : Int32} {T : MS} {st tl : List Nat} {rc : Int32 → Int32 → Int32 → Int32 → Int32 → MS → Option MS} (hd : d ≤ 4) (hd1 : 1 ≤ d) (hn : n < 10000) (hc : c + d ≤ 7) : ∀ (e i k : Nat) (g : Nat → Int32), i + e = d → e < k → (∀ r, r < 11 → g r = nI (cdP st tl c d n i r)) → ∃ g', (∀ r, r < 11 → g' r = nI (cdP st tl c d n d r)) ∧ f_Mo_shorten_317 K rc k p (nI st.length) (nI tl.length) (nI n) (nI d) (nI (10 ^ (d - 1) / 10 ^ i)) (nI c) (nI i) (T.u_v_brief g) = lf_c (f_Mo_isBriefTaken K (T.u_v_brief g') p) fun r S => rc p (nI st.length) (nI tl.length) r (nI (n + 1)) S := by
  intro e
  induction e with
  | zero =>
    intro i k g h1 h2 h3
    obtain ⟨k, rfl⟩ : ∃ m, k = m + 1 := ⟨k - 1, by omega⟩
    obtain rfl : i = d := by omega
    refine ⟨g, h3, ?_⟩
    rw [f_Mo_shorten_317, if_pos (Int32.le_refl _)]
    simp only [q_l, nI_1]
  | succ e ih =>
    intro i k g h1 h2 h3
    obtain ⟨k, rfl⟩ : ∃ m, k = m + 1 := ⟨k - 1, by omega⟩
    have hw : 10 ^ (d - 1) / 10 ^ i = 10 ^ (d - 1 - i) := Nat.pow_div (by omega) (by decide)
    have hp1 : 1 ≤ 10 ^ (d - 1 - i) := Nat.pow_pos (by decide)
    have hp2 : 10 ^ (d - 1 - i) ≤ 1000 := Nat.pow_le_pow_right (n := 10) (by decide) (show d - 1 - i ≤ 3 by omega)
    have hnx : 10 ^ (d - 1) / 10 ^ i / 10 = 10 ^ (d - 1) / 10 ^ (i + 1) := by rw [Nat.div_div_eq_div_mul, Nat.pow_succ]
    have hw0 : ¬ nI (10 ^ (d - 1) / 10 ^ i) = 0 := by rw [hw]; exact nI_ne0 (by omega) (by omega)
    have hdv : nI n / nI (10 ^ (d - 1) / 10 ^ i) = nI (n / 10 ^ (d - 1 - i)) := by rw [hw]; exact pk_div (by omega) (by omega) (by omega)
    have hle : n / 10 ^ (d - 1 - i) ≤ n := Nat.div_le_self _ _
    have hdx : nI (10 ^ (d - 1) / 10 ^ i) / 10 = nI (10 ^ (d - 1) / 10 ^ (i + 1)) := by rw [← hnx]; exact pk_div (by rw [hw]; omega) (by decide) (by decide)
    rw [f_Mo_shorten_317, if_neg (nI_ge (show i < d by omega) (by omega)), q_g hw0, nI_1, nI_add, q_g (q_in (by omega) (by decide)), q_l, q_l, q_l, hdv, q_m10 (by omega), hdx, nI_1, nI_clamp (by omega), show (48 : Int32) = nI 48 from rfl, nI_add]
    refine ih (i + 1) k (upd g (c + 1 + i) (nI (48 + n / 10 ^ (d - 1 - i) % 10))) (by omega) (by omega) fun r hr => ?_
    by_cases er : r = c + 1 + i
    · rw [er, upE]
      unfold cdP
      rw [if_pos (by omega), show c + d - (c + 1 + i) = d - 1 - i by omega]
    · rw [upN er, h3 r hr]
      unfold cdP
      by_cases x : c < r ∧ r ≤ c + i
      · rw [if_pos x, if_pos (by omega)]
      · rw [if_neg x, if_neg (by omega)]
theorem qM_cand {K n : Nat} {p : Int32} {T : MS} {st tl : List Nat} {rc : Int32 → Int32 → Int32 → Int32 → Int32 → MS → Option MS} (hK : 20000 ≤ K) (hs : ∀ i, i < st.length → T.v_stem i = nI (st.getD i 0)) (ht : ∀ i, i < tl.length → T.v_tail i = nI (tl.getD i 0)) (hsl : st.length ≤ 255) (htl : tl.length ≤ 3) (h1 : 1 ≤ n) (h2 : n < 10000) : ∃ g, (∀ r, r < 11 → g r = nI (cdN st tl n r)) ∧ f_Mo_shorten_187 K rc K p (nI st.length) (nI tl.length) (nI n) 1 1 T = lf_c (f_Mo_isBriefTaken K (T.u_v_brief g) p) fun r S => rc p (nI st.length) (nI tl.length) r (nI (n + 1)) S := by
  have hd := dg_le n
  have hc : ctN st.length n + dg n ≤ 7 := by unfold ctN; omega
  have hcs : ctN st.length n ≤ st.length := by unfold ctN; omega
  obtain ⟨g1, a1, a2⟩ := qM_233 (K := K) (p := p) (a5 := nI n) (a6 := nI (dg n)) (a7 := nI (10 ^ (dg n - 1))) (rc := rc) (T := T) hs ht hsl htl (show ctN st.length n ≤ 7 by omega) hcs 11 0 K T.v_brief rfl (by omega) (fun r hr => absurd hr (by omega))
  obtain ⟨g2, b1, b2⟩ := qM_317 (K := K) (p := p) (rc := rc) (T := T) (st := st) (tl := tl) hd.2 hd.1 h2 hc (dg n) 0 K g1 (by omega) (by omega) (fun r hr => by
    rw [a1 r hr]
    unfold cdP
    rw [if_neg (by omega)])
  refine ⟨g2, b1, ?_⟩
  rw [qM_187 hK h1 h2 hsl]
  unfold f_Mo_shorten_228
  rw [Nat.pow_zero, Nat.div_one] at b2
  exact a2.trans b2
