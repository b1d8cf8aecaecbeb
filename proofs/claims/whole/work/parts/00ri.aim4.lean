def fSt (T : MS) (mo ai : Nat → Int32) (m : Int32) : MS := ((T.u_v_moved mo).u_v_aimed ai).u_v_moves m
/-- the reference's search from what is built on -/
def fnTl (K : Nat) (S : MS) : Option (Int32 × MS) := lf_c (f_Mo_recordBlocks K S) fun r_9 S_9 => (f_Mo_indirect K r_9).bind fun r_10 => lf_l (S_9.u_v_builds (3 + r_10)) fun S_11 => lf_l (S_11.u_v_kept ((S_11.v_a / 2) - 3)) fun S_12 => f_Mo_finds_177 K K 0 S_12
/-- what the reference's search asks for -/
abbrev aimM (A H k B P G r K : Nat) (fx : Nat → Prop) (e : Nat → Nat) (T : MS) : Prop := plN A H k B P G r ∧ plM A H k B P G r T ∧ (∀ b, b < 512 → T.v_fixed b = b01 (fx b)) ∧ (∀ T' : MS, T'.v_disk = T.v_disk → T'.v_v = T.v_v → T'.v_z = T.v_z → ∀ y, y < k + 2 → f_Mo_entry K T' (nI y) = some (nI (e y), T')) ∧ (∀ x, e x < 2 ^ 28)
theorem qM_fn67 {K A H k B P G r n to c : Nat} {fx : Nat → Prop} {e gl : Nat → Nat} {T : MS} (hK : 100 ≤ K) (h : aimM A H k B P G r K fx e T) (hR : aimR A H k fx e n to gl) (hai : ∀ t, 2 ≤ t → t < 560 → (T.v_aimed t = 0 ↔ ¬ ∃ x, gl x = t)) (rec : Int32 → MS → Option (Int32 × MS)) : ∀ (d s q : Nat), s + d = k + 2 → d < q → 2 ≤ s → (∀ t, fsA A H k fx e to t → s ≤ t → f_Mo_finds_67 K rec q (nI c) (nI s) T = f_Mo_finds_108 K rec (nI c) (nI t) T) ∧ ((¬ ∃ t, fsA A H k fx e to t) → f_Mo_finds_67 K rec q (nI c) (nI s) T = f_Mo_finds_108 K rec (nI c) (nI (k + 2)) T) := by
  obtain ⟨hP, hT, hf, hent, he⟩ := h
  have hk5 := hP.2.2.1
  obtain ⟨r1, r2, r3, r4, r5, r6⟩ := aimR_inv n to gl hR
  intro d
  induction d with
  | zero =>
    intro s q h1 h2 h3
    obtain ⟨q, rfl⟩ : ∃ m, q = m + 1 := ⟨q - 1, by omega⟩
    obtain rfl : s = k + 2 := by omega
    refine ⟨fun t f hst => by have := f.2.1; omega, fun _ => ?_⟩
    rw [f_Mo_finds_67, hT.2.2.1, show (2 : Int32) = nI 2 from rfl, nI_add, if_pos (Int32.le_refl _)]
  | succ d ih =>
    intro s q h1 h2 h3
    obtain ⟨q, rfl⟩ : ∃ m, q = m + 1 := ⟨q - 1, by omega⟩
    have hs : s < k + 2 := by omega
    have hes := he s
    obtain ⟨i1, i2⟩ := ih (s + 1) q (by omega) (by omega) (by omega)
    have hh := qM_isFx (K := K) (T := T) hK hP hT hf h3 hs
    have hst : f_Mo_finds_67 K rec (q + 1) (nI c) (nI s) T = cif (avl A H fx e s ∧ ¬ ∃ x, gl x = s) (f_Mo_finds_108 K rec (nI c) (nI s) T) (f_Mo_finds_67 K rec q (nI c) (nI (s + 1)) T) := by
      rw [f_Mo_finds_67]
      unfold f_Mo_finds_102
      rw [hT.2.2.1, show (2 : Int32) = nI 2 from rfl, nI_add, if_neg (nI_ge hs (by omega)), hent T rfl rfl rfl s hs, q_c, hh, q_c, q_g (q_in (by omega) (by decide)), nI_clamp (by omega), nI_1, q_l]
      by_cases w : e s = 0
      rotate_left
      · rw [if_neg (nI_ne0 (by omega) (by omega)), cif_f (fun y => w y.1.1)]
      rw [if_pos (show nI (e s) = 0 by rw [w]; rfl)]
      by_cases g : hfx A H fx s
      · rw [b01_t g, if_neg (show ¬ nI 1 = 0 by decide), cif_f (fun y => y.1.2 g)]
      rw [b01_f g, if_pos (show nI 0 = 0 from rfl)]
      by_cases y : ∃ x, gl x = s
      · rw [if_neg (fun z => ((hai s h3 (by omega)).mp z) y), cif_f (fun z => z.2 y)]
      · rw [if_pos ((hai s h3 (by omega)).mpr y), cif_t ⟨⟨w, g⟩, y⟩]
    rw [hst]
    by_cases w : avl A H fx e s ∧ ¬ ∃ x, gl x = s
    · rw [cif_t w]
      have hto : to ≤ s := Nat.le_of_not_lt fun z => w.2 (r5 s h3 z w.1)
      refine ⟨fun t f hst => ?_, fun y => absurd ?_ y⟩
      · have : t = s := Classical.byContradiction fun z => f.2.2.2 s hto (by omega) w.1
        rw [this]
      · -- the least one from to on
        have key : ∀ d u, u + d = s → to ≤ u → (∀ y, to ≤ y → y < u → ¬ avl A H fx e y) → ∃ t, fsA A H k fx e to t := by
          intro d
          induction d with
          | zero =>
            intro u u1 u2 u3
            have u1 : u = s := u1
            exact ⟨s, hto, hs, w.1, fun y a b => u3 y a (by omega)⟩
          | succ d ihd =>
            intro u u1 u2 u3
            by_cases z : avl A H fx e u
            · exact ⟨u, u2, by omega, z, u3⟩
            · exact ihd (u + 1) (by omega) (by omega) (fun y a b => by
                by_cases e1 : y = u
                · rw [e1]; exact z
                · exact u3 y a (by omega))
        exact key (s - to) to (by omega) (Nat.le_refl _) (fun y a b => by omega)
    · rw [cif_f w]
      refine ⟨fun t f hst => i1 t f ?_, i2⟩
      by_cases e1 : t = s
      · exfalso
        rw [e1] at f
        refine w ⟨f.2.2.1, fun ⟨x, hx⟩ => ?_⟩
        have := (r3 x (by rw [hx]; omega)).2.2.2.2.2
        have := f.1
        omega
      · omega
theorem qM_fn36 {K A H k B P G r : Nat} {fx : Nat → Prop} {e : Nat → Nat} {T : MS} (hK : 2000 ≤ K) (h : aimM A H k B P G r K fx e T) : ∀ (d n q to : Nat) (gl : Nat → Nat) (mo ai : Nat → Int32), n + d = k → d < q → aimR A H k fx e n to gl → (∀ c, c < 560 → mo c = nI (gl c)) → (∀ t, 2 ≤ t → t < 560 → (ai t = 0 ↔ ¬ ∃ x, gl x = t)) → (∃ to' gl' mo' ai', aimR A H k fx e k to' gl' ∧ (∀ c, c < 560 → mo' c = nI (gl' c)) ∧ (∀ t, 2 ≤ t → t < 560 → (ai' t = 0 ↔ ¬ ∃ x, gl' x = t)) ∧ f_Mo_finds_36 K q (nI (n + 2)) (fSt T mo ai (nI (mvN A H fx e n))) = fnTl K (fSt T mo' ai' (nI (mvN A H fx e k)))) ∨ (∃ i mo' ai' m', i < k ∧ aimB A H k fx e i ∧ f_Mo_finds_36 K q (nI (n + 2)) (fSt T mo ai (nI (mvN A H fx e n))) = some (0, fSt T mo' ai' m')) := by
  have h0 := h
  obtain ⟨hP, hT, hf, hent, he⟩ := h
  have hk5 := hP.2.2.1
  intro d
  induction d with
  | zero =>
    intro n q to gl mo ai h1 h2 hR hmo hai
    obtain ⟨q, rfl⟩ : ∃ m, q = m + 1 := ⟨q - 1, by omega⟩
    obtain rfl : n = k := by omega
    refine Or.inl ⟨to, gl, mo, ai, hR, hmo, hai, ?_⟩
    rw [f_Mo_finds_36, show (fSt T mo ai (nI (mvN A H fx e n))).v_k = nI n from hT.2.2.1, show (2 : Int32) = nI 2 from rfl, nI_add, if_pos (Int32.le_refl _)]
    rfl
  | succ d ih =>
    intro n q to gl mo ai h1 h2 hR hmo hai
    obtain ⟨q, rfl⟩ : ∃ m, q = m + 1 := ⟨q - 1, by omega⟩
    have hc : n + 2 < k + 2 := by omega
    have hec := he (n + 2)
    obtain ⟨r1, r2, r3, r4, r5, r6⟩ := aimR_inv n to gl hR
    obtain ⟨T1, eT⟩ : ∃ T1, fSt T mo ai (nI (mvN A H fx e n)) = T1 := ⟨_, rfl⟩
    have h1' : aimM A H k B P G r K fx e T1 := by rw [← eT]; exact h0
    have hh := qM_isFx (K := K) (T := T1) (by omega) hP h1'.2.1 h1'.2.2.1 (show 2 ≤ n + 2 by omega) hc
    have hai1 : ∀ t, 2 ≤ t → t < 560 → (T1.v_aimed t = 0 ↔ ¬ ∃ x, gl x = t) := by rw [← eT]; exact hai
    have hmv : mvN A H fx e n ≤ n := cntP_le _ _
    rw [eT, f_Mo_finds_36, h1'.2.1.2.2.1, show (2 : Int32) = nI 2 from rfl, nI_add, if_neg (nI_ge hc (by omega)), h1'.2.2.2.1 T1 rfl rfl rfl _ hc, q_c, hh, q_c]
    by_cases w : obs A H fx e (n + 2)
    rotate_left
    · have hm1 : mvN A H fx e (n + 1) = mvN A H fx e n := by
        show cntP _ (n + 1) = _
        rw [cntP, cif_f w]
        rfl
      have hnx := ih (n + 1) q to gl mo ai (by omega) (by omega) ⟨to, gl, hR, Or.inl ⟨w, rfl, rfl⟩⟩ hmo hai
      rw [hm1, eT] at hnx
      have hsame : (if nI (e (n + 2)) = 0 then f_Mo_finds_144 K (f_Mo_finds_36 K q) (nI (n + 2)) T1 else if b01 (hfx A H fx (n + 2)) = 0 then f_Mo_finds_144 K (f_Mo_finds_36 K q) (nI (n + 2)) T1 else f_Mo_finds_67 K (f_Mo_finds_36 K q) K (nI (n + 2)) (nI 2) T1) = f_Mo_finds_36 K q (nI (n + 1 + 2)) T1 := by
        unfold f_Mo_finds_144
        rw [nI_1, q_l]
        by_cases e0 : e (n + 2) = 0
        · rw [if_pos (show nI (e (n + 2)) = 0 by rw [e0]; rfl)]
        · rw [if_neg (nI_ne0 (by omega) (by omega)), b01_f (fun y => w ⟨e0, y⟩), if_pos (show nI 0 = 0 from rfl)]
      rw [hsame]
      exact hnx
    rw [if_neg (nI_ne0 (by have := w.1; omega) (by omega)), b01_t w.2, if_neg (show ¬ nI 1 = 0 by decide)]
    obtain ⟨s1, s2⟩ := qM_fn67 (K := K) (c := n + 2) (by omega) h1' hR hai1 (f_Mo_finds_36 K q) k 2 K (by omega) (by omega) (Nat.le_refl _)
    by_cases y : ∃ t, fsA A H k fx e to t
    rotate_left
    · rw [s2 y]
      unfold f_Mo_finds_108
      rw [h1'.2.1.2.2.1, show (2 : Int32) = nI 2 from rfl, nI_add, if_pos rfl]
      exact Or.inr ⟨n, mo, ai, _, by omega, ⟨to, gl, hR, w, y⟩, by rw [← eT]⟩
    obtain ⟨t, ft⟩ := y
    have ht2 : 2 ≤ t := by have := ft.1; omega
    have htk := ft.2.1
    have hm1 : mvN A H fx e (n + 1) = mvN A H fx e n + 1 := by
      show cntP _ (n + 1) = _
      rw [cntP, cif_t w]
    rw [s1 t ft ht2]
    have hgo : f_Mo_finds_108 K (f_Mo_finds_36 K q) (nI (n + 2)) (nI t) T1 = f_Mo_finds_36 K q (nI (n + 1 + 2)) (fSt T (upd mo (n + 2) (nI t)) (upd ai t (nI (n + 2))) (nI (mvN A H fx e (n + 1)))) := by
      unfold f_Mo_finds_108 f_Mo_finds_144
      rw [h1'.2.1.2.2.1, show (2 : Int32) = nI 2 from rfl, nI_add, if_neg (fun z => by have := (nI_eq (by omega) (by omega)).mp z; omega), q_g (q_in (by omega) (by decide)), q_l, q_g (q_in (by omega) (by decide)), q_l, q_l, nI_1, q_l, nI_clamp (by omega), nI_clamp (by omega), hm1]
      have e9 : nI (mvN A H fx e n) + 1 = nI (mvN A H fx e n + 1) := nI_1 _
      rw [← e9, ← eT]
      rfl
    rw [hgo]
    refine ih (n + 1) q (t + 1) (uN gl (n + 2) t) (upd mo (n + 2) (nI t)) (upd ai t (nI (n + 2))) (by omega) (by omega) ⟨to, gl, hR, Or.inr ⟨w, t, ft, rfl, rfl⟩⟩ (fun c c1 => ?_) (fun u u1 u2 => ?_)
    · show upd mo (n + 2) (nI t) c = nI (if c = n + 2 then t else gl c)
      by_cases e1 : c = n + 2
      · rw [if_pos e1, e1, pk_us]
      · rw [if_neg e1, pk_un e1]; exact hmo c c1
    · have hz : gl (n + 2) = 0 := Classical.byContradiction fun z => by
        have := (r3 _ z).2.1
        omega
      have hex : (∃ x, uN gl (n + 2) t x = u) ↔ ((∃ x, gl x = u) ∨ u = t) := by
        constructor
        · rintro ⟨x, hx⟩
          have hx : (if x = n + 2 then t else gl x) = u := hx
          by_cases e1 : x = n + 2
          · rw [if_pos e1] at hx; exact Or.inr hx.symm
          · rw [if_neg e1] at hx; exact Or.inl ⟨x, hx⟩
        · rintro (⟨x, hx⟩ | e1)
          · refine ⟨x, ?_⟩
            show (if x = n + 2 then t else gl x) = u
            rw [if_neg (fun e1 => by rw [e1, hz] at hx; omega)]
            exact hx
          · refine ⟨n + 2, ?_⟩
            show (if n + 2 = n + 2 then t else gl (n + 2)) = u
            rw [if_pos rfl, e1]
      rw [hex]
      by_cases e1 : u = t
      · rw [e1, pk_us]
        exact ⟨fun z => absurd z (nI_ne0 (by omega) (by omega)), fun z => absurd (Or.inr rfl) z⟩
      · rw [pk_un e1]
        exact (hai u u1 u2).trans ⟨fun z y => y.elim z e1, fun z y => z (Or.inl y)⟩
theorem qM_fn7 {K : Nat} {T : MS} {m : Int32} : ∀ (d i q : Nat) (mo ai : Nat → Int32), i + d = 560 → d < q → (∀ b, b < i → mo b = nI 0 ∧ ai b = nI 0) → ∃ mo' ai', (∀ b, b < 560 → mo' b = nI 0 ∧ ai' b = nI 0) ∧ f_Mo_finds_7 K q (nI i) (fSt T mo ai m) = f_Mo_finds_36 K K 2 (fSt T mo' ai' m) := by
  intro d
  induction d with
  | zero =>
    intro i q mo ai h1 h2 hf
    obtain ⟨q, rfl⟩ : ∃ m, q = m + 1 := ⟨q - 1, by omega⟩
    obtain rfl : i = 560 := by omega
    exact ⟨mo, ai, hf, by rw [f_Mo_finds_7, if_pos (show 560 ≤ nI 560 by decide)]⟩
  | succ d ih =>
    intro i q mo ai h1 h2 hf
    obtain ⟨q, rfl⟩ : ∃ m, q = m + 1 := ⟨q - 1, by omega⟩
    obtain ⟨mo', ai', a, b⟩ := ih (i + 1) q (upd mo i (nI 0)) (upd ai i (nI 0)) (by omega) (by omega) (fun b hb => by
      by_cases w : b = i
      · rw [w, pk_us, pk_us]; exact ⟨rfl, rfl⟩
      · rw [pk_un w, pk_un w]; exact hf b (by omega))
    refine ⟨mo', ai', a, ?_⟩
    rw [f_Mo_finds_7, if_neg (show ¬ 560 ≤ nI i from nI_ge (b := 560) (by omega) (by decide)), q_g (q_in (by omega) (by decide)), q_l, q_g (q_in (by omega) (by decide)), q_l, nI_1, q_l, nI_clamp (by omega)]
    exact b
theorem qM_finds1 {K A H k B P G r : Nat} {fx : Nat → Prop} {e : Nat → Nat} {T : MS} (hK : 2000 ≤ K) (h : aimM A H k B P G r K fx e T) : (∀ to gl, aimR A H k fx e k to gl → ∃ mo ai, f_Mo_finds K T = fnTl K (fSt T mo ai (nI (mvN A H fx e k))) ∧ (∀ c, c < 560 → mo c = nI (gl c)) ∧ (∀ t, 2 ≤ t → t < 560 → (ai t = 0 ↔ ¬ ∃ x, gl x = t))) ∧ ((∃ i, i < k ∧ aimB A H k fx e i) → ∃ mo ai m, f_Mo_finds K T = some (0, fSt T mo ai m)) := by
  obtain ⟨mo1, ai1, a1, a2⟩ := qM_fn7 (K := K) (T := T) (m := 0) 560 0 K T.v_moved T.v_aimed (by omega) (by omega) (fun b hb => absurd hb (Nat.not_lt_zero _))
  have hst : f_Mo_finds K T = f_Mo_finds_36 K K 2 (fSt T mo1 ai1 0) := by
    unfold f_Mo_finds
    rw [q_l]
    exact a2
  have hmain := qM_fn36 (K := K) hK h k 0 K 2 (fun _ => 0) mo1 ai1 (by omega) (by have := h.1.2.2.1; omega) ⟨rfl, rfl⟩ (fun c c1 => (a1 c c1).1) (fun t t1 t2 => ⟨fun _ ⟨x, hx⟩ => by have hx : 0 = t := hx; omega, fun _ => (a1 t t2).2⟩)
  rw [hst]
  rcases hmain with ⟨to', gl', mo', ai', m1, m2, m3, m4⟩ | ⟨i, mo', ai', m', m1, m2, m3⟩
  · have m4 : f_Mo_finds_36 K K 2 (fSt T mo1 ai1 0) = _ := m4
    refine ⟨fun to gl hR => ?_, fun ⟨i, i1, i2⟩ => absurd i2 (aimR_no k to' gl' m1 i i1)⟩
    obtain ⟨rfl, rfl⟩ := aimR_det _ _ _ _ _ m1 hR
    exact ⟨mo', ai', m4, m2, m3⟩
  · have m3 : f_Mo_finds_36 K K 2 (fSt T mo1 ai1 0) = _ := m3
    exact ⟨fun to gl hR => absurd m2 (aimR_no k to gl hR i m1), fun _ => ⟨mo', ai', m', m3⟩⟩
