theorem aimR_det {A H k : Nat} {fx : Nat → Prop} {e : Nat → Nat} : ∀ n to gl to' gl', aimR A H k fx e n to gl → aimR A H k fx e n to' gl' → to = to' ∧ gl = gl' := by
  intro n
  induction n with
  | zero =>
    rintro to gl to' gl' ⟨rfl, rfl⟩ ⟨rfl, rfl⟩
    exact ⟨rfl, rfl⟩
  | succ n ih =>
    rintro to gl to' gl' ⟨s, g, h, p⟩ ⟨s', g', h', p'⟩
    obtain ⟨rfl, rfl⟩ := ih s g s' g' h h'
    rcases p with ⟨w, rfl, rfl⟩ | ⟨w, t, f, rfl, rfl⟩
    · rcases p' with ⟨w', rfl, rfl⟩ | ⟨w', _⟩
      · exact ⟨rfl, rfl⟩
      · exact absurd w' w
    · rcases p' with ⟨w', _⟩ | ⟨w', t', f', rfl, rfl⟩
      · exact absurd w w'
      · have : t = t' := by
          rcases Nat.lt_trichotomy t t' with y | y | y
          · exact absurd f.2.2.1 (f'.2.2.2 t f.1 y)
          · exact y
          · exact absurd f'.2.2.1 (f.2.2.2 t' f'.1 y)
        rw [this]
        exact ⟨rfl, rfl⟩
theorem aimR_no {A H k : Nat} {fx : Nat → Prop} {e : Nat → Nat} : ∀ n to gl, aimR A H k fx e n to gl → ∀ i, i < n → ¬ aimB A H k fx e i := by
  intro n
  induction n with
  | zero => intro to gl _ i hi; omega
  | succ n ih =>
    rintro to gl ⟨s, g, h, p⟩ i hi ⟨s', g', h', w, no⟩
    by_cases e1 : i = n
    · subst e1
      obtain ⟨rfl, rfl⟩ := aimR_det _ _ _ _ _ h h'
      rcases p with ⟨w', _⟩ | ⟨_, t, f, _⟩
      · exact w' w
      · exact no ⟨t, f⟩
    · exact ih s g h i (by omega) ⟨s', g', h', w, no⟩
noncomputable abbrev mvN (A H : Nat) (fx : Nat → Prop) (e : Nat → Nat) (n : Nat) : Nat := cntP (fun i => obs A H fx e (i + 2)) n
theorem qC_fr {K k N x : Nat} {e : Nat → Nat} {G : CG} {S : CS} (hG : G.n = N) (hN : N ≤ 1024) (hk0 : k + 2 < N / 2 + 2) (t3 : S.v_Tb_clusters = nI k) (hn : ∀ x, x < k + 2 → S.w_Tb_next x = nI (e x)) (he : ∀ x, e x < 2 ^ 28) (h2 : 2 ≤ x) (hx : x < k + 2) : f_Tb_isFree K G S (nI x) = some (b01 (e x = 0), S) := by
  have := he x
  unfold f_Tb_isFree f_Tb_isFree_37
  rw [if_neg (show ¬ nI x < 2 from nI_nlt (b := 2) h2 (by omega)), t3, show (2 : Int32) = nI 2 from rfl, nI_add, if_neg (nI_ge hx (by omega)), hG, if_neg (nI_ge (by omega) (by omega)), q_g (q_in (by omega) (by omega)), nI_clamp (by omega), hn x hx]
  by_cases w : e x = 0
  · rw [if_pos (show nI (e x) = 0 by rw [w]; rfl), b01_t w]; rfl
  · rw [if_neg (nI_ne0 (by omega) (by omega)), b01_f w]; rfl
/-- what the class's aim asks for -/
abbrev aimC (A H k B P g0 r N : Nat) (fx : Nat → Prop) (e : Nat → Nat) (G : CG) (S : CS) : Prop := plN A H k B P g0 r ∧ (G.n = N ∧ N ≤ 1024 ∧ B = N / 2 ∧ k + 2 < N / 2 + 2) ∧ plK A H k B P g0 S ∧ (∀ b, b < B → S.w_Pl_fixed b = b01 (fx b)) ∧ (∀ x, x < k + 2 → S.w_Tb_next x = nI (e x)) ∧ (∀ x, e x < 2 ^ 28)
theorem qC_aim82 {K A H k B P g0 r N : Nat} {fx : Nat → Prop} {e : Nat → Nat} {G : CG} {S : CS} (hK : 100 ≤ K) (h : aimC A H k B P g0 r N fx e G S) (rec : Int32 → Int32 → Int32 → CS → Option (Int32 × CS)) (c : Int32) : ∀ (d s q : Nat), s + d = k + 2 → d < q → 2 ≤ s → (∀ t, fsA A H k fx e s t → f_Pl_aim_82 K G rec q (nI (k + 2)) (nI s) c 1 S = f_Pl_aim_117 K G rec (nI (k + 2)) (nI t) c 1 S) ∧ ((¬ ∃ t, fsA A H k fx e s t) → f_Pl_aim_82 K G rec q (nI (k + 2)) (nI s) c 1 S = f_Pl_aim_117 K G rec (nI (k + 2)) (nI (k + 2)) c 1 S) := by
  obtain ⟨hP, ⟨hG, hN, hBN, hkN⟩, hS, hf, hn, he⟩ := h
  intro d
  induction d with
  | zero =>
    intro s q h1 h2 h3
    obtain ⟨q, rfl⟩ : ∃ m, q = m + 1 := ⟨q - 1, by omega⟩
    obtain rfl : s = k + 2 := by omega
    refine ⟨fun t f => by have := f.1; have := f.2.1; omega, fun _ => ?_⟩
    rw [f_Pl_aim_82, if_neg (by decide), if_pos (Int32.le_refl _)]
  | succ d ih =>
    intro s q h1 h2 h3
    obtain ⟨q, rfl⟩ : ∃ m, q = m + 1 := ⟨q - 1, by omega⟩
    have hs : s < k + 2 := by omega
    obtain ⟨i1, i2⟩ := ih (s + 1) q (by omega) (by omega) (by omega)
    have hh := (qC_hasFx (K := K) hK hP (by rw [hG, hBN]) hS hf h3 hs).2
    have hst : f_Pl_aim_82 K G rec (q + 1) (nI (k + 2)) (nI s) c 1 S = cif (avl A H fx e s) (f_Pl_aim_117 K G rec (nI (k + 2)) (nI s) c 1 S) (f_Pl_aim_82 K G rec q (nI (k + 2)) (nI (s + 1)) c 1 S) := by
      rw [f_Pl_aim_82]
      unfold f_Pl_aim_111
      rw [if_neg (by decide), if_neg (nI_ge hs (by omega)), qC_fr hG hN hkN hS.2.2.1 hn he h3 hs, q_c, hh, q_c, show nI s + 1 = nI (s + 1) from nI_1 _, q_l]
      by_cases w : e s = 0
      · rw [b01_t w, if_neg (show ¬ nI 1 = 0 by decide)]
        by_cases g : hfx A H fx s
        · rw [b01_t g, if_neg (show ¬ nI 1 = 0 by decide), cif_f (fun y => y.2 g)]
        · rw [b01_f g, if_pos (show nI 0 = 0 from rfl), cif_t ⟨w, g⟩]
      · rw [b01_f w, if_pos (show nI 0 = 0 from rfl), cif_f (fun y => w y.1)]
    rw [hst]
    by_cases w : avl A H fx e s
    · rw [cif_t w]
      refine ⟨fun t f => ?_, fun y => absurd ⟨s, Nat.le_refl _, hs, w, fun y a b => by omega⟩ y⟩
      have : t = s := Classical.byContradiction fun z => f.2.2.2 s (Nat.le_refl _) (by have := f.1; omega) w
      rw [this]
    · rw [cif_f w]
      refine ⟨fun t f => i1 t ⟨?_, f.2.1, f.2.2.1, fun y a b => f.2.2.2 y (by omega) b⟩, fun y => i2 (fun ⟨t, f⟩ => y ⟨t, by have := f.1; omega, f.2.1, f.2.2.1, fun u a b => ?_⟩)⟩
      · by_cases e1 : t = s
        · rw [e1] at f; exact absurd f.2.2.1 w
        · have := f.1; omega
      · by_cases e1 : u = s
        · rw [e1]; exact w
        · exact f.2.2.2 u (by omega) b
/-- what aim changes -/
def aSt (S : CS) (g a : Nat → Int32) (m : Int32) : CS := ((S.u_w_Tb_goal g).u_w_Pl_aimedAt a).u_v_Pl_moves m
theorem aimC_st {A H k B P g0 r N : Nat} {fx : Nat → Prop} {e : Nat → Nat} {G : CG} {S : CS} {g a : Nat → Int32} {m : Int32} (h : aimC A H k B P g0 r N fx e G S) : aimC A H k B P g0 r N fx e G (aSt S g a m) := h
theorem qC_aim51 {K A H k B P g0 r N : Nat} {fx : Nat → Prop} {e : Nat → Nat} {G : CG} {S : CS} (hK : 2000 ≤ K) (h : aimC A H k B P g0 r N fx e G S) : ∀ (d n q to : Nat) (gl : Nat → Nat) (g a : Nat → Int32), n + d = k → d < q → aimR A H k fx e n to gl → (∀ c, 2 ≤ c → c < n + 2 → g c = nI (gl c)) → (∀ t, 2 ≤ t → t < B + 2 → a t = b01 (∃ x, gl x = t)) → (∃ to' gl' g' a', aimR A H k fx e k to' gl' ∧ (∀ c, 2 ≤ c → c < k + 2 → g' c = nI (gl' c)) ∧ (∀ t, 2 ≤ t → t < B + 2 → a' t = b01 (∃ x, gl' x = t)) ∧ f_Pl_aim_51 K G q (nI (k + 2)) (nI to) (nI (n + 2)) (aSt S g a (nI (mvN A H fx e n))) = (f_Pl_findRooms K G (aSt S g' a' (nI (mvN A H fx e k))) (nI (k + 2))).bind (fun S_8 => some (1, S_8))) ∨ (∃ i g' a' m', i < k ∧ aimB A H k fx e i ∧ f_Pl_aim_51 K G q (nI (k + 2)) (nI to) (nI (n + 2)) (aSt S g a (nI (mvN A H fx e n))) = some (0, aSt S g' a' m')) := by
  have h0 := h
  obtain ⟨hP, ⟨hG, hN, hBN, hkN⟩, hS, hf, hn, he⟩ := h
  intro d
  induction d with
  | zero =>
    intro n q to gl g a h1 h2 hR hg ha0
    obtain ⟨q, rfl⟩ : ∃ m, q = m + 1 := ⟨q - 1, by omega⟩
    obtain rfl : n = k := by omega
    refine Or.inl ⟨to, gl, g, a, hR, hg, ha0, ?_⟩
    rw [f_Pl_aim_51, if_pos (Int32.le_refl _)]
  | succ d ih =>
    intro n q to gl g a h1 h2 hR hg ha0
    obtain ⟨q, rfl⟩ : ∃ m, q = m + 1 := ⟨q - 1, by omega⟩
    have hc : n + 2 < k + 2 := by omega
    obtain ⟨r1, r2, r3, r4, r5, r6⟩ := aimR_inv n to gl hR
    obtain ⟨S1, eS⟩ : ∃ S1, aSt S g a (nI (mvN A H fx e n)) = S1 := ⟨_, rfl⟩
    have h1' : aimC A H k B P g0 r N fx e G S1 := by rw [← eS]; exact h0
    have hh := (qC_hasFx (K := K) (by omega) hP (by rw [hG, hBN]) h1'.2.2.1 h1'.2.2.2.1 (show 2 ≤ n + 2 by omega) hc).2
    have hfr := qC_fr (K := K) (S := S1) hG hN hkN h1'.2.2.1.2.2.1 h1'.2.2.2.2.1 he (show 2 ≤ n + 2 by omega) hc
    have hmv : mvN A H fx e n ≤ n := cntP_le _ _
    -- no goal
    have noG : ¬ obs A H fx e (n + 2) → f_Pl_aim_79 K G (f_Pl_aim_51 K G q) (nI (k + 2)) (nI to) (nI (n + 2)) S1 = f_Pl_aim_51 K G q (nI (k + 2)) (nI to) (nI (n + 1 + 2)) (aSt S (upd g (n + 2) (nI 0)) a (nI (mvN A H fx e (n + 1)))) := fun w => by
      obtain ⟨kk, rfl⟩ : ∃ m, K = m + 1 := ⟨K - 1, by omega⟩
      have hm1 : mvN A H fx e (n + 1) = mvN A H fx e n := by
        show cntP _ (n + 1) = _
        rw [cntP, cif_f w]
        rfl
      have hsg : f_Tb_setGoal (kk + 1) G S1 (nI (n + 2)) 0 = some (S1.u_w_Tb_goal (upd S1.w_Tb_goal (n + 2) 0)) := by
        unfold f_Tb_setGoal
        rw [if_neg (nI_pos (by omega)), hG, if_neg (nI_ge (by omega) (by omega)), q_g (q_in (by omega) (by omega)), nI_clamp (by omega), q_l]
      unfold f_Pl_aim_79 f_Pl_aim_80
      rw [f_Pl_aim_82, if_pos rfl]
      unfold f_Pl_aim_117 f_Pl_aim_129 f_Pl_aim_144 f_Pl_aim_172
      rw [if_pos rfl, if_pos rfl, hsg, q_b, if_pos rfl, show nI (n + 2) + 1 = nI (n + 2 + 1) from nI_1 _, q_l, hm1, ← eS]
      rfl
    rw [eS, f_Pl_aim_51, if_neg (nI_ge hc (by omega)), hfr, q_c, hh, q_c]
    by_cases w : obs A H fx e (n + 2)
    rotate_left
    · have hgo := noG w
      have hnx := ih (n + 1) q to gl (upd g (n + 2) (nI 0)) a (by omega) (by omega) ⟨to, gl, hR, Or.inl ⟨w, rfl, rfl⟩⟩ (fun c c1 c2 => by
        by_cases e1 : c = n + 2
        · have hz : gl c = 0 := Classical.byContradiction fun z => by
            have := (r3 c z).2.1
            omega
          rw [hz, e1, pk_us]
        · rw [pk_un e1]; exact hg c c1 (by omega)) ha0
      have hsame : (if b01 (e (n + 2) = 0) = 0 then if b01 (hfx A H fx (n + 2)) = 0 then f_Pl_aim_79 K G (f_Pl_aim_51 K G q) (nI (k + 2)) (nI to) (nI (n + 2)) S1 else f_Pl_aim_80 K G (f_Pl_aim_51 K G q) (nI (k + 2)) (nI to) (nI (n + 2)) 1 S1 else f_Pl_aim_79 K G (f_Pl_aim_51 K G q) (nI (k + 2)) (nI to) (nI (n + 2)) S1) = f_Pl_aim_79 K G (f_Pl_aim_51 K G q) (nI (k + 2)) (nI to) (nI (n + 2)) S1 := by
        by_cases e0 : e (n + 2) = 0
        · rw [b01_t e0, if_neg (show ¬ nI 1 = 0 by decide)]
        · rw [b01_f e0, if_pos (show nI 0 = 0 from rfl), b01_f (fun y => w ⟨e0, y⟩), if_pos (show nI 0 = 0 from rfl)]
      rw [hsame, hgo]
      exact hnx
    rw [b01_f w.1, if_pos (show nI 0 = 0 from rfl), b01_t w.2, if_neg (show ¬ nI 1 = 0 by decide)]
    unfold f_Pl_aim_80
    obtain ⟨s1, s2⟩ := qC_aim82 (K := K) (by omega) h1' (f_Pl_aim_51 K G q) (nI (n + 2)) (k + 2 - to) to K (by omega) (by omega) r1
    by_cases y : ∃ t, fsA A H k fx e to t
    rotate_left
    · rw [s2 y]
      unfold f_Pl_aim_117
      rw [if_neg (by decide), if_neg (show ¬ nI (k + 2) < nI (k + 2) from nI_nlt (Nat.le_refl _) (by omega))]
      exact Or.inr ⟨n, g, a, _, by omega, ⟨to, gl, hR, w, y⟩, by rw [← eS]⟩
    obtain ⟨t, ft⟩ := y
    have hm1 : mvN A H fx e (n + 1) = mvN A H fx e n + 1 := by
      show cntP _ (n + 1) = _
      rw [cntP, cif_t w]
    have hsg : f_Tb_setGoal K G S1 (nI (n + 2)) (nI t) = some (S1.u_w_Tb_goal (upd S1.w_Tb_goal (n + 2) (nI t))) := by
      unfold f_Tb_setGoal
      rw [if_neg (nI_pos (by omega)), hG, if_neg (nI_ge (by omega) (by omega)), q_g (q_in (by omega) (by omega)), nI_clamp (by omega), q_l]
    have hgo : f_Pl_aim_117 K G (f_Pl_aim_51 K G q) (nI (k + 2)) (nI t) (nI (n + 2)) 1 S1 = f_Pl_aim_51 K G q (nI (k + 2)) (nI (t + 1)) (nI (n + 1 + 2)) (aSt S (upd g (n + 2) (nI t)) (upd a t (vp_nar .boolean 1)) (nI (mvN A H fx e (n + 1)))) := by
      have ht := ft.2.1
      unfold f_Pl_aim_117 f_Pl_aim_129 f_Pl_aim_144 f_Pl_aim_172
      rw [if_neg (by decide), if_pos (nI_lt ht (by omega)), if_neg (by decide), hsg, q_b, if_neg (by decide), hG, q_g (q_in (by omega) (by omega)), q_l, q_l, show nI t + 1 = nI (t + 1) from nI_1 _, q_l, show nI (n + 2) + 1 = nI (n + 2 + 1) from nI_1 _, q_l, nI_clamp (by omega), hm1]
      have e9 : nI (mvN A H fx e n) + 1 = nI (mvN A H fx e n + 1) := nI_1 _
      rw [← e9, ← eS]
      rfl
    rw [s1 t ft, hgo]
    refine ih (n + 1) q (t + 1) (uN gl (n + 2) t) (upd g (n + 2) (nI t)) (upd a t (vp_nar .boolean 1)) (by omega) (by omega) ⟨to, gl, hR, Or.inr ⟨w, t, ft, rfl, rfl⟩⟩ (fun c c1 c2 => ?_) (fun u u1 u2 => ?_)
    · show upd g (n + 2) (nI t) c = nI (if c = n + 2 then t else gl c)
      by_cases e1 : c = n + 2
      · rw [if_pos e1, e1, pk_us]
      · rw [if_neg e1, pk_un e1]; exact hg c c1 (by omega)
    · have hz : gl (n + 2) = 0 := Classical.byContradiction fun z => by
        have := (r3 _ z).2.1
        omega
      have hex : (∃ x, uN gl (n + 2) t x = u) ↔ ((∃ x, gl x = u) ∨ u = t) := by
        constructor
        · rintro ⟨x, hx⟩
          have hx : (if x = n + 2 then t else gl x) = u := hx
          by_cases e1 : x = n + 2
          · rw [if_pos e1] at hx; exact Or.inr hx.symm
          · rw [if_neg e1] at hx; exact Or.inl ⟨x, hx⟩
        · rintro (⟨x, hx⟩ | e1)
          · refine ⟨x, ?_⟩
            show (if x = n + 2 then t else gl x) = u
            rw [if_neg (fun e1 => by rw [e1, hz] at hx; omega)]
            exact hx
          · refine ⟨n + 2, ?_⟩
            show (if n + 2 = n + 2 then t else gl (n + 2)) = u
            rw [if_pos rfl, e1]
      rw [b01_iff hex]
      by_cases e1 : u = t
      · rw [e1, pk_us, b01_t (Or.inr rfl)]; decide
      · rw [pk_un e1, ha0 u u1 u2]
        exact b01_iff ⟨Or.inl, fun y => y.resolve_right e1⟩
