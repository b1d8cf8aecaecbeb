/-! What holds of a sound tree, through the whole scan. -/
theorem slS_SI {N i fk s : Nat} {D : Nat → Int32} {ch : List Nat} {z z' : SS} (h : SI N D (i + 1) (sIt z) (sTk z)) (hx : SX N D i fk s ch (sIt z) (sPe z)) (h1 : 1 ≤ (sIt z).length) (hi : i < (sIt z).length) (hd : isDr D (sIt z) i) (hs : s < ch.length * 16 * hc D) (hfk : fk ≤ (sIt z).length) (hnz : o1 D (plS D ch s) ≠ 0) (e : slS N D i fk s (plS D ch s) z = .ok z') : SI N D (i + 1) (sIt z') (sTk z') ∧ SX N D i fk (s + 1) ch (sIt z') (sPe z') := by
  unfold slS at e
  by_cases g1 : 1 ≤ i ∧ s < 2
  · rw [cif_t g1] at e
    by_cases g2 : dtP D (sIt z) (plS D ch s) i s
    · rw [cif_t g2] at e
      cases e
      exact ⟨h, SX_same hx hnz (Or.inr g1)⟩
    · rw [cif_f g2] at e; cases e
  rw [cif_f g1] at e
  by_cases g2 : o1 D (plS D ch s) = 229
  · rw [cif_t g2] at e
    by_cases g3 : pM (sPe z) = 0
    · rw [cif_t g3] at e
      cases e
      exact ⟨h, SX_same hx hnz (Or.inl g3)⟩
    · rw [cif_f g3] at e; cases e
  rw [cif_f g2] at e
  by_cases g3 : o1 D (plS D ch s + 11) % 64 = 15
  · rw [cif_t g3] at e
    by_cases g4 : ptP D (plS D ch s) (sPe z)
    · rw [cif_t g4] at e
      cases e
      exact ⟨h, SX_step hx hnz (Or.inr ⟨rfl, ⟨hnz, g2, g3⟩, g1⟩)⟩
    · rw [cif_f g4] at e; cases e
  rw [cif_f g3] at e
  unfold entS at e
  by_cases a1 : o1 D (plS D ch s + 11) ≤ 63 ∧ daysP D (plS D ch s)
  rotate_left
  · rw [cif_f a1] at e; cases e
  rw [cif_t a1] at e
  by_cases a2 : o1 D (plS D ch s + 11) / 8 % 2 = 1
  · rw [cif_t a2] at e
    by_cases a3 : enLb D i (plS D ch s) z
    · rw [cif_t a3] at e
      cases e
      exact ⟨h, SX_same hx hnz (Or.inl a3.2.2.2.1)⟩
    · rw [cif_f a3] at e; cases e
  rw [cif_f a2] at e
  by_cases a3 : enBad D (plS D ch s) (sPe z)
  rotate_left
  · rw [cif_f a3] at e; cases e
  rw [cif_t a3] at e
  by_cases a4 : enTw D (sIt z) fk (plS D ch s) (nmN D (plS D ch s) (sPe z))
  · rw [cif_t a4] at e; cases e
  rw [cif_f a4] at e
  cases hE : entF N D (plS D ch s) (sTk z) with
  | none => rw [entR_n hE] at e; cases e
  | some c =>
    rw [entR_s hE] at e
    cases e
    exact SI_add h hx h1 hi hd rfl rfl hs ⟨a1.1, by omega, a1.2, a3.1, a3.2.1, g3, hnz, g2⟩ hnz g1 hE hfk a4
theorem dirL_SI {N i fk : Nat} {D : Nat → Int32} {ch : List Nat} : ∀ (d s : Nat) (z : SS) (s' : Nat) (z' : SS), s + d = ch.length * 16 * hc D → SI N D (i + 1) (sIt z) (sTk z) → SX N D i fk s ch (sIt z) (sPe z) → 1 ≤ (sIt z).length → i < (sIt z).length → isDr D (sIt z) i → fk ≤ (sIt z).length → dirL N D i fk ch d s z = .ok (s', z') → SI N D (i + 1) (sIt z') (sTk z') ∧ SX N D i fk s' ch (sIt z') (sPe z') := by
  intro d
  induction d with
  | zero =>
    intro s z s' z' h1 hS hX a b c f e
    rw [dirL] at e
    cases e
    exact ⟨hS, hX⟩
  | succ d ih =>
    intro s z s' z' h1 hS hX a b c f e
    rw [dirL] at e
    by_cases g : o1 D (plS D ch s) = 0
    · rw [cif_t g] at e
      cases e
      exact ⟨hS, hX⟩
    · rw [cif_f g] at e
      obtain ⟨z1, e1, e2⟩ := exb_ok e
      obtain ⟨k1, k2⟩ := slS_SI hS hX a b c (by omega) f g e1
      have hx := slS_ext e1
      have hl := ext_len hx
      exact ih (s + 1) z1 s' z' (by omega) k1 k2 (by omega) (by omega) ((isDr_ext hx b).mpr c) (by omega) e2
/-- the items of each directory stand together -/
abbrev kdS (fks : List Nat) (its : List It) : Prop := ∀ i, i < fks.length → 1 ≤ fkI fks i ∧ fkI fks i ≤ fks.getD (i + 1) its.length ∧ fks.getD (i + 1) its.length ≤ its.length ∧ i < fkI fks i ∧ ∀ j, 1 ≤ j → j < its.length → (ipa (itr its j) = i ↔ fkI fks i ≤ j ∧ j < fks.getD (i + 1) its.length)
theorem SI_skip {N i : Nat} {D : Nat → Int32} {its : List It} {tk : List Nat} (h : SI N D i its tk) (hi : i < its.length) (hd : ¬ isDr D its i) : SI N D (i + 1) its tk := by
  obtain ⟨a0, a1, a2, a3, a4, a5⟩ := h
  have he : ∀ j, elg D its (i + 1) j ↔ elg D its i j := fun j => by
    unfold elg
    refine ⟨fun w => ?_, fun w => w.imp id (fun y => by omega)⟩
    rcases w with w | w
    · exact Or.inl w
    · by_cases e : j = i
      · rw [e]; exact Or.inl hd
      · exact Or.inr (by omega)
  refine ⟨by omega, fun j g1 g2 => ?_, fun j g1 g2 => a2 j g1 ((he j).mp g2), fun j j' g1 g2 g3 g4 => a3 j j' g1 g2 ((he j).mp g3) ((he j').mp g4), fun x => ?_, a5⟩
  · obtain ⟨c1, c2⟩ := a1 j g1 g2
    exact ⟨by omega, c2⟩
  · rw [a4 x]
    exact ⟨fun ⟨j, b1, b2, b3⟩ => ⟨j, b1, (he j).mpr b2, b3⟩, fun ⟨j, b1, b2, b3⟩ => ⟨j, b1, (he j).mp b2, b3⟩⟩
theorem SI_begin {N i : Nat} {D : Nat → Int32} {its : List It} {tk ch : List Nat} (h : SI N D i its tk) (hi : i < its.length) (hd : isDr D its i) (hf : fo N D (begI D its i) tk = some ch) : SI N D (i + 1) its (ch ++ tk) ∧ SX N D i its.length 0 ch its pe0 := by
  obtain ⟨a0, a1, a2, a3, a4, a5⟩ := h
  obtain ⟨f1, f2⟩ := fo_cOf hf
  have hch : chI N D its i = ch := f2
  have hnt := (fol_spec _ _ _ _ hf).2.2.2.2.1
  have hold : ∀ j, elg D its (i + 1) j → j ≠ i → elg D its i j := fun j w e => w.imp id (fun y => by omega)
  refine ⟨⟨by omega, fun j g1 g2 => ?_, fun j g1 g2 => ?_, fun j j' g1 g2 g3 g4 g5 x gx => ?_, fun x => ?_, a5⟩, hch, fun j g1 g2 => ?_, fun j g1 g2 g3 => ?_, Nat.zero_le _, Or.inl rfl, fun r r1 r2 => ?_, fun t ht => absurd ht (Nat.not_lt_zero _)⟩
  · obtain ⟨c1, c2⟩ := a1 j g1 g2
    exact ⟨by omega, c2⟩
  · by_cases e : j = i
    · subst e
      exact ⟨fun _ => by rw [hch]; exact f1, fun w => absurd hd w⟩
    · exact a2 j g1 (hold j g2 e)
  · by_cases e : j = i
    · subst e
      rw [hch] at gx
      intro w
      exact (hnt x gx).2.1 ((a4 x).mpr ⟨j', g2, hold j' g4 (fun y => g5 y.symm), w⟩)
    · by_cases e' : j' = i
      · subst e'
        rw [hch]
        intro w
        exact (hnt x w).2.1 ((a4 x).mpr ⟨j, g1, hold j g3 e, gx⟩)
      · exact a3 j j' g1 g2 (hold j g3 e) (hold j' g4 e') g5 x gx
  · rw [List.mem_append]
    constructor
    · rintro (w | w)
      · exact ⟨i, hi, Or.inr (Nat.lt_succ_self i), by rw [hch]; exact w⟩
      · obtain ⟨j, b1, b2, b3⟩ := (a4 x).mp w
        exact ⟨j, b1, b2.imp id (fun y => by omega), b3⟩
    · rintro ⟨j, b1, b2, b3⟩
      by_cases e : j = i
      · subst e
        rw [hch] at b3
        exact Or.inl b3
      · exact Or.inr ((a4 x).mpr ⟨j, b1, hold j b2 e, b3⟩)
  · have := (a1 j g1 g2).1
    exact ⟨fun w => by omega, fun w => by omega⟩
  · have := (a1 j g1 g2).1
    omega
  · have r2 : r ≤ 0 := r2
    omega
theorem dirS_SI {N i : Nat} {D : Nat → Int32} {z z' : SS} (h : SI N D i (sIt z) (sTk z)) (h1 : 1 ≤ (sIt z).length) (hi : i < (sIt z).length) (hd : isDr D (sIt z) i) (e : dirS N D i z = .ok z') : SI N D (i + 1) (sIt z') (sTk z') ∧ ext z z' ∧ ∀ j, 1 ≤ j → j < (sIt z').length → (ipa (itr (sIt z') j) = i ↔ (sIt z).length ≤ j) := by
  unfold dirS at e
  cases hfo : fo N D (begI D (sIt z) i) (sTk z) with
  | none => rw [hfo] at e; cases e
  | some ch =>
    rw [hfo] at e
    have e : dirC N D i ch z = .ok z' := e
    unfold dirC at e
    obtain ⟨x, e1, e2⟩ := exb_ok e
    obtain ⟨s', z1⟩ := x
    unfold dirE at e2
    by_cases w : pM (sPe (s', z1).2) = 0 ∧ (i = 0 ∨ 2 ≤ (s', z1).1)
    · rw [cif_t w] at e2
      cases e2
      obtain ⟨b1, b2⟩ := SI_begin h hi hd hfo
      obtain ⟨c1, c2⟩ := dirL_SI _ _ ((sIt z, sLb z), ch ++ sTk z, pe0) _ _ (by omega) b1 b2 h1 hi hd (Nat.le_refl _) e1
      refine ⟨c1, ?_, c2.2.1⟩
      have hx : ∀ (d s : Nat) (y : SS) (s' : Nat) (y' : SS), dirL N D i (sIt z).length ch d s y = .ok (s', y') → ext y y' := by
        intro d
        induction d with
        | zero => intro s y s' y' q; rw [dirL] at q; cases q; exact ext_rf _
        | succ d ih =>
          intro s y s' y' q
          rw [dirL] at q
          by_cases g : o1 D (plS D ch s) = 0
          · rw [cif_t g] at q; cases q; exact ext_rf _
          · rw [cif_f g] at q
            obtain ⟨y1, q1, q2⟩ := exb_ok q
            exact ext_tr (slS_ext q1) (ih _ _ _ _ q2)
      exact ext_tr (b := ((sIt z, sLb z), ch ++ sTk z, pe0)) ⟨⟨[], (List.append_nil _).symm⟩, ⟨ch, rfl⟩⟩ (hx _ _ _ _ _ e1)
    · rw [cif_f w] at e2; cases e2
theorem scL_SI {N m : Nat} {D : Nat → Int32} : ∀ (d : Nat) (fks : List Nat) (z : SS) (f' : List Nat) (z' : SS), SI N D fks.length (sIt z) (sTk z) → 1 ≤ (sIt z).length → kdS fks (sIt z) → scL N D d fks.length fks z = .ok (f', z') → SI N D f'.length (sIt z') (sTk z') ∧ kdS f' (sIt z') ∧ 1 ≤ (sIt z').length ∧ (f'.length = (sIt z').length ∨ f'.length = fks.length + d) := by
  intro d
  induction d with
  | zero =>
    intro fks z f' z' h h1 hk e
    rw [scL] at e
    cases e
    exact ⟨h, hk, h1, Or.inr (by omega)⟩
  | succ d ih =>
    intro fks z f' z' h h1 hk e
    rw [scL] at e
    have hl1 : (fks ++ [(sIt z).length]).length = fks.length + 1 := by rw [List.length_append]; rfl
    by_cases g : fks.length < (sIt z).length
    rotate_left
    · rw [if_neg g] at e
      cases e
      exact ⟨h, hk, h1, Or.inl (by have := h.1; omega)⟩
    rw [if_pos g] at e
    -- the rows of those before
    have step : ∀ z1 : SS, ext z z1 → SI N D (fks.length + 1) (sIt z1) (sTk z1) → (∀ j, 1 ≤ j → j < (sIt z1).length → (ipa (itr (sIt z1) j) = fks.length ↔ (sIt z).length ≤ j)) → scL N D d (fks.length + 1) (fks ++ [(sIt z).length]) z1 = .ok (f', z') → SI N D f'.length (sIt z') (sTk z') ∧ kdS f' (sIt z') ∧ 1 ≤ (sIt z').length ∧ (f'.length = (sIt z').length ∨ f'.length = fks.length + (d + 1)) := by
      intro z1 hx hS hj e'
      have hl := ext_len hx
      have := ih (fks ++ [(sIt z).length]) z1 f' z' (by rw [hl1]; exact hS) (by omega) (fun i hi => ?_) (by rw [hl1]; exact e')
      · rw [hl1] at this
        refine ⟨this.1, this.2.1, this.2.2.1, this.2.2.2.imp id (fun w => by omega)⟩
      · rw [hl1] at hi
        by_cases w : i = fks.length
        · subst w
          unfold fkI
          rw [getD_app2, getD_out (by rw [hl1]; exact Nat.le_refl _)]
          refine ⟨h1, hl, Nat.le_refl _, g, fun j g1 g2 => ?_⟩
          rw [hj j g1 g2]
          exact ⟨fun y => ⟨y, g2⟩, fun y => y.1⟩
        · obtain ⟨k1, k2, k3, k4, k5⟩ := hk i (by omega)
          have e1 : fkI (fks ++ [(sIt z).length]) i = fkI fks i := getD_app1 (by omega)
          have e2 : (fks ++ [(sIt z).length]).getD (i + 1) (sIt z1).length = fks.getD (i + 1) (sIt z).length := by
            by_cases y : i + 1 = fks.length
            · rw [y, getD_app2, getD_out (Nat.le_refl _)]
            · rw [getD_app1 (by omega), List.getD_eq_getElem?_getD, List.getD_eq_getElem?_getD, List.getElem?_eq_getElem (by omega)]
              rfl
          rw [e1, e2]
          refine ⟨k1, k2, by omega, k4, fun j g1 g2 => ?_⟩
          by_cases y : j < (sIt z).length
          · rw [ext_itr hx y]
            exact k5 j g1 y
          · have := (hj j g1 g2).mpr (by omega)
            exact ⟨fun q => by omega, fun q => by omega⟩
    by_cases w : isDr D (sIt z) fks.length
    · rw [cif_t w] at e
      obtain ⟨z1, e1, e2⟩ := exb_ok e
      obtain ⟨q1, q2, q3⟩ := dirS_SI h h1 g w e1
      exact step z1 q2 q1 q3 e2
    · rw [cif_f w, exb_o] at e
      refine step z (ext_rf z) (SI_skip h g w) (fun j g1 g2 => ?_) e
      have := (h.2.1 j g1 g2).1
      exact ⟨fun y => by omega, fun y => by omega⟩
theorem trE_SI {N m : Nat} {D : Nat → Int32} (hN1 : 256 ≤ N) (hN : N ≤ 1024) (hcp : capOk N D m) (hm : m ≤ 4000) {fks : List Nat} {z : SS} (h : trE N D = .ok (fks, z)) : hdOk N D ∧ tabOk N D ∧ zOk N z ∧ fks.length = (sIt z).length ∧ SI N D (sIt z).length (sIt z) (sTk z) ∧ kdS fks (sIt z) ∧ (∀ x, isCl N D x → (ent D x ≠ 0 ↔ x ∈ sTk z)) := by
  obtain ⟨hz, hl⟩ := trE_zok hN1 hN hcp hm h
  unfold trE at h
  by_cases g1 : hdOk N D
  rotate_left
  · rw [cif_f g1] at h; cases h
  rw [cif_t g1] at h
  by_cases g2 : tabOk N D
  rotate_left
  · rw [cif_f g2] at h; cases h
  rw [cif_t g2] at h
  unfold trS at h
  obtain ⟨x, e1, e2⟩ := exb_ok h
  by_cases w : stray N D (sTk x.2)
  · rw [cif_t w] at e2; cases e2
  rw [cif_f w] at e2
  cases e2
  have h0 : SI N D 0 (sIt z0) (sTk z0) := by
    refine ⟨Nat.zero_le _, fun j g1 g2 => ?_, fun j g1 g2 => ?_, fun j j' g1 g2 g3 g4 g5 => ?_, fun x => ⟨fun w => by (cases w), fun ⟨j, b1, b2, b3⟩ => ?_⟩, fun j j' g1 g2 g3 => ?_⟩
    · have g2 : j < 1 := g2
      omega
    · have g1 : j < 1 := g1
      obtain rfl : j = 0 := by omega
      rcases g2 with w | w
      · exact absurd (Or.inl rfl) w
      · omega
    · have g1 : j < 1 := g1
      have g2 : j' < 1 := g2
      omega
    · have b1 : j < 1 := b1
      obtain rfl : j = 0 := by omega
      rcases b2 with w | w
      · exact absurd (Or.inl rfl) w
      · omega
    · have g3 : j' < 1 := g3
      omega
  obtain ⟨q1, q2, q3, q4⟩ := scL_SI (m := m) 5000 [] z0 _ _ h0 (by decide) (fun i hi => absurd hi (Nat.not_lt_zero _)) e1
  rw [hl] at q1
  refine ⟨g1, g2, hz, hl, q1, q2, fun y hy => ⟨fun hne => ?_, fun hmem => ?_⟩⟩
  · exact Classical.byContradiction (fun hn => w ⟨y, hy.1, by have := hy.2; omega, hne, hn⟩)
  · obtain ⟨j, b1, b2, b3⟩ := (q1.2.2.2.2.1 y).mp hmem
    have hcf := q1.2.2.1 j b1 b2
    have : ∀ l, chI N D (sIt z) j = l → y ∈ l → ent D y ≠ 0 := by
      intro l hl' hy'
      by_cases d : isDr D (sIt z) j
      · have := hcf.1 d
        rw [hl'] at this
        exact ((fol_spec _ _ _ _ this).2.2.2.2.1 y hy').2.2
      · have hf := hcf.2 d
        rw [hl'] at hf
        unfold entF at hf
        have hnd : ¬ o1 D (isp (itr (sIt z) j) + 11) / 16 % 2 = 1 := fun w => d (Or.inr w)
        rw [if_neg hnd] at hf
        by_cases e4 : o4 D (isp (itr (sIt z) j) + 28) = 0
        · rw [if_pos e4] at hf
          by_cases e5 : fc D (isp (itr (sIt z) j)) = 0
          · rw [if_pos e5] at hf; cases hf; cases hy'
          · rw [if_neg e5] at hf; cases hf
        · rw [if_neg e4] at hf
          by_cases e5 : o4 D (isp (itr (sIt z) j) + 28) < 2 ^ 31
          · rw [if_pos e5] at hf
            cases hfo : fo N D (fc D (isp (itr (sIt z) j))) [] with
            | none => rw [hfo] at hf; cases hf
            | some c =>
              rw [hfo] at hf
              have hf : (if c.length = _ then some c else none) = some l := hf
              by_cases e6 : c.length = (o4 D (isp (itr (sIt z) j) + 28) + 512 * hc D - 1) / (512 * hc D)
              · rw [if_pos e6] at hf
                cases hf
                exact ((fol_spec _ _ _ _ hfo).2.2.2.2.1 y hy').2.2
              · rw [if_neg e6] at hf; cases hf
          · rw [if_neg e5] at hf; cases hf
    exact this _ rfl b3
