/-! An entry's days, its short name, its sum. -/
def daysP (D : Nat → Int32) (p : Nat) : Prop := madP (nI (o2 D (p + 16))) (nI (o2 D (p + 14))) (nI (o1 D (p + 13))) ∧ (o2 D (p + 18) = 0 ∨ dayP (nI (o2 D (p + 18)))) ∧ dayP (nI (o2 D (p + 24))) ∧ timP (nI (o2 D (p + 22)))
theorem qM_areDays {K p : Nat} {D : Nat → Int32} {T : MS} (hD : T.v_disk = D) (hp : p + 31 < 524288) : (daysP D p → f_Mo_areDays K T (nI p) = some (nI 1, T)) ∧ (¬ daysP D p → f_Mo_areDays K T (nI p) = some (nI 0, T)) := by
  have e55 : (dayP (nI (o2 D (p + 24))) ∧ timP (nI (o2 D (p + 22))) → f_Mo_areDays_55 K (nI p) T = some (nI 1, T)) ∧ (¬ (dayP (nI (o2 D (p + 24))) ∧ timP (nI (o2 D (p + 22)))) → f_Mo_areDays_55 K (nI p) T = some (nI 0, T)) := by
    unfold f_Mo_areDays_55 f_Mo_areDays_87
    simp only [ql]
    rw [nI_add, rM2 D hD (by omega), q_c, nI_add, rM2 D hD (by omega)]
    by_cases g1 : dayP (nI (o2 D (p + 24)))
    · rw [(qM_day K _).1 g1, q_b, if_neg n10, q_c]
      by_cases g2 : timP (nI (o2 D (p + 22)))
      · rw [(qM_time K _).1 g2, q_b, if_neg n10]
        exact ⟨fun _ => rfl, fun z => absurd ⟨g1, g2⟩ z⟩
      · rw [(qM_time K _).2 g2, q_b, if_pos rfl]
        exact ⟨fun z => absurd z.2 g2, fun z => rfl⟩
    · rw [(qM_day K _).2 g1, q_b, if_pos rfl]
      exact ⟨fun z => absurd z.1 g1, fun z => rfl⟩
  unfold f_Mo_areDays f_Mo_areDays_87 daysP
  simp only [ql]
  rw [nI_add, rM2 D hD (by omega), q_c, nI_add, rM2 D hD (by omega), q_c, nI_add, rM1 D hD (by omega), q_c]
  by_cases g0 : madP (nI (o2 D (p + 16))) (nI (o2 D (p + 14))) (nI (o1 D (p + 13)))
  · rw [(qM_made K _ _ _).1 g0, q_b, if_neg n10, nI_add, rM2 D hD (by omega), q_c]
    have l := o2_lt D (p + 18)
    by_cases g1 : o2 D (p + 18) = 0
    · rw [if_pos (by rw [g1])]
      exact ⟨fun z => e55.1 z.2.2, fun z => e55.2 (fun y => z ⟨g0, Or.inl g1, y⟩)⟩
    · rw [if_neg (fun z => g1 ((nI_eq (b := 0) (by omega) (by decide)).mp z)), rM2 D hD (by omega), q_c]
      by_cases g2 : dayP (nI (o2 D (p + 18)))
      · rw [(qM_day K _).1 g2, q_b, if_neg n10]
        exact ⟨fun z => e55.1 z.2.2, fun z => e55.2 (fun y => z ⟨g0, Or.inr g2, y⟩)⟩
      · rw [(qM_day K _).2 g2, q_b, if_pos rfl]
        exact ⟨fun z => absurd z.2.1 (fun y => y.elim g1 g2), fun _ => rfl⟩
  · rw [(qM_made K _ _ _).2 g0, q_b, if_pos rfl]
    exact ⟨fun z => absurd z.1 g0, fun _ => rfl⟩
theorem qV_fits {K N p : Nat} {G : CG} {D : Nat → Int32} {S : CS} (hG : G.n = N) (hD : S.w_Dk_bytes = D) (h2 : N ≤ 1024) (hp : p + 31 < 512 * N) : (daysP D p → f_Da_fit K G S (nI p) = some (nI 1, S)) ∧ (¬ daysP D p → f_Da_fit K G S (nI p) = some (nI 0, S)) := by
  unfold f_Da_fit f_Da_fit_76 daysP
  simp only [ql]
  rw [nI_add, rV2 D hG hD h2 (by omega), q_c, nI_add, rV2 D hG hD h2 (by omega), q_c, nI_add, rV1 D hG hD h2 (by omega), q_c, d_made]
  by_cases g0 : madP (nI (o2 D (p + 16))) (nI (o2 D (p + 14))) (nI (o1 D (p + 13)))
  · rw [(qM_made K _ _ _).1 g0, q_b, if_neg n10, nI_add, rV2 D hG hD h2 (by omega), q_c]
    have l := o2_lt D (p + 18)
    have er : (o2 D (p + 18) = 0 ∨ dayP (nI (o2 D (p + 18))) → f_Da_readFits K (nI (o2 D (p + 18))) = some (nI 1)) ∧ (¬ (o2 D (p + 18) = 0 ∨ dayP (nI (o2 D (p + 18)))) → f_Da_readFits K (nI (o2 D (p + 18))) = some (nI 0)) := by
      unfold f_Da_readFits f_Da_readFits_11
      simp only [ql]
      rw [d_day]
      by_cases g1 : o2 D (p + 18) = 0
      · rw [if_pos (by rw [g1])]
        exact ⟨fun _ => rfl, fun z => absurd (Or.inl g1) z⟩
      · rw [if_neg (fun z => g1 ((nI_eq (b := 0) (by omega) (by decide)).mp z))]
        by_cases g2 : dayP (nI (o2 D (p + 18)))
        · rw [(qM_day K _).1 g2, q_b, if_neg n10]
          exact ⟨fun _ => rfl, fun z => absurd (Or.inr g2) z⟩
        · rw [(qM_day K _).2 g2, q_b, if_pos rfl]
          exact ⟨fun z => absurd z (fun y => y.elim g1 g2), fun _ => rfl⟩
    by_cases g1 : o2 D (p + 18) = 0 ∨ dayP (nI (o2 D (p + 18)))
    · rw [er.1 g1, q_b, if_neg n10, nI_add, rV2 D hG hD h2 (by omega), q_c, nI_add, rV2 D hG hD h2 (by omega), d_day]
      by_cases g2 : dayP (nI (o2 D (p + 24)))
      · rw [(qM_day K _).1 g2, q_b, if_neg n10, q_c, d_time]
        by_cases g3 : timP (nI (o2 D (p + 22)))
        · rw [(qM_time K _).1 g3, q_b, if_neg n10]
          exact ⟨fun _ => rfl, fun z => absurd ⟨g0, g1, g2, g3⟩ z⟩
        · rw [(qM_time K _).2 g3, q_b, if_pos rfl]
          exact ⟨fun z => absurd z.2.2.2 g3, fun _ => rfl⟩
      · rw [(qM_day K _).2 g2, q_b, if_pos rfl]
        exact ⟨fun z => absurd z.2.2.1 g2, fun _ => rfl⟩
    · rw [er.2 g1, q_b, if_pos rfl]
      exact ⟨fun z => absurd z.2.1 g1, fun _ => rfl⟩
  · rw [(qM_made K _ _ _).2 g0, q_b, if_pos rfl]
    exact ⟨fun z => absurd z.1 g0, fun _ => rfl⟩
/-- what may stand in a short name -/
abbrev sgP (u : Nat) : Prop := (65 ≤ u ∧ u ≤ 90) ∨ (48 ≤ u ∧ u ≤ 57) ∨ (35 ≤ u ∧ u ≤ 41) ∨ (94 ≤ u ∧ u ≤ 96) ∨ u = 33 ∨ u = 45 ∨ u = 64 ∨ u = 123 ∨ u = 125 ∨ u = 126
theorem q_ch {u : Nat} (h : u < 65536) : ((nI u).toUInt32 % 65536).toInt32 = nI u := by
  apply q_ext
  apply BitVec.eq_of_toNat_eq
  show ((nI u).toUInt32 % 65536).toNat = _
  rw [UInt32.toNat_mod]
  show (nI u).toBitVec.toNat % 65536 = (nI u).toBitVec.toNat
  rw [q_bv, BitVec.toNat_ofNat]
  omega
theorem q_ix : ∀ (cs : List Nat) (u j : Nat), u < 65536 → (∀ c ∈ cs, c < 65536) → j + cs.length < 2 ^ 31 → (str_ixF (nI u) (cs.map nI) (nI j) < nI 0 ↔ u ∉ cs) := by
  intro cs
  induction cs with
  | nil =>
    intro u j _ _ _
    show ((-1 : Int32) < nI 0) ↔ _
    exact ⟨fun _ h => (by cases h), fun _ => (by decide)⟩
  | cons c cs ih =>
    intro u j hu hc hj
    rw [List.length_cons] at hj
    show (if nI c = nI u then nI j else str_ixF (nI u) (cs.map nI) (nI j + 1)) < nI 0 ↔ _
    have l := hc c List.mem_cons_self
    by_cases g : c = u
    · rw [if_pos (by rw [g])]
      exact ⟨fun z => absurd z (nI_nlt (Nat.zero_le _) (by omega)), fun z => absurd (by rw [g]; exact List.mem_cons_self) z⟩
    · rw [if_neg (fun z => g ((nI_eq (by omega) (by omega)).mp z)), nI_1, ih u (j + 1) hu (fun x hx => hc x (List.mem_cons_of_mem _ hx)) (by omega)]
      rw [List.mem_cons]
      exact ⟨fun z y => y.elim (fun e => g e.symm) z, fun z y => z (Or.inr y)⟩
theorem qM_sign (K : Nat) {u : Nat} (hu : u < 65536) : (sgP u → f_Mo_isShortSign K (nI u) = some (nI 1)) ∧ (¬ sgP u → f_Mo_isShortSign K (nI u) = some (nI 0)) := by
  have hx : str_ix [33, 35, 36, 37, 38, 39, 40, 41, 45, 64, 94, 95, 96, 123, 125, 126] (nI u) < nI 0 ↔ u ∉ [33, 35, 36, 37, 38, 39, 40, 41, 45, 64, 94, 95, 96, 123, 125, 126] := q_ix [33, 35, 36, 37, 38, 39, 40, 41, 45, 64, 94, 95, 96, 123, 125, 126] u 0 hu (by decide) (by decide)
  have hs : sgP u ↔ (65 ≤ u ∧ u ≤ 90) ∨ (48 ≤ u ∧ u ≤ 57) ∨ u ∈ [33, 35, 36, 37, 38, 39, 40, 41, 45, 64, 94, 95, 96, 123, 125, 126] := by
    simp only [List.mem_cons, List.not_mem_nil, or_false]
    unfold sgP
    omega
  have e24 : f_Mo_isShortSign_24 K (nI u) = if u ∈ [33, 35, 36, 37, 38, 39, 40, 41, 45, 64, 94, 95, 96, 123, 125, 126] then some (nI 1) else some (nI 0) := by
    unfold f_Mo_isShortSign_24
    rw [q_ch hu, q_l]
    simp only [ql]
    by_cases g0 : u = 0
    · rw [if_pos (by rw [g0]; exact Int32.le_refl _), if_neg (by rw [g0]; decide)]
      rfl
    · rw [if_neg (nI_ge (a := 0) (by omega) (by omega))]
      by_cases g : u ∈ [33, 35, 36, 37, 38, 39, 40, 41, 45, 64, 94, 95, 96, 123, 125, 126]
      · rw [if_pos g]
        exact if_neg (fun z => hx.mp z g)
      · rw [if_neg g]
        exact if_pos (hx.mpr g)
  have e12 : f_Mo_isShortSign_12 K (nI u) = if (48 ≤ u ∧ u ≤ 57) ∨ u ∈ [33, 35, 36, 37, 38, 39, 40, 41, 45, 64, 94, 95, 96, 123, 125, 126] then some (nI 1) else some (nI 0) := by
    unfold f_Mo_isShortSign_12
    simp only [ql]
    rw [e24]
    by_cases g : u < 48
    · rw [if_pos (nI_lt g (by decide))]
      exact q_iC ⟨Or.inr, fun z => z.resolve_left (by omega)⟩
    · rw [if_neg (nI_nlt (by omega) (by omega))]
      by_cases g2 : u ≤ 57
      · rw [if_pos (nI_le g2 (by decide)), if_pos (Or.inl (by omega))]
        rfl
      · rw [if_neg (nI_ge (by omega) (by omega))]
        exact q_iC ⟨Or.inr, fun z => z.resolve_left (by omega)⟩
  have e : f_Mo_isShortSign K (nI u) = if sgP u then some (nI 1) else some (nI 0) := by
    unfold f_Mo_isShortSign
    simp only [ql]
    rw [e12]
    by_cases g : u < 65
    · rw [if_pos (nI_lt g (by decide))]
      exact q_iC (by rw [hs]; exact ⟨Or.inr, fun z => z.resolve_left (by omega)⟩)
    · rw [if_neg (nI_nlt (by omega) (by omega))]
      by_cases g2 : u ≤ 90
      · rw [if_pos (nI_le g2 (by decide)), if_pos (Or.inl (by omega))]
        rfl
      · rw [if_neg (nI_ge (by omega) (by omega))]
        exact q_iC (by rw [hs]; exact ⟨Or.inr, fun z => z.resolve_left (by omega)⟩)
  rw [e]
  exact ⟨fun h => if_pos h, fun h => if_neg h⟩
theorem q_rng {lo hi u : Nat} {P : Prop} [Decidable P] (hl : lo < 2 ^ 31) (hh : hi < 2 ^ 31) (hu : u < 2 ^ 31) : (if nI u < nI lo then (if P then some (nI 1) else some (nI 0)) else (if nI u ≤ nI hi then some (nI 1) else (if P then some (nI 1) else some (nI 0)))) = if (lo ≤ u ∧ u ≤ hi) ∨ P then some (nI 1) else some (nI 0) := by
  by_cases g : u < lo
  · rw [if_pos (nI_lt g hl)]
    exact q_iC ⟨Or.inr, fun z => z.resolve_left (by omega)⟩
  · rw [if_neg (nI_nlt (by omega) hu)]
    by_cases g2 : u ≤ hi
    · rw [if_pos (nI_le g2 hh), if_pos (Or.inl (by omega))]
    · rw [if_neg (nI_ge (by omega) hu)]
      exact q_iC ⟨Or.inr, fun z => z.resolve_left (by omega)⟩
theorem qV_sign (K : Nat) {u : Nat} (hu : u < 65536) : (sgP u → f_Wo_mayBeShort K (nI u) = some (nI 1)) ∧ (¬ sgP u → f_Wo_mayBeShort K (nI u) = some (nI 0)) := by
  have e48 : f_Wo_mayBeShort_48 K (nI u) = if u = 33 ∨ u = 45 ∨ u = 64 ∨ u = 123 ∨ u = 125 ∨ u = 126 then some (nI 1) else some (nI 0) := by
    unfold f_Wo_mayBeShort_48 f_Wo_mayBeShort_84
    simp (disch := omega) only [q_lit, nI_eq, q_iO]
  have e : f_Wo_mayBeShort K (nI u) = if (65 ≤ u ∧ u ≤ 90) ∨ (48 ≤ u ∧ u ≤ 57) ∨ (35 ≤ u ∧ u ≤ 41) ∨ (94 ≤ u ∧ u ≤ 96) ∨ u = 33 ∨ u = 45 ∨ u = 64 ∨ u = 123 ∨ u = 125 ∨ u = 126 then some (nI 1) else some (nI 0) := by
    unfold f_Wo_mayBeShort f_Wo_mayBeShort_12 f_Wo_mayBeShort_24 f_Wo_mayBeShort_36 f_Wo_mayBeShort_84
    simp only [ql]
    rw [e48, q_rng (by decide) (by decide) (by omega), q_rng (by decide) (by decide) (by omega), q_rng (by decide) (by decide) (by omega), q_rng (by decide) (by decide) (by omega)]
  rw [e]
  exact ⟨fun h => if_pos h, fun h => if_neg h⟩
abbrev shQ (D : Nat → Int32) (p : Nat) (lab : Prop) (q : Nat) : Prop := (o1 D (p + q) = 32 ∨ sgP (o1 D (p + q))) ∧ (lab ∨ q = 0 ∨ q = 8 ∨ o1 D (p + q) = 32 ∨ o1 D (p + q - 1) ≠ 32)
/-- a short name as told -/
def shP (D : Nat → Int32) (p : Nat) (lab : Prop) : Prop := o1 D p ≠ 32 ∧ ∀ q, q < 11 → shQ D p lab q
theorem qM_isShort {K p l : Nat} {D : Nat → Int32} {T : MS} (hK : 1000 ≤ K) (hD : T.v_disk = D) (hp : p + 31 < 524288) (hl : l = 0 ∨ l = 1) : (shP D p (l = 1) → f_Mo_isShort K T (nI p) (nI l) = some (nI 1, T)) ∧ (¬ shP D p (l = 1) → f_Mo_isShort K T (nI p) (nI l) = some (nI 0, T)) := by
  have fl : ∀ P : Prop, P ∨ ¬ P := fun P => Classical.em P
  have step : ∀ (i k g : Nat), i < 11 → (g = 0 ∨ g = 1) → f_Mo_isShort_19 K (k + 1) (nI p) (nI l) (nI g) (nI i) T = f_Mo_isShort_19 K k (nI p) (nI l) (nI (if g = 1 ∧ shQ D p (l = 1) i then 1 else 0)) (nI (i + 1)) T := by
    intro i k g hi hg
    have lb := o1_lt D (p + i)
    have lb2 := o1_lt D (p + i - 1)
    have g0 : ∀ x : Nat, (x = 0 ∨ x = 1) → (nI x = nI 0 ↔ x = 0) := fun x hx => nI_eq (by omega) (by decide)
    have e120 : ∀ z : Nat, f_Mo_isShort_120 K (f_Mo_isShort_19 K k) (nI p) (nI l) (nI i) (nI z) T = f_Mo_isShort_19 K k (nI p) (nI l) (nI z) (nI (i + 1)) T := fun z => by
      rw [f_Mo_isShort_120, q_l, nI_1]
    have e74 : ∀ b z : Nat, (b = 0 ∨ b = 1) → (z = 0 ∨ z = 1) → f_Mo_isShort_74 K (f_Mo_isShort_19 K k) (nI p) (nI l) (nI i) (nI b) (nI z) T = f_Mo_isShort_19 K k (nI p) (nI l) (nI (if z = 1 ∧ (l = 1 ∨ i = 0 ∨ i = 8 ∨ b = 1 ∨ o1 D (p + i - 1) ≠ 32) then 1 else 0)) (nI (i + 1)) T := by
      intro b z hb hz
      unfold f_Mo_isShort_74 f_Mo_isShort_119 f_Mo_isShort_115
      simp only [ql]
      rw [e120, e120]
      by_cases c1 : z = 0
      · rw [if_pos (by rw [c1]), if_neg (show ¬ (z = 1 ∧ _) by omega)]
      rw [if_neg (fun y => c1 ((g0 z hz).mp y))]
      by_cases c2 : l = 0
      · rw [if_pos (by rw [c2])]
        by_cases c3 : i = 0
        · rw [if_pos (by rw [c3]), if_pos (show z = 1 ∧ _ by omega)]
        rw [if_neg (fun y => c3 ((nI_eq (b := 0) (by omega) (by decide)).mp y))]
        by_cases c4 : i = 8
        · rw [if_pos (by rw [c4]), if_pos (show z = 1 ∧ _ by omega)]
        rw [if_neg (fun y => c4 ((nI_eq (b := 8) (by omega) (by decide)).mp y))]
        by_cases c5 : b = 0
        · rw [if_pos (by rw [c5]), nI_add, pk_sub (by omega), rM1 D hD (by omega), q_c]
          by_cases c6 : o1 D (p + i - 1) = 32
          · rw [if_pos (by rw [c6]), e120, if_neg (show ¬ (z = 1 ∧ _) by omega)]
          · rw [if_neg (fun y => c6 ((nI_eq (b := 32) (by omega) (by decide)).mp y)), e120, if_pos (show z = 1 ∧ _ by omega)]
        · rw [if_neg (fun y => c5 ((g0 b hb).mp y)), if_pos (show z = 1 ∧ _ by omega)]
      · rw [if_neg (fun y => c2 ((g0 l hl).mp y)), if_pos (show z = 1 ∧ _ by omega)]
    have e44 : ∀ b : Nat, (b = 1 ↔ o1 D (p + i) = 32) → (b = 0 ∨ b = 1) → f_Mo_isShort_44 K (f_Mo_isShort_19 K k) (nI p) (nI l) (nI g) (nI i) (nI b) T = f_Mo_isShort_19 K k (nI p) (nI l) (nI (if g = 1 ∧ shQ D p (l = 1) i then 1 else 0)) (nI (i + 1)) T := by
      intro b hb1 hb
      unfold f_Mo_isShort_44 f_Mo_isShort_73 f_Mo_isShort_69
      simp only [ql]
      rw [e74 b 0 hb (Or.inl rfl), e74 b 1 hb (Or.inr rfl)]
      by_cases c1 : g = 0
      · rw [if_pos (by rw [c1]), if_neg (show ¬ (0 = 1 ∧ _) by omega), if_neg (show ¬ (g = 1 ∧ _) by omega)]
      rw [if_neg (fun y => c1 ((g0 g hg).mp y))]
      by_cases c2 : b = 0
      · rw [if_pos (by rw [c2]), nI_add, rM1 D hD (by omega), q_c]
        by_cases c3 : sgP (o1 D (p + i))
        · rw [(qM_sign K (by omega)).1 c3, q_b, if_neg n10, e74 b 1 hb (Or.inr rfl)]
          congr 2
          exact q_iC ⟨fun y => ⟨by omega, Or.inr c3, by omega⟩, fun y => ⟨rfl, by have := y.2.2; omega⟩⟩
        · rw [(qM_sign K (by omega)).2 c3, q_b, if_pos rfl, e74 b 0 hb (Or.inl rfl), if_neg (show ¬ (0 = 1 ∧ _) by omega), if_neg (show ¬ (g = 1 ∧ shQ D p (l = 1) i) from fun y => y.2.1.elim (by omega) c3)]
      · rw [if_neg (fun y => c2 ((g0 b hb).mp y))]
        congr 2
        exact q_iC ⟨fun y => ⟨by omega, Or.inl (by omega), by omega⟩, fun y => ⟨rfl, by have := y.2.2; omega⟩⟩
    rw [f_Mo_isShort_19]
    simp only [ql]
    rw [if_neg (nI_ge hi (by decide)), nI_add, rM1 D hD (by omega), q_c]
    by_cases c : o1 D (p + i) = 32
    · rw [if_pos (by rw [c]), e44 1 (by omega) (Or.inr rfl)]
    · rw [if_neg (fun y => c ((nI_eq (b := 32) (by omega) (by decide)).mp y)), e44 0 (by omega) (Or.inl rfl)]
  have all : ∀ (d i k g : Nat), i + d = 11 → d < k → (g = 0 ∨ g = 1) → (g = 1 ∧ (∀ q, i ≤ q → q < 11 → shQ D p (l = 1) q) → f_Mo_isShort_19 K k (nI p) (nI l) (nI g) (nI i) T = some (nI 1, T)) ∧ (¬ (g = 1 ∧ (∀ q, i ≤ q → q < 11 → shQ D p (l = 1) q)) → f_Mo_isShort_19 K k (nI p) (nI l) (nI g) (nI i) T = some (nI 0, T)) := by
    intro d
    induction d with
    | zero =>
      intro i k g hi hk hg
      obtain ⟨k, rfl⟩ : ∃ m, k = m + 1 := ⟨k - 1, by omega⟩
      rw [f_Mo_isShort_19]
      simp only [ql]
      rw [if_pos (nI_le (by omega) (by omega)), q_g (by rcases hg with e | e <;> rw [e] <;> decide)]
      rcases hg with e | e
      · rw [e]
        exact ⟨fun z => absurd z.1 (by decide), fun _ => rfl⟩
      · rw [e]
        exact ⟨fun _ => rfl, fun z => absurd ⟨rfl, fun q h1 h2 => absurd h2 (by omega)⟩ z⟩
    | succ d ih =>
      intro i k g hi hk hg
      obtain ⟨k, rfl⟩ : ∃ m, k = m + 1 := ⟨k - 1, by omega⟩
      rw [step i k g (by omega) hg]
      have I := ih (i + 1) k (if g = 1 ∧ shQ D p (l = 1) i then 1 else 0) (by omega) (by omega) (by split <;> simp)
      refine ⟨fun z => I.1 ⟨if_pos ⟨z.1, z.2 i (Nat.le_refl _) (by omega)⟩, fun q h1 h2 => z.2 q (by omega) h2⟩, fun z => I.2 (fun y => z ?_)⟩
      have y1 : g = 1 ∧ shQ D p (l = 1) i := by
        by_cases c : g = 1 ∧ shQ D p (l = 1) i
        · exact c
        · rw [if_neg c] at y
          exact absurd y.1 (by decide)
      refine ⟨y1.1, fun q h1 h2 => ?_⟩
      by_cases e : q = i
      · rw [e]; exact y1.2
      · exact y.2 q (by omega) h2
  have lb := o1_lt D p
  unfold f_Mo_isShort f_Mo_isShort_15
  simp only [ql]
  rw [rM1 D hD (by omega), q_c]
  by_cases c : o1 D p = 32
  · rw [if_pos (by rw [c])]
    have I := all 11 0 K 0 rfl (by omega) (Or.inl rfl)
    exact ⟨fun z => absurd c z.1, fun _ => I.2 (fun y => absurd y.1 (by decide))⟩
  · rw [if_neg (fun y => c ((nI_eq (b := 32) (by omega) (by decide)).mp y))]
    have I := all 11 0 K 1 rfl (by omega) (Or.inr rfl)
    exact ⟨fun z => I.1 ⟨rfl, fun q _ h2 => z.2 q h2⟩, fun z => I.2 (fun y => z ⟨c, fun q h2 => y.2 q (Nat.zero_le _) h2⟩)⟩
theorem qV_isShort {K N p l : Nat} {G : CG} {D : Nat → Int32} {S : CS} (hK : 1000 ≤ K) (hG : G.n = N) (hD : S.w_Dk_bytes = D) (h2 : N ≤ 1024) (hp : p + 31 < 512 * N) (hl : l = 0 ∨ l = 1) : (shP D p (l = 1) → f_Wo_isShortName K G S (nI p) (nI l) = some (nI 1, S)) ∧ (¬ shP D p (l = 1) → f_Wo_isShortName K G S (nI p) (nI l) = some (nI 0, S)) := by
  have step : ∀ (i k e : Nat), i < 11 → (e = 0 ∨ e = 1) → (e = 1 ↔ l = 0 ∧ 0 < i ∧ o1 D (p + i - 1) = 32) → (shQ D p (l = 1) i → f_Wo_isShortName_17 K G (k + 1) (nI p) (nI l) (nI e) (nI i) S = f_Wo_isShortName_17 K G k (nI p) (nI l) (nI (if l = 0 ∧ o1 D (p + i) = 32 then 1 else 0)) (nI (i + 1)) S) ∧ (¬ shQ D p (l = 1) i → f_Wo_isShortName_17 K G (k + 1) (nI p) (nI l) (nI e) (nI i) S = some (nI 0, S)) := by
    intro i k e hi he he2
    have lb := o1_lt D (p + i)
    have g0 : ∀ x : Nat, (x = 0 ∨ x = 1) → (nI x = nI 0 ↔ x = 0) := fun x hx => nI_eq (by omega) (by decide)
    have e50 : ∀ z : Nat, (z = 0 ∨ z = 1) → (z = 1 ↔ e = 1 ∧ i ≠ 8) → (shQ D p (l = 1) i → f_Wo_isShortName_50 K G (f_Wo_isShortName_17 K G k) (nI p) (nI l) (nI i) (nI (o1 D (p + i))) (nI z) S = f_Wo_isShortName_17 K G k (nI p) (nI l) (nI (if l = 0 ∧ o1 D (p + i) = 32 then 1 else 0)) (nI (i + 1)) S) ∧ (¬ shQ D p (l = 1) i → f_Wo_isShortName_50 K G (f_Wo_isShortName_17 K G k) (nI p) (nI l) (nI i) (nI (o1 D (p + i))) (nI z) S = some (nI 0, S)) := by
      intro z hz hz2
      unfold f_Wo_isShortName_50 f_Wo_isShortName_67 f_Wo_isShortName_85 f_Wo_isShortName_83
      simp only [ql, q_l, nI_add]
      by_cases c1 : o1 D (p + i) = 32
      · rw [if_pos (by rw [c1])]
        have good : shQ D p (l = 1) i := ⟨Or.inl c1, by omega⟩
        by_cases c2 : l = 0
        · rw [if_pos (by rw [c2]), if_pos (show l = 0 ∧ _ from ⟨c2, c1⟩)]
          exact ⟨fun _ => rfl, fun y => absurd good y⟩
        · rw [if_neg (fun y => c2 ((g0 l hl).mp y)), if_neg (show ¬ (l = 0 ∧ _) by omega)]
          exact ⟨fun _ => rfl, fun y => absurd good y⟩
      · rw [if_neg (fun y => c1 ((nI_eq (b := 32) (by omega) (by decide)).mp y))]
        by_cases c2 : z = 0
        · rw [if_pos (by rw [c2])]
          by_cases c3 : sgP (o1 D (p + i))
          · rw [(qV_sign K (by omega)).1 c3, q_b, if_neg n10, if_neg (show ¬ (l = 0 ∧ _) by omega), c2]
            exact ⟨fun _ => rfl, fun y => absurd ⟨Or.inr c3, by omega⟩ y⟩
          · rw [(qV_sign K (by omega)).2 c3, q_b, if_pos rfl]
            exact ⟨fun y => absurd y.1 (fun w => w.elim c1 c3), fun _ => rfl⟩
        · rw [if_neg (fun y => c2 ((g0 z hz).mp y))]
          exact ⟨fun y => absurd y.2 (by omega), fun _ => rfl⟩
    rw [f_Wo_isShortName_17]
    unfold f_Wo_isShortName_49
    simp only [ql]
    rw [if_neg (nI_ge hi (by decide)), nI_add, rV1 D hG hD h2 (by omega), q_c]
    by_cases c1 : e = 0
    · rw [if_pos (by rw [c1])]
      exact e50 0 (Or.inl rfl) (by omega)
    · rw [if_neg (fun y => c1 ((g0 e he).mp y))]
      by_cases c2 : i = 8
      · rw [if_pos (by rw [c2])]
        exact e50 0 (Or.inl rfl) (by omega)
      · rw [if_neg (fun y => c2 ((nI_eq (b := 8) (by omega) (by decide)).mp y))]
        exact e50 1 (Or.inr rfl) (by omega)
  have all : ∀ (d i k e : Nat), i + d = 11 → d < k → (e = 0 ∨ e = 1) → (e = 1 ↔ l = 0 ∧ 0 < i ∧ o1 D (p + i - 1) = 32) → ((∀ q, i ≤ q → q < 11 → shQ D p (l = 1) q) → f_Wo_isShortName_17 K G k (nI p) (nI l) (nI e) (nI i) S = some (nI 1, S)) ∧ (¬ (∀ q, i ≤ q → q < 11 → shQ D p (l = 1) q) → f_Wo_isShortName_17 K G k (nI p) (nI l) (nI e) (nI i) S = some (nI 0, S)) := by
    intro d
    induction d with
    | zero =>
      intro i k e hi hk he he2
      obtain ⟨k, rfl⟩ : ∃ m, k = m + 1 := ⟨k - 1, by omega⟩
      rw [f_Wo_isShortName_17]
      simp only [ql]
      rw [if_pos (nI_le (by omega) (by omega))]
      exact ⟨fun _ => rfl, fun z => absurd (fun q h1 h2 => absurd h2 (by omega)) z⟩
    | succ d ih =>
      intro i k e hi hk he he2
      obtain ⟨k, rfl⟩ : ∃ m, k = m + 1 := ⟨k - 1, by omega⟩
      have st := step i k e (by omega) he he2
      by_cases c : shQ D p (l = 1) i
      · rw [st.1 c]
        have I := ih (i + 1) k (if l = 0 ∧ o1 D (p + i) = 32 then 1 else 0) (by omega) (by omega) (by split <;> simp) (by
          rw [show p + (i + 1) - 1 = p + i by omega]
          split <;> omega)
        refine ⟨fun z => I.1 (fun q h1 h2 => z q (by omega) h2), fun z => I.2 (fun y => z (fun q h1 h2 => ?_))⟩
        by_cases e : q = i
        · rw [e]; exact c
        · exact y q (by omega) h2
      · rw [st.2 c]
        exact ⟨fun z => absurd (z i (Nat.le_refl _) (by omega)) c, fun _ => rfl⟩
  have lb := o1_lt D p
  rw [f_Wo_isShortName]
  simp only [ql]
  rw [rV1 D hG hD h2 (by omega), q_c]
  by_cases c : o1 D p = 32
  · rw [if_pos (by rw [c])]
    exact ⟨fun z => absurd c z.1, fun _ => rfl⟩
  · rw [if_neg (fun y => c ((nI_eq (b := 32) (by omega) (by decide)).mp y))]
    have I := all 11 0 K 0 rfl (by omega) (Or.inl rfl) (by omega)
    exact ⟨fun z => I.1 (fun q _ h2 => z.2 q h2), fun z => I.2 (fun y => z ⟨c, fun q h2 => y q (Nat.zero_le _) h2⟩)⟩
