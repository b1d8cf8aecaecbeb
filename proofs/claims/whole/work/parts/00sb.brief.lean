/-! make: a name that is a short one as it stands. -/
def fpt (us : List Nat) : Nat := us.findIdx (fun u => u == 46)
theorem fpt_le (us : List Nat) : fpt us ≤ us.length := List.findIdx_le_length
theorem fpt_at {us : List Nat} (h : fpt us < us.length) : us.getD (fpt us) 0 = 46 := by
  have := List.findIdx_getElem (xs := us) (p := fun u => u == 46) (w := h)
  rw [List.getD_eq_getElem?_getD, List.getElem?_eq_getElem h]
  exact beq_iff_eq.mp this
theorem fpt_no {us : List Nat} {j : Nat} (h : j < fpt us) : us.getD j 0 ≠ 46 := by
  have hl : j < us.length := Nat.lt_of_lt_of_le h (fpt_le us)
  have := List.not_of_lt_findIdx (xs := us) (p := fun u => u == 46) h
  rw [List.getD_eq_getElem?_getD, List.getElem?_eq_getElem hl]
  intro e
  have h2 : (us[j] == 46) = true := beq_iff_eq.mpr e
  have this : (us[j] == 46) = false := this
  rw [this] at h2
  cases h2
theorem sg46 : ¬ sgP 46 := by unfold sgP; omega
theorem sg32 : ¬ sgP 32 := by unfold sgP; omega
/-- the eleven signs after the units before j, the point at f -/
def brG (us : List Nat) (f j q : Nat) : Nat := if q < 8 then (if q < f ∧ q < j then us.getD q 0 else 32) else (if f + 1 + (q - 8) < j then us.getD (f + 1 + (q - 8)) 0 else 32)
def brP (us : List Nat) : Prop := 1 ≤ fpt us ∧ fpt us ≤ 8 ∧ us.length ≤ fpt us + 4 ∧ (us.length ≤ fpt us ∨ fpt us + 2 ≤ us.length) ∧ ∀ j, j < us.length → j ≠ fpt us → sgP (us.getD j 0)
theorem brG_lo {us : List Nat} {f j q : Nat} (hf : f ≤ 8) (hj : j < f) : brG us f (j + 1) q = if q = j then us.getD j 0 else brG us f j q := by
  unfold brG
  by_cases e : q = j
  · rw [if_pos e, if_pos (by omega), if_pos (by omega), e]
  · rw [if_neg e]
    by_cases a : q < 8
    · rw [if_pos a, if_pos a]
      by_cases b : q < f ∧ q < j
      · rw [if_pos b, if_pos (by omega)]
      · rw [if_neg b, if_neg (by omega)]
    · rw [if_neg a, if_neg a, if_neg (by omega), if_neg (by omega)]
theorem brG_pt {us : List Nat} {f q : Nat} : brG us f (f + 1) q = brG us f f q := by
  unfold brG
  by_cases a : q < 8
  · rw [if_pos a, if_pos a]
    by_cases b : q < f
    · rw [if_pos ⟨b, by omega⟩, if_pos ⟨b, b⟩]
    · rw [if_neg (fun w => b w.1), if_neg (fun w => b w.1)]
  · rw [if_neg a, if_neg a, if_neg (by omega), if_neg (by omega)]
theorem brG_hi {us : List Nat} {f j q : Nat} (hj : f < j) : brG us f (j + 1) q = if q = 7 + j - f then us.getD j 0 else brG us f j q := by
  unfold brG
  by_cases e : q = 7 + j - f
  · rw [if_pos e, if_neg (by omega), if_pos (by omega), show f + 1 + (q - 8) = j from by omega]
  · rw [if_neg e]
    by_cases a : q < 8
    · rw [if_pos a, if_pos a]
      by_cases b : q < f
      · rw [if_pos ⟨b, by omega⟩, if_pos ⟨b, by omega⟩]
      · rw [if_neg (fun w => b w.1), if_neg (fun w => b w.1)]
    · rw [if_neg a, if_neg a]
      by_cases b : f + 1 + (q - 8) < j
      · rw [if_pos b, if_pos (by omega)]
      · rw [if_neg b, if_neg (by omega)]
theorem brG_0 {us : List Nat} {f q : Nat} : brG us f 0 q = 32 := by
  unfold brG
  split
  · exact if_neg (by omega)
  · exact if_neg (by omega)
/-! the reference -/
theorem qM_br91 {K f : Nat} {T : MS} {us : List Nat} (hK : 20000 ≤ K) (hs : T.v_size = nI us.length) (hl : us.length ≤ 255) (hb : bufR T.v_name us) (hu : ∀ u ∈ us, u < 65536) (hf1 : f ≤ 8) (hf2 : us.length ≤ f + 4) (g0 : Nat → Int32) (hg0 : ∀ q, q < 11 → g0 q = nI 32) : wp (f_Mo_isBrief_91 K K (nI f) 0 (T.u_v_brief g0)) (fun r => r.1 = b01 (∀ j, j < us.length → j ≠ f → sgP (us.getD j 0)) ∧ ∃ g, r.2 = T.u_v_brief g ∧ ((∀ j, j < us.length → j ≠ f → sgP (us.getD j 0)) → ∀ q, q < 11 → g q = nI (brG us f us.length q))) := by
  refine wp_loop (F := fun k i s => f_Mo_isBrief_91 K k (nI f) (nI i) s) (fun i s => (∀ j, j < i → j ≠ f → sgP (us.getD j 0)) ∧ ∃ g, s = T.u_v_brief g ∧ ∀ q, q < 11 → g q = nI (brG us f i q)) us.length ?_ ?_ 0 K _ (by omega) (by omega) ⟨fun j hj => absurd hj (by omega), g0, rfl, fun q hq => by rw [brG_0, hg0 q hq]⟩
  · rintro i _ k hi ⟨hj, g, rfl, hg⟩ ih
    show wp (f_Mo_isBrief_91 K (k + 1) (nI f) (nI i) _) _
    rw [f_Mo_isBrief_91]
    refine wp_f (show ¬ T.v_size ≤ nI i from by rw [hs]; exact nI_ge hi (by omega)) ?_
    have hui : us.getD i 0 < 65536 := getD_lt hu (by decide)
    refine wp_if (nI_eq (by omega) (by omega)) (fun e => ?_) (fun e => ?_)
    · unfold f_Mo_isBrief_118 f_Mo_isBrief_149
      refine wp_t (by rw [e]) (wp_l ?_)
      rw [nI_1]
      refine ih _ ⟨fun j h1 h2 => hj j (by omega) h2, g, rfl, fun q hq => ?_⟩
      have := hg q hq
      rw [e] at this ⊢
      rw [brG_pt]
      exact this
    · refine wp_g (q_in (by omega) (by decide)) ?_
      rw [nI_clamp (by omega), show (T.u_v_brief g).v_name i = _ from hb i hi]
      by_cases sg : sgP (us.getD i 0)
      · rw [(qM_sign K hui).1 sg, q_b]
        refine wp_f (by decide) ?_
        unfold f_Mo_isBrief_118 f_Mo_isBrief_142 f_Mo_isBrief_149
        refine wp_f (fun y => e ((nI_eq (by omega) (by omega)).mp y)) ?_
        have hj' : ∀ j, j < i + 1 → j ≠ f → sgP (us.getD j 0) := fun j h1 h2 => by
          by_cases ej : j = i
          · rw [ej]; exact sg
          · exact hj j (by omega) h2
        refine wp_if (nI_leI (by omega) (by omega)) (fun c => ?_) (fun c => ?_)
        · rw [show (7 : Int32) = nI 7 from rfl, nI_add, pk_sub (by omega)]
          refine wp_g (q_in (by omega) (by decide)) (wp_g (q_in (by omega) (by decide)) (wp_l (wp_l ?_)))
          rw [nI_clamp (by omega), nI_clamp (by omega), nI_1, show (T.u_v_brief g).v_name i = _ from hb i hi]
          refine ih _ ⟨hj', _, rfl, fun q hq => ?_⟩
          rw [brG_hi (by omega)]
          by_cases e2 : q = 7 + i - f
          · rw [if_pos e2, e2, upE]
          · rw [if_neg e2, upN e2]
            exact hg q hq
        · refine wp_g (q_in (by omega) (by decide)) (wp_g (q_in (by omega) (by decide)) (wp_l (wp_l ?_)))
          rw [nI_clamp (by omega), nI_1, show (T.u_v_brief g).v_name i = _ from hb i hi]
          refine ih _ ⟨hj', _, rfl, fun q hq => ?_⟩
          rw [brG_lo hf1 (by omega)]
          by_cases e2 : q = i
          · rw [if_pos e2, e2, upE]
          · rw [if_neg e2, upN e2]
            exact hg q hq
      · rw [(qM_sign K hui).2 sg, q_b]
        refine wp_t rfl (wp_i ⟨?_, g, rfl, fun w => absurd (w i hi e) sg⟩)
        exact (b01_f fun w => sg (w i hi e)).symm
  · rintro _ k ⟨hj, g, rfl, hg⟩
    show wp (f_Mo_isBrief_91 K (k + 1) (nI f) (nI us.length) _) _
    rw [f_Mo_isBrief_91]
    exact wp_t (show T.v_size ≤ _ from by rw [hs]; exact Int32.le_refl _) (wp_i ⟨(b01_t hj).symm, g, rfl, fun _ => hg⟩)
theorem qM_br27 {K : Nat} {T : MS} {us : List Nat} (hK : 20000 ≤ K) (hs : T.v_size = nI us.length) (hl : us.length ≤ 255) (hb : bufR T.v_name us) (hu : ∀ u ∈ us, u < 65536) : wp (f_Mo_isBrief_27 K (nI (fpt us)) T) (fun r => r.1 = b01 (brP us) ∧ ∃ g, r.2 = T.u_v_brief g ∧ (brP us → ∀ q, q < 11 → g q = nI (brG us (fpt us) us.length q))) := by
  have hfl := fpt_le us
  have no : ¬ brP us → wp (f_Mo_isBrief_65 K T) (fun r => r.1 = b01 (brP us) ∧ ∃ g, r.2 = T.u_v_brief g ∧ (brP us → ∀ q, q < 11 → g q = nI (brG us (fpt us) us.length q))) := fun w => wp_i ⟨(b01_f w).symm, T.v_brief, rfl, fun y => absurd y w⟩
  have yes : 1 ≤ fpt us → fpt us ≤ 8 → us.length ≤ fpt us + 4 → (us.length ≤ fpt us ∨ fpt us + 2 ≤ us.length) → wp (f_Mo_isBrief_67 K (nI (fpt us)) T) (fun r => r.1 = b01 (brP us) ∧ ∃ g, r.2 = T.u_v_brief g ∧ (brP us → ∀ q, q < 11 → g q = nI (brG us (fpt us) us.length q))) := fun h1 h2 h3 h4 => by
    have hiff : (∀ j, j < us.length → j ≠ fpt us → sgP (us.getD j 0)) ↔ brP us := ⟨fun w => ⟨h1, h2, h3, h4, w⟩, fun w => w.2.2.2.2⟩
    unfold f_Mo_isBrief_67
    refine wp_loop (F := fun k i s => f_Mo_isBrief_69 K k (nI (fpt us)) (nI i) s) (fun i s => ∃ g, s = T.u_v_brief g ∧ ∀ q, q < i → g q = nI 32) 11 ?_ ?_ 0 K _ (by omega) (by omega) ⟨T.v_brief, rfl, fun q hq => absurd hq (by omega)⟩
    · rintro i _ k hi ⟨g, rfl, hg⟩ ih
      show wp (f_Mo_isBrief_69 K (k + 1) (nI (fpt us)) (nI i) _) _
      rw [f_Mo_isBrief_69]
      refine wp_f (show ¬ (11 : Int32) ≤ nI i from nI_ge hi (by decide)) (wp_g (q_in hi (by decide)) (wp_l (wp_l ?_)))
      rw [nI_clamp (by omega), nI_1]
      refine ih _ ⟨_, rfl, fun q hq => ?_⟩
      by_cases e : q = i
      · rw [e, upE]; rfl
      · rw [upN e]; exact hg q (by omega)
    · rintro _ k ⟨g, rfl, hg⟩
      show wp (f_Mo_isBrief_69 K (k + 1) (nI (fpt us)) (nI 11) _) _
      rw [f_Mo_isBrief_69]
      refine wp_t (by decide) ?_
      refine wp_w (qM_br91 hK hs hl hb hu h2 h3 g hg) fun x hx => ⟨by rw [hx.1]; exact b01_iff hiff, ?_⟩
      obtain ⟨g', e, w⟩ := hx.2
      exact ⟨g', e, fun y => w (hiff.mpr y)⟩
  unfold f_Mo_isBrief_27
  rw [hs, pk_sub hfl]
  refine wp_if (show nI (fpt us) = 0 ↔ fpt us = 0 from nI_eq (by omega) (by decide)) (fun c => no fun w => by have := w.1; omega) fun c => ?_
  refine wp_if (show (8 : Int32) < nI (fpt us) ↔ 8 < fpt us from nI_ltI (by decide) (by omega)) (fun c => no fun w => by have := w.2.1; omega) fun c2 => ?_
  refine wp_if (show (4 : Int32) < nI (us.length - fpt us) ↔ 4 < us.length - fpt us from nI_ltI (by decide) (by omega)) (fun c => no fun w => by have := w.2.2.1; omega) fun c3 => ?_
  refine wp_if (nI_leI (by omega) (by omega)) (fun c => yes (by omega) (by omega) (by omega) (Or.inl c)) fun c4 => ?_
  exact wp_if (show (2 : Int32) ≤ nI (us.length - fpt us) ↔ 2 ≤ us.length - fpt us from nI_leI (by decide) (by omega)) (fun c => yes (by omega) (by omega) (by omega) (Or.inr (by omega))) (fun c => no fun w => by have := w.2.2.2.1; omega)
theorem qM_isBrief {K : Nat} {T : MS} {us : List Nat} (hK : 20000 ≤ K) (hs : T.v_size = nI us.length) (hl : us.length ≤ 255) (hb : bufR T.v_name us) (hu : ∀ u ∈ us, u < 65536) : wp (f_Mo_isBrief K T) (fun r => r.1 = b01 (brP us) ∧ ∃ g, r.2 = T.u_v_brief g ∧ (brP us → ∀ q, q < 11 → g q = nI (brG us (fpt us) us.length q))) := by
  have hfl := fpt_le us
  have h27 := qM_br27 hK hs hl hb hu
  unfold f_Mo_isBrief
  refine wp_loop (F := fun k i s => f_Mo_isBrief_2 K k (nI i) s) (fun i s => s = T) (fpt us) ?_ ?_ 0 K _ (by omega) (by omega) rfl
  · rintro i _ k hi rfl ih
    show wp (f_Mo_isBrief_2 K (k + 1) (nI i) _) _
    rw [f_Mo_isBrief_2]
    refine wp_f (by rw [hs]; exact nI_ge (by omega) (by omega)) (wp_g (q_in (by omega) (by decide)) ?_)
    rw [nI_clamp (by omega), hb i (by omega)]
    have hui : us.getD i 0 < 65536 := getD_lt hu (by decide)
    refine wp_f (fun y => fpt_no hi ((nI_eq (by omega) (by decide)).mp y)) (wp_l ?_)
    rw [nI_1]
    exact ih _ rfl
  · rintro _ k rfl
    show wp (f_Mo_isBrief_2 K (k + 1) (nI (fpt us)) _) _
    rw [f_Mo_isBrief_2]
    by_cases c : us.length ≤ fpt us
    · exact wp_t (by rw [hs]; exact nI_le c (by omega)) h27
    · refine wp_f (by rw [hs]; exact nI_ge (by omega) (by omega)) (wp_g (q_in (by omega) (by decide)) ?_)
      rw [nI_clamp (by omega), hb _ (by omega), fpt_at (by omega)]
      exact wp_t rfl h27
/-! the class -/
theorem q_dec (i : Nat) : nI (i + 1) + (-1) = nI i := by
  rw [← nI_1, Int32.add_assoc, show (1 : Int32) + (-1) = 0 from rfl, Int32.add_zero]
/-- the last point of a name, but the first unit's -/
def lpR (us : List Nat) (l : Nat) : Prop := l ≤ us.length ∧ 1 ≤ l ∧ (l < us.length → us.getD l 0 = 46) ∧ ∀ j, 1 ≤ j → j < us.length → (l < j ∨ l = us.length) → us.getD j 0 ≠ 46
def lpI (us : List Nat) (l : Nat) : Int32 := if l = us.length then (-1) else nI l
theorem qC_lastPoint {K : Nat} {G : CG} {S : CS} {us : List Nat} (hK : 20000 ≤ K) (hs : S.v_Ed_unitCount = nI us.length) (h1 : 1 ≤ us.length) (hl : us.length ≤ 255) (hb : bufR S.w_Ed_units us) (hu : ∀ u ∈ us, u < 65536) : ∃ l, lpR us l ∧ f_Ed_lastPoint K G S = some (lpI us l, S) := by
  have hu2 : ∀ j, us.getD j 0 < 65536 := fun j => getD_lt hu (by decide)
  have go : ∀ (i k : Nat), i < us.length → i < k → (∀ j, i < j → j < us.length → us.getD j 0 ≠ 46) → ∃ l, lpR us l ∧ f_Ed_lastPoint_7 K G k (nI i) S = some (lpI us l, S) := by
    intro i
    induction i with
    | zero =>
      intro k _ hk hno
      obtain ⟨k, rfl⟩ : ∃ m, k = m + 1 := ⟨k - 1, by omega⟩
      refine ⟨us.length, ⟨Nat.le_refl _, h1, fun w => absurd w (by omega), fun j a b _ => hno j (by omega) b⟩, ?_⟩
      rw [f_Ed_lastPoint_7, if_pos (by decide)]
      unfold lpI
      rw [if_pos rfl]
    | succ i ih =>
      intro k hi hk hno
      obtain ⟨k, rfl⟩ : ∃ m, k = m + 1 := ⟨k - 1, by omega⟩
      rw [f_Ed_lastPoint_7, if_neg (nI_nle (by omega) (by omega)), q_g (q_in (by omega) (by decide)), nI_clamp (by omega), hb _ hi]
      by_cases c : us.getD (i + 1) 0 = 46
      · refine ⟨i + 1, ⟨by omega, by omega, fun _ => c, fun j a b w => hno j (by omega) b⟩, ?_⟩
        rw [c, if_pos (show nI 46 = 46 from rfl)]
        unfold lpI
        rw [if_neg (by omega)]
      · have hx := hu2 (i + 1)
        rw [if_neg (show ¬ nI (us.getD (i + 1) 0) = 46 from fun y => c ((nI_eq (by omega) (by decide)).mp y)), q_l, q_dec]
        refine ih k (by omega) (by omega) fun j a b => ?_
        by_cases e : j = i + 1
        · rw [e]; exact c
        · exact hno j (by omega) b
  unfold f_Ed_lastPoint
  rw [hs, show (1 : Int32) = nI 1 from rfl, pk_sub h1, q_l]
  exact go (us.length - 1) K (by omega) (by omega) fun j a b => absurd a (by omega)
theorem lp_br {us : List Nat} {l : Nat} (h1 : 1 ≤ us.length) (hn : us.getD (us.length - 1) 0 ≠ 46) (h : lpR us l) : (l ≤ 8 ∧ us.length ≤ l + 4 ∧ ∀ j, j < us.length → j ≠ l → sgP (us.getD j 0)) ↔ brP us := by
  obtain ⟨a1, a2, a3, a4⟩ := h
  have hfl := fpt_le us
  have key : (∀ j, j < us.length → j ≠ l → sgP (us.getD j 0)) → fpt us = l := fun w => by
    rcases Nat.lt_trichotomy (fpt us) l with c | c | c
    · have := w (fpt us) (by omega) (by omega)
      rw [fpt_at (by omega)] at this
      exact absurd this sg46
    · exact c
    · exact absurd (a3 (by omega)) (fpt_no c)
  constructor
  · rintro ⟨b1, b2, b3⟩
    have e := key b3
    refine ⟨by omega, by omega, by omega, ?_, by rw [e]; exact b3⟩
    by_cases c : us.length ≤ fpt us
    · exact Or.inl c
    · refine Or.inr ?_
      have := a3 (by omega)
      by_cases d : l = us.length - 1
      · rw [d] at this
        exact absurd this hn
      · omega
  · rintro ⟨b1, b2, b3, b4, b5⟩
    have e : l = fpt us := by
      by_cases c : l = us.length
      · by_cases d : fpt us = us.length
        · omega
        · have := fpt_at (us := us) (by omega)
          exact absurd this (a4 (fpt us) b1 (by omega) (Or.inr c))
      · have h46 := a3 (by omega)
        by_cases d : l = fpt us
        · exact d
        · have := b5 l (by omega) d
          rw [h46] at this
          exact absurd this sg46
    rw [e]
    exact ⟨b2, b3, b5⟩
theorem lp_f {us : List Nat} {l : Nat} (h : lpR us l) (w : ∀ j, j < us.length → j ≠ l → sgP (us.getD j 0)) : fpt us = l := by
  obtain ⟨a1, a2, a3, a4⟩ := h
  have hfl := fpt_le us
  rcases Nat.lt_trichotomy (fpt us) l with c | c | c
  · have := w (fpt us) (by omega) (by omega)
    rw [fpt_at (by omega)] at this
    exact absurd this sg46
  · exact c
  · exact absurd (a3 (by omega)) (fpt_no c)
theorem lpI_eq {us : List Nat} {l j : Nat} (hl : us.length ≤ 255) (h : l ≤ us.length) (hj : j < us.length) : nI j = lpI us l ↔ j = l := by
  unfold lpI
  by_cases c : l = us.length
  · rw [if_pos c]
    refine ⟨fun y => ?_, fun y => absurd y (by omega)⟩
    have : ¬ nI j < 0 := nI_pos (by omega)
    rw [y] at this
    exact absurd (by decide) this
  · rw [if_neg c]
    exact nI_eq (by omega) (by omega)
theorem lpI_no {us : List Nat} {l : Nat} (hl : us.length ≤ 255) (h : l < us.length) : ¬ lpI us l = (-1) := by
  unfold lpI
  rw [if_neg (by omega)]
  intro y
  have : ¬ nI l < 0 := nI_pos (by omega)
  rw [y] at this
  exact absurd (by decide) this
theorem qC_pl62 {K f : Nat} {G : CG} {S : CS} {us : List Nat} (hK : 20000 ≤ K) (hs : S.v_Ed_unitCount = nI us.length) (hl : us.length ≤ 255) (hb : bufR S.w_Ed_units us) (hu : ∀ u ∈ us, u < 65536) (hfl : f ≤ us.length) (hf1 : f ≤ 8) (hf2 : us.length ≤ f + 4) (g0 : Nat → Int32) (hg0 : ∀ q, q < 11 → g0 q = nI 32) : wp (f_Ed_takePlainName_62 K G K (lpI us f) (nI f) 0 (S.u_w_Ed_shortName g0)) (fun r => r.1 = b01 (∀ j, j < us.length → j ≠ f → sgP (us.getD j 0)) ∧ ∃ g, r.2 = S.u_w_Ed_shortName g ∧ ((∀ j, j < us.length → j ≠ f → sgP (us.getD j 0)) → ∀ q, q < 11 → g q = nI (brG us f us.length q))) := by
  refine wp_loop (F := fun k i s => f_Ed_takePlainName_62 K G k (lpI us f) (nI f) (nI i) s) (fun i s => (∀ j, j < i → j ≠ f → sgP (us.getD j 0)) ∧ ∃ g, s = S.u_w_Ed_shortName g ∧ ∀ q, q < 11 → g q = nI (brG us f i q)) us.length ?_ ?_ 0 K _ (by omega) (by omega) ⟨fun j hj => absurd hj (by omega), g0, rfl, fun q hq => by rw [brG_0, hg0 q hq]⟩
  · rintro i _ k hi ⟨hj, g, rfl, hg⟩ ih
    show wp (f_Ed_takePlainName_62 K G (k + 1) (lpI us f) (nI f) (nI i) _) _
    rw [f_Ed_takePlainName_62]
    refine wp_f (show ¬ S.v_Ed_unitCount ≤ nI i from by rw [hs]; exact nI_ge hi (by omega)) ?_
    have hui : us.getD i 0 < 65536 := getD_lt hu (by decide)
    refine wp_if (lpI_eq hl hfl hi) (fun e => ?_) (fun e => ?_)
    · unfold f_Ed_takePlainName_92 f_Ed_takePlainName_130
      refine wp_t ((lpI_eq hl hfl hi).mpr e) (wp_l ?_)
      rw [nI_1]
      refine ih _ ⟨fun j h1 h2 => hj j (by omega) h2, g, rfl, fun q hq => ?_⟩
      have := hg q hq
      rw [e] at this ⊢
      rw [brG_pt]
      exact this
    · refine wp_g (q_in (by omega) (by decide)) ?_
      rw [nI_clamp (by omega), show (S.u_w_Ed_shortName g).w_Ed_units i = _ from hb i hi]
      by_cases sg : sgP (us.getD i 0)
      · rw [(qV_sign K hui).1 sg, q_b]
        refine wp_f (by decide) ?_
        unfold f_Ed_takePlainName_92 f_Ed_takePlainName_122 f_Ed_takePlainName_130
        refine wp_f (fun y => e ((lpI_eq hl hfl hi).mp y)) ?_
        have hj' : ∀ j, j < i + 1 → j ≠ f → sgP (us.getD j 0) := fun j h1 h2 => by
          by_cases ej : j = i
          · rw [ej]; exact sg
          · exact hj j (by omega) h2
        refine wp_if (nI_leI (by omega) (by omega)) (fun c => ?_) (fun c => ?_)
        · rw [show (8 : Int32) = nI 8 from rfl, nI_add, pk_sub (by omega), show (1 : Int32) = nI 1 from rfl, pk_sub (by omega)]
          refine wp_g (q_in (by omega) (by decide)) (wp_g (q_in (by omega) (by decide)) (wp_l (wp_l ?_)))
          rw [nI_clamp (by omega), nI_clamp (by omega), nI_add, show (S.u_w_Ed_shortName g).w_Ed_units i = _ from hb i hi]
          refine ih _ ⟨hj', _, rfl, fun q hq => ?_⟩
          rw [brG_hi (by omega), show 8 + i - f - 1 = 7 + i - f from by omega]
          by_cases e2 : q = 7 + i - f
          · rw [if_pos e2, e2, upE]
          · rw [if_neg e2, upN e2]
            exact hg q hq
        · refine wp_g (q_in (by omega) (by decide)) (wp_g (q_in (by omega) (by decide)) (wp_l (wp_l ?_)))
          rw [nI_clamp (by omega), nI_1, show (S.u_w_Ed_shortName g).w_Ed_units i = _ from hb i hi]
          refine ih _ ⟨hj', _, rfl, fun q hq => ?_⟩
          rw [brG_lo hf1 (by omega)]
          by_cases e2 : q = i
          · rw [if_pos e2, e2, upE]
          · rw [if_neg e2, upN e2]
            exact hg q hq
      · rw [(qV_sign K hui).2 sg, q_b]
        refine wp_t rfl (wp_i ⟨?_, g, rfl, fun w => absurd (w i hi e) sg⟩)
        exact (b01_f fun w => sg (w i hi e)).symm
  · rintro _ k ⟨hj, g, rfl, hg⟩
    show wp (f_Ed_takePlainName_62 K G (k + 1) (lpI us f) (nI f) (nI us.length) _) _
    rw [f_Ed_takePlainName_62]
    exact wp_t (show S.v_Ed_unitCount ≤ _ from by rw [hs]; exact Int32.le_refl _) (wp_i ⟨(b01_t hj).symm, g, rfl, fun _ => hg⟩)
theorem qC_plain {K : Nat} {G : CG} {S : CS} {us : List Nat} (hK : 20000 ≤ K) (hs : S.v_Ed_unitCount = nI us.length) (h1 : 1 ≤ us.length) (hl : us.length ≤ 255) (hb : bufR S.w_Ed_units us) (hu : ∀ u ∈ us, u < 65536) (hn : us.getD (us.length - 1) 0 ≠ 46) : wp (f_Ed_takePlainName K G S) (fun r => r.1 = b01 (brP us) ∧ ∃ g, r.2 = S.u_w_Ed_shortName g ∧ (brP us → ∀ q, q < 11 → g q = nI (brG us (fpt us) us.length q))) := by
  obtain ⟨l, hlp, e⟩ := qC_lastPoint (G := G) hK hs h1 hl hb hu
  have hll := hlp.1
  have hbr := lp_br h1 hn hlp
  have no : ¬ brP us → wp (f_Ed_takePlainName_48 K G S) (fun r => r.1 = b01 (brP us) ∧ ∃ g, r.2 = S.u_w_Ed_shortName g ∧ (brP us → ∀ q, q < 11 → g q = nI (brG us (fpt us) us.length q))) := fun w => wp_i ⟨(b01_f w).symm, S.w_Ed_shortName, rfl, fun y => absurd y w⟩
  have go : ∀ z : Nat, z < 2 ^ 31 → (z ≤ 3 ↔ us.length ≤ l + 4) → wp (f_Ed_takePlainName_36 K G (lpI us l) (nI l) (nI z) S) (fun r => r.1 = b01 (brP us) ∧ ∃ g, r.2 = S.u_w_Ed_shortName g ∧ (brP us → ∀ q, q < 11 → g q = nI (brG us (fpt us) us.length q))) := by
    intro z hz hz3
    unfold f_Ed_takePlainName_36
    refine wp_if (show (8 : Int32) < nI l ↔ 8 < l from nI_ltI (by decide) (by omega)) (fun c => no fun w => by have := (hbr.mpr w).1; omega) fun c => ?_
    refine wp_if (show nI z ≤ (3 : Int32) ↔ z ≤ 3 from nI_leI hz (by decide)) (fun d => wp_l ?_) (fun d => no fun w => d (hz3.mpr (hbr.mpr w).2.1))
    have hiff : (∀ j, j < us.length → j ≠ l → sgP (us.getD j 0)) ↔ brP us := ⟨fun w => hbr.mp ⟨by omega, hz3.mp d, w⟩, fun w => (hbr.mpr w).2.2⟩
    refine wp_w (qC_pl62 hK hs hl hb hu hll (by omega) (hz3.mp d) _ fun q hq => ?_) fun x hx => ⟨by rw [hx.1]; exact b01_iff hiff, ?_⟩
    · unfold ar_fill
      exact if_pos ⟨by omega, by omega⟩
    · obtain ⟨g', e', w⟩ := hx.2
      refine ⟨g', e', fun y => ?_⟩
      rw [lp_f hlp (hiff.mpr y)]
      exact w (hiff.mpr y)
  unfold f_Ed_takePlainName f_Ed_takePlainName_18
  rw [e, q_c]
  by_cases c : l = us.length
  · have eI : lpI us l = (-1) := if_pos c
    have := go 0 (by decide) (by omega)
    rw [eI] at this ⊢
    rw [if_pos rfl, if_pos rfl, hs, show nI us.length = nI l from by rw [c]]
    exact this
  · have eI := lpI_no hl (show l < us.length by omega)
    have eV : lpI us l = nI l := if_neg c
    have := go (us.length - l - 1) (by omega) (by omega)
    rw [if_neg eI, if_neg eI, hs]
    rw [eV] at this ⊢
    rw [pk_sub hll, show (1 : Int32) = nI 1 from rfl, pk_sub (by omega)]
    exact this
