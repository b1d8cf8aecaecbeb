/-! All files laid by the reference. -/
theorem kLs_ap {N : Nat} {D : Nat → Int32} {its : List It} {A H : Nat} {gl : Nat → Nat} : ∀ n, (kLs N D its A H gl n).Nodup → ∀ i j, i < j → j < n → ∀ b ∈ kLi N D its A H gl i, b ∉ kLi N D its A H gl j := by
  intro n
  induction n with
  | zero => intro _ i j _ hj; omega
  | succ n ih =>
    intro hn i j hij hj b hb hb2
    rw [kLs] at hn
    obtain ⟨n1, n2, n3⟩ := List.nodup_append.mp hn
    by_cases c : j = n
    · rw [c] at hb2
      exact n3 b ((kLs_mem n).mpr ⟨i, by omega, hb⟩) b hb2 rfl
    · exact ih n1 i j hij (by omega) b hb hb2
theorem kLi_nd {N : Nat} {D : Nat → Int32} {its : List It} {A H : Nat} {gl : Nat → Nat} : ∀ n, (kLs N D its A H gl n).Nodup → ∀ i, i < n → (kLi N D its A H gl i).Nodup := by
  intro n
  induction n with
  | zero => intro _ i hi; omega
  | succ n ih =>
    intro hn i hi
    rw [kLs] at hn
    obtain ⟨n1, n2, n3⟩ := List.nodup_append.mp hn
    by_cases c : i = n
    · rw [c]; exact n2
    · exact ih n1 i (by omega)
theorem ch_std {N : Nat} {D : Nat → Int32} {its : List It} {A H k B P G r to : Nat} {gl e : Nat → Nat} {bd : Nat} (h : usF N D its A H k B P G r to gl e bd) : ∀ j, j < its.length → ∀ c ∈ chI N D its j, 2 ≤ c ∧ c < k + 2 ∧ 2 ≤ stnd gl c := fun j hj c hc => by
  obtain ⟨⟨q1, q2⟩, q3⟩ := (h.2.2.2.1 j hj).2 c hc
  exact ⟨q1, q2, ((stnd_f h.2.2.1).1 c q1 q2 q3).1⟩
theorem ql_turn104 {K : Nat} {N : Nat} {D : Nat → Int32} {fks : List Nat} {its : List It} {A H k B P g0 r to : Nat} {gl e : Nat → Nat} {T : MS} (hK : 20000 ≤ K) (h : tnU N D fks its A H k B P g0 r to gl e T) : ∀ (d i w : Nat) (F U : Nat → Int32) (R : Rg) (p : Nat → Prop), i + d = its.length → d < w → (∀ s, 3 + indN (rcB N D its A H) + sumN (dBI fks D its) its.length + sumN (fBI D its) i ≤ s → s < 3 + indN (rcB N D its A H) + sumN (dBI fks D its) its.length + sumN (fBI D its) its.length → bkA F ((rml A H (fxd A P r g0) e gl k).getD s 0) Zd) → (∀ j, i ≤ j → j < its.length → ¬ isDr D its j → ∀ x, x < 128 → o1 F (inPos A P (8 * r) (nmr j) + x) = 0) → uM U p → ∃ F' U' R', f_Mo_turn_104 K w (nI i) (qS T F U (3 + indN (rcB N D its A H) + sumN (dBI fks D its) its.length + sumN (fBI D its) i) R) = f_Mo_turn_135 K K 0 0 (qS T F' U' (3 + indN (rcB N D its A H) + sumN (dBI fks D its) its.length + sumN (fBI D its) its.length) R') ∧ (∀ j, i ≤ j → j < its.length → ¬ isDr D its j → flA N D fks its A H P r gl (rml A H (fxd A P r g0) e gl k) (3 + indN (rcB N D its A H)) F' j) ∧ (∀ q, (∀ j, i ≤ j → j < its.length → ¬ isDr D its j → (q < inPos A P (8 * r) (nmr j) ∨ inPos A P (8 * r) (nmr j) + 128 ≤ q) ∧ offB (kLi N D its A H gl j) q) → (∀ s, 3 + indN (rcB N D its A H) + sumN (dBI fks D its) its.length + sumN (fBI D its) i ≤ s → s < 3 + indN (rcB N D its A H) + sumN (dBI fks D its) its.length + sumN (fBI D its) its.length → farR (rml A H (fxd A P r g0) e gl k) s q) → o1 F' q = o1 F q) ∧ uM U' (fun c => p c ∨ (∃ j, i ≤ j ∧ j < its.length ∧ ¬ isDr D its j ∧ c ∈ kLi N D its A H gl j) ∨ ∃ s, 3 + indN (rcB N D its A H) + sumN (dBI fks D its) its.length + sumN (fBI D its) i ≤ s ∧ s < 3 + indN (rcB N D its A H) + sumN (dBI fks D its) its.length + sumN (fBI D its) its.length ∧ c = (rml A H (fxd A P r g0) e gl k).getD s 0) ∧ R'.1 = R.1 := by
  obtain ⟨ht, hu, hgl⟩ := h
  have htt := ht
  obtain ⟨hM, ⟨hpl, hT, hI, hr, hil⟩, hbd, hmv, ⟨hp0, hq0, hpar⟩, hdy⟩ := ht
  have hN := hM.1.2
  have ho := hM.2.2.2.1
  have hlen := ho.2.1
  have hrm := room_f hu
  have hB := hpl.2.2.2.1
  have hAk := hpl.2.2.2.2.2.2.2
  have hbd2 := hu.2.2.2.2.2.2
  have hkf := kLs_f hu
  have hstd := ch_std hu
  have hfbn := hu.2.2.2.2.2.1
  rw [bd_sum] at hbd2
  generalize hrme : rml A H (fxd A P r g0) e gl k = rm at *
  generalize hb0e : 3 + indN (rcB N D its A H) = b0 at *
  have hsd : ∀ i, i < its.length → ∀ t, t < rm.length → inPos A P (8 * r) (nmr i) + 128 ≤ 1024 * rm.getD t 0 ∨ 1024 * rm.getD t 0 + 1024 ≤ inPos A P (8 * r) (nmr i) := fun i hi t htl => slot_dis hpl hu.2.1 hr (nmr_ok hi hil) (hrm t htl).2.2.1
  have hs5 : ∀ i, i < its.length → inPos A P (8 * r) (nmr i) + 128 ≤ 524288 := fun i hi => by
    obtain ⟨g, b, -, -, -, -, q1, q2, -⟩ := slot_in hpl hu.2.1 hr (nmr_ok hi hil)
    omega
  have hkl : ∀ j, j < its.length → ∀ b ∈ kLi N D its A H gl j, b < 512 ∧ ¬ fxd A P r g0 b ∧ ∀ t, t < rm.length → b ≠ rm.getD t 0 := fun j hj b hb => by
    have m := (kLs_mem its.length).mpr ⟨j, hj, hb⟩
    obtain ⟨k1, k2, k3, -⟩ := hkf.2 b m
    exact ⟨by omega, k3, fun t htl e => (hrm t htl).2.2.2 (by rw [← e]; exact m)⟩
  have hksd : ∀ j, j < its.length → ∀ b ∈ kLi N D its A H gl j, ∀ i, i < its.length → inPos A P (8 * r) (nmr i) + 128 ≤ 1024 * b ∨ 1024 * b + 1024 ≤ inPos A P (8 * r) (nmr i) := fun j hj b hb i hi => slot_dis hpl hu.2.1 hr (nmr_ok hi hil) (hkl j hj b hb).2.1
  have hfar : ∀ s u, s < rm.length → u < rm.length → s ≠ u → ∀ q, 1024 * rm.getD s 0 ≤ q → q < 1024 * rm.getD s 0 + 1024 → farR rm u q := fun s u hs hu h q q1 q2 => by
    have : rm.getD s 0 ≠ rm.getD u 0 := fun e => h (nd_getD hbd.2.2.2 hs hu e)
    unfold farR
    omega
  intro d
  induction d with
  | zero =>
    intro i w F U R p e1 e2 h1 h2 h3
    obtain ⟨w, rfl⟩ : ∃ m, w = m + 1 := ⟨w - 1, by omega⟩
    obtain rfl : i = its.length := by omega
    refine ⟨F, U, R, ?_, fun j j1 j2 => by omega, fun _ _ _ => rfl, fun c hc0 => ?_, rfl⟩
    · rw [f_Mo_turn_104, show ∀ n, (qS T F U n R).v_items = nI its.length from fun _ => hM.2.2.1.1, if_pos (nI_le (Nat.le_refl _) (by omega))]
    · rw [h3 c hc0]
      refine b01_iff ⟨Or.inl, fun y => y.resolve_right (fun z => ?_)⟩
      rcases z with ⟨j, j1, j2, _⟩ | ⟨s, s1, s2, _⟩ <;> omega
  | succ d ih =>
    intro i w F U R p e1 e2 h1 h2 h3
    obtain ⟨w, rfl⟩ : ∃ m, w = m + 1 := ⟨w - 1, by omega⟩
    have hi : i < its.length := by omega
    have hsm := sumN_mono (f := fBI D its) (a := i + 1) (its.length - (i + 1))
    rw [show i + 1 + (its.length - (i + 1)) = its.length by omega] at hsm
    have hs1 : sumN (fBI D its) (i + 1) = sumN (fBI D its) i + fBI D its i := rfl
    rw [f_Mo_turn_104, show ∀ n, (qS T F U n R).v_items = nI its.length from fun _ => hM.2.2.1.1, if_neg (nI_ge (by omega) (by omega)), qM_isFolder (T := qS T F U (b0 + sumN (dBI fks D its) its.length + sumN (fBI D its) i) R) hM.2.1.1 hN hM.2.2.1 ho hi, q_c]
    unfold f_Mo_turn_125
    by_cases g : isDr D its i
    · have hdi : fBI D its i = 0 := cif_t g
      obtain ⟨F', U', R', d1, d2, d3, d4, d5⟩ := ih (i + 1) w F U R p (by omega) (by omega) (fun s s1 s2 => h1 s (by omega) s2) (fun j j1 j2 j3 => h2 j (by omega) j2 j3) h3
      rw [hs1, hdi, Nat.add_zero] at d1 d3 d4
      refine ⟨F', U', R', ?_, fun j j1 j2 j3 => ?_, fun q q1 q2 => d3 q (fun j j1 j2 j3 => q1 j (by omega) j2 j3) q2, fun c hc0 => ?_, d5⟩
      · rw [b01_t (show i = 0 ∨ o1 D (isp (itr its i) + 11) / 16 % 2 = 1 from g), if_neg (show ¬ nI 1 = 0 by decide), nI_1, q_l]
        exact d1
      · by_cases c : j = i
        · rw [c] at j3; exact absurd g j3
        · exact d2 j (by omega) j2 j3
      · rw [d4 c hc0]
        refine b01_iff ⟨fun y => y.imp id (fun z => z.imp (fun ⟨j, j1, j2, j3, j4⟩ => ⟨j, by omega, j2, j3, j4⟩) id), fun y => y.imp id (fun z => z.imp (fun ⟨j, j1, j2, j3, j4⟩ => ⟨j, ?_, j2, j3, j4⟩) id)⟩
        have : j ≠ i := fun c => by rw [c] at j3; exact j3 g
        omega
    · have hbo : boN fks D its b0 i = b0 + sumN (dBI fks D its) its.length + sumN (fBI D its) i := cif_f g
      have hbb : bbN fks D its i = 0 := cif_f g
      have hki : kLi N D its A H gl i = (chL A H gl (chI N D its i)).take (fbN D its i) := cif_f g
      have how : ownL N D fks its A H b0 gl rm i = (chL A H gl (chI N D its i)).take (fbN D its i) := cif_f g
      have hfi : fiN fks D its b0 i = b0 + sumN (dBI fks D its) its.length + sumN (fBI D its) i := by unfold fiN; rw [hbo, hbb]; omega
      have hll : ((chL A H gl (chI N D its i)).take (fbN D its i)).length = fbN D its i := by rw [List.length_take, chL_len]; exact Nat.min_eq_left (hfbn i hi g)
      have hdi : fBI D its i = indN (fbN D its i) := cif_f g
      have hnd := kLi_nd its.length hkf.1 i hi
      rw [hki] at hnd
      have hf5 : fbN D its i ≤ 512 := by
        rw [← hll]
        have := nd_cl (k := 512) (l := ((chL A H gl (chI N D its i)).take (fbN D its i))) hnd (fun x hx => by
          rw [← hki] at hx
          have m := (kLs_mem its.length).mpr ⟨i, hi, hx⟩
          obtain ⟨k1, k2, -⟩ := hkf.2 x m
          have := hpl.1
          omega)
        exact this
      obtain ⟨F1, U1, R1, c1, c2, c3, c4, c5, c6, c7⟩ := ql_file (K := K) (i := i) (n := b0 + sumN (dBI fks D its) its.length + sumN (fBI D its) i) (F := F) (U := U) (R := R) (p := p) (l := (chL A H gl (chI N D its i)).take (fbN D its i)) hK htt hi g hgl (hstd i hi) rfl (hfbn i hi g) hf5 (fun b hb => by
        rw [← hki] at hb
        exact ⟨(hkl i hi b hb).1, hksd i hi b hb i hi, (hkl i hi b hb).2.2⟩) hnd (by rw [hll]; omega) (fun t t1 t2 => h1 t t1 (by rw [hll] at t2; omega)) (hs5 i hi) (hsd i hi) h3
      rw [hll] at c1 c3 c5 c6
      obtain ⟨F', U', R', d1, d2, d3, d4, d5⟩ := ih (i + 1) w F1 U1 R1 _ (by omega) (by omega) (fun s s1 s2 x hx => by
        rw [c5 _ (by have := hsd i hi s (by omega); omega) (fun b hb => by rw [← hki] at hb; have := (hkl i hi b hb).2.2 s (by omega); omega) (fun t t1 t2 => hfar s t (by omega) (by omega) (by omega) _ (by omega) (by omega))]
        exact h1 s (by omega) s2 x hx) (fun j j1 j2 j3 x hx => by
        have := slots_ap hpl hu.2.1 hr (nmr_ok hi hil) (nmr_ok j2 hil) (nmr_inj (show i ≠ j by omega))
        rw [c5 _ (by omega) (fun b hb => by rw [← hki] at hb; have := hksd i hi b hb j j2; omega) (fun t t1 t2 => by have := hsd j j2 t (by omega); unfold farR; omega)]
        exact h2 j (by omega) j2 j3 x hx) c6
      refine ⟨F', U', R', ?_, fun j j1 j2 j3 => ?_, fun q q1 q2 => ?_, fun c hc0 => ?_, by rw [d5, c7]⟩
      · rw [b01_f (show ¬ (i = 0 ∨ o1 D (isp (itr its i) + 11) / 16 % 2 = 1) from g), if_pos (show nI 0 = 0 from rfl), c1, q_b, nI_1, q_l]
        rw [hs1, hdi, ← Nat.add_assoc] at d1
        exact d1
      · by_cases c : j = i
        · rw [c]
          have keep : ∀ q, (∀ j, i + 1 ≤ j → j < its.length → ¬ isDr D its j → (q < inPos A P (8 * r) (nmr j) ∨ inPos A P (8 * r) (nmr j) + 128 ≤ q) ∧ offB (kLi N D its A H gl j) q) → (∀ s, b0 + sumN (dBI fks D its) its.length + sumN (fBI D its) (i + 1) ≤ s → s < b0 + sumN (dBI fks D its) its.length + sumN (fBI D its) its.length → farR rm s q) → o1 F' q = o1 F1 q := d3
          refine ⟨fun s hs x hx => ?_, ?_, ?_⟩
          · rw [how]
            have hm : ((chL A H gl (chI N D its i)).take (fbN D its i)).getD s 0 ∈ kLi N D its A H gl i := by rw [hki]; exact getD_mem (by omega)
            rw [keep _ (fun j j1 j2 j3 => ⟨by have := hksd i hi _ hm j j2; omega, fun b hb => by
              have : ((chL A H gl (chI N D its i)).take (fbN D its i)).getD s 0 ≠ b := fun e => kLs_ap its.length hkf.1 i j (by omega) j2 _ hm (by rw [e]; exact hb)
              omega⟩) (fun t t1 t2 => by have := (hkl i hi _ hm).2.2 t (by omega); unfold farR; omega)]
            exact c2 s hs x hx
          · rw [how, hll, hfi]
            refine agW_keep c3 fun v vv x hx => ?_
            obtain ⟨s, s1, s2, s3⟩ := inW_bl v vv
            refine keep _ (fun j j1 j2 j3 => ⟨by have := hsd j j2 s (by omega); omega, fun b hb => by have := (hkl j j2 b hb).2.2 s (by omega); omega⟩) (fun t t1 t2 => hfar s t (by omega) (by omega) (by omega) _ (by omega) (by omega))
          · intro x hx
            rw [keep _ (fun j j1 j2 j3 => ⟨by have := slots_ap hpl hu.2.1 hr (nmr_ok hi hil) (nmr_ok j2 hil) (nmr_inj (show i ≠ j by omega)); omega, fun b hb => by have := hksd j j2 b hb i hi; omega⟩) (fun t t1 t2 => by have := hsd i hi t (by omega); unfold farR; omega), c4 _ (by omega) (by omega)]
            have hi1 : 1 ≤ i := Nat.one_le_iff_ne_zero.mpr (fun e => g (Or.inl e))
            have hfin : iIt N D fks its A H gl rm i 0 Zd = inX Zd 0 (moN D its i) (szI D its i) true (tmN D (isp (itr its i))) (lkN D fks its i) ((chL A H gl (chI N D its i)).take (fbN D its i)) rm (b0 + sumN (dBI fks D its) its.length + sumN (fBI D its) i) := by
              unfold iIt szN
              rw [hb0e, cif_f g, how, hfi, decide_eq_true hi1]
            rw [hfin]
            have := sh_in (X := F) (Y := Zd) (a := inPos A P (8 * r) (nmr i)) (b := 0) (j := x) (mode := moN D its i) (size := szI D its i) (hasT := true) (tm := tmN D (isp (itr its i))) (links := lkN D fks its i) (l := (chL A H gl (chI N D its i)).take (fbN D its i)) (rm := rm) (fi := b0 + sumN (dBI fks D its) its.length + sumN (fBI D its) i) (by rw [h2 i (Nat.le_refl _) hi g x hx]; rfl)
            rw [Nat.zero_add] at this
            exact this
        · exact d2 j (by omega) j2 j3
      · rw [d3 q (fun j j1 j2 j3 => q1 j (by omega) j2 j3) (fun s s1 s2 => q2 s (by omega) s2)]
        obtain ⟨y1, y2⟩ := q1 i (Nat.le_refl _) hi g
        rw [hki] at y2
        exact c5 q y1 y2 (fun s s1 s2 => q2 s s1 (by omega))
      · rw [d4 c hc0]
        refine b01_iff ⟨fun y => ?_, fun y => ?_⟩
        · rcases y with ((y | y) | y) | (⟨j, j1, j2, j3, j4⟩ | ⟨s, s1, s2, s3⟩)
          · exact Or.inl y
          · exact Or.inr (Or.inl ⟨i, Nat.le_refl _, hi, g, by rw [hki]; exact y⟩)
          · obtain ⟨s, s1, s2, s3⟩ := (rmF_mem _ _).mp y
            exact Or.inr (Or.inr ⟨s, s1, by omega, s3⟩)
          · exact Or.inr (Or.inl ⟨j, by omega, j2, j3, j4⟩)
          · exact Or.inr (Or.inr ⟨s, by omega, s2, s3⟩)
        · rcases y with y | (⟨j, j1, j2, j3, j4⟩ | ⟨s, s1, s2, s3⟩)
          · exact Or.inl (Or.inl (Or.inl y))
          · by_cases c : j = i
            · rw [c, hki] at j4
              exact Or.inl (Or.inl (Or.inr j4))
            · exact Or.inr (Or.inl ⟨j, by omega, j2, j3, j4⟩)
          · by_cases z : s < b0 + sumN (dBI fks D its) its.length + sumN (fBI D its) (i + 1)
            · exact Or.inl (Or.inr ((rmF_mem _ _).mpr ⟨s, s1, by omega, s3⟩))
            · exact Or.inr (Or.inr ⟨s, by omega, s2, s3⟩)
