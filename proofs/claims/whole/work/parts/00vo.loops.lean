/-! All directories, then all files, laid by the reference. -/
abbrev tnU (N : Nat) (D : Nat → Int32) (fks : List Nat) (its : List It) (A H k B P g0 r to : Nat) (gl e : Nat → Nat) (T : MS) : Prop := tnM N D fks its A H k B P g0 r gl (rml A H (fxd A P r g0) e gl k) T ∧ usF N D its A H k B P g0 r to gl e (bdN N fks D its A H) ∧ ∀ c, gl c < k + 2
theorem nmr_ok {n m i : Nat} (h : i < n) (h2 : 10 + n ≤ m) : 1 ≤ nmr i ∧ nmr i ≤ m := by unfold nmr; split <;> omega
theorem nmr_inj {i j : Nat} (h : i ≠ j) : nmr i ≠ nmr j := by unfold nmr; split <;> split <;> omega
theorem bd_sum {N : Nat} {fks : List Nat} {D : Nat → Int32} {its : List It} {A H : Nat} : bdN N fks D its A H = 3 + indN (rcB N D its A H) + sumN (dBI fks D its) its.length + sumN (fBI D its) its.length := by
  unfold bdN
  rw [bd_split]
  omega
theorem ql_turn75 {K : Nat} {N : Nat} {D : Nat → Int32} {fks : List Nat} {its : List It} {A H k B P g0 r to : Nat} {gl e : Nat → Nat} {T : MS} (hK : 20000 ≤ K) (h : tnU N D fks its A H k B P g0 r to gl e T) : ∀ (d i w : Nat) (F U : Nat → Int32) (R : Rg) (p : Nat → Prop), i + d = its.length → d < w → (∀ s, 3 + indN (rcB N D its A H) + sumN (dBI fks D its) i ≤ s → s < 3 + indN (rcB N D its A H) + sumN (dBI fks D its) its.length → bkA F ((rml A H (fxd A P r g0) e gl k).getD s 0) Zd) → (∀ j, i ≤ j → j < its.length → isDr D its j → ∀ x, x < 128 → o1 F (inPos A P (8 * r) (nmr j) + x) = 0) → uM U p → ∃ F' U' R', f_Mo_turn_75 K w (nI i) (qS T F U (3 + indN (rcB N D its A H) + sumN (dBI fks D its) i) R) = f_Mo_turn_104 K K 0 (qS T F' U' (3 + indN (rcB N D its A H) + sumN (dBI fks D its) its.length) R') ∧ (∀ j, i ≤ j → j < its.length → isDr D its j → fdA N D fks its A H P r gl (rml A H (fxd A P r g0) e gl k) (3 + indN (rcB N D its A H)) F' j) ∧ (∀ q, (∀ j, i ≤ j → j < its.length → isDr D its j → q < inPos A P (8 * r) (nmr j) ∨ inPos A P (8 * r) (nmr j) + 128 ≤ q) → (∀ s, 3 + indN (rcB N D its A H) + sumN (dBI fks D its) i ≤ s → s < 3 + indN (rcB N D its A H) + sumN (dBI fks D its) its.length → farR (rml A H (fxd A P r g0) e gl k) s q) → o1 F' q = o1 F q) ∧ uM U' (fun c => p c ∨ ∃ s, 3 + indN (rcB N D its A H) + sumN (dBI fks D its) i ≤ s ∧ s < 3 + indN (rcB N D its A H) + sumN (dBI fks D its) its.length ∧ c = (rml A H (fxd A P r g0) e gl k).getD s 0) ∧ R'.1 = R.1 := by
  obtain ⟨ht, hu, hgl⟩ := h
  have htt := ht
  obtain ⟨hM, ⟨hpl, hT, hI, hr, hil⟩, hbd, hmv, ⟨hp0, hq0, hpar⟩, hdy⟩ := ht
  have hN := hM.1.2
  have ho := hM.2.2.2.1
  have hlen := ho.2.1
  have hrm := room_f hu
  have hB := hpl.2.2.2.1
  have hbd2 := hu.2.2.2.2.2.2
  rw [bd_sum] at hbd2
  generalize hrme : rml A H (fxd A P r g0) e gl k = rm at *
  generalize hb0e : 3 + indN (rcB N D its A H) = b0 at *
  have hsd : ∀ i, i < its.length → ∀ t, t < rm.length → inPos A P (8 * r) (nmr i) + 128 ≤ 1024 * rm.getD t 0 ∨ 1024 * rm.getD t 0 + 1024 ≤ inPos A P (8 * r) (nmr i) := fun i hi t htl => slot_dis hpl hu.2.1 hr (nmr_ok hi hil) (hrm t htl).2.2.1
  have hs5 : ∀ i, i < its.length → inPos A P (8 * r) (nmr i) + 128 ≤ 524288 := fun i hi => by
    obtain ⟨g, b, -, -, -, -, q1, q2, -⟩ := slot_in hpl hu.2.1 hr (nmr_ok hi hil)
    omega
  have hfar : ∀ s u, s < rm.length → u < rm.length → s ≠ u → ∀ q, 1024 * rm.getD s 0 ≤ q → q < 1024 * rm.getD s 0 + 1024 → farR rm u q := fun s u hs hu h q q1 q2 => by
    have : rm.getD s 0 ≠ rm.getD u 0 := fun e => h (nd_getD hbd.2.2.2 hs hu e)
    unfold farR
    omega
  intro d
  induction d with
  | zero =>
    intro i w F U R p e1 e2 h1 h2 h3
    obtain ⟨w, rfl⟩ : ∃ m, w = m + 1 := ⟨w - 1, by omega⟩
    obtain rfl : i = its.length := by omega
    refine ⟨F, U, R, ?_, fun j j1 j2 => by omega, fun _ _ _ => rfl, fun c hc0 => ?_, rfl⟩
    · rw [f_Mo_turn_75, show ∀ n, (qS T F U n R).v_items = nI its.length from fun _ => hM.2.2.1.1, if_pos (nI_le (Nat.le_refl _) (by omega))]
    · rw [h3 c hc0]
      exact b01_iff ⟨Or.inl, fun y => y.resolve_right (fun ⟨s, s1, s2, _⟩ => by omega)⟩
  | succ d ih =>
    intro i w F U R p e1 e2 h1 h2 h3
    obtain ⟨w, rfl⟩ : ∃ m, w = m + 1 := ⟨w - 1, by omega⟩
    have hi : i < its.length := by omega
    have hsm := sumN_mono (f := dBI fks D its) (a := i + 1) (its.length - (i + 1))
    rw [show i + 1 + (its.length - (i + 1)) = its.length by omega] at hsm
    have hs1 : sumN (dBI fks D its) (i + 1) = sumN (dBI fks D its) i + dBI fks D its i := rfl
    rw [f_Mo_turn_75, show ∀ n, (qS T F U n R).v_items = nI its.length from fun _ => hM.2.2.1.1, if_neg (nI_ge (by omega) (by omega)), qM_isFolder (T := qS T F U (b0 + sumN (dBI fks D its) i) R) hM.2.1.1 hN hM.2.2.1 ho hi, q_c]
    unfold f_Mo_turn_96
    by_cases g : isDr D its i
    · have hdi : dBI fks D its i = flB fks its i + indN (flB fks its i) := cif_t g
      have hbo : boN fks D its b0 i = b0 + sumN (dBI fks D its) i := cif_t g
      have hbb : bbN fks D its i = flB fks its i := cif_t g
      have how : ownL N D fks its A H b0 gl rm i = rmF rm (b0 + sumN (dBI fks D its) i) (flB fks its i) := by unfold ownL; rw [cif_t g, hbo]
      have hol : (ownL N D fks its A H b0 gl rm i).length = flB fks its i := by rw [how]; exact rmF_len _ _ _
      obtain ⟨F1, U1, R1, c1, c2, c3, c4, c5, c6, c7⟩ := ql_folder (K := K) (i := i) (b0 := b0 + sumN (dBI fks D its) i) (F := F) (U := U) (R := R) (p := p) hK htt hi g (by omega) (fun t t1 t2 => h1 t t1 (by omega)) (hs5 i hi) (hsd i hi) h3
      obtain ⟨F', U', R', d1, d2, d3, d4, d5⟩ := ih (i + 1) w F1 U1 R1 _ (by omega) (by omega) (fun s s1 s2 x hx => by
        rw [c5 _ (by have := hsd i hi s (by omega); omega) (fun t t1 t2 => hfar s t (by omega) (by omega) (by omega) _ (by omega) (by omega))]
        exact h1 s (by omega) s2 x hx) (fun j j1 j2 j3 x hx => by
        have := slots_ap hpl hu.2.1 hr (nmr_ok hi hil) (nmr_ok j2 hil) (nmr_inj (show i ≠ j by omega))
        rw [c5 _ (by omega) (fun t t1 t2 => by have := hsd j j2 t (by omega); unfold farR; omega)]
        exact h2 j (by omega) j2 j3 x hx) c6
      refine ⟨F', U', R', ?_, fun j j1 j2 j3 => ?_, fun q q1 q2 => ?_, fun c hc0 => ?_, by rw [d5, c7]⟩
      · rw [b01_t (show i = 0 ∨ o1 D (isp (itr its i) + 11) / 16 % 2 = 1 from g), if_neg (show ¬ nI 1 = 0 by decide), c1, q_b, nI_1, q_l]
        rw [hs1, hdi, ← Nat.add_assoc, ← Nat.add_assoc] at d1
        exact d1
      · by_cases c : j = i
        · rw [c]
          have roomk : ∀ s, b0 + sumN (dBI fks D its) i ≤ s → s < b0 + sumN (dBI fks D its) (i + 1) → ∀ q, 1024 * rm.getD s 0 ≤ q → q < 1024 * rm.getD s 0 + 1024 → o1 F' q = o1 F1 q := fun s s1 s2 q q1 q2 => d3 q (fun j j1 j2 _ => by have := hsd j j2 s (by omega); omega) (fun t t1 t2 => hfar s t (by omega) (by omega) (by omega) q q1 q2)
          have hpk0 : flB fks its i = (pkS (eSz fks its i) (0 + eNo fks its i)).1 := by rw [Nat.zero_add]; rfl
          refine ⟨?_, ?_, ?_⟩
          · rw [hbo]
            refine agW_keep c2 fun v vv x hx => ?_
            obtain ⟨s, s1, s2, s3⟩ := dwG_bl (b0 := b0 + sumN (dBI fks D its) i) (eNo fks its i) 0 Zd 0 0 (b0 + sumN (dBI fks D its) i) rfl rfl v vv
            exact roomk s s1 (by omega) _ (by omega) (by omega)
          · rw [hol, how]
            unfold fiN
            rw [hbo, hbb]
            refine agW_keep c3 fun v vv x hx => ?_
            obtain ⟨s, s1, s2, s3⟩ := inW_bl v vv
            exact roomk s (by omega) (by omega) _ (by omega) (by omega)
          · intro x hx
            rw [d3 _ (fun j j1 j2 _ => by have := slots_ap hpl hu.2.1 hr (nmr_ok hi hil) (nmr_ok j2 hil) (nmr_inj (show i ≠ j by omega)); omega) (fun t t1 t2 => by have := hsd i hi t (by omega); unfold farR; omega), c4 _ (by omega) (by omega)]
            have hzs : ∀ q, inPos A P (8 * r) (nmr i) ≤ q → q < inPos A P (8 * r) (nmr i) + 128 → o1 F q = 0 := fun q q1 q2 => by
              have := h2 i (Nat.le_refl _) hi g (q - inPos A P (8 * r) (nmr i)) (by omega)
              rw [show inPos A P (8 * r) (nmr i) + (q - inPos A P (8 * r) (nmr i)) = q by omega] at this
              exact this
            have hfin : iIt N D fks its A H gl rm i 0 Zd = inX Zd 0 (moN D its i) (flB fks its i * 1024) (decide (1 ≤ i)) (tmN D (isp (itr its i))) (lkN D fks its i) (rmF rm (b0 + sumN (dBI fks D its) i) (flB fks its i)) rm (b0 + sumN (dBI fks D its) i + flB fks its i) := by
              unfold iIt szN
              rw [hb0e, cif_t g, hol, how]
              unfold fiN
              rw [hbo, hbb]
            rw [hfin]
            by_cases z : i = 0
            · rw [decide_eq_false (show ¬ 1 ≤ i by omega), in_tm0 (tm := fun w => if i = 0 then 0 else tmN D (isp (itr its i)) w) (q := inPos A P (8 * r) (nmr i) + x) (tm' := tmN D (isp (itr its i))) hzs ⟨if_pos z, if_pos z, if_pos z⟩ (by omega) (by omega)]
              have := sh_in (X := F) (Y := Zd) (a := inPos A P (8 * r) (nmr i)) (b := 0) (j := x) (mode := moN D its i) (size := flB fks its i * 1024) (hasT := false) (tm := tmN D (isp (itr its i))) (links := lkN D fks its i) (l := rmF rm (b0 + sumN (dBI fks D its) i) (flB fks its i)) (rm := rm) (fi := b0 + sumN (dBI fks D its) i + flB fks its i) (by rw [hzs _ (by omega) (by omega)]; rfl)
              rw [Nat.zero_add] at this
              exact this
            · rw [decide_eq_true (show 1 ≤ i by omega), show (fun w => if i = 0 then 0 else tmN D (isp (itr its i)) w) = tmN D (isp (itr its i)) from funext fun w => if_neg z]
              have := sh_in (X := F) (Y := Zd) (a := inPos A P (8 * r) (nmr i)) (b := 0) (j := x) (mode := moN D its i) (size := flB fks its i * 1024) (hasT := true) (tm := tmN D (isp (itr its i))) (links := lkN D fks its i) (l := rmF rm (b0 + sumN (dBI fks D its) i) (flB fks its i)) (rm := rm) (fi := b0 + sumN (dBI fks D its) i + flB fks its i) (by rw [hzs _ (by omega) (by omega)]; rfl)
              rw [Nat.zero_add] at this
              exact this
        · exact d2 j (by omega) j2 j3
      · rw [d3 q (fun j j1 j2 j3 => q1 j (by omega) j2 j3) (fun s s1 s2 => q2 s (by omega) s2)]
        exact c5 q (q1 i (Nat.le_refl _) hi g) (fun s s1 s2 => q2 s s1 (by omega))
      · rw [d4 c hc0]
        refine b01_iff ⟨fun y => ?_, fun y => ?_⟩
        · rcases y with (y | y) | ⟨s, s1, s2, s3⟩
          · exact Or.inl y
          · obtain ⟨s, s1, s2, s3⟩ := (rmF_mem _ _).mp y
            exact Or.inr ⟨s, s1, by omega, s3⟩
          · exact Or.inr ⟨s, by omega, s2, s3⟩
        · rcases y with y | ⟨s, s1, s2, s3⟩
          · exact Or.inl (Or.inl y)
          · by_cases z : s < b0 + sumN (dBI fks D its) (i + 1)
            · exact Or.inl (Or.inr ((rmF_mem _ _).mpr ⟨s, s1, by omega, s3⟩))
            · exact Or.inr ⟨s, by omega, s2, s3⟩
    · have hdi : dBI fks D its i = 0 := cif_f g
      obtain ⟨F', U', R', d1, d2, d3, d4, d5⟩ := ih (i + 1) w F U R p (by omega) (by omega) (fun s s1 s2 => h1 s (by omega) s2) (fun j j1 j2 j3 => h2 j (by omega) j2 j3) h3
      rw [hs1, hdi, Nat.add_zero] at d1 d3 d4
      refine ⟨F', U', R', ?_, fun j j1 j2 j3 => ?_, fun q q1 q2 => d3 q (fun j j1 j2 j3 => q1 j (by omega) j2 j3) q2, d4, d5⟩
      · rw [b01_f (show ¬ (i = 0 ∨ o1 D (isp (itr its i) + 11) / 16 % 2 = 1) from g), if_pos (show nI 0 = 0 from rfl), nI_1, q_l]
        exact d1
      · by_cases c : j = i
        · rw [c] at j3; exact absurd j3 g
        · exact d2 j (by omega) j2 j3
