theorem ql_laid {K : Nat} {N : Nat} {D : Nat → Int32} {fks : List Nat} {its : List It} {A H k B P g0 r to : Nat} {gl e : Nat → Nat} {T : MS} {F U : Nat → Int32} {R : Rg} (hK : 20000 ≤ K) (h : tnU N D fks its A H k B P g0 r to gl e T) (hrc : rcB N D its A H ≤ 512) (hz : ∀ q, q < 524288 → o1 F q = 0) (hU : uM U (fun c => c < B ∧ fxd A P r g0 c)) : ∃ F' U' R', (f_Mo_makeRecord K (qS T F U 0 R)).bind (fun S_7 => f_Mo_turn_75 K K 0 S_7) = f_Mo_turn_135 K K 0 0 (qS T F' U' (bdN N fks D its A H) R') ∧ lyA N D fks its A H P g0 r gl (rml A H (fxd A P r g0) e gl k) F' ∧ (∀ b, fxd A P r g0 b → b < 512 → ∀ x, x < 1024 → (∀ n, 1 ≤ n → n ≤ g0 * (8 * r) → 1024 * b + x < inPos A P (8 * r) n ∨ inPos A P (8 * r) n + 128 ≤ 1024 * b + x) → o1 F' (1024 * b + x) = 0) ∧ uM U' (usd N D its A H gl (rml A H (fxd A P r g0) e gl k) (bdN N fks D its A H) (fxd A P r g0)) ∧ arr R'.1 (recL N D its A H gl (rml A H (fxd A P r g0) e gl k)) := by
  have hh := h
  obtain ⟨ht, hu, hgl⟩ := h
  have htt := ht
  obtain ⟨hM, ⟨hpl, hT, hI, hr, hil⟩, hbd, hmv, ⟨hp0, hq0, hpar⟩, hdy⟩ := ht
  have ho := hM.2.2.2.1
  have hlen := ho.2.1
  have hA := hpl.1
  have hB := hpl.2.2.2.1
  have hAk := hpl.2.2.2.2.2.2.2
  have hrm := room_f hu
  have hbd2 := hu.2.2.2.2.2.2
  have hkf := kLs_f hu
  have hstd := ch_std hu
  have hfbn := hu.2.2.2.2.2.1
  rw [bd_sum] at hbd2
  have hreL := recL_len (N := N) (D := D) (its := its) (A := A) (H := H) (gl := gl) (rm := rml A H (fxd A P r g0) e gl k) (by omega)
  have hlt : ∀ t, t < (rml A H (fxd A P r g0) e gl k).length → (rml A H (fxd A P r g0) e gl k).getD t 0 < 512 := fun t htl => by have := hrm t htl; omega
  have h11 : 1 ≤ 11 ∧ 11 ≤ g0 * (8 * r) := ⟨by omega, by omega⟩
  have hrcS := rcD_sub (N := N) (D := D) (its := its) (A := A) (H := H) (gl := gl) its.length
  have hrcB : ∀ b ∈ rcD N D its A H gl its.length, A ≤ b ∧ b < 512 ∧ ¬ fxd A P r g0 b := fun b hb => by
    obtain ⟨k1, k2, k3, -⟩ := hkf.2 b (hrcS.subset hb)
    exact ⟨k1, by omega, k3⟩
  have hs5 : ∀ n, 1 ≤ n ∧ n ≤ g0 * (8 * r) → 1024 * A ≤ inPos A P (8 * r) n ∧ inPos A P (8 * r) n + 128 ≤ 524288 := fun n hn => by
    obtain ⟨g, b, -, -, -, -, q1, q2, q3, -⟩ := slot_in hpl hu.2.1 hr hn
    omega
  have hsd : ∀ n, 1 ≤ n ∧ n ≤ g0 * (8 * r) → ∀ t, t < (rml A H (fxd A P r g0) e gl k).length → inPos A P (8 * r) n + 128 ≤ 1024 * (rml A H (fxd A P r g0) e gl k).getD t 0 ∨ 1024 * (rml A H (fxd A P r g0) e gl k).getD t 0 + 1024 ≤ inPos A P (8 * r) n := fun n hn t htl => slot_dis hpl hu.2.1 hr hn (hrm t htl).2.2.1
  obtain ⟨F1, U1, R1, a1, a2, a3, a4, a5, a6, a7, a8, a9⟩ := ql_record (K := K) (F := F) (U := U) (R := R) hK htt hgl hstd (by rw [hreL]; exact hrc) (fun t htl => ⟨(hrm t htl).1, fun q => (hrm t htl).2.2.2 (hrcS.subset q)⟩) (fun b hb => ⟨(hrcB b hb).1, (hrcB b hb).2.1, slot_dis hpl hu.2.1 hr h11 (hrcB b hb).2.2⟩) (hkf.1.sublist hrcS) (by rw [hreL]; omega) hz (hs5 11 h11) (hsd 11 h11) hU
  rw [hreL] at a1 a5 a7 a8
  generalize hrme : rml A H (fxd A P r g0) e gl k = rm at *
  have hfar : ∀ s u, s < rm.length → u < rm.length → s ≠ u → ∀ q, 1024 * rm.getD s 0 ≤ q → q < 1024 * rm.getD s 0 + 1024 → farR rm u q := fun s u hs hu h q q1 q2 => by
    have : rm.getD s 0 ≠ rm.getD u 0 := fun e => h (nd_getD hbd.2.2.2 hs hu e)
    unfold farR
    omega
  have rcoff : ∀ t, t < rm.length → ∀ x, x < 1024 → offB (rcD N D its A H gl its.length) (1024 * rm.getD t 0 + x) := fun t htl x hx b hb => by
    have : b ≠ rm.getD t 0 := fun e => (hrm t htl).2.2.2 (by rw [← e]; exact hrcS.subset hb)
    omega
  have hsoff : ∀ n, 1 ≤ n ∧ n ≤ g0 * (8 * r) → ∀ x, x < 128 → offB (rcD N D its A H gl its.length) (inPos A P (8 * r) n + x) := fun n hn x hx b hb => by
    have := slot_dis hpl hu.2.1 hr hn (hrcB b hb).2.2
    omega
  have zrm : ∀ t, 3 + indN (rcB N D its A H) ≤ t → t < rm.length → bkA F1 (rm.getD t 0) Zd := fun t t1 t2 x hx => by
    have h3 := hsd 11 h11 t t2
    have h4 := hrm t t2
    exact a7 _ (by have := hlt t t2; omega) (by omega) (by omega) (rcoff t t2 x hx) (fun s hs => hfar t s t2 (by omega) (by omega) _ (by omega) (by omega))
  have zsl : ∀ n, 1 ≤ n ∧ n ≤ g0 * (8 * r) → n ≠ 11 → ∀ x, x < 128 → o1 F1 (inPos A P (8 * r) n + x) = 0 := fun n hn hn1 x hx => by
    have h3 := slots_ap hpl hu.2.1 hr hn h11 hn1
    have h4 := hs5 n hn
    exact a7 _ (by omega) (by omega) (by omega) (hsoff n hn x hx) (fun s hs => by have := hsd n hn s (by omega); unfold farR; omega)
  obtain ⟨F2, U2, R2, b1, b2, b3, b4, b5⟩ := ql_turn75 (K := K) hK hh its.length 0 K F1 U1 R1 _ (by omega) (by omega) (fun s s1 s2 => by rw [hrme]; exact zrm s s1 (by omega)) (fun j j1 j2 j3 x hx => zsl (nmr j) (nmr_ok j2 hil) (by unfold nmr; split <;> omega) x hx) a8
  rw [hrme] at b2 b3 b4
  have hkl : ∀ j, j < its.length → ∀ b ∈ kLi N D its A H gl j, b < 512 ∧ A ≤ b ∧ ¬ fxd A P r g0 b ∧ ∀ t, t < rm.length → b ≠ rm.getD t 0 := fun j hj b hb => by
    have m := (kLs_mem its.length).mpr ⟨j, hj, hb⟩
    obtain ⟨k1, k2, k3, -⟩ := hkf.2 b m
    exact ⟨by omega, k1, k3, fun t htl e => (hrm t htl).2.2.2 (by rw [← e]; exact m)⟩
  obtain ⟨F3, U3, R3, c1, c2, c3, c4, c5⟩ := ql_turn104 (K := K) hK hh its.length 0 K F2 U2 R2 _ (by omega) (by omega) (fun s s1 s2 x hx => by
    rw [hrme] at *
    rw [show sumN (fBI D its) 0 = 0 from rfl, Nat.add_zero] at s1
    rw [b3 _ (fun j j1 j2 j3 => by have := hsd (nmr j) (nmr_ok j2 hil) s (by omega); omega) (fun t t1 t2 => hfar s t (by omega) (by omega) (by omega) _ (by omega) (by omega))]
    exact zrm s (by omega) (by omega) x hx) (fun j j1 j2 j3 x hx => by
    rw [b3 _ (fun i i1 i2 i3 => by have := slots_ap hpl hu.2.1 hr (nmr_ok j2 hil) (nmr_ok i2 hil) (nmr_inj (show j ≠ i from fun e => by rw [e] at j3; exact j3 i3)); omega) (fun t t1 t2 => by have := hsd (nmr j) (nmr_ok j2 hil) t (by omega); unfold farR; omega)]
    exact zsl (nmr j) (nmr_ok j2 hil) (by unfold nmr; split <;> omega) x hx) b4
  rw [hrme] at c2 c3 c4
  have hfxB : ∀ b, fxd A P r g0 b → b < B := fun b ⟨g, g1, g2⟩ => by
    obtain ⟨z1, z2, z3, z4, z5⟩ := gr_in hpl g1 (hu.2.1.1 g g1)
    omega
  have hnk : ∀ t, t < rm.length → ∀ j, j < its.length → rm.getD t 0 ∉ kLi N D its A H gl j := fun t htl j hj q => (hrm t htl).2.2.2 ((kLs_mem its.length).mpr ⟨j, hj, q⟩)
  have hnr : ∀ s t, s < rm.length → t < rm.length → s ≠ t → rm.getD s 0 ≠ rm.getD t 0 := fun s t hs ht hst e => hst (nd_getD hbd.2.2.2 hs ht e)
  have k2 : ∀ b x, x < 1024 → ¬ fxd A P r g0 b → (∀ t, 3 + indN (rcB N D its A H) ≤ t → t < 3 + indN (rcB N D its A H) + sumN (dBI fks D its) its.length → b ≠ rm.getD t 0) → o1 F2 (1024 * b + x) = o1 F1 (1024 * b + x) := fun b x hx hf ht => b3 _ (fun j j1 j2 j3 => by have := slot_dis hpl hu.2.1 hr (nmr_ok j2 hil) hf; omega) (fun t t1 t2 => by have := ht t t1 t2; unfold farR; omega)
  have k3 : ∀ b x, x < 1024 → ¬ fxd A P r g0 b → (∀ j, j < its.length → ¬ isDr D its j → b ∉ kLi N D its A H gl j) → (∀ t, 3 + indN (rcB N D its A H) + sumN (dBI fks D its) its.length ≤ t → t < 3 + indN (rcB N D its A H) + sumN (dBI fks D its) its.length + sumN (fBI D its) its.length → b ≠ rm.getD t 0) → o1 F3 (1024 * b + x) = o1 F2 (1024 * b + x) := fun b x hx hf hk0 ht => c3 _ (fun j j1 j2 j3 => ⟨by have := slot_dis hpl hu.2.1 hr (nmr_ok j2 hil) hf; omega, fun c hc => by
    have : c ≠ b := fun e => hk0 j j2 j3 (by rw [← e]; exact hc)
    omega⟩) (fun t t1 t2 => by have := ht t t1 t2; unfold farR; omega)
  have krm : ∀ s, s < 3 + indN (rcB N D its A H) → ∀ x, x < 1024 → o1 F3 (1024 * rm.getD s 0 + x) = o1 F1 (1024 * rm.getD s 0 + x) := fun s hs x hx => by
    have hs2 : s < rm.length := by omega
    rw [k3 _ x hx (hrm s hs2).2.2.1 (fun j j1 _ => hnk s hs2 j j1) (fun t t1 t2 => hnr s t hs2 (by omega) (by omega)), k2 _ x hx (hrm s hs2).2.2.1 (fun t t1 t2 => hnr s t hs2 (by omega) (by omega))]
  have krd : ∀ s, 3 + indN (rcB N D its A H) ≤ s → s < 3 + indN (rcB N D its A H) + sumN (dBI fks D its) its.length → ∀ x, x < 1024 → o1 F3 (1024 * rm.getD s 0 + x) = o1 F2 (1024 * rm.getD s 0 + x) := fun s hs1 hs x hx => by
    have hs2 : s < rm.length := by omega
    rw [k3 _ x hx (hrm s hs2).2.2.1 (fun j j1 _ => hnk s hs2 j j1) (fun t t1 t2 => hnr s t hs2 (by omega) (by omega))]
  have ksl3 : ∀ n, 1 ≤ n ∧ n ≤ g0 * (8 * r) → (∀ j, j < its.length → ¬ isDr D its j → n ≠ nmr j) → ∀ x, x < 128 → o1 F3 (inPos A P (8 * r) n + x) = o1 F2 (inPos A P (8 * r) n + x) := fun n hn hj x hx => c3 _ (fun j j1 j2 j3 => ⟨by have := slots_ap hpl hu.2.1 hr hn (nmr_ok j2 hil) (hj j j2 j3); omega, fun b hb => by have := slot_dis hpl hu.2.1 hr hn (hkl j j2 b hb).2.2.1; omega⟩) (fun t t1 t2 => by have := hsd n hn t (by omega); unfold farR; omega)
  have ksl2 : ∀ n, 1 ≤ n ∧ n ≤ g0 * (8 * r) → (∀ j, j < its.length → isDr D its j → n ≠ nmr j) → ∀ x, x < 128 → o1 F2 (inPos A P (8 * r) n + x) = o1 F1 (inPos A P (8 * r) n + x) := fun n hn hj x hx => b3 _ (fun j j1 j2 j3 => by have := slots_ap hpl hu.2.1 hr hn (nmr_ok j2 hil) (hj j j2 j3); omega) (fun t t1 t2 => by have := hsd n hn t (by omega); unfold farR; omega)
  have n11 : ∀ j, 11 ≠ nmr j := fun j => by unfold nmr; split <;> omega
  refine ⟨F3, U3, R3, ?_, ⟨?_, ?_, ?_, ?_, ?_, ?_, ?_, ?_⟩, ?_, ?_, fun s hs => by rw [c5, b5]; exact a9 s hs⟩
  · rw [a1, q_b]
    refine Eq.trans b1 ?_
    rw [bd_sum]
    exact c1
  · refine agW_keep a2 fun v vv x hx => ?_
    obtain ⟨s, s1, s2⟩ := kpS_bl v vv
    have := krm s (by omega) (512 * (v.1 % 2) + x) (by omega)
    rw [← s2, show 1024 * (v.1 / 2) + (512 * (v.1 % 2) + x) = 512 * v.1 + x by omega] at this
    exact this
  · intro q q1 q2
    rw [c3 q (fun j j1 j2 j3 => ⟨by have := (hs5 (nmr j) (nmr_ok j2 hil)).1; omega, fun b hb => by have := (hkl j j2 b hb).2.1; omega⟩) (fun t t1 t2 => by have := (hrm t (by omega)).1; unfold farR; omega), b3 q (fun j j1 j2 j3 => by have := (hs5 (nmr j) (nmr_ok j2 hil)).1; omega) (fun t t1 t2 => by have := (hrm t (by omega)).1; unfold farR; omega)]
    exact a3 q q1 q2
  · intro j hj hd s hs x hx
    have hki : kLi N D its A H gl j = chL A H gl (chI N D its j) := cif_t hd
    have hm : (chL A H gl (chI N D its j)).getD s 0 ∈ kLi N D its A H gl j := by rw [hki]; exact getD_mem (by rw [chL_len]; exact hs)
    obtain ⟨-, -, y1, y2⟩ := hkl j hj _ hm
    rw [k3 _ x hx y1 (fun i i1 i2 q => by
      rcases Nat.lt_or_ge i j with c | c
      · exact kLs_ap its.length hkf.1 i j c hj _ q hm
      · have : i ≠ j := fun e => by rw [e] at i2; exact i2 hd
        exact kLs_ap its.length hkf.1 j i (by omega) i1 _ hm q) (fun t t1 t2 => y2 t (by omega)), k2 _ x hx y1 (fun t t1 t2 => y2 t (by omega))]
    exact a4 j hj hd s hs x hx
  · rw [hreL]
    refine agW_keep a5 fun v vv x hx => ?_
    obtain ⟨s, s1, s2, s3⟩ := inW_bl v vv
    have := krm s (by omega) (512 * (v.1 % 2) + x) (by omega)
    rw [← s3, show 1024 * (v.1 / 2) + (512 * (v.1 % 2) + x) = 512 * v.1 + x by omega] at this
    exact this
  · intro j hj hd
    exact fd_keep hj hd (b2 j (Nat.zero_le _) hj hd) krd (ksl3 (nmr j) (nmr_ok hj hil) (fun i i1 i2 => nmr_inj (fun e => by rw [← e] at i2; exact i2 hd)))
  · intro j hj hd
    exact c2 j (Nat.zero_le _) hj hd
  · intro x hx
    rw [ksl3 11 h11 (fun j _ _ => n11 j) x hx, ksl2 11 h11 (fun j _ _ => n11 j) x hx, a6 _ (by omega) (by omega), in_tm0 (tm' := fun _ => 0) (fun _ _ _ => rfl) ⟨rfl, rfl, rfl⟩ (by omega) (by omega)]
    have := sh_in (X := Zd) (Y := Zd) (a := inPos A P (8 * r) 11) (b := 0) (j := x) (mode := 33024) (size := (recL N D its A H gl rm).length * 1024) (hasT := false) (tm := fun _ => 0) (links := 1) (l := recL N D its A H gl rm) (rm := rm) (fi := 3) rfl
    rw [Nat.zero_add] at this
    exact this
  · intro n n1 n2 n3 n4 x hx
    rw [ksl3 n ⟨n1, n2⟩ (fun j j1 _ => n4 j j1) x hx, ksl2 n ⟨n1, n2⟩ (fun j j1 _ => n4 j j1) x hx]
    exact zsl n ⟨n1, n2⟩ n3 x hx
  · intro b hb hb5 x hx hq
    rw [c3 _ (fun j j1 j2 j3 => ⟨hq _ (nmr_ok j2 hil).1 (nmr_ok j2 hil).2, fun c hc => by
      have : c ≠ b := fun e => (hkl j j2 c hc).2.2.1 (by rw [e]; exact hb)
      omega⟩) (fun t t1 t2 => by
      have : rm.getD t 0 ≠ b := fun e => (hrm t (by omega)).2.2.1 (by rw [e]; exact hb)
      unfold farR; omega), b3 _ (fun j j1 j2 j3 => hq _ (nmr_ok j2 hil).1 (nmr_ok j2 hil).2) (fun t t1 t2 => by
      have : rm.getD t 0 ≠ b := fun e => (hrm t (by omega)).2.2.1 (by rw [e]; exact hb)
      unfold farR; omega)]
    have hok := hu.2.1.2 b (hfxB b hb) hb
    unfold okBk at hok
    exact a7 _ (by omega) (by omega) (hq 11 h11.1 h11.2) (fun c hc => by
      have : c ≠ b := fun e => (hrcB c hc).2.2 (by rw [e]; exact hb)
      omega) (fun t t1 => by
      have : rm.getD t 0 ≠ b := fun e => (hrm t (by omega)).2.2.1 (by rw [e]; exact hb)
      unfold farR; omega)
  · intro c hc
    rw [c4 c hc]
    refine b01_iff ⟨fun y => ?_, fun y => ?_⟩
    · unfold usd
      rw [bd_sum]
      rcases y with (y | ⟨s, s1, s2, s3⟩) | ⟨j, j1, j2, j3, j4⟩ | ⟨s, s1, s2, s3⟩
      · rcases y with (((y | y) | y) | y) | y
        · exact Or.inl y.2
        · obtain ⟨q, q1, q2, q3⟩ := (rmF_mem _ _).mp y
          exact Or.inr (Or.inl ⟨q, by omega, q3⟩)
        · exact Or.inr (Or.inr (Or.inl y))
        · exact Or.inr (Or.inr (Or.inr (hrcS.subset y)))
        · obtain ⟨q, q1, q2, q3⟩ := (rmF_mem _ _).mp y
          exact Or.inr (Or.inl ⟨q, by omega, q3⟩)
      · exact Or.inr (Or.inl ⟨s, by omega, s3⟩)
      · exact Or.inr (Or.inr (Or.inr ((kLs_mem its.length).mpr ⟨j, j2, j4⟩)))
      · exact Or.inr (Or.inl ⟨s, by omega, s3⟩)
    · unfold usd at y
      rw [bd_sum] at y
      rcases y with y | ⟨q, q1, q2⟩ | y | y
      · exact Or.inl (Or.inl (Or.inl (Or.inl (Or.inl (Or.inl ⟨hfxB c y, y⟩)))))
      · by_cases g1 : q < 3
        · exact Or.inl (Or.inl (Or.inl (Or.inl (Or.inl (Or.inr ((rmF_mem _ _).mpr ⟨q, by omega, by omega, q2⟩))))))
        · by_cases g2 : q < 3 + indN (rcB N D its A H)
          · exact Or.inl (Or.inl (Or.inr ((rmF_mem _ _).mpr ⟨q, by omega, by omega, q2⟩)))
          · by_cases g3 : q < 3 + indN (rcB N D its A H) + sumN (dBI fks D its) its.length
            · exact Or.inl (Or.inr ⟨q, by show _ + 0 ≤ q; omega, g3, q2⟩)
            · exact Or.inr (Or.inr ⟨q, by show _ + 0 ≤ q; omega, q1, q2⟩)
      · exact Or.inl (Or.inl (Or.inl (Or.inl (Or.inr y))))
      · obtain ⟨j, j1, j2⟩ := (kLs_mem its.length).mp y
        by_cases g : isDr D its j
        · refine Or.inl (Or.inl (Or.inl (Or.inr ((rcD_mem its.length).mpr ⟨j, j1, g, ?_⟩))))
          unfold kLi at j2
          rw [cif_t g] at j2
          exact j2
        · exact Or.inr (Or.inl ⟨j, Nat.zero_le _, j1, g, j2⟩)
