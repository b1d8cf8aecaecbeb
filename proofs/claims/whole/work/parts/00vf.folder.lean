/-! A directory's blocks laid by the reference. -/
/-- where the reference stands ahead of entry e -/
abbrev fdI (D : Nat → Int32) (fks : List Nat) (its : List It) (i : Nat) (rm : List Nat) (b0 e : Nat) (F : Nat → Int32) (R : Rg) : Prop := ∃ t a la Z Ld, dwG D fks its i rm (eNo fks its i) 0 Zd 0 0 b0 = Ld ++ dwG D fks its i rm (eNo fks its i - e) e Z a la t ∧ agW F Ld ∧ (∀ w ∈ Ld, ∃ s, b0 ≤ s ∧ s < t ∧ w.1 / 2 = rm.getD s 0) ∧ a = (pkS (eSz fks its i) e).2 ∧ t + 1 = b0 + (pkS (eSz fks its i) e).1 ∧ rdS R rm b0 t a la ∧ bkA F (rm.getD t 0) Z ∧ la + 8 ≤ 1024 ∧ (∀ s, t < s → s < b0 + flB fks its i → bkA F (rm.getD s 0) Zd)
theorem agW_keep {F F' : Nat → Int32} {L : List Wr} (h : agW F L) (hk0 : ∀ w ∈ L, ∀ j, j < 512 → o1 F' (512 * w.1 + j) = o1 F (512 * w.1 + j)) : agW F' L := fun w ww j hj => by rw [hk0 w ww j hj]; exact h w ww j hj
theorem rmF_app (rm : List Nat) : ∀ d a, rmF rm a (d + 1) = rmF rm a d ++ [rm.getD (a + d) 0] := by
  intro d
  induction d with
  | zero => intro a; rfl
  | succ d ih => intro a; rw [rmF, ih (a + 1), rmF, List.cons_append, show a + 1 + d = a + (d + 1) by omega]
theorem ql_step {K i e b0 : Nat} {N : Nat} {D : Nat → Int32} {fks : List Nat} {its : List It} {T : MS} {F U : Nat → Int32} {R : Rg} {rm : List Nat} {tx : Int32} {p : Nat → Prop} (hK : 2000 ≤ K) (hbd : bdA T rm) (hes : ∀ e, eSz fks its i e ≤ 765) (he : e < eNo fks its i) (hin : b0 + flB fks its i ≤ rm.length) (htx : txR K T tx (eSz fks its i e) (eNb fks its i e)) (hno : eNu fks its i e < 2 ^ 31) (hI : fdI D fks its i rm b0 e F R) (hU : uM U (fun c => p c ∨ c ∈ rmF rm b0 (pkS (eSz fks its i) e).1)) : ∃ F' U' R', f_Mo_entered K (qS T F U (b0 + (pkS (eSz fks its i) e).1) R) (nI (pkS (eSz fks its i) e).1) (nI (eNu fks its i e)) tx (nI (eKd D fks its i e)) (nI (eSz fks its i e)) = some (nI (pkS (eSz fks its i) (e + 1)).1, qS T F' U' (b0 + (pkS (eSz fks its i) (e + 1)).1) R') ∧ fdI D fks its i rm b0 (e + 1) F' R' ∧ (∀ q, (∀ s, b0 ≤ s → s < b0 + flB fks its i → farR rm s q) → o1 F' q = o1 F q) ∧ uM U' (fun c => p c ∨ c ∈ rmF rm b0 (pkS (eSz fks its i) (e + 1)).1) ∧ R'.1 = R.1 ∧ R'.2.2.2.2.2 = R.2.2.2.2.2 := by
  obtain ⟨t, a, la, Z, Ld, i1, i2, i3, i4, i5, i6, i7, i8, i9⟩ := hI
  have hpk := pkS_le hes e
  have hm1 := pkS_mono (s := eSz fks its i) (e := e + 1) (eNo fks its i - (e + 1))
  rw [show e + 1 + (eNo fks its i - (e + 1)) = eNo fks its i by omega] at hm1
  have hm0 := pkS_mono (s := eSz fks its i) (e := e) 1
  have hfb : (pkS (eSz fks its i) (eNo fks its i)).1 = flB fks its i := rfl
  have hkd : eKd D fks its i e < 2 ^ 31 := by
    unfold eKd
    split
    · decide
    · split
      · by_cases w : isDr D its (fkI fks i + (e - 2))
        · rw [cif_t w]; decide
        · rw [cif_f w]; decide
      · decide
  have hp1 : (pkS (eSz fks its i) (e + 1)).1 = if a + elN (eSz fks its i e) ≤ 1024 then (pkS (eSz fks its i) e).1 else (pkS (eSz fks its i) e).1 + 1 := by
    rw [pkS, ← i4]; split <;> rfl
  have hp2 : (pkS (eSz fks its i) (e + 1)).2 = if a + elN (eSz fks its i e) ≤ 1024 then a + elN (eSz fks its i e) else elN (eSz fks its i e) := by
    rw [pkS, ← i4]; split <;> rfl
  obtain ⟨F', U', R', c1, c2, c3, c4, c5, c6, c7⟩ := ql_entered (K := K) (no := eNu fks its i e) (kd := eKd D fks its i e) (F := F) (U := U) (nb := eNb fks its i e) hK hbd htx i6 (by omega) (fun g => by rw [if_neg (by omega)] at hp1; omega) (by omega) i8 (hes e) hno hkd i7 (fun g => i9 (t + 1) (by omega) (by rw [if_neg (by omega)] at hp1; omega))
  have ed : eNo fks its i - e = (eNo fks its i - (e + 1)) + 1 := by omega
  have el8 : 8 ≤ elN (eSz fks its i e) := by unfold elN; omega
  rw [ed, dwG] at i1
  have hfar : ∀ s u, s < rm.length → u < rm.length → s ≠ u → ∀ q, 1024 * rm.getD s 0 ≤ q → q < 1024 * rm.getD s 0 + 1024 → farR rm u q := fun s u hs hu h q q1 q2 => by
    have : rm.getD s 0 ≠ rm.getD u 0 := fun e => h (nd_getD hbd.2.2.2 hs hu e)
    unfold farR
    omega
  have hLd : ∀ w ∈ Ld, ∀ j, j < 512 → o1 F' (512 * w.1 + j) = o1 F (512 * w.1 + j) := fun w ww j hj => by
    obtain ⟨s, s1, s2, s3⟩ := i3 w ww
    have q1 : 1024 * rm.getD s 0 ≤ 512 * w.1 + j := by omega
    have q2 : 512 * w.1 + j < 1024 * rm.getD s 0 + 1024 := by omega
    exact c4 _ (hfar s t (by omega) (by omega) (by omega) _ q1 q2) (fun g => hfar s (t + 1) (by omega) (by rw [if_neg (by omega)] at hp1; omega) (by omega) _ q1 q2)
  refine ⟨F', U', R', ?_, ?_, fun q hq => c4 q (hq t (by have := i6.2.2.2.1; omega) (by omega)) (fun g => hq (t + 1) (by have := i6.2.2.2.1; omega) (by rw [if_neg (by omega)] at hp1; omega)), ?_, c6, c7⟩
  · rw [← i5, show (pkS (eSz fks its i) e).1 = t + 1 - b0 by omega, c1, hp1]
    by_cases g : a + elN (eSz fks its i e) ≤ 1024
    · rw [if_pos g, if_pos g]
      congr 3 <;> omega
    · rw [if_neg g, if_neg g]
      congr 3 <;> omega
  · by_cases g : a + elN (eSz fks its i e) ≤ 1024
    · obtain ⟨d1, d2⟩ := c2 g
      rw [if_pos g] at i1 hp1 hp2
      refine ⟨t, _, a, _, Ld, i1, agW_keep i2 hLd, i3, by rw [hp2], by omega, d1, d2, by omega, fun s s1 s2 j hj => ?_⟩
      rw [c4 _ (hfar s t (by omega) (by omega) (by omega) _ (by omega) (by omega)) (fun y => absurd g (by omega))]
      exact i9 s s1 s2 j hj
    · obtain ⟨d1, d2, d3⟩ := c3 (by omega)
      rw [if_neg g] at i1 hp1 hp2
      rw [← List.append_assoc] at i1
      refine ⟨t + 1, _, 0, _, _, i1, agW_app (agW_keep i2 hLd) (agW_blk d2), fun w ww => ?_, by rw [hp2], by omega, d1, d3, by decide, fun s s1 s2 j hj => ?_⟩
      · rcases List.mem_append.mp ww with y | y
        · obtain ⟨s, s1, s2, s3⟩ := i3 w y
          exact ⟨s, s1, by omega, s3⟩
        · refine ⟨t, i6.2.2.2.1, by omega, ?_⟩
          unfold blW at y
          rcases List.mem_cons.mp y with z | z
          · rw [z]; show 2 * rm.getD t 0 / 2 = _; omega
          · rw [List.mem_singleton.mp z]; show (2 * rm.getD t 0 + 1) / 2 = _; omega
      · rw [c4 _ (hfar s t (by omega) (by omega) (by omega) _ (by omega) (by omega)) (fun _ => hfar s (t + 1) (by omega) (by omega) (by omega) _ (by omega) (by omega))]
        exact i9 s (by omega) s2 j hj
  · intro c hc0
    rw [c5 _ hU c hc0, hp1]
    by_cases g : a + elN (eSz fks its i e) ≤ 1024
    · rw [if_pos g]
      exact b01_iff ⟨fun y => y.resolve_right (fun z => by omega), Or.inl⟩
    · rw [if_neg g, rmF_app, show b0 + (pkS (eSz fks its i) e).1 = t + 1 by omega]
      refine b01_iff ⟨fun y => ?_, fun y => ?_⟩
      · rcases y with (y | y) | y
        · exact Or.inl y
        · exact Or.inr (List.mem_append_left _ y)
        · exact Or.inr (List.mem_append_right _ (by rw [y.2]; exact List.mem_singleton.mpr rfl))
      · rcases y with y | y
        · exact Or.inl (Or.inl y)
        · rcases List.mem_append.mp y with z | z
          · exact Or.inl (Or.inr z)
          · exact Or.inr ⟨by omega, List.mem_singleton.mp z⟩
