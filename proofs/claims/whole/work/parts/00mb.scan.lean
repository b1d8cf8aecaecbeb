/-! The tree as a table volume's slots tell it. -/
def uAt (q : Nat) : Nat := if q < 5 then 1 + 2 * q else if q < 11 then 4 + 2 * q else 6 + 2 * q
def chunk (D : Nat → Int32) (p : Nat) : List Nat := (List.range 13).map (fun q => o2 D (p + uAt q))
theorem chunk_len (D : Nat → Int32) (p : Nat) : (chunk D p).length = 13 := by unfold chunk; rw [List.length_map, List.length_range]
theorem chunk_get (D : Nat → Int32) (p : Nat) {q : Nat} (h : q < 13) : (chunk D p).getD q 0 = o2 D (p + uAt q) := by
  unfold chunk
  rw [List.getD_eq_getElem?_getD, List.getElem?_map, List.getElem?_range h]
  rfl
theorem chunk_lt (D : Nat → Int32) (p : Nat) : ∀ u ∈ chunk D p, u < 65536 := by
  intro u hu
  obtain ⟨q, -, rfl⟩ := List.mem_map.mp hu
  exact o2_lt D _
abbrev Pend : Type := (Nat × Nat) × Nat × List Nat
abbrev pM (x : Pend) : Nat := x.1.1
abbrev pL (x : Pend) : Nat := x.1.2
abbrev pS (x : Pend) : Nat := x.2.1
abbrev pU (x : Pend) : List Nat := x.2.2
def pe0 : Pend := ((0, 0), 0, [])
abbrev peOk (x : Pend) : Prop := pM x + pL x ≤ 20 ∧ (pU x).length = 13 * pM x ∧ pS x < 256 ∧ ∀ u ∈ pU x, u < 65536
def ptP (D : Nat → Int32) (p : Nat) (x : Pend) : Prop := (pM x = 0 → 65 ≤ o1 D p ∧ o1 D p ≤ 84) ∧ (pM x ≠ 0 → o1 D p = pL x ∧ pL x ≠ 0 ∧ o1 D (p + 13) = pS x) ∧ o1 D (p + 12) = 0 ∧ o2 D (p + 26) = 0
def ptN (D : Nat → Int32) (p : Nat) (x : Pend) : Pend := ((pM x + 1, (if pM x = 0 then o1 D p - 64 else pL x) - 1), (if pM x = 0 then o1 D (p + 13) else pS x), chunk D p ++ pU x)
theorem ptN_ok {D : Nat → Int32} {p : Nat} {x : Pend} (h : peOk x) (g : ptP D p x) : peOk (ptN D p x) := by
  obtain ⟨h1, h2, h3, h4⟩ := h
  obtain ⟨g1, g2, -, -⟩ := g
  refine ⟨?_, ?_, ?_, ?_⟩
  · show pM x + 1 + ((if pM x = 0 then o1 D p - 64 else pL x) - 1) ≤ 20
    by_cases e : pM x = 0
    · rw [if_pos e]; have := g1 e; omega
    · rw [if_neg e]; have := g2 e; omega
  · show (chunk D p ++ pU x).length = 13 * (pM x + 1)
    rw [List.length_append, chunk_len, h2]; omega
  · show (if pM x = 0 then o1 D (p + 13) else pS x) < 256
    split
    · exact o1_lt D _
    · exact h3
  · intro u hu
    rcases List.mem_append.mp hu with z | z
    · exact chunk_lt D p u z
    · exact h4 u z
/-- how the reference holds the parts that wait -/
abbrev rmP (x : Pend) (T : MS) : Prop := T.v_met = nI (pM x) ∧ (pM x ≠ 0 → T.v_left = nI (pL x) ∧ T.v_sum = nI (pS x) ∧ T.v_size = nI (13 * (pM x + pL x)) ∧ ∀ q, q < 13 * pM x → T.v_name (13 * pL x + q) = nI ((pU x).getD q 0))
def nmF (T : MS) (a b c d : Int32) (e : Nat → Int32) : MS := ((((T.u_v_met a).u_v_left b).u_v_sum c).u_v_size d).u_v_name e
theorem qM_part119 {K p l m : Nat} {D : Nat → Int32} {T : MS} (hK : 1000 ≤ K) (hD : T.v_disk = D) (hp : p + 31 < 524288) (h1 : 1 ≤ l) (h2 : l ≤ 20) (hL : T.v_left = nI l) (hM : T.v_met = nI m) : f_Mo_part_119 K K (nI p) 0 T = some (nI 1, ((T.u_v_name (fun j => if 13 * (l - 1) ≤ j ∧ j < 13 * (l - 1) + 13 then nI ((chunk D p).getD (j - 13 * (l - 1)) 0) else T.v_name j)).u_v_met (nI (m + 1))).u_v_left (nI (l - 1))) := by
  have key := lp (F := fun k i S => f_Mo_part_119 K k (nI p) (nI i) S) (Inv := fun i s => s = T.u_v_name (fun j => if 13 * (l - 1) ≤ j ∧ j < 13 * (l - 1) + i then nI ((chunk D p).getD (j - 13 * (l - 1)) 0) else T.v_name j)) (Post := fun r => r = some (nI 1, ((T.u_v_name (fun j => if 13 * (l - 1) ≤ j ∧ j < 13 * (l - 1) + 13 then nI ((chunk D p).getD (j - 13 * (l - 1)) 0) else T.v_name j)).u_v_met (nI (m + 1))).u_v_left (nI (l - 1)))) (n := 13) ?_ ?_ 13 0 K T (by omega) (by omega) ?_
  · exact key
  · intro i s k hi hI
    left
    refine ⟨_, rfl, ?_⟩
    have hsD : s.v_disk = D := by rw [hI]; exact hD
    have hsL : s.v_left = nI l := by rw [hI]; exact hL
    have e0 : 13 * (s.v_left - 1) + nI i = nI (13 * (l - 1) + i) := by
      rw [hsL, show (1 : Int32) = nI 1 from rfl, pk_sub h1, show (13 : Int32) = nI 13 from rfl, pk_mul, nI_add]
    have key2 : ∀ z : Int32, nI p + z = nI (p + uAt i) → f_Mo_part_175 K (f_Mo_part_119 K k) (nI p) (nI i) (13 * (s.v_left - 1) + nI i) (nI p) z s = f_Mo_part_119 K k (nI p) (nI (i + 1)) (T.u_v_name (fun j => if 13 * (l - 1) ≤ j ∧ j < 13 * (l - 1) + (i + 1) then nI ((chunk D p).getD (j - 13 * (l - 1)) 0) else T.v_name j)) := by
      intro z hz
      have hu : uAt i ≤ 30 := by unfold uAt; split <;> (try split) <;> omega
      rw [f_Mo_part_175, hz, rM2 D hsD (by omega), q_c, e0, q_g (q_in (by omega) (by decide)), q_l, q_l, nI_1, nI_clamp (by omega), q_ch (o2_lt D _), q_nar (o2_lt D _)]
      congr 1
      rw [hI]
      show T.u_v_name _ = T.u_v_name _
      congr 1
      funext j
      show upd (fun j => if 13 * (l - 1) ≤ j ∧ j < 13 * (l - 1) + i then nI ((chunk D p).getD (j - 13 * (l - 1)) 0) else T.v_name j) (13 * (l - 1) + i) (nI (o2 D (p + uAt i))) j = _
      by_cases g : j = 13 * (l - 1) + i
      · rw [g, pk_us, if_pos (by omega), show 13 * (l - 1) + i - 13 * (l - 1) = i by omega, chunk_get D p hi]
      · rw [pk_un g]
        by_cases g2 : 13 * (l - 1) ≤ j ∧ j < 13 * (l - 1) + i
        · rw [if_pos g2, if_pos (by omega)]
        · rw [if_neg g2, if_neg (by omega)]
    have c5 : 5 ≤ nI i ↔ 5 ≤ i := nI_leI (a := 5) (by decide) (by omega)
    have c11 : 11 ≤ nI i ↔ 11 ≤ i := nI_leI (a := 11) (by decide) (by omega)
    rw [f_Mo_part_119, if_neg (show ¬ 13 ≤ nI i from nI_ge (b := 13) hi (by decide))]
    by_cases g5 : 5 ≤ i
    · rw [if_pos (c5.mpr g5)]
      by_cases g11 : 11 ≤ i
      · rw [if_pos (c11.mpr g11)]
        exact key2 _ (by rw [show (6 : Int32) = nI 6 from rfl, show (2 : Int32) = nI 2 from rfl, pk_mul, nI_add, nI_add, uAt, if_neg (by omega), if_neg (by omega)])
      · rw [if_neg (fun z => g11 (c11.mp z))]
        exact key2 _ (by rw [show (4 : Int32) = nI 4 from rfl, show (2 : Int32) = nI 2 from rfl, pk_mul, nI_add, nI_add, uAt, if_neg (by omega), if_pos (by omega)])
    · rw [if_neg (fun z => g5 (c5.mp z))]
      exact key2 _ (by rw [show (1 : Int32) = nI 1 from rfl, show (2 : Int32) = nI 2 from rfl, pk_mul, nI_add, nI_add, uAt, if_pos (by omega)])
  · intro s k hI
    rw [f_Mo_part_119, if_pos (by decide), hI, q_l, q_l]
    show some (nI 1, ((T.u_v_name _).u_v_met (T.v_met + nI 1)).u_v_left (T.v_left - nI 1)) = _
    rw [hM, hL, nI_add, pk_sub h1]
  · show T = T.u_v_name _
    rw [show (fun j => if 13 * (l - 1) ≤ j ∧ j < 13 * (l - 1) + 0 then nI ((chunk D p).getD (j - 13 * (l - 1)) 0) else T.v_name j) = T.v_name from funext (fun j => if_neg (by omega))]
    rfl
theorem qM_part {K p : Nat} {D : Nat → Int32} {T : MS} {x : Pend} (hK : 1000 ≤ K) (hD : T.v_disk = D) (hp : p + 31 < 524288) (hx : peOk x) (hT : rmP x T) : ∃ a b c d e, f_Mo_part K T (nI p) = some (b01 (ptP D p x), nmF T a b c d e) ∧ (ptP D p x → rmP (ptN D p x) (nmF T a b c d e)) := by
  obtain ⟨t1, t2⟩ := hT
  obtain ⟨x1, x2, x3, x4⟩ := hx
  have same : nmF T T.v_met T.v_left T.v_sum T.v_size T.v_name = T := rfl
  have r0 := o1_lt D p
  have r12 := o1_lt D (p + 12)
  have r13 := o1_lt D (p + 13)
  have r26 := o2_lt D (p + 26)
  -- behind the first test: left is l, the sum s
  have back : ∀ (l s : Nat) (T1 : MS), (∃ b c d, T1 = nmF T T.v_met b c d T.v_name) → 1 ≤ l → l ≤ 20 → s < 256 → T1.v_left = nI l → T1.v_sum = nI s → ∃ a b c d e, f_Mo_part_71 K (nI p) T1 = some (b01 (o1 D (p + 12) = 0 ∧ o2 D (p + 26) = 0 ∧ o1 D (p + 13) = s), nmF T a b c d e) ∧ ((o1 D (p + 12) = 0 ∧ o2 D (p + 26) = 0 ∧ o1 D (p + 13) = s) → a = nI (pM x + 1) ∧ b = nI (l - 1) ∧ c = nI s ∧ d = T1.v_size ∧ e = (fun j => if 13 * (l - 1) ≤ j ∧ j < 13 * (l - 1) + 13 then nI ((chunk D p).getD (j - 13 * (l - 1)) 0) else T.v_name j)) := by
    intro l s T1 hT1 h1 h2 hs hl hsum
    obtain ⟨b, c, d, hT1⟩ := hT1
    have hD1 : T1.v_disk = D := by rw [hT1]; exact hD
    have hM1 : T1.v_met = nI (pM x) := by rw [hT1]; exact t1
    unfold f_Mo_part_71 f_Mo_part_115
    rw [hl, if_neg (nI_ne0 (by omega) (by omega)), show (12 : Int32) = nI 12 from rfl, nI_add, rM1 D hD1 (by omega), q_c]
    by_cases g1 : o1 D (p + 12) = 0
    · rw [if_pos (by rw [g1]; rfl), show (26 : Int32) = nI 26 from rfl, nI_add, rM2 D hD1 (by omega), q_c]
      by_cases g2 : o2 D (p + 26) = 0
      · rw [if_pos (by rw [g2]; rfl), show (13 : Int32) = nI 13 from rfl, nI_add, rM1 D hD1 (by omega), q_c, hsum]
        by_cases g3 : o1 D (p + 13) = s
        · rw [if_pos (by rw [g3]), qM_part119 hK hD1 hp h1 h2 hl hM1]
          refine ⟨_, _, _, _, _, ?_, fun _ => ⟨rfl, rfl, rfl, rfl, rfl⟩⟩
          rw [b01_t ⟨g1, g2, g3⟩]
          have e1 : c = nI s := by rw [hT1] at hsum; exact hsum
          rw [hT1, ← e1]
          rfl
        · rw [if_neg (fun z => g3 ((nI_eq (by omega) (by omega)).mp z))]
          exact ⟨T1.v_met, T1.v_left, T1.v_sum, T1.v_size, T1.v_name, by rw [b01_f (fun z => g3 z.2.2), hT1]; rfl, fun z => absurd z.2.2 g3⟩
      · rw [if_neg (fun z : nI (o2 D (p + 26)) = 0 => g2 ((nI_eq (b := 0) (by omega) (by omega)).mp z))]
        exact ⟨T1.v_met, T1.v_left, T1.v_sum, T1.v_size, T1.v_name, by rw [b01_f (fun z => g2 z.2.1), hT1]; rfl, fun z => absurd z.2.1 g2⟩
    · rw [if_neg (fun z : nI (o1 D (p + 12)) = 0 => g1 ((nI_eq (b := 0) (by omega) (by omega)).mp z))]
      exact ⟨T1.v_met, T1.v_left, T1.v_sum, T1.v_size, T1.v_name, by rw [b01_f (fun z => g1 z.1), hT1]; rfl, fun z => absurd z.1 g1⟩
  have fin : ∀ (l s : Nat) (a b c d : Int32) (e : Nat → Int32), 1 ≤ l → (pM x = 0 → l = o1 D p - 64 ∧ s = o1 D (p + 13)) → (pM x ≠ 0 → l = pL x ∧ s = pS x) → a = nI (pM x + 1) → b = nI (l - 1) → c = nI s → d = nI (13 * (pM x + l)) → e = (fun j => if 13 * (l - 1) ≤ j ∧ j < 13 * (l - 1) + 13 then nI ((chunk D p).getD (j - 13 * (l - 1)) 0) else T.v_name j) → rmP (ptN D p x) (nmF T a b c d e) := by
    intro l s a b c d e hl h0 h1 ha hb hc hd he
    have el : (if pM x = 0 then o1 D p - 64 else pL x) = l := by
      by_cases z : pM x = 0
      · rw [if_pos z]; exact (h0 z).1.symm
      · rw [if_neg z]; exact (h1 z).1.symm
    have es : (if pM x = 0 then o1 D (p + 13) else pS x) = s := by
      by_cases z : pM x = 0
      · rw [if_pos z]; exact (h0 z).2.symm
      · rw [if_neg z]; exact (h1 z).2.symm
    refine ⟨ha, fun _ => ⟨?_, ?_, ?_, fun q hq => ?_⟩⟩
    · show b = nI ((if pM x = 0 then o1 D p - 64 else pL x) - 1)
      rw [el, hb]
    · show c = nI (if pM x = 0 then o1 D (p + 13) else pS x)
      rw [es, hc]
    · show d = nI (13 * (pM x + 1 + ((if pM x = 0 then o1 D p - 64 else pL x) - 1)))
      rw [el, hd]
      congr 2
      omega
    · show e (13 * ((if pM x = 0 then o1 D p - 64 else pL x) - 1) + q) = nI ((chunk D p ++ pU x).getD q 0)
      have hq : q < 13 * (pM x + 1) := hq
      clear es
      rw [el, he]
      dsimp only
      rw [List.getD_eq_getElem?_getD (l := chunk D p ++ pU x)]
      by_cases z : q < 13
      · rw [if_pos (by omega), List.getElem?_append_left (by rw [chunk_len]; exact z), show 13 * (l - 1) + q - 13 * (l - 1) = q by omega, List.getD_eq_getElem?_getD]
      · have zm : pM x ≠ 0 := by omega
        rw [if_neg (by omega), List.getElem?_append_right (by rw [chunk_len]; omega), chunk_len]
        have := (t2 zm).2.2.2 (q - 13) (by omega)
        rw [show 13 * (l - 1) + q = 13 * pL x + (q - 13) by rw [← (h1 zm).1]; omega, this, List.getD_eq_getElem?_getD]
  unfold f_Mo_part f_Mo_part_25
  rw [rM1 D hD (by omega), q_c, t1]
  by_cases g0 : pM x = 0
  · rw [if_pos (by rw [g0]; rfl)]
    by_cases g1 : o1 D p < 65
    · rw [if_pos (show nI (o1 D p) < 65 from nI_lt (b := 65) g1 (by decide))]
      exact ⟨_, _, _, _, _, by rw [same, b01_f (fun z => by have := z.1 g0; omega)]; rfl, fun z => by have := z.1 g0; omega⟩
    · rw [if_neg (show ¬ nI (o1 D p) < 65 from nI_nlt (b := 65) (by omega) (by omega))]
      by_cases g2 : o1 D p ≤ 84
      · rw [if_pos (show nI (o1 D p) ≤ 84 from nI_le (b := 84) g2 (by decide)), show (64 : Int32) = nI 64 from rfl, pk_sub (by omega), q_l, q_l]
        have hD1 : ((T.u_v_left (nI (o1 D p - 64))).u_v_size (13 * (T.u_v_left (nI (o1 D p - 64))).v_left)).v_disk = D := hD
        rw [show (13 : Int32) = nI 13 from rfl, nI_add] at *
        rw [rM1 D hD1 (by omega), q_c, q_l]
        have hsz : nI 13 * nI (o1 D p - 64) = nI (13 * (o1 D p - 64)) := pk_mul _ _
        obtain ⟨a, b, c, d, e, f1, f2⟩ := back (o1 D p - 64) (o1 D (p + 13)) _ ⟨nI (o1 D p - 64), nI (o1 D (p + 13)), nI 13 * nI (o1 D p - 64), rfl⟩ (by omega) (by omega) r13 rfl rfl
        refine ⟨a, b, c, d, e, ?_, fun z => ?_⟩
        · refine Eq.trans f1 ?_
          rw [b01_iff (show (o1 D (p + 12) = 0 ∧ o2 D (p + 26) = 0 ∧ o1 D (p + 13) = o1 D (p + 13)) ↔ ptP D p x from ⟨fun z => ⟨fun _ => by omega, fun y => absurd g0 y, z.1, z.2.1⟩, fun z => ⟨z.2.2.1, z.2.2.2, rfl⟩⟩)]
        · obtain ⟨a1, a2, a3, a4, a5⟩ := f2 ⟨z.2.2.1, z.2.2.2, rfl⟩
          refine fin (o1 D p - 64) (o1 D (p + 13)) a b c d e (by omega) (fun _ => ⟨rfl, rfl⟩) (fun y => absurd g0 y) a1 a2 a3 ?_ a5
          rw [a4, g0, Nat.zero_add]
          exact hsz
      · rw [if_neg (show ¬ nI (o1 D p) ≤ 84 from nI_ge (a := 84) (by omega) (by omega))]
        exact ⟨_, _, _, _, _, by rw [same, b01_f (fun z => by have := z.1 g0; omega)]; rfl, fun z => by have := z.1 g0; omega⟩
  · rw [if_neg (nI_ne0 (by omega) (by omega))]
    obtain ⟨u1, u2, u3, u4⟩ := t2 g0
    rw [u1]
    by_cases g1 : o1 D p = pL x
    · rw [if_pos (by rw [g1])]
      by_cases g2 : pL x = 0
      · refine ⟨T.v_met, T.v_left, T.v_sum, T.v_size, T.v_name, ?_, fun z => absurd g2 (z.2.1 g0).2.1⟩
        have e : f_Mo_part_71 K (nI p) T = some (0, T) := by
          unfold f_Mo_part_71 f_Mo_part_115
          rw [if_pos (by rw [u1, g2]; rfl)]
        rw [e, b01_f (fun z => (z.2.1 g0).2.1 g2)]
        rfl
      · obtain ⟨a, b, c, d, e, f1, f2⟩ := back (pL x) (pS x) T ⟨T.v_left, T.v_sum, T.v_size, rfl⟩ (by omega) (by omega) x3 u1 u2
        refine ⟨a, b, c, d, e, ?_, fun z => ?_⟩
        · refine Eq.trans f1 ?_
          rw [b01_iff (show (o1 D (p + 12) = 0 ∧ o2 D (p + 26) = 0 ∧ o1 D (p + 13) = pS x) ↔ ptP D p x from ⟨fun z => ⟨fun y => absurd y g0, fun y => ⟨g1, g2, z.2.2⟩, z.1, z.2.1⟩, fun z => ⟨z.2.2.1, z.2.2.2, (z.2.1 g0).2.2⟩⟩)]
        · obtain ⟨a1, a2, a3, a4, a5⟩ := f2 ⟨z.2.2.1, z.2.2.2, (z.2.1 g0).2.2⟩
          exact fin (pL x) (pS x) a b c d e (by omega) (fun y => absurd y g0) (fun _ => ⟨rfl, rfl⟩) a1 a2 a3 (by rw [a4, u3]) a5
    · rw [if_neg (fun z => g1 ((nI_eq (by omega) (by omega)).mp z))]
      exact ⟨_, _, _, _, _, by rw [same, b01_f (fun z => g1 (z.2.1 g0).1)]; rfl, fun z => absurd (z.2.1 g0).1 g1⟩
