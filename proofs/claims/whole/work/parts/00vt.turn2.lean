/-! All maps and heads laid by the reference. -/
theorem ql_turn160 {K fr : Nat} {N : Nat} {D : Nat → Int32} {fks : List Nat} {its : List It} {A H k B P g0 r to : Nat} {gl e : Nat → Nat} {T : MS} {U : Nat → Int32} {n : Nat} {R : Rg} {us : Nat → Prop} {lb : Option Nat} (hK : 20000 ≤ K) (h : tnU N D fks its A H k B P g0 r to gl e T) (hU : uM U us) (hfr : fr < 2 ^ 20) (hlb : T.v_label = lbI lb) (hlp : ∀ p, lb = some p → p + 32 ≤ 512 * N) : ∀ (d g w : Nat) (F : Nat → Int32), g + d = g0 → d < w → (∀ g', g ≤ g' → g' < g0 → ∀ j, j < 2048 → o1 F (1024 * mBk A P g' + j) = 0 ∧ o1 F (1024 * (1 + g' * P) + j) = 0) → ∃ F', f_Mo_turn_160 K w (lN fr) (nI g) (qS T F U n R) = some ((qS T F' U n R).u_v_turned 1) ∧ (∀ g', g ≤ g' → g' < g0 → bkA F' (mBk A P g') (mX (bmP us B P g0 g')) ∧ bkA F' (mBk A P g' + 1) (mX (imP (8 * r) (10 + its.length) g')) ∧ bkA F' (1 + g' * P) (sbL Zd (g0 * (8 * r)) B fr (g0 * (8 * r) - (10 + its.length)) P (8 * r) g' (o4 D 67) (lby D lb)) ∧ bkA F' (1 + g' * P + 1) (dsX Zd (mBk A P) (frB us B P g0) (frI (8 * r) (10 + its.length)) (dgN D its (8 * r)) g0)) ∧ ∀ q, (∀ g', g ≤ g' → g' < g0 → (q < 1024 * mBk A P g' ∨ 1024 * mBk A P g' + 2048 ≤ q) ∧ (q < 1024 * (1 + g' * P) ∨ 1024 * (1 + g' * P) + 2048 ≤ q)) → o1 F' q = o1 F q := by
  have hh := h
  obtain ⟨⟨hM, ⟨hpl, hT, hI, hr, hil⟩, hbd, hmv, -, -⟩, hu, hgl⟩ := h
  have hin := fun g (hg : g < g0) => gr_in hpl hg (hu.2.1.1 g hg)
  have hap := fun g g' (h1 : g < g') (h2 : g' < g0) => grp_ap hpl hu.2.1 h1 h2
  have hg8 : g0 ≤ 8 := by
    have h1 := hpl.2.2.2.2.2.1
    have h2 := hpl.2.2.2.1
    rcases hpl.2.2.2.2.1 with q | q | q <;> rw [q] at h1 <;> omega
  intro d
  induction d with
  | zero =>
    intro g w F e1 e2 hz
    obtain ⟨w, rfl⟩ : ∃ m, w = m + 1 := ⟨w - 1, by omega⟩
    refine ⟨F, ?_, fun g' h1 h2 => by omega, fun _ _ => rfl⟩
    rw [f_Mo_turn_160, show (qS T F U n R).v_groups = nI g0 from hT.2.2.2.2.2.1, if_pos (nI_le (by omega) (by omega)), q_l]
  | succ d ih =>
    intro g w F e1 e2 hz
    obtain ⟨w, rfl⟩ : ∃ m, w = m + 1 := ⟨w - 1, by omega⟩
    have hg : g < g0 := by omega
    obtain ⟨z1, z2, z3, z4, z5⟩ := hin g hg
    obtain ⟨F1, a1, a2, a3, a4⟩ := ql_maps (K := K) (F := F) (n := n) (R := R) hK hh hg hU (fun j hj => (hz g (Nat.le_refl _) hg j hj).1)
    obtain ⟨F2, b1, b2, b3, b4⟩ := ql_head (K := K) (F := F1) (n := n) (R := R) (fr := fr) hK hh hg hU hfr hlb hlp (fun j hj => by
      rw [a4 _ (by omega)]
      exact (hz g (Nat.le_refl _) hg j hj).2)
    obtain ⟨F', c1, c2, c3⟩ := ih (g + 1) w F2 (by omega) (by omega) (fun g' h1 h2 j hj => by
      have h3 := hap g g' (by omega) h2
      obtain ⟨-, -, -, -, z5'⟩ := hin g' h2
      rw [b4 _ (by omega), a4 _ (by omega), b4 _ (by omega), a4 _ (by omega)]
      exact hz g' (by omega) h2 j hj)
    refine ⟨F', ?_, fun g' h1 h2 => ?_, fun q hq => ?_⟩
    · rw [f_Mo_turn_160, show (qS T F U n R).v_groups = nI g0 from hT.2.2.2.2.2.1, if_neg (nI_ge (by omega) (by omega)), a1, q_b, b1, q_b, nI_1, q_l]
      exact c1
    · by_cases c : g' = g
      · rw [c]
        have keep : ∀ q, 1024 * (1 + g * P) ≤ q → q < 1024 * (mBk A P g + 2) → o1 F' q = o1 F2 q := fun q q1 q2 => c3 q (fun g'' k1 k2 => by
          have h3 := hap g g'' (by omega) k2
          obtain ⟨-, -, -, -, z5'⟩ := hin g'' k2
          omega)
        refine ⟨fun j hj => ?_, fun j hj => ?_, fun j hj => ?_, fun j hj => ?_⟩
        · rw [keep _ (by omega) (by omega), b4 _ (by omega)]; exact a2 j hj
        · rw [keep _ (by omega) (by omega), b4 _ (by omega)]; exact a3 j hj
        · rw [keep _ (by omega) (by omega)]; exact b2 j hj
        · rw [keep _ (by omega) (by omega)]; exact b3 j hj
      · exact c2 g' (by omega) h2
    · rw [c3 q (fun g' h1 h2 => hq g' (by omega) h2), b4 q (hq g (Nat.le_refl _) hg).2, a4 q (hq g (Nat.le_refl _) hg).1]
/-- eight inodes of a block, one by one -/
theorem piX_o {Z : Nat → Int32} {p q : Nat} {l : List Nat} {i : Nat} (h : q < p ∨ p + 4 * i ≤ q) : o1 (piX Z p l i) q = o1 Z q := piX_out h
theorem riX_out {Z : Nat → Int32} {p q fi c : Nat} {rm : List Nat} : ∀ {i : Nat}, (q < p ∨ p + 4 * i ≤ q) → o1 (riX Z p rm fi c i) q = o1 Z q := by
  intro i
  induction i with
  | zero => intro _; rfl
  | succ i ih =>
    intro h
    rw [riX]
    by_cases g : i < c
    · rw [if_pos g, st_out (by omega), ih (by omega)]
    · rw [if_neg g, ih (by omega)]
theorem inX_out {Z : Nat → Int32} {a mode size links fi q : Nat} {hasT : Bool} {tm : Nat → Nat} {l rm : List Nat} (h : q < a ∨ a + 128 ≤ q) : o1 (inX Z a mode size hasT tm links l rm fi) q = o1 Z q := by
  unfold inX tmX
  rw [riX_out (by omega), piX_out (by omega), st_out (by omega), st_out (by omega)]
  cases hasT with
  | true =>
    show o1 (st (st (st (st (st Z a mode 2) (a + 4) size 4) (a + 8) (tm 2) 4) (a + 12) (tm 3) 4) (a + 16) (tm 4) 4) q = _
    rw [st_out (by omega), st_out (by omega), st_out (by omega), st_out (by omega), st_out (by omega)]
  | false =>
    show o1 (st (st Z a mode 2) (a + 4) size 4) q = _
    rw [st_out (by omega), st_out (by omega)]
theorem iNo_out {N : Nat} {D : Nat → Int32} {fks : List Nat} {its : List It} {A H : Nat} {gl : Nat → Nat} {rm : List Nat} {n a q : Nat} {Z : Nat → Int32} (h : q < a ∨ a + 128 ≤ q) : o1 (iNo N D fks its A H gl rm n a Z) q = o1 Z q := by
  unfold iNo iIt iRc
  split
  · exact inX_out h
  · split
    · exact inX_out h
    · split
      · rfl
      · exact inX_out h
theorem iNo_sh {N : Nat} {D : Nat → Int32} {fks : List Nat} {its : List It} {A H : Nat} {gl : Nat → Nat} {rm : List Nat} {n a j : Nat} {Z : Nat → Int32} (h : o1 Z (a + j) = 0) : o1 (iNo N D fks its A H gl rm n a Z) (a + j) = o1 (iNo N D fks its A H gl rm n 0 Zd) j := by
  have key : ∀ mode size hasT tm links l fi, o1 (inX Z a mode size hasT tm links l rm fi) (a + j) = o1 (inX Zd 0 mode size hasT tm links l rm fi) j := fun mode size hasT tm links l fi => by
    have := sh_in (X := Z) (Y := Zd) (a := a) (b := 0) (j := j) (mode := mode) (size := size) (hasT := hasT) (tm := tm) (links := links) (l := l) (rm := rm) (fi := fi) (by rw [h]; rfl)
    rw [Nat.zero_add] at this
    exact this
  unfold iNo iIt iRc
  by_cases g1 : n = 2
  · rw [if_pos g1, if_pos g1]; exact key _ _ _ _ _ _ _
  · rw [if_neg g1, if_neg g1]
    by_cases g2 : n = 11
    · rw [if_pos g2, if_pos g2]; exact key _ _ _ _ _ _ _
    · rw [if_neg g2, if_neg g2]
      by_cases g3 : n ≤ 11 ∨ its.length ≤ n - 11
      · rw [if_pos g3, if_pos g3]; rw [h]; rfl
      · rw [if_neg g3, if_neg g3]; exact key _ _ _ _ _ _ _
theorem iBl_o1 {N : Nat} {D : Nat → Int32} {fks : List Nat} {its : List It} {A H : Nat} {gl : Nat → Nat} {rm : List Nat} {fst : Nat} : ∀ (m s x : Nat), s < m → x < 128 → o1 (iBl N D fks its A H gl rm fst Zd m) (128 * s + x) = o1 (iNo N D fks its A H gl rm (fst + s) 0 Zd) x := by
  have zero : ∀ m q, 128 * m ≤ q → o1 (iBl N D fks its A H gl rm fst Zd m) q = 0 := by
    intro m
    induction m with
    | zero => intro q _; rfl
    | succ m ih => intro q hq; rw [iBl, iNo_out (by omega), ih q (by omega)]
  intro m
  induction m with
  | zero => intro s x hs; omega
  | succ m ih =>
    intro s x hs hx
    rw [iBl]
    by_cases c : s = m
    · rw [c]
      exact iNo_sh (zero m _ (by omega))
    · rw [iNo_out (by omega)]
      exact ih s x (by omega) hx
