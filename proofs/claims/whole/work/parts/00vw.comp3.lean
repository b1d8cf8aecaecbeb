theorem ly_keep {N : Nat} {D : Nat → Int32} {fks : List Nat} {its : List It} {A H k B P g0 r to : Nat} {gl e : Nat → Nat} {T : MS} {F F' : Nat → Int32} (h : tnU N D fks its A H k B P g0 r to gl e T) (hl : lyA N D fks its A H P g0 r gl (rml A H (fxd A P r g0) e gl k) F) (k1 : ∀ b, 3 ≤ b → ¬ fxd A P r g0 b → ∀ x, x < 1024 → o1 F' (1024 * b + x) = o1 F (1024 * b + x)) (k2 : ∀ n, 1 ≤ n ∧ n ≤ g0 * (8 * r) → ∀ x, x < 128 → o1 F' (inPos A P (8 * r) n + x) = o1 F (inPos A P (8 * r) n + x)) : lyA N D fks its A H P g0 r gl (rml A H (fxd A P r g0) e gl k) F' := by
  obtain ⟨⟨hM, ⟨hpl, hT, hI, hr, hil⟩, hbd, hmv, -, -⟩, hu, hgl⟩ := h
  have hlen := hM.2.2.2.1.2.1
  have hA := hpl.1
  have hB := hpl.2.2.2.1
  have hrm := room_f hu
  have hkf := kLs_f hu
  have hbd2 := hu.2.2.2.2.2.2
  rw [bd_sum] at hbd2
  have hreL := recL_len (N := N) (D := D) (its := its) (A := A) (H := H) (gl := gl) (rm := rml A H (fxd A P r g0) e gl k) (by omega)
  generalize hrme : rml A H (fxd A P r g0) e gl k = rm at *
  obtain ⟨l1, l2, l3, l4, l5, l6, l7, l8⟩ := hl
  have krm : ∀ s, s < rm.length → ∀ x, x < 1024 → o1 F' (1024 * rm.getD s 0 + x) = o1 F (1024 * rm.getD s 0 + x) := fun s hs x hx => k1 _ (by have := (hrm s hs).1; omega) (hrm s hs).2.2.1 x hx
  have hkl : ∀ j, j < its.length → ∀ b ∈ kLi N D its A H gl j, ∀ x, x < 1024 → o1 F' (1024 * b + x) = o1 F (1024 * b + x) := fun j hj b hb x hx => by
    obtain ⟨y1, y2, y3, -⟩ := hkf.2 b ((kLs_mem its.length).mpr ⟨j, hj, hb⟩)
    exact k1 b (by omega) y3 x hx
  refine ⟨?_, ?_, ?_, ?_, ?_, ?_, ?_, ?_⟩
  · refine agW_keep l1 fun v vv x hx => ?_
    obtain ⟨s, s1, s2⟩ := kpS_bl v vv
    have := krm s (by omega) (512 * (v.1 % 2) + x) (by omega)
    rw [← s2, show 1024 * (v.1 / 2) + (512 * (v.1 % 2) + x) = 512 * v.1 + x by omega] at this
    exact this
  · intro q q1 q2
    have := k1 (q / 1024) (by omega) (fun hf => by
      have hfB : q / 1024 < B := by omega
      have hok := hu.2.1.2 _ hfB hf
      unfold okBk at hok
      omega) (q % 1024) (by omega)
    rw [Nat.div_add_mod] at this
    rw [this]
    exact l2 q q1 q2
  · intro j hj hd s hs x hx
    have hki : kLi N D its A H gl j = chL A H gl (chI N D its j) := cif_t hd
    rw [hkl j hj _ (by rw [hki]; exact getD_mem (by rw [chL_len]; exact hs)) x hx]
    exact l3 j hj hd s hs x hx
  · refine agW_keep l4 fun v vv x hx => ?_
    rw [hreL] at vv
    obtain ⟨s, s1, s2, s3⟩ := inW_bl v vv
    have := krm s (by omega) (512 * (v.1 % 2) + x) (by omega)
    rw [← s3, show 1024 * (v.1 / 2) + (512 * (v.1 % 2) + x) = 512 * v.1 + x by omega] at this
    exact this
  · intro j hj hd
    exact fd_keep hj hd (l5 j hj hd) (fun s s1 s2 => krm s (by omega)) (k2 _ (nmr_ok hj hil))
  · intro j hj hd
    exact fl_keep hj hd (hu.2.2.2.2.2.1 j hj hd) (l6 j hj hd) (hkl j hj) (fun s s1 s2 => krm s (by omega)) (k2 _ (nmr_ok hj hil))
  · intro x hx
    rw [k2 11 ⟨by omega, by omega⟩ x hx]
    exact l7 x hx
  · intro n n1 n2 n3 n4 x hx
    rw [k2 n ⟨n1, n2⟩ x hx]
    exact l8 n n1 n2 n3 n4 x hx
/-- what stands in every inode -/
theorem ly_slot {N : Nat} {D : Nat → Int32} {fks : List Nat} {its : List It} {A H P g0 r : Nat} {gl : Nat → Nat} {rm : List Nat} {F : Nat → Int32} (hl : lyA N D fks its A H P g0 r gl rm F) (hlen : 1 ≤ its.length) {n : Nat} (h1 : 1 ≤ n) (h2 : n ≤ g0 * (8 * r)) {x : Nat} (hx : x < 128) : o1 F (inPos A P (8 * r) n + x) = o1 (iNo N D fks its A H gl rm n 0 Zd) x := by
  obtain ⟨l1, l2, l3, l4, l5, l6, l7, l8⟩ := hl
  have hsl : ∀ j, j < its.length → slA N D fks its A H P r gl rm F j := fun j hj => by
    by_cases g : isDr D its j
    · exact (l5 j hj g).2.2
    · exact (l6 j hj g).2.2
  unfold iNo
  by_cases g1 : n = 2
  · rw [if_pos g1, g1]
    exact hsl 0 hlen x hx
  · rw [if_neg g1]
    by_cases g2 : n = 11
    · rw [if_pos g2, g2]
      exact l7 x hx
    · rw [if_neg g2]
      by_cases g3 : n ≤ 11 ∨ its.length ≤ n - 11
      · rw [if_pos g3]
        exact l8 n h1 h2 g2 (fun j hj => by unfold nmr; split <;> omega) x hx
      · rw [if_neg g3]
        have := hsl (n - 11) (by omega) x hx
        rw [show nmr (n - 11) = n by unfold nmr; rw [if_neg (by omega)]; omega] at this
        exact this
theorem ly_iBl {N : Nat} {D : Nat → Int32} {fks : List Nat} {its : List It} {A H P g0 r : Nat} {gl : Nat → Nat} {rm : List Nat} {F : Nat → Int32} (hl : lyA N D fks its A H P g0 r gl rm F) (hlen : 1 ≤ its.length) {g j : Nat} (hg : g < g0) (hj : j < r) : bkA F (mBk A P g + 2 + j) (iBl N D fks its A H gl rm (g * (8 * r) + 8 * j + 1) Zd 8) := fun x hx => by
  have hgr : (g + 1) * (8 * r) ≤ g0 * (8 * r) := Nat.mul_le_mul_right _ hg
  rw [Nat.succ_mul] at hgr
  have := ly_slot hl hlen (n := g * (8 * r) + 8 * j + 1 + x / 128) (by omega) (by omega) (x := x % 128) (Nat.mod_lt _ (by omega))
  rw [← iBl_o1 8 (x / 128) (x % 128) (by omega) (by omega), Nat.div_add_mod] at this
  rw [← this]
  unfold inPos
  have e0 : g * (8 * r) + 8 * j + 1 + x / 128 - 1 = 8 * r * g + (8 * j + x / 128) := by rw [Nat.mul_comm g]; omega
  rw [e0, Nat.mul_add_div (by omega), Nat.div_eq_of_lt (by omega), Nat.mul_add_mod, Nat.mod_eq_of_lt (by omega), show g + 0 = g from rfl]
  congr 1
  omega
theorem ag_fgI {N : Nat} {D : Nat → Int32} {fks : List Nat} {its : List It} {A H P g0 r : Nat} {gl : Nat → Nat} {rm : List Nat} {F : Nat → Int32} (hl : lyA N D fks its A H P g0 r gl rm F) (hlen : 1 ≤ its.length) {g : Nat} (hg : g < g0) : ∀ n j, j + n ≤ r → agW F (fgI N D fks its A H gl rm (8 * r) (mBk A P g) g n j) := by
  intro n
  induction n with
  | zero => intro j _ w hw; cases hw
  | succ n ih =>
    intro j hj
    rw [fgI]
    exact agW_app (agW_blk (ly_iBl hl hlen hg (by omega))) (ih (j + 1) (by omega))
theorem ag_fgG {N : Nat} {D : Nat → Int32} {fks : List Nat} {its : List It} {A H B P g0 r fr : Nat} {us : Nat → Prop} {by0 : Nat → Nat} {gl : Nat → Nat} {rm : List Nat} {F : Nat → Int32} (hl : lyA N D fks its A H P g0 r gl rm F) (hlen : 1 ≤ its.length) (hb : ∀ g, g < g0 → bkA F (mBk A P g) (mX (bmP us B P g0 g)) ∧ bkA F (mBk A P g + 1) (mX (imP (8 * r) (10 + its.length) g)) ∧ bkA F (1 + g * P) (sbL Zd (g0 * (8 * r)) B fr (g0 * (8 * r) - (10 + its.length)) P (8 * r) g (o4 D 67) by0) ∧ bkA F (1 + g * P + 1) (dsX Zd (mBk A P) (frB us B P g0) (frI (8 * r) (10 + its.length)) (dgN D its (8 * r)) g0)) : ∀ n g, g + n ≤ g0 → agW F (fgG N D fks its A H B P g0 r gl rm us fr by0 n g) := by
  intro n
  induction n with
  | zero => intro g _ w hw; cases hw
  | succ n ih =>
    intro g hg
    obtain ⟨b1, b2, b3, b4⟩ := hb g (by omega)
    rw [fgG]
    refine agW_app ?_ (agW_app (agW_blk b1) (agW_app (agW_blk b2) (agW_app (ag_fgI hl hlen (by omega) r 0 (by omega)) (ih (g + 1) (by omega)))))
    by_cases c : g = 0
    · rw [if_pos c]; intro w hw; cases hw
    · rw [if_neg c]; exact agW_app (agW_blk b3) (agW_blk b4)
theorem ag_fxL {N : Nat} {D : Nat → Int32} {fks : List Nat} {its : List It} {A H B P g0 r fr : Nat} {us : Nat → Prop} {by0 : Nat → Nat} {gl : Nat → Nat} {rm : List Nat} {F : Nat → Int32} (hl : lyA N D fks its A H P g0 r gl rm F) (hlen : 1 ≤ its.length) (hg1 : 1 ≤ g0) (hb : ∀ g, g < g0 → bkA F (mBk A P g) (mX (bmP us B P g0 g)) ∧ bkA F (mBk A P g + 1) (mX (imP (8 * r) (10 + its.length) g)) ∧ bkA F (1 + g * P) (sbL Zd (g0 * (8 * r)) B fr (g0 * (8 * r) - (10 + its.length)) P (8 * r) g (o4 D 67) by0) ∧ bkA F (1 + g * P + 1) (dsX Zd (mBk A P) (frB us B P g0) (frI (8 * r) (10 + its.length)) (dgN D its (8 * r)) g0)) : agW F (fxL N D fks its A H B P g0 r gl rm us fr by0) := by
  unfold fxL
  obtain ⟨b1, b2, b3, b4⟩ := hb 0 (by omega)
  rw [Nat.zero_mul, Nat.add_zero] at b3 b4
  refine agW_app (ag_fgG hl hlen hb g0 0 (by omega)) (agW_app (agW_blk b4) (fun w hw => ?_))
  have b5 := agW_blk b3
  rcases List.mem_cons.mp hw with y | y
  · rw [y]; exact b5 (2 * 1 + 1, _) (List.mem_cons_of_mem _ (List.mem_singleton.mpr rfl))
  · rw [List.mem_singleton.mp y]; exact b5 (2 * 1, _) List.mem_cons_self
theorem ql_turn {K : Nat} {N : Nat} {D : Nat → Int32} {fks : List Nat} {its : List It} {A H k B P g0 r to : Nat} {gl e : Nat → Nat} {T : MS} {lb : Option Nat} (hK : 600000 ≤ K) (h : tnU N D fks its A H k B P g0 r to gl e T) (hrc : rcB N D its A H ≤ 512) (hfx : ∀ b, b < 512 → T.v_fixed b = b01 (fxd A P r g0 b)) (hlb : T.v_label = lbI lb) (hlp : ∀ p, lb = some p → p + 32 ≤ 512 * N) {us : Nat → Prop} (hus : us = usd N D its A H gl (rml A H (fxd A P r g0) e gl k) (bdN N fks D its A H) (fxd A P r g0)) : ∃ F U n R, f_Mo_turn K T = some ((qS T F U n R).u_v_turned 1) ∧ lyA N D fks its A H P g0 r gl (rml A H (fxd A P r g0) e gl k) F ∧ agW F (fxL N D fks its A H B P g0 r gl (rml A H (fxd A P r g0) e gl k) us (cntP (fun b => ¬ us b) B - cntP (fun b => ¬ us b) 1) (lby D lb)) ∧ uM U us ∧ arr R.1 (recL N D its A H gl (rml A H (fxd A P r g0) e gl k)) := by
  have hh := h
  obtain ⟨⟨hM, ⟨hpl, hT, hI, hr, hil⟩, hbd, hmv, -, -⟩, hu, hgl⟩ := h
  have hlen := hM.2.2.2.1.2.1
  have hB := hpl.2.2.2.1
  have hin := fun g (hg : g < g0) => gr_in hpl hg (hu.2.1.1 g hg)
  have hap := fun g g' (h1 : g < g') (h2 : g' < g0) => grp_ap hpl hu.2.1 h1 h2
  obtain ⟨F0, a1, a2⟩ := ql_turn2 (K := K) (T := T) 524288 0 K T.v_fresh (by omega) (by omega) (fun x hx => by omega)
  obtain ⟨U0, b1, b2⟩ := ql_turn23 (K := K) (T := T.u_v_fresh F0) (fx := fxd A P r g0) hB.2 hT.2.2.2.1 hfx 512 0 K T.v_used (by omega) (by omega) (fun x hx => by omega)
  obtain ⟨F1, U1, R1, c1, c2, c3, c4, c5⟩ := ql_laid (K := K) (F := F0) (U := U0) (R := (T.v_record, T.v_list, T.v_spot, T.v_filled, T.v_latest, T.v_chain, T.v_links)) (by omega) hh hrc a2 b2
  rw [← hus] at c4
  have hgP : ∀ n, 1 ≤ n ∧ n ≤ g0 * (8 * r) → ∀ g, g < g0 → (inPos A P (8 * r) n + 128 ≤ 1024 * mBk A P g ∨ 1024 * mBk A P g + 2048 ≤ inPos A P (8 * r) n) ∧ (inPos A P (8 * r) n + 128 ≤ 1024 * (1 + g * P) ∨ 1024 * (1 + g * P) + 2048 ≤ inPos A P (8 * r) n) := fun n hn g hg => by
    obtain ⟨g', b, q1, -, -, -, q5, q6, q7, q8, q9⟩ := slot_in hpl hu.2.1 hr hn
    obtain ⟨-, -, -, -, z5⟩ := hin g hg
    obtain ⟨-, -, -, -, z5'⟩ := hin g' q1
    have hm : (n - 1) % (8 * r) % 8 < 8 := Nat.mod_lt _ (by omega)
    rcases Nat.lt_trichotomy g g' with c | c | c
    · have := hap g g' c q1; omega
    · rw [c] at *; omega
    · have := hap g' g c hg; omega
  have hfr : cntP (fun b => ¬ us b) B - cntP (fun b => ¬ us b) 1 < 2 ^ 20 := by have := cntP_le (fun b => ¬ us b) B; omega
  obtain ⟨F2, d1, d2, d3⟩ := ql_turn160 (K := K) (n := bdN N fks D its A H) (R := R1) (by omega) hh c4 hfr hlb hlp g0 0 K F1 (by omega) (by
    have h1 := hpl.2.2.2.2.2.1
    have h2 := hpl.2.2.2.1
    rcases hpl.2.2.2.2.1 with q | q | q <;> rw [q] at h1 <;> omega) (fun g' g1 g2 j hj => by
    obtain ⟨z1, z2, z3, z4, z5⟩ := hin g' g2
    have f : ∀ b, fxd A P r g0 b → b < 512 → (b = mBk A P g' ∨ b = mBk A P g' + 1 ∨ b = 1 + g' * P ∨ b = 2 + g' * P) → ∀ x, x < 1024 → o1 F1 (1024 * b + x) = 0 := fun b b1 b2 b3 x hx => c3 b b1 b2 x hx (fun n n1 n2 => by have := hgP n ⟨n1, n2⟩ g' g2; omega)
    have f1 := f (mBk A P g') ⟨g', g2, Or.inr (Or.inr ⟨by omega, by omega⟩)⟩ (by omega) (Or.inl rfl)
    have f2 := f (mBk A P g' + 1) ⟨g', g2, Or.inr (Or.inr ⟨by omega, by omega⟩)⟩ (by omega) (Or.inr (Or.inl rfl))
    have f3 := f (1 + g' * P) ⟨g', g2, Or.inl rfl⟩ (by omega) (Or.inr (Or.inr (Or.inl rfl)))
    have f4 := f (2 + g' * P) ⟨g', g2, Or.inr (Or.inl rfl)⟩ (by omega) (Or.inr (Or.inr (Or.inr rfl)))
    by_cases c : j < 1024
    · exact ⟨f1 j c, f3 j c⟩
    · have e1 := f2 (j - 1024) (by omega)
      have e2 := f4 (j - 1024) (by omega)
      rw [show 1024 * (mBk A P g' + 1) + (j - 1024) = 1024 * mBk A P g' + j by omega] at e1
      rw [show 1024 * (2 + g' * P) + (j - 1024) = 1024 * (1 + g' * P) + j by omega] at e2
      exact ⟨e1, e2⟩)
  have hly := ly_keep hh c2 (F' := F2) (fun b b1 b2 x hx => d3 _ (fun g' g1 g2 => by
    have n1 : b ≠ 1 + g' * P := fun e => b2 ⟨g', g2, Or.inl e⟩
    have n2 : b ≠ 2 + g' * P := fun e => b2 ⟨g', g2, Or.inr (Or.inl e)⟩
    have n3 : ¬ (mBk A P g' ≤ b ∧ b < mBk A P g' + (2 + r)) := fun e => b2 ⟨g', g2, Or.inr (Or.inr e)⟩
    omega)) (fun n hn x hx => d3 _ (fun g' g1 g2 => by have := hgP n hn g' g2; omega))
  refine ⟨F2, U1, bdN N fks D its A H, R1, ?_, hly, ag_fxL hly (by omega) (by
    have h1 := hpl.2.2.2.2.2.1
    have h2 := hpl.2.2.2.1
    rcases hpl.2.2.2.2.1 with q | q | q <;> rw [q] at h1 <;> omega) (fun g hg => d2 g (Nat.zero_le _) hg), c4, c5⟩
  refine Eq.trans a1 (Eq.trans b1 (Eq.trans c1 ?_))
  rw [ql_turn135 (T := qS T F1 U1 (bdN N fks D its A H) R1) (by omega) hpl hT c4]
  exact d1
