/-! What is fixed is put. -/
noncomputable def iIt (N : Nat) (D : Nat → Int32) (fks : List Nat) (its : List It) (A H : Nat) (gl : Nat → Nat) (rm : List Nat) (i a : Nat) (Z : Nat → Int32) : Nat → Int32 := inX Z a (moN D its i) (szN N D its (ownL N D fks its A H (3 + indN (rcB N D its A H)) gl rm i) i) (decide (1 ≤ i)) (tmN D (isp (itr its i))) (lkN D fks its i) (ownL N D fks its A H (3 + indN (rcB N D its A H)) gl rm i) rm (fiN fks D its (3 + indN (rcB N D its A H)) i)
noncomputable def iRc (N : Nat) (D : Nat → Int32) (its : List It) (A H : Nat) (gl : Nat → Nat) (rm : List Nat) (a : Nat) (Z : Nat → Int32) : Nat → Int32 := inX Z a 33024 ((recL N D its A H gl rm).length * 1024) false (fun _ => 0) 1 (recL N D its A H gl rm) rm 3
noncomputable def iNo (N : Nat) (D : Nat → Int32) (fks : List Nat) (its : List It) (A H : Nat) (gl : Nat → Nat) (rm : List Nat) (n a : Nat) (Z : Nat → Int32) : Nat → Int32 := if n = 2 then iIt N D fks its A H gl rm 0 a Z else if n = 11 then iRc N D its A H gl rm a Z else if n ≤ 11 ∨ its.length ≤ n - 11 then Z else iIt N D fks its A H gl rm (n - 11) a Z
noncomputable def iBl (N : Nat) (D : Nat → Int32) (fks : List Nat) (its : List It) (A H : Nat) (gl : Nat → Nat) (rm : List Nat) (fst : Nat) (Z : Nat → Int32) : Nat → Nat → Int32
  | 0 => Z
  | j + 1 => iNo N D fks its A H gl rm (fst + j) (128 * j) (iBl N D fks its A H gl rm fst Z j)
theorem iNo_ag {N : Nat} {D : Nat → Int32} {fks : List Nat} {its : List It} {A H : Nat} {gl : Nat → Nat} {rm : List Nat} {n a q : Nat} {Z Z' : Nat → Int32} (h : o1 Z q = o1 Z' q) : o1 (iNo N D fks its A H gl rm n a Z) q = o1 (iNo N D fks its A H gl rm n a Z') q := by
  unfold iNo
  by_cases g1 : n = 2
  · rw [if_pos g1, if_pos g1]; exact inX_ag h
  · rw [if_neg g1, if_neg g1]
    by_cases g2 : n = 11
    · rw [if_pos g2, if_pos g2]; exact inX_ag h
    · rw [if_neg g2, if_neg g2]
      by_cases g3 : n ≤ 11 ∨ its.length ≤ n - 11
      · rw [if_pos g3, if_pos g3]; exact h
      · rw [if_neg g3, if_neg g3]; exact inX_ag h
theorem iBl_ag {N : Nat} {D : Nat → Int32} {fks : List Nat} {its : List It} {A H : Nat} {gl : Nat → Nat} {rm : List Nat} {fst q : Nat} {Z Z' : Nat → Int32} (h : o1 Z q = o1 Z' q) : ∀ j, o1 (iBl N D fks its A H gl rm fst Z j) q = o1 (iBl N D fks its A H gl rm fst Z' j) q := by
  intro j
  induction j with
  | zero => exact h
  | succ j ih => exact iNo_ag ih
theorem tu_inodes {K N fst : Nat} {D : Nat → Int32} {mp : Nat → Nat} {fks : List Nat} {its : List It} {A H k B P g0 r to : Nat} {gl e : Nat → Nat} {us : Nat → Prop} {fr : Nat} {G : CG} {S : CS} {E B1 f : Nat → Int32} {p : Option Nat} {x : Int32} (hK : 20000 ≤ K) (h : fxC N D mp fks its A H k B P g0 r to gl e us fr G S) (hd : dyE N D E mp its) (hf0 : fst < 2 ^ 20) : ∃ f' x', f_Tu_fillInodes K G (tS S E p B1 f x) (nI fst) = some (tS S E p (iBl N D fks its A H gl (rml A H (fxd A P r g0) e gl k) fst (zB B1) 8) f' x') := by
  have hlen := h.1.1.2.1.2.2.2.1.2.1
  have hlen1 := h.1.1.2.1.2.2.2.1.1
  have hcnt : ∀ Z f x, (tS S E p Z f x).v_Tr_count = nI its.length := fun _ _ _ => h.1.1.2.1.2.1.1
  unfold f_Tu_fillInodes
  rw [tu_em, q_b]
  have key : ∀ (d j q : Nat) (f : Nat → Int32) (x : Int32), j + d = 8 → d < q → ∃ f' x', f_Tu_fillInodes_6 K G q (nI fst) (nI j) (tS S E p (iBl N D fks its A H gl (rml A H (fxd A P r g0) e gl k) fst (zB B1) j) f x) = some (tS S E p (iBl N D fks its A H gl (rml A H (fxd A P r g0) e gl k) fst (zB B1) 8) f' x') := by
    intro d
    induction d with
    | zero =>
      intro j q f x e1 e2
      obtain ⟨q, rfl⟩ : ∃ m, q = m + 1 := ⟨q - 1, by omega⟩
      obtain rfl : j = 8 := by omega
      exact ⟨f, x, by rw [f_Tu_fillInodes_6, if_pos (show (8 : Int32) ≤ nI 8 from nI_le (a := 8) (b := 8) (by omega) (by omega))]⟩
    | succ d ih =>
      intro j q f x e1 e2
      obtain ⟨q, rfl⟩ : ∃ m, q = m + 1 := ⟨q - 1, by omega⟩
      have nx := fun f x => ih (j + 1) q f x (by omega) (by omega)
      simp only [iBl] at nx
      rw [f_Tu_fillInodes_6, if_neg (show ¬ (8 : Int32) ≤ nI j from nI_ge (b := 8) (by omega) (by omega)), nI_add, q_l]
      unfold f_Tu_fillInodes_86
      rw [nI_1, show (128 : Int32) = nI 128 from rfl, pk_mul, Nat.mul_comm j 128]
      generalize iBl N D fks its A H gl (rml A H (fxd A P r g0) e gl k) fst (zB B1) j = Z at *
      have cont : ∀ Z' f' x', Z' = iNo N D fks its A H gl (rml A H (fxd A P r g0) e gl k) (fst + j) (128 * j) Z → ∃ f'' x'', lf_l (nI (j + 1)) (fun x_11 => f_Tu_fillInodes_6 K G q (nI fst) x_11 (tS S E p Z' f' x')) = some (tS S E p (iBl N D fks its A H gl (rml A H (fxd A P r g0) e gl k) fst (zB B1) 8) f'' x'') := fun Z' f' x' e0 => by
        rw [q_l, e0]
        exact nx f' x'
      by_cases g1 : fst + j = 2
      · obtain ⟨f', x', a1⟩ := tu_item (K := K) (i := 0) (a := 128 * j) (B1 := Z) (f := f) (p := p) (x := x) hK h (by omega) hd (by omega)
        rw [if_pos (show nI (fst + j) = 2 by rw [g1]; rfl), show (0 : Int32) = nI 0 from rfl, a1, q_b]
        exact cont _ f' x' (by unfold iNo; rw [if_pos g1]; rfl)
      · rw [if_neg (show ¬ nI (fst + j) = 2 from fun y => g1 ((nI_eq (b := 2) (by omega) (by decide)).mp y))]
        by_cases g2 : fst + j = 11
        · obtain ⟨f', x', a1⟩ := tu_recI (K := K) (E := E) (a := 128 * j) (B1 := Z) (f := f) (p := p) (x := x) hK h (by omega)
          rw [if_pos (show nI (fst + j) = 11 by rw [g2]; rfl), a1, q_b]
          exact cont _ f' x' (by unfold iNo; rw [if_neg g1, if_pos g2]; rfl)
        · rw [if_neg (show ¬ nI (fst + j) = 11 from fun y => g2 ((nI_eq (b := 11) (by omega) (by decide)).mp y))]
          by_cases g3 : fst + j ≤ 11
          · rw [if_pos (show nI (fst + j) ≤ 11 from nI_le (b := 11) g3 (by omega))]
            exact cont Z f x (by unfold iNo; rw [if_neg g1, if_neg g2, if_pos (Or.inl g3)])
          · rw [if_neg (show ¬ nI (fst + j) ≤ 11 from nI_ge (a := 11) (by omega) (by omega)), show nI (fst + j) - 11 = nI (fst + j - 11) from pk_sub (b := 11) (by omega), hcnt]
            by_cases g4 : its.length ≤ fst + j - 11
            · rw [if_pos (nI_le g4 (by omega))]
              exact cont Z f x (by unfold iNo; rw [if_neg g1, if_neg g2, if_pos (Or.inr g4)])
            · obtain ⟨f', x', a1⟩ := tu_item (K := K) (i := fst + j - 11) (a := 128 * j) (B1 := Z) (f := f) (p := p) (x := x) hK h (by omega) hd (by omega)
              rw [if_neg (nI_ge (by omega) (by omega)), a1, q_b]
              exact cont _ f' x' (by unfold iNo; rw [if_neg g1, if_neg g2, if_neg (fun y => y.elim g3 g4)]; rfl)
  exact key 8 0 K f x (by omega) (by omega)
/-- a map's bytes -/
noncomputable def mX (p : Nat → Prop) : Nat → Int32 := fun j => nI (mpB p j)
theorem mX_o1 {p : Nat → Prop} {j : Nat} : o1 (mX p) j = mpB p j := by
  show ub (nI (mpB p j)) = mpB p j
  rw [ub_nI]
  exact Nat.mod_eq_of_lt (mpB_lt _ _)
theorem J_blk {J : (Nat → Int32) → Prop} {fx : Nat → Prop} {b : Nat} {p : Option Nat} {E E' Y : Nat → Int32} (hJ : jOk J) (hw : ∀ E s Y, fx (s / 2) → J E → J (wS E s Y 0)) (hb : fx b) (h : J E) (he : eqO E' (ApL p (blW b Y) E)) : J E' := J_1 hJ h he (fun w ww E0 h0 => by
  unfold blW at ww
  rcases List.mem_cons.mp ww with y | y
  · rw [y]; exact hw _ _ _ (by rw [Nat.mul_div_cancel_left _ (by decide)]; exact hb) h0
  · rw [List.mem_singleton.mp y]; exact hw _ _ _ (by rw [show (2 * b + 1) / 2 = b by omega]; exact hb) h0)
/-- the blocks of inodes of group g -/
noncomputable def fgI (N : Nat) (D : Nat → Int32) (fks : List Nat) (its : List It) (A H : Nat) (gl : Nat → Nat) (rm : List Nat) (I mb g : Nat) : Nat → Nat → List Wr
  | 0, _ => []
  | n + 1, j => blW (mb + 2 + j) (iBl N D fks its A H gl rm (g * I + 8 * j + 1) Zd 8) ++ fgI N D fks its A H gl rm I mb g n (j + 1)
noncomputable def fgG (N : Nat) (D : Nat → Int32) (fks : List Nat) (its : List It) (A H B P g0 r : Nat) (gl : Nat → Nat) (rm : List Nat) (us : Nat → Prop) (fr : Nat) (by0 : Nat → Nat) : Nat → Nat → List Wr
  | 0, _ => []
  | n + 1, g => (if g = 0 then [] else blW (1 + g * P) (sbL Zd (g0 * (8 * r)) B fr (g0 * (8 * r) - (10 + its.length)) P (8 * r) g (o4 D 67) by0) ++ blW (1 + g * P + 1) (dsX Zd (mBk A P) (frB us B P g0) (frI (8 * r) (10 + its.length)) (dgN D its (8 * r)) g0)) ++ (blW (mBk A P g) (mX (bmP us B P g0 g)) ++ (blW (mBk A P g + 1) (mX (imP (8 * r) (10 + its.length) g)) ++ (fgI N D fks its A H gl rm (8 * r) (mBk A P g) g r 0 ++ fgG N D fks its A H B P g0 r gl rm us fr by0 n (g + 1))))
noncomputable def fxL (N : Nat) (D : Nat → Int32) (fks : List Nat) (its : List It) (A H B P g0 r : Nat) (gl : Nat → Nat) (rm : List Nat) (us : Nat → Prop) (fr : Nat) (by0 : Nat → Nat) : List Wr := fgG N D fks its A H B P g0 r gl rm us fr by0 g0 0 ++ (blW 2 (dsX Zd (mBk A P) (frB us B P g0) (frI (8 * r) (10 + its.length)) (dgN D its (8 * r)) g0) ++ [(3, fun j => sbL Zd (g0 * (8 * r)) B fr (g0 * (8 * r) - (10 + its.length)) P (8 * r) 0 (o4 D 67) by0 (512 + j)), (2, sbL Zd (g0 * (8 * r)) B fr (g0 * (8 * r) - (10 + its.length)) P (8 * r) 0 (o4 D 67) by0)])
abbrev jFx (N : Nat) (D : Nat → Int32) (mp : Nat → Nat) (its : List It) (S : CS) (by0 : Nat → Nat) (E : Nat → Int32) : Prop := o4 E 67 = o4 D 67 ∧ lbE N S E by0 ∧ dyE N D E mp its
theorem tu_putFixed {K N : Nat} {D : Nat → Int32} {mp : Nat → Nat} {fks : List Nat} {its : List It} {A H k B P g0 r to : Nat} {gl e : Nat → Nat} {us : Nat → Prop} {fr : Nat} {G : CG} {S : CS} {by0 : Nat → Nat} {J : (Nat → Int32) → Prop} (hK : 20000 ≤ K) (h : fxC N D mp fks its A H k B P g0 r to gl e us fr G S) (hJ : jOk J) (hJf : ∀ E, J E → jFx N D mp its S by0 E) (hw : ∀ E s Y, fxd A P r g0 (s / 2) → J E → J (wS E s Y 0)) {E B1 f : Nat → Int32} {p : Option Nat} {x : Int32} (hE : J E) (hb : byt (tS S E p B1 f x)) (hp : pOk p) : tuO S (f_Tu_putFixed K G (tS S E p B1 f x)) p (fxL N D fks its A H B P g0 r gl (rml A H (fxd A P r g0) e gl k) us fr by0) E := by
  have hh := h
  obtain ⟨⟨⟨hL, ht, hU, hP, hrm, hfx, hw0⟩, hdc, hc, hino⟩, hus, hfr, hfr2, hil⟩ := h
  have hN := hc.2.2.1
  have hN1 := hc.2.1
  have hB := hL.1.2.2.2
  have hBN := hL.2.1.2.2.1
  have hPP := hU.1.2.2.2.2.1
  have hg8 : g0 ≤ 8 ∧ 1 ≤ g0 := by
    have := hU.1.2.2.2.2.2.1
    rcases hPP with q | q | q <;> rw [q] at this <;> omega
  have hgin := fun g (hg : g < g0) => gr_in hU.1 hg (hU.2.1.1 g hg)
  have hr : r ≤ 256 := by
    have := hU.2.1.1 0 (by omega)
    have := (gr_le hU.1 (show 0 < g0 by omega)).2.2.2.2.2.2
    unfold lstB at *
    split at * <;> omega
  have sup : ∀ g, g < g0 → ∀ (E B1 f : Nat → Int32) (p : Option Nat) (x : Int32), J E → f_Tu_fillSuperblock K G (tS S E p B1 f x) (nI g) = some (tS S E p (sbL (zB B1) (g0 * (8 * r)) B fr (g0 * (8 * r) - (10 + its.length)) P (8 * r) g (o4 D 67) by0) f x) := fun g hg E B1 f p x hE => tu_super hK hh (by omega) (hJf E hE).1 (hJf E hE).2.1
  have des := fun (E B1 f : Nat → Int32) (p : Option Nat) (x : Int32) => tu_desc (K := K) (E := E) (B1 := B1) (f := f) (p := p) (x := x) hK hh
  have fb : ∀ g, g < g0 → ∀ (E B1 f : Nat → Int32) (p : Option Nat) (x : Int32), f_Pl_firstBlock K G (tS S E p B1 f x) (nI g) = some (nI (1 + g * P), tS S E p B1 f x) := fun g hg E B1 f p x => (qC_blocksOf (S := tS S E p B1 f x) hU.1 hP hg).2.1
  have h150 : ∀ (E B1 f : Nat → Int32) (p : Option Nat) (x : Int32), J E → byt (tS S E p B1 f x) → pOk p → tuO S (f_Tu_putFixed_150 K G (tS S E p B1 f x)) p (blW 2 (dsX Zd (mBk A P) (frB us B P g0) (frI (8 * r) (10 + its.length)) (dgN D its (8 * r)) g0) ++ [(3, fun j => sbL Zd (g0 * (8 * r)) B fr (g0 * (8 * r) - (10 + its.length)) P (8 * r) 0 (o4 D 67) by0 (512 + j)), (2, sbL Zd (g0 * (8 * r)) B fr (g0 * (8 * r) - (10 + its.length)) P (8 * r) 0 (o4 D 67) by0)]) E := fun E B1 f p x hE hb hp => by
    unfold f_Tu_putFixed_150
    have b1 := b_Tu_fillDescriptors (K := K) (G := G) hb _ (des E B1 f p x)
    rw [des, q_b, show (2 : Int32) = nI 2 from rfl]
    refine tu_seq (tu_blk hc (by omega) b1 hp (fun j hj => dsX_ag (zB_Zd hj) _)) (fun E' B' f' x' a1 a2 => ?_)
    have hE' := J_blk hJ hw (show fxd A P r g0 2 from ⟨0, by omega, Or.inr (Or.inl (by omega))⟩) hE a1
    have b2 := b_Tu_fillSuperblock (K := K) (G := G) (p0 := nI 0) a2 _ (sup 0 (by omega) E' B' f' _ x' hE')
    have hs := sup 0 (by omega) E' B' f' (pR p (blW 2 (dsX Zd (mBk A P) (frB us B P g0) (frI (8 * r) (10 + its.length)) (dgN D its (8 * r)) g0)).length) x' hE'
    have hs : f_Tu_fillSuperblock K G (tS S E' (pR p (blW 2 (dsX Zd (mBk A P) (frB us B P g0) (frI (8 * r) (10 + its.length)) (dgN D its (8 * r)) g0)).length) B' f' x') 0 = _ := hs
    rw [hs, q_b]
    obtain ⟨E2, c1, c2, c3⟩ := tu_store (K := K) (s := 3) (a := 512) (Y := fun j => sbL Zd (g0 * (8 * r)) B fr (g0 * (8 * r) - (10 + its.length)) P (8 * r) 0 (o4 D 67) by0 (512 + j)) hc (by omega) (by decide) b2 (pR_ok hp _) (fun j hj => sbL_ag (zB_Zd (by omega)))
    obtain ⟨E3, d1, d2, d3⟩ := tu_store (K := K) (s := 2) (a := 0) (Y := sbL Zd (g0 * (8 * r)) B fr (g0 * (8 * r) - (10 + its.length)) P (8 * r) 0 (o4 D 67) by0) hc (by omega) (by decide) c3 (pD_ok (pR_ok hp _)) (fun j hj => by rw [Nat.zero_add]; exact sbL_ag (zB_Zd (by omega)))
    have ePP : ∀ p, pD (pD p) = pR p 2 := fun p => by rw [← pR_1 p, ← pR_1 (pR p 1), pR_add]
    rw [ePP] at d1 d3
    rw [show (3 : Int32) = nI 3 from rfl, show (512 : Int32) = nI 512 from rfl, c1, q_b, show (0 : Int32) = nI 0 from rfl, d1, q_b]
    refine ⟨E3, _, f', x', rfl, fun q => ?_, ?_⟩
    · rw [d2 q]
      exact ApL_eq _ _ _ _ c2 q
    · exact d3
  have h95 : ∀ (g : Nat) (M : List Wr) (rec : Int32 → CS → Option CS), g < g0 → (∀ (E B1 f : Nat → Int32) (p : Option Nat) (x : Int32), J E → byt (tS S E p B1 f x) → pOk p → tuO S (rec (nI (g + 1)) (tS S E p B1 f x)) p M E) → ∀ (d j q : Nat) (E B1 f : Nat → Int32) (p : Option Nat) (x : Int32), j + d = r → d < q → J E → byt (tS S E p B1 f x) → pOk p → tuO S (f_Tu_putFixed_95 K G rec q (nI g) (nI (mBk A P g)) (nI j) (tS S E p B1 f x)) p (fgI N D fks its A H gl (rml A H (fxd A P r g0) e gl k) (8 * r) (mBk A P g) g d j ++ M) E := by
    intro g M rec hg hrec d
    have hgi := hgin g hg
    induction d with
    | zero =>
      intro j q E B1 f p x e1 e2 hE hb hp
      obtain ⟨q, rfl⟩ : ∃ m, q = m + 1 := ⟨q - 1, by omega⟩
      rw [f_Tu_putFixed_95, show (tS S E p B1 f x).v_Pl_inodes = nI (8 * r) from hino, show (8 : Int32) = nI 8 from rfl, pk_div (by omega) (by decide) (by decide), Nat.mul_div_cancel_left _ (by decide), if_pos (nI_le (by omega) (by omega)), show (1 : Int32) = nI 1 from rfl, nI_add, q_l]
      exact hrec E B1 f p x hE hb hp
    | succ d ih =>
      intro j q E B1 f p x e1 e2 hE hb hp
      obtain ⟨q, rfl⟩ : ∃ m, q = m + 1 := ⟨q - 1, by omega⟩
      have hgI : g * (8 * r) ≤ 8 * 2048 := Nat.mul_le_mul (by omega) (by omega)
      obtain ⟨f', x', a1⟩ := tu_inodes (K := K) (fst := g * (8 * r) + 8 * j + 1) (B1 := B1) (f := f) (p := p) (x := x) hK hh (hJf E hE).2.2 (by omega)
      have b1 := b_Tu_fillInodes (K := K) (G := G) hb _ a1
      rw [f_Tu_putFixed_95, show (tS S E p B1 f x).v_Pl_inodes = nI (8 * r) from hino, show (8 : Int32) = nI 8 from rfl, pk_div (by omega) (by decide) (by decide), Nat.mul_div_cancel_left _ (by decide), if_neg (nI_ge (by omega) (by omega)), pk_mul, pk_mul, nI_add, show (1 : Int32) = nI 1 from rfl, nI_add, a1, q_b, show (2 : Int32) = nI 2 from rfl, nI_add, nI_add, fgI, List.append_assoc]
      refine tu_seq (tu_blk hc (by omega) b1 hp (fun q hq => iBl_ag (zB_Zd hq) _)) (fun E' B' f'' x'' c1 c2 => ?_)
      rw [nI_add, q_l]
      exact ih (j + 1) q E' B' f'' _ x'' (by omega) (by omega) (J_blk hJ hw (show fxd A P r g0 (mBk A P g + 2 + j) from ⟨g, hg, Or.inr (Or.inr ⟨by omega, by omega⟩)⟩) hE c1) c2 (pR_ok hp _)
  have h62 : ∀ (g : Nat) (M : List Wr) (rec : Int32 → CS → Option CS), g < g0 → (∀ (E B1 f : Nat → Int32) (p : Option Nat) (x : Int32), J E → byt (tS S E p B1 f x) → pOk p → tuO S (rec (nI (g + 1)) (tS S E p B1 f x)) p M E) → ∀ (E B1 f : Nat → Int32) (p : Option Nat) (x : Int32), J E → byt (tS S E p B1 f x) → pOk p → tuO S (f_Tu_putFixed_62 K G rec (nI g) (tS S E p B1 f x)) p (blW (mBk A P g) (mX (bmP us B P g0 g)) ++ (blW (mBk A P g + 1) (mX (imP (8 * r) (10 + its.length) g)) ++ (fgI N D fks its A H gl (rml A H (fxd A P r g0) e gl k) (8 * r) (mBk A P g) g r 0 ++ M))) E := by
    intro g M rec hg hrec E B1 f p x hE hb hp
    have hgi := hgin g hg
    obtain ⟨B2, m1, m2⟩ := tu_bmap (K := K) (E := E) (B1 := B1) (f := f) (p := p) (x := x) hK hh hg
    have b1 := b_Tu_fillBlockMap (K := K) (G := G) hb _ m1
    unfold f_Tu_putFixed_62
    rw [(qC_blocksOf (S := tS S E p B1 f x) hU.1 hP hg).2.2, q_c, m1, q_b]
    refine tu_seq (tu_blk hc (by omega) b1 hp (fun j hj => by rw [m2 j hj, mX_o1])) (fun E' B' f' x' c1 c2 => ?_)
    have hE' := J_blk hJ hw (show fxd A P r g0 (mBk A P g) from ⟨g, hg, Or.inr (Or.inr ⟨by omega, by omega⟩)⟩) hE c1
    obtain ⟨B3, n1, n2⟩ := tu_imap (K := K) (E := E') (B1 := B') (f := f') (p := pR p (blW (mBk A P g) (mX (bmP us B P g0 g))).length) (x := x') hK hh hg
    have b2 := b_Tu_fillInodeMap (K := K) (G := G) c2 _ n1
    rw [n1, q_b, show (1 : Int32) = nI 1 from rfl, nI_add]
    refine tu_seq (tu_blk hc (by omega) b2 (pR_ok hp _) (fun j hj => by rw [n2 j hj, mX_o1])) (fun E2 B4 f2 x2 d1 d2 => ?_)
    exact h95 g M rec hg hrec r 0 K E2 B4 f2 _ x2 (by omega) (by omega) (J_blk hJ hw (show fxd A P r g0 (mBk A P g + 1) from ⟨g, hg, Or.inr (Or.inr ⟨by omega, by omega⟩)⟩) hE' d1) d2 (pR_ok (pR_ok hp _) _)
  have h2 : ∀ (d g q : Nat) (E B1 f : Nat → Int32) (p : Option Nat) (x : Int32), g + d = g0 → d < q → J E → byt (tS S E p B1 f x) → pOk p → tuO S (f_Tu_putFixed_2 K G q (nI g) (tS S E p B1 f x)) p (fgG N D fks its A H B P g0 r gl (rml A H (fxd A P r g0) e gl k) us fr by0 d g ++ (blW 2 (dsX Zd (mBk A P) (frB us B P g0) (frI (8 * r) (10 + its.length)) (dgN D its (8 * r)) g0) ++ [(3, fun j => sbL Zd (g0 * (8 * r)) B fr (g0 * (8 * r) - (10 + its.length)) P (8 * r) 0 (o4 D 67) by0 (512 + j)), (2, sbL Zd (g0 * (8 * r)) B fr (g0 * (8 * r) - (10 + its.length)) P (8 * r) 0 (o4 D 67) by0)])) E := by
    intro d
    induction d with
    | zero =>
      intro g q E B1 f p x e1 e2 hE hb hp
      obtain ⟨q, rfl⟩ : ∃ m, q = m + 1 := ⟨q - 1, by omega⟩
      rw [f_Tu_putFixed_2, show (tS S E p B1 f x).v_Pl_groups = nI g0 from hP.2.2.2.2.2, if_pos (nI_le (by omega) (by omega))]
      exact h150 E B1 f p x hE hb hp
    | succ d ih =>
      intro g q E B1 f p x e1 e2 hE hb hp
      obtain ⟨q, rfl⟩ : ∃ m, q = m + 1 := ⟨q - 1, by omega⟩
      have hg : g < g0 := by omega
      have hgi := hgin g hg
      rw [f_Tu_putFixed_2, show (tS S E p B1 f x).v_Pl_groups = nI g0 from hP.2.2.2.2.2, if_neg (nI_ge (by omega) (by omega)), tu_isOn hp, q_c]
      by_cases off : p = some 0
      · rw [b01_f (fun y => y off), if_pos (show nI 0 = 0 from rfl)]
        subst off
        exact tu_off (h150 E B1 f _ x hE hb hp)
      have rest := h62 g _ (f_Tu_putFixed_2 K G q) hg (fun E B1 f p x hE hb hp => ih (g + 1) q E B1 f p x (by omega) (by omega) hE hb hp)
      rw [b01_t off, if_neg (show ¬ nI 1 = 0 by decide), fgG, List.append_assoc, List.append_assoc, List.append_assoc, List.append_assoc]
      by_cases z : g = 0
      · rw [if_pos (show nI g ≤ 0 from nI_le (b := 0) (by omega) (by omega)), if_pos z]
        exact rest E B1 f p x hE hb hp
      · rw [if_neg (show ¬ nI g ≤ 0 from nI_nle (by omega) (by omega)), if_neg z, List.append_assoc]
        have b1 := b_Tu_fillSuperblock (K := K) (G := G) hb _ (sup g hg E B1 f p x hE)
        rw [sup g hg E B1 f p x hE, q_b, fb g hg, q_c]
        refine tu_seq (tu_blk hc (by omega) b1 hp (fun j hj => sbL_ag (zB_Zd hj))) (fun E' B' f' x' c1 c2 => ?_)
        have hE' := J_blk hJ hw (show fxd A P r g0 (1 + g * P) from ⟨g, hg, Or.inl rfl⟩) hE c1
        have b2 := b_Tu_fillDescriptors (K := K) (G := G) c2 _ (des E' B' f' _ x')
        rw [des, q_b, fb g hg, q_c, show (1 : Int32) = nI 1 from rfl, nI_add]
        refine tu_seq (tu_blk hc (by omega) b2 (pR_ok hp _) (fun j hj => dsX_ag (zB_Zd hj) _)) (fun E2 B3 f2 x2 d1 d2 => ?_)
        exact rest E2 B3 f2 _ x2 (J_blk hJ hw (show fxd A P r g0 (1 + g * P + 1) from ⟨g, hg, Or.inr (Or.inl (by omega))⟩) hE' d1) d2 (pR_ok (pR_ok hp _) _)
  unfold f_Tu_putFixed fxL
  exact h2 g0 0 K E B1 f p x (by omega) (by omega) hE hb hp
