/-! The superblock. -/
def lbN (by0 : Nat → Nat) : Nat → Nat
  | 0 => 0
  | n + 1 => if by0 n = 32 then lbN by0 n else n + 1
theorem lbN_le (by0 : Nat → Nat) : ∀ n, lbN by0 n ≤ n := by
  intro n
  induction n with
  | zero => exact Nat.le_refl _
  | succ n ih =>
    rw [lbN]
    split
    · omega
    · exact Nat.le_refl _
theorem tu_lab38 {K N lp n : Nat} {by0 : Nat → Nat} {G : CG} {S : CS} {E f Z : Nat → Int32} {p : Option Nat} {x : Int32} (hc : tuC N G S) (hn : n ≤ 11) (hl : S.v_Tr_label = nI lp) (hlp : lp + 11 ≤ 512 * N) (hby : ∀ i, i < 11 → o1 E (lp + i) = by0 i) : ∀ (d i k : Nat), i + d = n → d < k → f_Tu_putLabel_38 K G k (nI n) (nI i) (tS S E p (nbX Z 120 by0 i) f x) = some (tS S E p (nbX Z 120 by0 n) f x) := by
  have hN := hc.2.2.1
  intro d
  induction d with
  | zero =>
    intro i k e1 e2
    obtain ⟨k, rfl⟩ : ∃ m, k = m + 1 := ⟨k - 1, by omega⟩
    obtain rfl : i = n := by omega
    rw [f_Tu_putLabel_38, if_pos (nI_le (by omega) (by omega))]
  | succ d ih =>
    intro i k e1 e2
    obtain ⟨k, rfl⟩ : ∃ m, k = m + 1 := ⟨k - 1, by omega⟩
    rw [f_Tu_putLabel_38, if_neg (nI_ge (by omega) (by omega)), show (tS S E p (nbX Z 120 by0 i) f x).v_Tr_label = nI lp from hl, nI_add, rV1 E (S := tS S E p (nbX Z 120 by0 i) f x) hc.1 rfl hN (by omega), q_c, hby i (by omega), show (120 : Int32) = nI 120 from rfl, nI_add, tu_p1 (by omega), q_b, show (1 : Int32) = nI 1 from rfl, nI_add, q_l]
    exact ih (i + 1) k (by omega) (by omega)
theorem tu_lab3 {K N lp : Nat} {by0 : Nat → Nat} {G : CG} {S : CS} {E f B : Nat → Int32} {p : Option Nat} {x : Int32} (hc : tuC N G S) (hl : S.v_Tr_label = nI lp) (hlp : lp + 11 ≤ 512 * N) (hby : ∀ i, i < 11 → o1 E (lp + i) = by0 i) : ∀ (n k : Nat), n ≤ 11 → n < k → f_Tu_putLabel_3 K G k (nI n) (tS S E p B f x) = f_Tu_putLabel_38 K G K (nI (lbN by0 n)) 0 (tS S E p B f x) := by
  have hN := hc.2.2.1
  intro n
  induction n with
  | zero =>
    intro k _ e2
    obtain ⟨k, rfl⟩ : ∃ m, k = m + 1 := ⟨k - 1, by omega⟩
    rw [f_Tu_putLabel_3, if_pos (by decide)]
    rfl
  | succ n ih =>
    intro k e1 e2
    obtain ⟨k, rfl⟩ : ∃ m, k = m + 1 := ⟨k - 1, by omega⟩
    have e3 : nI (lp + (n + 1)) - 1 = nI (lp + n) := pk_sub (a := lp + (n + 1)) (b := 1) (by omega)
    rw [f_Tu_putLabel_3, if_neg (show ¬ nI (n + 1) ≤ 0 from nI_nle (by omega) (by omega)), show (tS S E p B f x).v_Tr_label = nI lp from hl, nI_add, e3, rV1 E (S := tS S E p B f x) hc.1 rfl hN (by omega), q_c, hby n (by omega), lbN]
    by_cases g : by0 n = 32
    · rw [if_pos g, g, if_pos (show nI 32 = 32 from rfl), show nI (n + 1) + (-1) = nI n from (Int32.sub_eq_add_neg (nI (n + 1)) 1).symm.trans (pk_sub (a := n + 1) (b := 1) (by omega)), q_l]
      exact ih k (by omega) (by omega)
    · have hlt : by0 n < 256 := by rw [← hby n (by omega)]; exact o1_lt _ _
      rw [if_neg g, if_neg (show ¬ nI (by0 n) = 32 from fun y => g ((nI_eq (b := 32) (by omega) (by decide)).mp y))]
      rfl
def sbX (Z : Nat → Int32) (gi B fr fi P I g id : Nat) : Nat → Int32 := st (st (st (st (st (st (st (st (st (st (st (st (st (st (st (st (st (st Z 0 gi 4) 4 B 4) 12 fr 4) 16 fi 4) 20 1 4) 32 P 4) 36 P 4) 40 I 4) 54 65535 2) 56 61267 2) 58 1 2) 60 1 2) 76 1 4) 84 11 4) 88 128 2) 90 g 2) 96 2 4) 104 id 4
theorem sbX_ag {Z Z' : Nat → Int32} {gi B fr fi P I g id q : Nat} (h : o1 Z q = o1 Z' q) : o1 (sbX Z gi B fr fi P I g id) q = o1 (sbX Z' gi B fr fi P I g id) q := st_ag (st_ag (st_ag (st_ag (st_ag (st_ag (st_ag (st_ag (st_ag (st_ag (st_ag (st_ag (st_ag (st_ag (st_ag (st_ag (st_ag (st_ag h)))))))))))))))))
/-- the state when what is fixed is put: the plan is made, the used blocks are marked -/
abbrev fxC (N : Nat) (D : Nat → Int32) (mp : Nat → Nat) (fks : List Nat) (its : List It) (A H k B P g0 r to : Nat) (gl e : Nat → Nat) (us : Nat → Prop) (fr : Nat) (G : CG) (S : CS) : Prop := rnC N D mp fks its A H k B P g0 r to gl e G S ∧ (∀ c, c < B → S.w_Pl_used c = b01 (us c)) ∧ S.v_Pl_free = nI fr ∧ fr < 2 ^ 20 ∧ 10 + its.length ≤ g0 * (8 * r)
/-- label bytes: none, or those at lp -/
abbrev lbE (N : Nat) (S : CS) (E : Nat → Int32) (by0 : Nat → Nat) : Prop := (S.v_Tr_label = -1 ∧ ∀ i, i < 11 → by0 i = 32) ∨ ∃ lp, S.v_Tr_label = nI lp ∧ lp + 11 ≤ 512 * N ∧ ∀ i, i < 11 → o1 E (lp + i) = by0 i
theorem lbN_no {by0 : Nat → Nat} : ∀ n, (∀ i, i < n → by0 i = 32) → lbN by0 n = 0 := by
  intro n
  induction n with
  | zero => intro _; rfl
  | succ n ih => intro h; rw [lbN, if_pos (h n (by omega)), ih (fun i hi => h i (by omega))]
def sbL (Z : Nat → Int32) (gi B fr fi P I g id : Nat) (by0 : Nat → Nat) : Nat → Int32 := nbX (sbX Z gi B fr fi P I g id) 120 by0 (lbN by0 11)
theorem sbL_ag {Z Z' : Nat → Int32} {gi B fr fi P I g id q : Nat} {by0 : Nat → Nat} (h : o1 Z q = o1 Z' q) : o1 (sbL Z gi B fr fi P I g id by0) q = o1 (sbL Z' gi B fr fi P I g id by0) q := nbX_ag (sbX_ag h) _
theorem tu_super {K N g : Nat} {D : Nat → Int32} {mp : Nat → Nat} {fks : List Nat} {its : List It} {A H k B P g0 r to : Nat} {gl e : Nat → Nat} {us : Nat → Prop} {fr : Nat} {G : CG} {S : CS} {by0 : Nat → Nat} {E B1 f : Nat → Int32} {p : Option Nat} {x : Int32} (hK : 20000 ≤ K) (h : fxC N D mp fks its A H k B P g0 r to gl e us fr G S) (hg : g < 2 ^ 16) (hid : o4 E 67 = o4 D 67) (hlb : lbE N S E by0) : f_Tu_fillSuperblock K G (tS S E p B1 f x) (nI g) = some (tS S E p (sbL (zB B1) (g0 * (8 * r)) B fr (g0 * (8 * r) - (10 + its.length)) P (8 * r) g (o4 D 67) by0) f x) := by
  obtain ⟨⟨⟨hL, ht, hU, hP, hrm, hfx, hw⟩, hdc, hc, hino⟩, hus, hfr, hfr2, hil⟩ := h
  have hN := hc.2.2.1
  have hN1 := hc.2.1
  have hlen := ht.2.2.2.1.2.1
  have hB := hL.1.2.2.2
  have hr := hU.1.2.2.2.2.2.2.1
  have hPP := hU.1.2.2.2.2.1
  have hg8 : g0 ≤ 8 := by
    have := hU.1.2.2.2.2.2.1
    rcases hPP with q | q | q <;> rw [q] at this <;> omega
  have hgi : g0 * (8 * r) < 2 ^ 20 := Nat.lt_of_le_of_lt (Nat.mul_le_mul hg8 (show 8 * r ≤ 16000 by omega)) (by decide)
  have f1 : ∀ B, (tS S E p B f x).v_Pl_groups = nI g0 := fun _ => hP.2.2.2.2.2
  have f2 : ∀ B, (tS S E p B f x).v_Pl_inodes = nI (8 * r) := fun _ => hino
  have f3 : ∀ B', (tS S E p B' f x).v_Pl_blocks = nI B := fun _ => hP.2.2.2.1
  have f4 : ∀ B, (tS S E p B f x).v_Pl_free = nI fr := fun _ => hfr
  have f5 : ∀ B, (tS S E p B f x).v_Pl_size = nI P := fun _ => hP.2.2.2.2.1
  have f6 : ∀ B, f_Pl_usedInodes K G (tS S E p B f x) = some (nI (10 + its.length), tS S E p B f x) := fun B => by
    unfold f_Pl_usedInodes
    rw [show (tS S E p B f x).v_Tr_count = nI its.length from ht.2.1.1, show (11 : Int32) = nI 11 from rfl, nI_add, show nI (11 + its.length) - 1 = nI (10 + its.length) from (pk_sub (a := 11 + its.length) (b := 1) (by omega)).trans (by congr 1; omega)]
  have f7 : ∀ B, f_Dk_four K G (tS S E p B f x) (nI 67) = some (nI (o4 D 67), tS S E p B f x) := fun B => by
    rw [rV4 E (S := tS S E p B f x) hc.1 rfl hN (by omega), hid]
  have h67 : o4 D 67 < 2 ^ 32 := o4_lt _ _
  generalize o4 D 67 = id at *
  have fin : ∀ Z, (if (tS S E p Z f x).v_Tr_label = -1 then some (tS S E p Z f x) else (f_Tu_putLabel K G (tS S E p Z f x)).bind fun S_23 => some S_23) = some (tS S E p (nbX Z 120 by0 (lbN by0 11)) f x) := fun Z => by
    rcases hlb with ⟨l1, l2⟩ | ⟨lp, l1, l2, l3⟩
    · rw [if_pos (show (tS S E p Z f x).v_Tr_label = -1 from l1), lbN_no 11 l2]
      rfl
    · rw [if_neg (show ¬ (tS S E p Z f x).v_Tr_label = -1 by rw [show (tS S E p Z f x).v_Tr_label = nI lp from l1]; exact nI_nm1 (by omega))]
      unfold f_Tu_putLabel
      have := lbN_le by0 11
      rw [show (11 : Int32) = nI 11 from rfl, tu_lab3 hc l1 l2 l3 11 K (by omega) (by omega)]
      have e2 := tu_lab38 (K := K) (n := lbN by0 11) (Z := Z) (f := f) (p := p) (x := x) hc this l1 l2 l3 (lbN by0 11) 0 K (by omega) (by omega)
      rw [nbX_0] at e2
      have e2 : f_Tu_putLabel_38 K G K (nI (lbN by0 11)) 0 (tS S E p Z f x) = _ := e2
      rw [e2, q_b]
  unfold f_Tu_fillSuperblock sbL sbX
  rw [show (0 : Int32) = nI 0 from rfl, show (4 : Int32) = nI 4 from rfl, show (12 : Int32) = nI 12 from rfl, show (16 : Int32) = nI 16 from rfl, show (20 : Int32) = nI 20 from rfl, show (1 : Int32) = nI 1 from rfl, show (32 : Int32) = nI 32 from rfl, show (36 : Int32) = nI 36 from rfl, show (40 : Int32) = nI 40 from rfl, show (54 : Int32) = nI 54 from rfl, show (65535 : Int32) = nI 65535 from rfl, show (56 : Int32) = nI 56 from rfl, show (61267 : Int32) = nI 61267 from rfl, show (58 : Int32) = nI 58 from rfl, show (60 : Int32) = nI 60 from rfl, show (76 : Int32) = nI 76 from rfl, show (84 : Int32) = nI 84 from rfl, show (11 : Int32) = nI 11 from rfl, show (88 : Int32) = nI 88 from rfl, show (128 : Int32) = nI 128 from rfl, show (90 : Int32) = nI 90 from rfl, show (96 : Int32) = nI 96 from rfl, show (2 : Int32) = nI 2 from rfl, show (67 : Int32) = nI 67 from rfl, show (104 : Int32) = nI 104 from rfl]
  rw [tu_em, q_b, f1, f2, pk_mul, tu_p4 (by omega) (by omega), q_b, f3, tu_p4 (by omega) (by omega), q_b, f4, tu_p4 (by omega) (by omega), q_b, f6, q_c, f1, f2, pk_mul, pk_sub (by omega), tu_p4 (by omega) (by omega), q_b, tu_p4 (by omega) (by omega), q_b, f5, tu_p4 (by omega) (by omega), q_b, f5, tu_p4 (by omega) (by omega), q_b, f2, tu_p4 (by omega) (by omega), q_b, tu_p2 (by omega) (by omega), q_b, tu_p2 (by omega) (by omega), q_b, tu_p2 (by omega) (by omega), q_b, tu_p2 (by omega) (by omega), q_b, tu_p4 (by omega) (by omega), q_b, tu_p4 (by omega) (by omega), q_b, tu_p2 (by omega) (by omega), q_b, tu_p2 (by omega) (by omega), q_b, tu_p4 (by omega) (by omega), q_b, f7, q_c, tu_p4 (by omega) (by omega), q_b]
  exact fin _
