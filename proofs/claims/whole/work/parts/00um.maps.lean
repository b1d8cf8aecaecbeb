/-! Maps. -/
noncomputable def mpR (p : Nat → Prop) (j : Nat) : Nat → Nat
  | 0 => 0
  | t + 1 => cif (p (8 * j + t)) (2 ^ t) 0 + mpR p j t
noncomputable def mpB (p : Nat → Prop) (j : Nat) : Nat := mpR p j 8
theorem mpR_lt (p : Nat → Prop) (j : Nat) : ∀ n, mpR p j n < 2 ^ n := by
  intro n
  induction n with
  | zero => exact Nat.one_pos
  | succ n ih =>
    rw [mpR, Nat.pow_succ]
    by_cases w : p (8 * j + n)
    · rw [cif_t w]; omega
    · rw [cif_f w]; omega
theorem mpR_bit {p : Nat → Prop} {j : Nat} : ∀ (n t : Nat), t < n → ((mpR p j n).testBit t = true ↔ p (8 * j + t)) := by
  intro n
  induction n with
  | zero => intro t h; exact absurd h (Nat.not_lt_zero _)
  | succ n ih =>
    intro t h
    have hl := mpR_lt p j n
    rw [mpR]
    by_cases w : p (8 * j + n)
    · rw [cif_t w]
      by_cases g : t = n
      · rw [g, Nat.testBit_two_pow_add_eq, Nat.testBit_lt_two_pow hl]
        exact ⟨fun _ => w, fun _ => rfl⟩
      · rw [Nat.testBit_two_pow_add_gt (by omega)]
        exact ih t (by omega)
    · rw [cif_f w, Nat.zero_add]
      by_cases g : t = n
      · rw [g, Nat.testBit_lt_two_pow hl]
        exact ⟨fun y => (Bool.false_ne_true y).elim, fun y => absurd y w⟩
      · exact ih t (by omega)
theorem mpB_lt (p : Nat → Prop) (j : Nat) : mpB p j < 256 := mpR_lt p j 8
theorem mpB_bit {p : Nat → Prop} {j t : Nat} (h : t < 8) : (mpB p j).testBit t = true ↔ p (8 * j + t) := mpR_bit 8 t h
theorem byte_ext {a b : Nat} (ha0 : a < 256) (hb : b < 256) (h : ∀ t, t < 8 → (a.testBit t = true ↔ b.testBit t = true)) : a = b := by
  refine Nat.eq_of_testBit_eq fun t => ?_
  by_cases g : t < 8
  · have := h t g
    cases ea : a.testBit t with
    | true => rw [this.mp ea]
    | false =>
      cases eb : b.testBit t with
      | false => rfl
      | true => rw [this.mpr eb] at ea; cases ea
  · have e : 2 ^ 8 ≤ 2 ^ t := Nat.pow_le_pow_right (by decide) (by omega)
    rw [Nat.testBit_lt_two_pow (by omega), Nat.testBit_lt_two_pow (by omega)]
theorem mpB_congr {p p' : Nat → Prop} {j : Nat} (h : ∀ t, t < 8 → (p (8 * j + t) ↔ p' (8 * j + t))) : mpB p j = mpB p' j := byte_ext (mpB_lt _ _) (mpB_lt _ _) (fun t ht => by rw [mpB_bit ht, mpB_bit ht]; exact h t ht)
theorem ubA (x y : Int32) : ub (x &&& y) = ub x &&& ub y := by
  show (x &&& y).toBitVec.toNat % 256 = (x.toBitVec.toNat % 256) &&& (y.toBitVec.toNat % 256)
  rw [Int32.toBitVec_and, BitVec.toNat_and]
  exact Nat.and_mod_two_pow (n := 8)
theorem ubO (x y : Int32) : ub (x ||| y) = ub x ||| ub y := by
  show (x ||| y).toBitVec.toNat % 256 = (x.toBitVec.toNat % 256) ||| (y.toBitVec.toNat % 256)
  rw [Int32.toBitVec_or, BitVec.toNat_or]
  exact Nat.or_mod_two_pow (n := 8)
theorem msk_d : ∀ t : Fin 8, ub (((1 : Int32) <<< ((nI t.val) &&& 31)) ^^^ (-1)) = 255 - 2 ^ t.val := by decide +kernel
theorem msk_b : ∀ s t : Fin 8, ((255 - 2 ^ t.val).testBit s.val = true ↔ s.val ≠ t.val) := by decide +kernel
theorem tu_drop {K k : Nat} {G : CG} {S : CS} {E B f : Nat → Int32} {p : Option Nat} {x : Int32} {P : Nat → Prop} (hk0 : k < 8192) (hB : ∀ j, j < 1024 → o1 B j = mpB P j) : ∃ B', f_Tu_dropBit K G (tS S E p B f x) (nI k) = some (tS S E p B' f x) ∧ ∀ j, j < 1024 → o1 B' j = mpB (fun q => P q ∧ q ≠ k) j := by
  have e3 : nI k >>> ((3 : Int32) &&& 31) = nI (k / 8) := q_shr (k := 3) (by omega) (by decide)
  have e7 : (nI k &&& 7) = nI (k % 8) := pk_andN (by omega) 3 rfl
  unfold f_Tu_dropBit
  rw [e3, q_l, if_neg (nI_pos (by omega)), show (1024 : Int32) = nI 1024 from rfl, if_neg (nI_ge (by omega) (by omega)), q_g (q_in (by omega) (by omega)), q_g (q_in (by omega) (by omega)), q_l, nI_clamp (by omega), e7]
  refine ⟨upd B (k / 8) (vp_nar .byte ((B (k / 8) &&& ((1 : Int32) <<< (nI (k % 8) &&& 31) ^^^ (-1))).toInt8.toInt32)), rfl, fun j hj => ?_⟩
  by_cases g : j = k / 8
  · rw [g, o1_upd_s, ub_b8, ubA]
    have hm := msk_d ⟨k % 8, Nat.mod_lt _ (by decide)⟩
    have hm : ub (((1 : Int32) <<< (nI (k % 8) &&& 31)) ^^^ (-1)) = 255 - 2 ^ (k % 8) := hm
    rw [hm]
    have hv : ub (B (k / 8)) = mpB P (k / 8) := hB _ (by omega)
    rw [hv]
    refine byte_ext (Nat.lt_of_le_of_lt Nat.and_le_left (mpB_lt _ _)) (mpB_lt _ _) (fun t ht => ?_)
    rw [Nat.testBit_and, Bool.and_eq_true, mpB_bit ht, mpB_bit ht]
    have := msk_b ⟨t, ht⟩ ⟨k % 8, Nat.mod_lt _ (by decide)⟩
    have : (255 - 2 ^ (k % 8)).testBit t = true ↔ t ≠ k % 8 := this
    rw [this]
    exact and_congr_right fun _ => by omega
  · rw [o1_upd_n g]
    have hv : o1 B j = mpB P j := hB j hj
    rw [hv]
    exact mpB_congr fun t ht => ⟨fun y => ⟨y, by omega⟩, fun y => y.1⟩
theorem full_o1 {B : Nat → Int32} {j : Nat} {P : Nat → Prop} (h : j < 1024) (hP : ∀ q, P q) : o1 (ar_fill B 0 1024 (vp_nar .byte (-1))) j = mpB P j := by
  show ub (if 0 ≤ j ∧ j < 1024 then vp_nar .byte (-1) else B j) = mpB P j
  rw [if_pos ⟨Nat.zero_le _, h⟩, show ub (vp_nar .byte (-1)) = 255 by decide]
  refine byte_ext (by decide) (mpB_lt _ _) (fun t ht => ?_)
  rw [mpB_bit ht]
  have : ∀ t : Fin 8, (255 : Nat).testBit t.val = true := by decide
  exact ⟨fun _ => hP _, fun _ => this ⟨t, ht⟩⟩
/-- which blocks of a group are shown as used -/
abbrev bmP (us : Nat → Prop) (B P g0 g q : Nat) : Prop := gSz B P g0 g ≤ q ∨ us (1 + g * P + q)
abbrev imP (I n g q : Nat) : Prop := I ≤ q ∨ g * I + q < n
theorem tu_bmap {K N g : Nat} {D : Nat → Int32} {mp : Nat → Nat} {fks : List Nat} {its : List It} {A H k B P g0 r to : Nat} {gl e : Nat → Nat} {us : Nat → Prop} {fr : Nat} {G : CG} {S : CS} {E B1 f : Nat → Int32} {p : Option Nat} {x : Int32} (hK : 20000 ≤ K) (h : fxC N D mp fks its A H k B P g0 r to gl e us fr G S) (hg : g < g0) : ∃ B', f_Tu_fillBlockMap K G (tS S E p B1 f x) (nI g) = some (tS S E p B' f x) ∧ ∀ j, j < 1024 → o1 B' j = mpB (bmP us B P g0 g) j := by
  obtain ⟨⟨⟨hL, ht, hU, hP, hrm, hfx, hw⟩, hdc, hc, hino⟩, hus, hfr, hfr2, hil⟩ := h
  have hB := hL.1.2.2.2
  have hGB : G.n / 2 = B := by rw [hc.1]; exact hL.2.1.2.2.1.symm
  obtain ⟨y1, y2, y3, y4, y5, y6, y7⟩ := gr_le hU.1 hg
  have m0 : ∀ Z, f_Pl_blocksOf K G (tS S E p Z f x) (nI g) = some (nI (gSz B P g0 g), tS S E p Z f x) ∧ f_Pl_firstBlock K G (tS S E p Z f x) (nI g) = some (nI (1 + g * P), tS S E p Z f x) := fun Z => ⟨(qC_blocksOf (S := tS S E p Z f x) hU.1 hP hg).1, (qC_blocksOf (S := tS S E p Z f x) hU.1 hP hg).2.1⟩
  have m1 : ∀ Z b, b < B → f_Pl_isUsed K G (tS S E p Z f x) (nI b) = some (b01 (us b), tS S E p Z f x) := fun Z b hb => by
    unfold f_Pl_isUsed f_Pl_isUsed_21
    rw [if_neg (nI_pos (by omega)), show (tS S E p Z f x).v_Pl_blocks = nI B from hP.2.2.2.1, if_neg (nI_ge (by omega) (by omega)), hGB, q_g (q_in (by omega) (by omega)), nI_clamp (by omega), show (tS S E p Z f x).w_Pl_used b = b01 (us b) from hus b hb]
    by_cases w : us b
    · rw [b01_t w, if_neg (show ¬ nI 1 = 0 by decide)]; rfl
    · rw [b01_f w, if_pos (show nI 0 = 0 from rfl)]; rfl
  unfold f_Tu_fillBlockMap
  rw [q_l]
  have key : ∀ (d k q : Nat) (Z : Nat → Int32), k + d = gSz B P g0 g → d < q → (∀ j, j < 1024 → o1 Z j = mpB (fun q => k ≤ q ∨ bmP us B P g0 g q) j) → ∃ B', f_Tu_fillBlockMap_10 K G q (nI g) (nI k) (tS S E p Z f x) = some (tS S E p B' f x) ∧ ∀ j, j < 1024 → o1 B' j = mpB (bmP us B P g0 g) j := by
    intro d
    induction d with
    | zero =>
      intro k q Z e1 e2 hZ
      obtain ⟨q, rfl⟩ : ∃ m, q = m + 1 := ⟨q - 1, by omega⟩
      refine ⟨Z, ?_, fun j hj => ?_⟩
      · rw [f_Tu_fillBlockMap_10, (m0 Z).1, q_c, if_pos (nI_le (by omega) (by omega))]
      · rw [hZ j hj]
        exact mpB_congr fun t _ => ⟨fun y => y.elim (fun z => Or.inl (by omega)) id, Or.inr⟩
    | succ d ih =>
      intro k q Z e1 e2 hZ
      obtain ⟨q, rfl⟩ : ∃ m, q = m + 1 := ⟨q - 1, by omega⟩
      rw [f_Tu_fillBlockMap_10, (m0 Z).1, q_c, if_neg (nI_ge (by omega) (by omega)), (m0 Z).2, q_c, nI_add, m1 Z _ (by omega), q_c]
      unfold f_Tu_fillBlockMap_47
      by_cases w : us (1 + g * P + k)
      · rw [b01_t w, if_neg (show ¬ nI 1 = 0 by decide), show (1 : Int32) = nI 1 from rfl, nI_add, q_l]
        refine ih (k + 1) q Z (by omega) (by omega) (fun j hj => ?_)
        rw [hZ j hj]
        refine mpB_congr fun t _ => ⟨fun y => y.elim (fun z => ?_) Or.inr, fun y => y.elim (fun z => Or.inl (by omega)) Or.inr⟩
        by_cases c : 8 * j + t = k
        · exact Or.inr (Or.inr (by rw [c]; exact w))
        · exact Or.inl (by omega)
      · rw [b01_f w, if_pos (show nI 0 = 0 from rfl)]
        obtain ⟨B', b1, b2⟩ := tu_drop (K := K) (G := G) (S := S) (E := E) (f := f) (p := p) (x := x) (k := k) (by omega) hZ
        rw [b1, q_b, show (1 : Int32) = nI 1 from rfl, nI_add, q_l]
        refine ih (k + 1) q B' (by omega) (by omega) (fun j hj => ?_)
        rw [b2 j hj]
        refine mpB_congr fun t _ => ⟨fun y => ?_, fun y => ?_⟩
        · obtain ⟨y1, y2⟩ := y
          exact y1.elim (fun z => Or.inl (by omega)) Or.inr
        · refine ⟨y.elim (fun z => Or.inl (by omega)) Or.inr, fun c => ?_⟩
          rcases y with z | z
          · omega
          · rw [c] at z
            rcases z with z | z
            · omega
            · exact w z
  exact key (gSz B P g0 g) 0 K _ (by omega) (by omega) (fun j hj => full_o1 hj (fun q => Or.inl (Nat.zero_le _)))
theorem tu_imap {K N g : Nat} {D : Nat → Int32} {mp : Nat → Nat} {fks : List Nat} {its : List It} {A H k B P g0 r to : Nat} {gl e : Nat → Nat} {us : Nat → Prop} {fr : Nat} {G : CG} {S : CS} {E B1 f : Nat → Int32} {p : Option Nat} {x : Int32} (hK : 20000 ≤ K) (h : fxC N D mp fks its A H k B P g0 r to gl e us fr G S) (hg : g < g0) : ∃ B', f_Tu_fillInodeMap K G (tS S E p B1 f x) (nI g) = some (tS S E p B' f x) ∧ ∀ j, j < 1024 → o1 B' j = mpB (imP (8 * r) (10 + its.length) g) j := by
  obtain ⟨⟨⟨hL, ht, hU, hP, hrm, hfx, hw⟩, hdc, hc, hino⟩, hus, hfr, hfr2, hil⟩ := h
  obtain ⟨y1, y2, y3, y4, y5, y6, y7⟩ := gr_le hU.1 hg
  have hr : r ≤ 256 := by
    have := hU.2.1.1 g hg
    unfold lstB at this
    split at this <;> omega
  have hgI : g * (8 * r) + 8 * r < 2 ^ 20 := by
    have : g * (8 * r) ≤ 8 * 2048 := Nat.mul_le_mul (by omega) (by omega)
    omega
  have hfi : frI (8 * r) (10 + its.length) g ≤ 8 * r := by unfold frI; omega
  unfold f_Tu_fillInodeMap
  rw [q_l]
  show ∃ B', lf_c (f_Pl_freeInodes K G (tS S E p (ar_fill B1 0 1024 (vp_nar .byte (-1))) f x) (nI g)) _ = _ ∧ _
  rw [tu_freeI (S := tS S E p (ar_fill B1 0 1024 (vp_nar .byte (-1))) f x) ht hino hgI, q_c]
  show ∃ B', lf_l ((tS S E p (ar_fill B1 0 1024 (vp_nar .byte (-1))) f x).v_Pl_inodes - nI (frI (8 * r) (10 + its.length) g)) _ = _ ∧ _
  rw [show (tS S E p (ar_fill B1 0 1024 (vp_nar .byte (-1))) f x).v_Pl_inodes = nI (8 * r) from hino, pk_sub hfi, q_l]
  have hs0 : 8 * r - frI (8 * r) (10 + its.length) g = min (8 * r) (10 + its.length - g * (8 * r)) := by unfold frI; omega
  rw [hs0]
  have key : ∀ (d k q : Nat) (Z : Nat → Int32), k + d = 8 * r → d < q → min (8 * r) (10 + its.length - g * (8 * r)) ≤ k → (∀ j, j < 1024 → o1 Z j = mpB (fun q => k ≤ q ∨ q < min (8 * r) (10 + its.length - g * (8 * r))) j) → ∃ B', f_Tu_fillInodeMap_25 K G q (nI k) (tS S E p Z f x) = some (tS S E p B' f x) ∧ ∀ j, j < 1024 → o1 B' j = mpB (imP (8 * r) (10 + its.length) g) j := by
    intro d
    induction d with
    | zero =>
      intro k q Z e1 e2 e3 hZ
      obtain ⟨q, rfl⟩ : ∃ m, q = m + 1 := ⟨q - 1, by omega⟩
      refine ⟨Z, ?_, fun j hj => ?_⟩
      · rw [f_Tu_fillInodeMap_25, show (tS S E p Z f x).v_Pl_inodes = nI (8 * r) from hino, if_pos (nI_le (by omega) (by omega))]
      · rw [hZ j hj]
        refine mpB_congr fun t _ => ?_
        unfold imP
        omega
    | succ d ih =>
      intro k q Z e1 e2 e3 hZ
      obtain ⟨q, rfl⟩ : ∃ m, q = m + 1 := ⟨q - 1, by omega⟩
      obtain ⟨B', b1, b2⟩ := tu_drop (K := K) (G := G) (S := S) (E := E) (f := f) (p := p) (x := x) (k := k) (by omega) hZ
      rw [f_Tu_fillInodeMap_25, show (tS S E p Z f x).v_Pl_inodes = nI (8 * r) from hino, if_neg (nI_ge (by omega) (by omega)), b1, q_b, show (1 : Int32) = nI 1 from rfl, nI_add, q_l]
      refine ih (k + 1) q B' (by omega) (by omega) (by omega) (fun j hj => ?_)
      rw [b2 j hj]
      refine mpB_congr fun t _ => ?_
      omega
  exact key (8 * r - min (8 * r) (10 + its.length - g * (8 * r))) _ K _ (by omega) (by omega) (Nat.le_refl _) (fun j hj => full_o1 hj (fun q => by omega))
