/-! Descriptors. -/
def dsX (Z : Nat → Int32) (mb fb fi dg0 : Nat → Nat) : Nat → Nat → Int32
  | 0 => Z
  | g + 1 => st (st (st (st (st (st (dsX Z mb fb fi dg0 g) (32 * g) (mb g) 4) (32 * g + 4) (mb g + 1) 4) (32 * g + 8) (mb g + 2) 4) (32 * g + 12) (fb g) 2) (32 * g + 14) (fi g) 2) (32 * g + 16) (dg0 g) 2
theorem dsX_ag {Z Z' : Nat → Int32} {mb fb fi dg0 : Nat → Nat} {q : Nat} (h : o1 Z q = o1 Z' q) : ∀ n, o1 (dsX Z mb fb fi dg0 n) q = o1 (dsX Z' mb fb fi dg0 n) q := by
  intro n
  induction n with
  | zero => exact h
  | succ n ih => exact st_ag (st_ag (st_ag (st_ag (st_ag (st_ag ih)))))
abbrev dgP (D : Nat → Int32) (its : List It) (I g i : Nat) : Prop := isDr D its i ∧ g * I ≤ nmr i - 1 ∧ nmr i - 1 < g * I + I
noncomputable def dgN (D : Nat → Int32) (its : List It) (I g : Nat) : Nat := cntP (dgP D its I g) its.length
noncomputable def frB (us : Nat → Prop) (B P g0 g : Nat) : Nat := cntP (fun b => ¬ us b) (1 + g * P + gSz B P g0 g) - cntP (fun b => ¬ us b) (1 + g * P)
def frI (I n g : Nat) : Nat := I - min I (n - g * I)
theorem nI_subneg {a b : Nat} (h : a < b) (hb : b < 2 ^ 31) : nI a - nI b < 0 := by
  have e : ∀ u, u < 2 ^ 31 → (nI u).toInt = (u : Int) := fun u hu => by
    show (nI u).toBitVec.toInt = u
    rw [q_bv, BitVec.toInt_eq_toNat_cond, BitVec.toNat_ofNat, Nat.mod_eq_of_lt (by omega), if_pos (by omega)]
  rw [Int32.lt_iff_toInt_lt, Int32.toInt_sub, e a (by omega), e b hb]
  show Int.bmod ((a : Int) - b) (2 ^ 32) < 0
  rw [Int.bmod_def]
  split <;> omega
theorem tu_dirsOf {K N g I : Nat} {D : Nat → Int32} {mp : Nat → Nat} {fks : List Nat} {its : List It} {k : Nat} {e : Nat → Nat} {G : CG} {S : CS} (hK : 10000 ≤ K) (ht : trC N D mp fks its k e G S) (hI : S.v_Pl_inodes = nI I) (hgI : g * I + I < 2 ^ 20) : f_Tu_directoriesOf K G S (nI g) = some (nI (dgN D its I g), S) := by
  have hlen := ht.2.2.2.1.2.1
  unfold f_Tu_directoriesOf dgN
  have key : ∀ (d i q : Nat), i + d = its.length → d < q → f_Tu_directoriesOf_4 K G q (nI g) (nI (cntP (dgP D its I g) i)) (nI i) S = some (nI (cntP (dgP D its I g) its.length), S) := by
    intro d
    induction d with
    | zero =>
      intro i q e1 e2
      obtain ⟨q, rfl⟩ : ∃ m, q = m + 1 := ⟨q - 1, by omega⟩
      obtain rfl : i = its.length := by omega
      rw [f_Tu_directoriesOf_4, ht.2.1.1, if_pos (nI_le (by omega) (by omega))]
    | succ d ih =>
      intro i q e1 e2
      obtain ⟨q, rfl⟩ : ∃ m, q = m + 1 := ⟨q - 1, by omega⟩
      have hino : f_Tu_inodeOf K (nI i) = some (nI (nmr i)) := by
        unfold f_Tu_inodeOf nmr
        by_cases w : i = 0
        · rw [w, if_pos (show nI 0 = 0 from rfl), if_pos rfl]; rfl
        · rw [if_neg (nI_ne0 (by omega) (by omega)), if_neg w, show (11 : Int32) = nI 11 from rfl, nI_add]
      have hn : 2 ≤ nmr i ∧ nmr i ≤ 4300 := by unfold nmr; split <;> omega
      have hcl := cntP_le (dgP D its I g) i
      have nx := ih (i + 1) q (by omega) (by omega)
      rw [cntP] at nx
      rw [f_Tu_directoriesOf_4, ht.2.1.1, if_neg (nI_ge (by omega) (by omega)), hino, q_b, show nI (nmr i) - 1 = nI (nmr i - 1) from pk_sub (b := 1) (by omega), hI, pk_mul, q_l, qC_isDir ht.1 ht.2.1 ht.2.2.1 (by omega), q_c]
      unfold f_Tu_directoriesOf_66 f_Tu_directoriesOf_67
      have e0 : ∀ x, lf_l (nI x + 0) (fun x_8 => lf_l (nI i + 1) fun x_9 => f_Tu_directoriesOf_4 K G q (nI g) x_8 x_9 S) = f_Tu_directoriesOf_4 K G q (nI g) (nI x) (nI (i + 1)) S := fun x => by
        rw [show nI x + 0 = nI x from Int32.add_zero _, q_l, nI_1, q_l]
      have e9 : ∀ x, lf_l (nI x + 1) (fun x_8 => lf_l (nI i + 1) fun x_9 => f_Tu_directoriesOf_4 K G q (nI g) x_8 x_9 S) = f_Tu_directoriesOf_4 K G q (nI g) (nI (x + 1)) (nI (i + 1)) S := fun x => by
        rw [nI_1, q_l, nI_1, q_l]
      by_cases w : isDr D its i
      · rw [b01_t w, if_neg (show ¬ nI 1 = 0 by decide)]
        by_cases w2 : g * I ≤ nmr i - 1
        · rw [pk_sub w2, if_neg (nI_pos (by omega)), hI]
          by_cases w3 : nmr i - 1 < g * I + I
          · rw [if_neg (nI_ge (by omega) (by omega)), e9]
            rw [cif_t (show dgP D its I g i from ⟨w, w2, w3⟩)] at nx
            exact nx
          · rw [if_pos (nI_le (by omega) (by omega)), e0]
            rw [cif_f (show ¬ dgP D its I g i from fun y => w3 y.2.2), Nat.add_zero] at nx
            exact nx
        · rw [if_pos (nI_subneg (by omega) (by omega)), e0]
          rw [cif_f (show ¬ dgP D its I g i from fun y => w2 y.2.1), Nat.add_zero] at nx
          exact nx
      · rw [b01_f w, if_pos (show nI 0 = 0 from rfl), e0]
        rw [cif_f (show ¬ dgP D its I g i from fun y => w y.1), Nat.add_zero] at nx
        exact nx
  exact key its.length 0 K (by omega) (by omega)
theorem tu_freeI {K N g r : Nat} {D : Nat → Int32} {mp : Nat → Nat} {fks : List Nat} {its : List It} {k : Nat} {e : Nat → Nat} {G : CG} {S : CS} (ht : trC N D mp fks its k e G S) (hI : S.v_Pl_inodes = nI r) (hgI : g * r + r < 2 ^ 20) : f_Pl_freeInodes K G S (nI g) = some (nI (frI r (10 + its.length) g), S) := by
  have hlen := ht.2.2.2.1.2.1
  have f6 : f_Pl_usedInodes K G S = some (nI (10 + its.length), S) := by
    unfold f_Pl_usedInodes
    rw [ht.2.1.1, show (11 : Int32) = nI 11 from rfl, nI_add, show nI (11 + its.length) - 1 = nI (10 + its.length) from (pk_sub (a := 11 + its.length) (b := 1) (by omega)).trans (by congr 1; omega)]
  unfold f_Pl_freeInodes frI
  rw [f6, q_c, hI, pk_mul]
  have e1 : (if nI (10 + its.length) - nI (g * r) < (0 : Int32) then (0 : Int32) else nI (10 + its.length) - nI (g * r)) = nI (10 + its.length - g * r) := by
    by_cases w : 10 + its.length < g * r
    · rw [if_pos (nI_subneg w (by omega)), show 10 + its.length - g * r = 0 by omega]; rfl
    · rw [pk_sub (by omega), if_neg (nI_pos (by omega))]
  rw [e1, q_l]
  by_cases w : r < 10 + its.length - g * r
  · rw [if_pos (nI_lt w (by omega)), show min r (10 + its.length - g * r) = r from Nat.min_eq_left (by omega), pk_sub (by omega)]
  · rw [if_neg (nI_nlt (by omega) (by omega)), show min r (10 + its.length - g * r) = 10 + its.length - g * r from Nat.min_eq_right (by omega), pk_sub (by omega)]
theorem tu_desc {K N : Nat} {D : Nat → Int32} {mp : Nat → Nat} {fks : List Nat} {its : List It} {A H k B P g0 r to : Nat} {gl e : Nat → Nat} {us : Nat → Prop} {fr : Nat} {G : CG} {S : CS} {E B1 f : Nat → Int32} {p : Option Nat} {x : Int32} (hK : 20000 ≤ K) (h : fxC N D mp fks its A H k B P g0 r to gl e us fr G S) : f_Tu_fillDescriptors K G (tS S E p B1 f x) = some (tS S E p (dsX (zB B1) (mBk A P) (frB us B P g0) (frI (8 * r) (10 + its.length)) (dgN D its (8 * r)) g0) f x) := by
  obtain ⟨⟨⟨hL, ht, hU, hP, hrm, hfx, hw⟩, hdc, hc, hino⟩, hus, hfr, hfr2, hil⟩ := h
  have hN := hc.2.2.1
  have hlen := ht.2.2.2.1.2.1
  have hB := hL.1.2.2.2
  have hr := hU.1.2.2.2.2.2.2.1
  have hPP := hU.1.2.2.2.2.1
  have hA := hL.1.1
  have hGB : G.n / 2 = B := by rw [hc.1]; exact hL.2.1.2.2.1.symm
  have hg8 : g0 ≤ 8 := by
    have := hU.1.2.2.2.2.2.1
    rcases hPP with q | q | q <;> rw [q] at this <;> omega
  unfold f_Tu_fillDescriptors
  rw [tu_em, q_b]
  have key : ∀ (d g q : Nat), g + d = g0 → d < q → f_Tu_fillDescriptors_6 K G q (nI g) (tS S E p (dsX (zB B1) (mBk A P) (frB us B P g0) (frI (8 * r) (10 + its.length)) (dgN D its (8 * r)) g) f x) = some (tS S E p (dsX (zB B1) (mBk A P) (frB us B P g0) (frI (8 * r) (10 + its.length)) (dgN D its (8 * r)) g0) f x) := by
    intro d
    induction d with
    | zero =>
      intro g q e1 e2
      obtain ⟨q, rfl⟩ : ∃ m, q = m + 1 := ⟨q - 1, by omega⟩
      obtain rfl : g = g0 := by omega
      rw [f_Tu_fillDescriptors_6, show (tS S E p (dsX (zB B1) (mBk A P) (frB us B P g) (frI (8 * r) (10 + its.length)) (dgN D its (8 * r)) g) f x).v_Pl_groups = nI g from hP.2.2.2.2.2, if_pos (nI_le (by omega) (by omega))]
    | succ d ih =>
      intro g q e1 e2
      obtain ⟨q, rfl⟩ : ∃ m, q = m + 1 := ⟨q - 1, by omega⟩
      have hgl : g < g0 := by omega
      have hmb : mBk A P g < 10000 := by
        unfold mBk
        have : g * P ≤ 8 * 256 := Nat.mul_le_mul (by omega) (by omega)
        split <;> omega
      have hgI : g * (8 * r) + 8 * r < 2 ^ 20 := by
        have : g * (8 * r) ≤ 8 * 16000 := Nat.mul_le_mul (by omega) (by omega)
        omega
      have m0 : ∀ Z, f_Pl_mapBlock K G (tS S E p Z f x) (nI g) = some (nI (mBk A P g), tS S E p Z f x) := fun Z => (qC_blocksOf (S := tS S E p Z f x) hU.1 hP hgl).2.2
      have m1 : ∀ Z, f_Pl_freeBlocks K G (tS S E p Z f x) (nI g) = some (nI (frB us B P g0 g), tS S E p Z f x) := fun Z => qC_freeB (S := tS S E p Z f x) (N := N) (by omega) hU.1 hGB hP hus hgl
      have m2 : ∀ Z, f_Pl_freeInodes K G (tS S E p Z f x) (nI g) = some (nI (frI (8 * r) (10 + its.length) g), tS S E p Z f x) := fun Z => tu_freeI (S := tS S E p Z f x) ht hino hgI
      have m3 : ∀ Z, f_Tu_directoriesOf K G (tS S E p Z f x) (nI g) = some (nI (dgN D its (8 * r) g), tS S E p Z f x) := fun Z => tu_dirsOf (S := tS S E p Z f x) (by omega) ht hino hgI
      have v1 : frB us B P g0 g < 2 ^ 31 := by
        have := cntP_le (fun b => ¬ us b) (1 + g * P + gSz B P g0 g)
        have := gr_le hU.1 hgl
        unfold frB
        omega
      have v2 : frI (8 * r) (10 + its.length) g < 2 ^ 31 := by unfold frI; omega
      have v3 : dgN D its (8 * r) g < 2 ^ 31 := by have := cntP_le (dgP D its (8 * r) g) its.length; unfold dgN; omega
      have nx := ih (g + 1) q (by omega) (by omega)
      rw [dsX] at nx
      rw [f_Tu_fillDescriptors_6, show ∀ Z, (tS S E p Z f x).v_Pl_groups = nI g0 from fun _ => hP.2.2.2.2.2, if_neg (nI_ge (by omega) (by omega)), show (32 : Int32) = nI 32 from rfl, pk_mul, Nat.mul_comm g 32, q_l, m0, q_c, tu_p4 (by omega) (by omega), q_b, m0, q_c, show (4 : Int32) = nI 4 from rfl, nI_add, show (1 : Int32) = nI 1 from rfl, nI_add, tu_p4 (by omega) (by omega), q_b, m0, q_c, show (8 : Int32) = nI 8 from rfl, nI_add, show (2 : Int32) = nI 2 from rfl, nI_add, tu_p4 (by omega) (by omega), q_b, m1, q_c, show (12 : Int32) = nI 12 from rfl, nI_add, tu_p2 (by omega) (by omega), q_b, m2, q_c, show (14 : Int32) = nI 14 from rfl, nI_add, tu_p2 (by omega) (by omega), q_b, m3, q_c, show (16 : Int32) = nI 16 from rfl, nI_add, tu_p2 (by omega) (by omega), q_b, nI_add, q_l]
      exact nx
  exact key g0 0 K (by omega) (by omega)
