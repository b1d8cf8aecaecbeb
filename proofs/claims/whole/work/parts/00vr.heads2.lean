/-! Superblocks and descriptors laid by the reference. -/
theorem ql_L4 {K p a : Nat} {T : MS} {F U : Nat → Int32} {m : Nat} {R : Rg} (hK : 100 ≤ K) (hp : p + 4 ≤ 524288) (ha : a < 2 ^ 63) : f_Mo_lay K (qS T F U m R) (nI p) 4 (lN a) = some (qS T (st F p a 4) U m R) := ql_lay (n := 4) hK hp ha (by decide)
theorem ql_L2 {K p a : Nat} {T : MS} {F U : Nat → Int32} {m : Nat} {R : Rg} (hK : 100 ≤ K) (hp : p + 2 ≤ 524288) (ha : a < 2 ^ 63) : f_Mo_lay K (qS T F U m R) (nI p) 2 (lN a) = some (qS T (st F p a 2) U m R) := ql_lay (n := 2) hK hp ha (by decide)
theorem ql_freeB {K g : Nat} {A H k B P g0 r : Nat} {T : MS} {us : Nat → Prop} (hK : 1000 ≤ K) (hpl : plN A H k B P g0 r) (hT : plM A H k B P g0 r T) (hg : g < g0) (hU : uM T.v_used us) : f_Mo_freeBlocks K T (nI g) = some (nI (frB us B P g0 g), T) := by
  obtain ⟨y1, y2, y3, y4, y5, y6, y7⟩ := gr_le hpl hg
  have hB := hpl.2.2.2.1
  have key : ∀ (d b w : Nat), b + d = gSz B P g0 g → d < w → f_Mo_freeBlocks_4 K w (nI g) (nI (cntP (fun b => ¬ us b) (1 + g * P + b) - cntP (fun b => ¬ us b) (1 + g * P))) (nI b) T = some (nI (frB us B P g0 g), T) := by
    intro d
    induction d with
    | zero =>
      intro b w e1 e2
      obtain ⟨w, rfl⟩ : ∃ m, w = m + 1 := ⟨w - 1, by omega⟩
      obtain rfl : b = gSz B P g0 g := by omega
      rw [f_Mo_freeBlocks_4, qM_groupSize hpl hT hg, q_c, if_pos (nI_le (Nat.le_refl _) (by omega))]
      rfl
    | succ d ih =>
      intro b w e1 e2
      obtain ⟨w, rfl⟩ : ∃ m, w = m + 1 := ⟨w - 1, by omega⟩
      have hm := cntP_mono (p := fun b => ¬ us b) (a := 1 + g * P) b
      have nx := ih (b + 1) w (by omega) (by omega)
      rw [← Nat.add_assoc, cntP] at nx
      have hun : T.v_used (nI (1 + g * P + b)).toNatClampNeg = b01 (us (1 + g * P + b)) := by rw [nI_clamp (by omega)]; exact hU _ (by omega)
      rw [f_Mo_freeBlocks_4, qM_groupSize hpl hT hg, q_c, if_neg (nI_ge (by omega) (by omega)), hT.2.2.2.2.1, pk_mul, show (1 : Int32) + nI (g * P) = nI (1 + g * P) from nI_add 1 _, nI_add, q_g (q_in (by omega) (by decide)), hun]
      unfold f_Mo_freeBlocks_37
      by_cases c : us (1 + g * P + b)
      · rw [b01_t c, if_neg (show ¬ nI 1 = 0 by decide), show ∀ x, nI x + 0 = nI x from fun _ => Int32.add_zero _, q_l, nI_1, q_l]
        rw [cif_f (fun y => y c), Nat.add_zero] at nx
        exact nx
      · rw [b01_f c, if_pos (show nI 0 = 0 from rfl), nI_1, q_l, nI_1, q_l]
        rw [cif_t c] at nx
        rw [show cntP (fun b => ¬ us b) (1 + g * P + b) - cntP (fun b => ¬ us b) (1 + g * P) + 1 = cntP (fun b => ¬ us b) (1 + g * P + b) + 1 - cntP (fun b => ¬ us b) (1 + g * P) by omega]
        exact nx
  unfold f_Mo_freeBlocks
  have := key (gSz B P g0 g) 0 K (by omega) (by omega)
  rw [Nat.add_zero, Nat.sub_self] at this
  exact this
theorem ql_freeI {K g I len : Nat} {T : MS} (hK : I + 10 ≤ K) (hI : T.v_inodes = nI I) (hit : T.v_items = nI len) (hl : len ≤ 4200) (hgI : g * I + I < 2 ^ 20) : f_Mo_freeInodes K T (nI g) = some (nI (frI I (10 + len) g), T) := by
  have key : ∀ (d q w : Nat), q + d = I → d < w → f_Mo_freeInodes_4 K w (nI g) (nI (q - min q (10 + len - g * I))) (nI (q + 1)) T = some (nI (frI I (10 + len) g), T) := by
    intro d
    induction d with
    | zero =>
      intro q w e1 e2
      obtain ⟨w, rfl⟩ : ∃ m, w = m + 1 := ⟨w - 1, by omega⟩
      obtain rfl : q = I := by omega
      rw [f_Mo_freeInodes_4, hI, if_pos (nI_lt (by omega) (by omega))]
      rfl
    | succ d ih =>
      intro q w e1 e2
      obtain ⟨w, rfl⟩ : ∃ m, w = m + 1 := ⟨w - 1, by omega⟩
      have nx := ih (q + 1) w (by omega) (by omega)
      rw [f_Mo_freeInodes_4, hI, if_neg (nI_nlt (by omega) (by omega)), pk_mul, nI_add]
      unfold f_Mo_isUsed f_Mo_freeInodes_33
      rw [hit, show (10 : Int32) = nI 10 from rfl, nI_add]
      by_cases c : 10 + len < g * I + (q + 1)
      · rw [if_pos (nI_lt c (by omega)), q_c, if_pos rfl, nI_1, q_l, nI_1, q_l]
        rw [show q + 1 - min (q + 1) (10 + len - g * I) = q - min q (10 + len - g * I) + 1 by omega] at nx
        exact nx
      · rw [if_neg (nI_nlt (by omega) (by omega)), q_c, if_neg (by decide), show ∀ x, nI x + 0 = nI x from fun _ => Int32.add_zero _, q_l, nI_1, q_l]
        rw [show q + 1 - min (q + 1) (10 + len - g * I) = q - min q (10 + len - g * I) by omega] at nx
        exact nx
  unfold f_Mo_freeInodes
  have := key I 0 K (by omega) (by omega)
  exact this
theorem ql_folders {K N g I : Nat} {D : Nat → Int32} {fks : List Nat} {its : List It} {T : MS} (hK : 10000 ≤ K) (hM : trM N D fks its T) (hI : T.v_inodes = nI I) (hI1 : 1 ≤ I) (hI2 : I < 2 ^ 20) (hg : g < 2 ^ 20) : f_Mo_foldersOf K T (nI g) = some (nI (dgN D its I g), T) := by
  have hN := hM.1.2
  have ho := hM.2.2.2.1
  have hlen := ho.2.1
  have key : ∀ (d i w : Nat), i + d = its.length → d < w → f_Mo_foldersOf_4 K w (nI g) (nI (cntP (dgP D its I g) i)) (nI i) T = some (nI (dgN D its I g), T) := by
    intro d
    induction d with
    | zero =>
      intro i w e1 e2
      obtain ⟨w, rfl⟩ : ∃ m, w = m + 1 := ⟨w - 1, by omega⟩
      obtain rfl : i = its.length := by omega
      rw [f_Mo_foldersOf_4, hM.2.2.1.1, if_pos (nI_le (Nat.le_refl _) (by omega))]
      rfl
    | succ d ih =>
      intro i w e1 e2
      obtain ⟨w, rfl⟩ : ∃ m, w = m + 1 := ⟨w - 1, by omega⟩
      have hi : i < its.length := by omega
      have hn : 2 ≤ nmr i ∧ nmr i ≤ 4300 := by unfold nmr; split <;> omega
      have nx := ih (i + 1) w (by omega) (by omega)
      rw [cntP] at nx
      rw [f_Mo_foldersOf_4, hM.2.2.1.1, if_neg (nI_ge (by omega) (by omega)), qM_isFolder hM.2.1.1 hN hM.2.2.1 ho hi, q_c]
      unfold f_Mo_foldersOf_41 f_Mo_foldersOf_42
      by_cases c : isDr D its i
      · rw [b01_t (show i = 0 ∨ o1 D (isp (itr its i) + 11) / 16 % 2 = 1 from c), if_neg (show ¬ nI 1 = 0 by decide), ql_num (by omega), q_c, hI, q_g (nI_ne0 (by omega) (by omega)), show nI (nmr i) - 1 = nI (nmr i - 1) from pk_sub (b := 1) (by omega), pk_div (by omega) (by omega) (by omega)]
        have hdv : (nmr i - 1) / I < 2 ^ 31 := Nat.lt_of_le_of_lt (Nat.div_le_self _ _) (by omega)
        by_cases c2 : (nmr i - 1) / I = g
        · have : dgP D its I g i := ⟨c, by rw [← c2]; exact Nat.div_mul_le_self _ _, by rw [← c2]; have h1 := Nat.div_add_mod (nmr i - 1) I; have h2 := Nat.mod_lt (nmr i - 1) (show 0 < I by omega); rw [Nat.mul_comm] at h1; omega⟩
          rw [if_pos (by rw [c2]), nI_1, q_l, nI_1, q_l]
          rw [cif_t this] at nx
          exact nx
        · have : ¬ dgP D its I g i := fun y => c2 (by
            have h3 : nmr i - 1 = I * g + (nmr i - 1 - g * I) := by rw [Nat.mul_comm]; omega
            rw [h3, Nat.mul_add_div (by omega), Nat.div_eq_of_lt (by omega), Nat.add_zero])
          rw [if_neg (fun y => c2 ((nI_eq hdv (by omega)).mp y)), show ∀ x, nI x + 0 = nI x from fun _ => Int32.add_zero _, q_l, nI_1, q_l]
          rw [cif_f this, Nat.add_zero] at nx
          exact nx
      · rw [b01_f (show ¬ (i = 0 ∨ o1 D (isp (itr its i) + 11) / 16 % 2 = 1) from c), if_pos (show nI 0 = 0 from rfl), show ∀ x, nI x + 0 = nI x from fun _ => Int32.add_zero _, q_l, nI_1, q_l]
        rw [cif_f (fun y => c y.1), Nat.add_zero] at nx
        exact nx
  unfold f_Mo_foldersOf
  exact key its.length 0 K (by omega) (by omega)
/-- the label's bytes, blanks where there is none -/
def lby (D : Nat → Int32) (lb : Option Nat) (i : Nat) : Nat := match lb with
  | some p => o1 D (p + i)
  | none => 32
theorem ql_head {K g fr : Nat} {N : Nat} {D : Nat → Int32} {fks : List Nat} {its : List It} {A H k B P g0 r to : Nat} {gl e : Nat → Nat} {T : MS} {F U : Nat → Int32} {n : Nat} {R : Rg} {us : Nat → Prop} {lb : Option Nat} (hK : 20000 ≤ K) (h : tnU N D fks its A H k B P g0 r to gl e T) (hg : g < g0) (hU : uM U us) (hfr : fr < 2 ^ 20) (hlb : T.v_label = lbI lb) (hlp : ∀ p, lb = some p → p + 32 ≤ 512 * N) (hz : ∀ j, j < 2048 → o1 F (1024 * (1 + g * P) + j) = 0) : ∃ F', f_Mo_makeHead K (qS T F U n R) (nI g) (lN fr) = some (qS T F' U n R) ∧ bkA F' (1 + g * P) (sbL Zd (g0 * (8 * r)) B fr (g0 * (8 * r) - (10 + its.length)) P (8 * r) g (o4 D 67) (lby D lb)) ∧ bkA F' (1 + g * P + 1) (dsX Zd (mBk A P) (frB us B P g0) (frI (8 * r) (10 + its.length)) (dgN D its (8 * r)) g0) ∧ ∀ q, (q < 1024 * (1 + g * P) ∨ 1024 * (1 + g * P) + 2048 ≤ q) → o1 F' q = o1 F q := by
  obtain ⟨⟨hM, ⟨hpl, hT, hI, hr, hil⟩, hbd, hmv, -, -⟩, hu, hgl⟩ := h
  have hN := hM.1.2
  have hlen := hM.2.2.2.1.2.1
  obtain ⟨y1, y2, y3, y4, y5, y6, y7⟩ := gr_le hpl hg
  obtain ⟨z1, z2, z3, z4, z5⟩ := gr_in hpl hg (hu.2.1.1 g hg)
  have hB := hpl.2.2.2.1
  have hr2 : r ≤ 256 := by
    have := hu.2.1.1 g hg
    unfold lstB at this
    split at this <;> omega
  have hgi : g0 * (8 * r) ≤ 8 * 2048 := Nat.mul_le_mul (by omega) (by omega)
  have hPP := hpl.2.2.2.2.1
  -- descriptors
  have h355 : ∀ (d h w : Nat) (F1 : Nat → Int32), h + d = g0 → d < w → bkA F1 (1 + g * P + 1) (dsX Zd (mBk A P) (frB us B P g0) (frI (8 * r) (10 + its.length)) (dgN D its (8 * r)) h) → ∃ F', f_Mo_makeHead_355 K w (nI (1024 * (1 + g * P))) (nI h) (qS T F1 U n R) = some (qS T F' U n R) ∧ bkA F' (1 + g * P + 1) (dsX Zd (mBk A P) (frB us B P g0) (frI (8 * r) (10 + its.length)) (dgN D its (8 * r)) g0) ∧ ∀ q, (q < 1024 * (1 + g * P + 1) ∨ 1024 * (1 + g * P + 1) + 1024 ≤ q) → o1 F' q = o1 F1 q := by
    intro d
    induction d with
    | zero =>
      intro h w F1 e1 e2 hb
      obtain ⟨w, rfl⟩ : ∃ m, w = m + 1 := ⟨w - 1, by omega⟩
      obtain rfl : h = g0 := by omega
      refine ⟨F1, ?_, hb, fun _ _ => rfl⟩
      rw [f_Mo_makeHead_355, show (qS T F1 U n R).v_groups = nI h from hT.2.2.2.2.2.1, if_pos (nI_le (Nat.le_refl _) (by omega))]
    | succ d ih =>
      intro h w F1 e1 e2 hb
      obtain ⟨w, rfl⟩ : ∃ m, w = m + 1 := ⟨w - 1, by omega⟩
      have hh : h < g0 := by omega
      have hmb : mBk A P h < 10000 := by
        have : h * P ≤ 8 * 256 := Nat.mul_le_mul (by omega) (by omega)
        unfold mBk
        split <;> omega
      have hgI : h * (8 * r) + 8 * r < 2 ^ 20 := by
        have : h * (8 * r) ≤ 8 * 2048 := Nat.mul_le_mul (by omega) (by omega)
        omega
      have m0 : ∀ Z, f_Mo_mapOf K (qS T Z U n R) (nI h) = some (nI (mBk A P h), qS T Z U n R) := fun Z => qM_mapOf (T := qS T Z U n R) hpl hT hh
      have m1 : ∀ Z, f_Mo_freeBlocks K (qS T Z U n R) (nI h) = some (nI (frB us B P g0 h), qS T Z U n R) := fun Z => ql_freeB (T := qS T Z U n R) (by omega) hpl hT hh hU
      have m2 : ∀ Z, f_Mo_freeInodes K (qS T Z U n R) (nI h) = some (nI (frI (8 * r) (10 + its.length) h), qS T Z U n R) := fun Z => ql_freeI (T := qS T Z U n R) (by omega) hI hM.2.2.1.1 (by omega) hgI
      have m3 : ∀ Z, f_Mo_foldersOf K (qS T Z U n R) (nI h) = some (nI (dgN D its (8 * r) h), qS T Z U n R) := fun Z => ql_folders (T := qS T Z U n R) (by omega) hM hI (by omega) (by omega) (by omega)
      have v1 : frB us B P g0 h < 2 ^ 31 := by
        have := cntP_le (fun b => ¬ us b) (1 + h * P + gSz B P g0 h)
        have := gr_le hpl hh
        unfold frB
        omega
      have v2 : frI (8 * r) (10 + its.length) h < 2 ^ 31 := by unfold frI; omega
      have v3 : dgN D its (8 * r) h < 2 ^ 31 := by have := cntP_le (dgP D its (8 * r) h) its.length; unfold dgN; omega
      have ex : (nI (1024 * (1 + g * P)) + 1024) + 32 * nI h = nI (1024 * (1 + g * P + 1) + 32 * h) := by
        rw [show (1024 : Int32) = nI 1024 from rfl, nI_add, show (32 : Int32) = nI 32 from rfl, pk_mul, nI_add, show 1024 * (1 + g * P) + 1024 = 1024 * (1 + g * P + 1) by omega]
      let x := 1024 * (1 + g * P + 1)
      obtain ⟨F', a1, a2, a3⟩ := ih (h + 1) w (st (st (st (st (st (st F1 (1024 * (1 + g * P + 1) + 32 * h) (mBk A P h) 4) (1024 * (1 + g * P + 1) + 32 * h + 4) (mBk A P h + 1) 4) (1024 * (1 + g * P + 1) + 32 * h + 8) (mBk A P h + 2) 4) (1024 * (1 + g * P + 1) + 32 * h + 12) (frB us B P g0 h) 2) (1024 * (1 + g * P + 1) + 32 * h + 14) (frI (8 * r) (10 + its.length) h) 2) (1024 * (1 + g * P + 1) + 32 * h + 16) (dgN D its (8 * r) h) 2) (by omega) (by omega) (by
        rw [dsX]
        exact bk_st (q := 32 * h + 16) (bk_st (q := 32 * h + 14) (bk_st (q := 32 * h + 12) (bk_st (q := 32 * h + 8) (bk_st (q := 32 * h + 4) (bk_st hb))))))
      refine ⟨F', ?_, a2, fun q hq => by rw [a3 q hq, st_out (by omega), st_out (by omega), st_out (by omega), st_out (by omega), st_out (by omega), st_out (by omega)]⟩
      rw [f_Mo_makeHead_355, show (qS T F1 U n R).v_groups = nI g0 from hT.2.2.2.2.2.1, if_neg (nI_ge (by omega) (by omega)), ex, q_l, m0, q_c, ql_4 (by omega) (by omega) (by omega), q_b, m0, q_c, show ∀ y, nI y + (4 : Int32) = nI (y + 4) from fun y => nI_add y 4, nI_1, ql_4 (by omega) (by omega) (by omega), q_b, m0, q_c, show ∀ y, nI y + (8 : Int32) = nI (y + 8) from fun y => nI_add y 8, show ∀ y, nI y + (2 : Int32) = nI (y + 2) from fun y => nI_add y 2, ql_4 (by omega) (by omega) (by omega), q_b, m1, q_c, show ∀ y, nI y + (12 : Int32) = nI (y + 12) from fun y => nI_add y 12, ql_2 (by omega) (by omega) v1, q_b, m2, q_c, show ∀ y, nI y + (14 : Int32) = nI (y + 14) from fun y => nI_add y 14, ql_2 (by omega) (by omega) v2, q_b, m3, q_c, show ∀ y, nI y + (16 : Int32) = nI (y + 16) from fun y => nI_add y 16, ql_2 (by omega) (by omega) v3, q_b, nI_1, q_l]
      exact a1
  have h280 : ∀ Z : Nat → Int32, ∃ Z', (if (0 : Int32) ≤ (qS T Z U n R).v_label then f_Mo_makeHead_280 K (nI (1024 * (1 + g * P))) 11 (qS T Z U n R) else f_Mo_makeHead_280 K (nI (1024 * (1 + g * P))) 0 (qS T Z U n R)) = f_Mo_makeHead_355 K K (nI (1024 * (1 + g * P))) 0 (qS T Z' U n R) ∧ (∀ Y, bkA Z (1 + g * P) Y → bkA Z' (1 + g * P) (nbX Y 120 (lby D lb) (lbN (lby D lb) 11))) ∧ ∀ q, (q < 1024 * (1 + g * P) ∨ 1024 * (1 + g * P) + 1024 ≤ q) → o1 Z' q = o1 Z q := fun Z => by
    cases lb with
    | none =>
      have hl : (qS T Z U n R).v_label = -1 := hlb
      refine ⟨Z, ?_, fun Y hY => ?_, fun _ _ => rfl⟩
      · rw [hl, if_neg (by decide)]
        unfold f_Mo_makeHead_280
        obtain ⟨K', eK⟩ : ∃ m, K = m + 1 := ⟨K - 1, by omega⟩
        have e1 : f_Mo_makeHead_282 K K (nI (1024 * (1 + g * P))) 0 (qS T Z U n R) = f_Mo_makeHead_282 K (K' + 1) (nI (1024 * (1 + g * P))) 0 (qS T Z U n R) := by rw [← eK]
        have e2 : f_Mo_makeHead_314 K K (nI (1024 * (1 + g * P))) 0 0 (qS T Z U n R) = f_Mo_makeHead_314 K (K' + 1) (nI (1024 * (1 + g * P))) 0 0 (qS T Z U n R) := by rw [← eK]
        rw [e1, f_Mo_makeHead_282, if_pos (by decide)]
        unfold f_Mo_makeHead_311
        rw [e2, f_Mo_makeHead_314, if_pos (by decide)]
      · rw [lbN_no (by0 := lby D none) 11 (fun _ _ => rfl)]
        exact hY
    | some lp =>
      have hl : T.v_label = nI lp := hlb
      have hlp := hlp lp rfl
      have hb0 : ∀ i, lby D (some lp) i = o1 D (lp + i) := fun _ => rfl
      have h282 : ∀ (m w : Nat), m ≤ 11 → m < w → f_Mo_makeHead_282 K w (nI (1024 * (1 + g * P))) (nI m) (qS T Z U n R) = f_Mo_makeHead_314 K K (nI (1024 * (1 + g * P))) (nI (lbN (lby D (some lp)) m)) 0 (qS T Z U n R) := by
        intro m
        induction m with
        | zero =>
          intro w _ e2
          obtain ⟨w, rfl⟩ : ∃ m, w = m + 1 := ⟨w - 1, by omega⟩
          rw [f_Mo_makeHead_282, if_pos (by decide)]
          rfl
        | succ m ih =>
          intro w e1 e2
          obtain ⟨w, rfl⟩ : ∃ m, w = m + 1 := ⟨w - 1, by omega⟩
          have e3 : nI (lp + (m + 1)) - 1 = nI (lp + m) := pk_sub (a := lp + (m + 1)) (b := 1) (by omega)
          rw [f_Mo_makeHead_282, if_neg (show ¬ nI (m + 1) ≤ 0 from nI_nle (by omega) (by omega)), show (qS T Z U n R).v_label = nI lp from hl, nI_add, e3, rM1 D (T := qS T Z U n R) hM.2.1.1 (by omega), q_c, lbN, hb0]
          by_cases c : o1 D (lp + m) = 32
          · rw [if_pos c, c, if_pos (show nI 32 = 32 from rfl), show nI (m + 1) + (-1) = nI m from (Int32.sub_eq_add_neg (nI (m + 1)) 1).symm.trans (pk_sub (a := m + 1) (b := 1) (by omega)), q_l]
            exact ih w (by omega) (by omega)
          · have := o1_lt D (lp + m)
            rw [if_neg c, if_neg (show ¬ nI (o1 D (lp + m)) = 32 from fun y => c ((nI_eq (b := 32) (by omega) (by decide)).mp y))]
            rfl
      have hn11 := lbN_le (lby D (some lp)) 11
      have h314 : ∀ (d q w : Nat), q + d = lbN (lby D (some lp)) 11 → d < w → f_Mo_makeHead_314 K w (nI (1024 * (1 + g * P))) (nI (lbN (lby D (some lp)) 11)) (nI q) (qS T (gpB Z (fun i => D (lp + i)) (1024 * (1 + g * P) + 120) q) U n R) = f_Mo_makeHead_355 K K (nI (1024 * (1 + g * P))) 0 (qS T (gpB Z (fun i => D (lp + i)) (1024 * (1 + g * P) + 120) (lbN (lby D (some lp)) 11)) U n R) := by
        intro d
        induction d with
        | zero =>
          intro q w e1 e2
          obtain ⟨w, rfl⟩ : ∃ m, w = m + 1 := ⟨w - 1, by omega⟩
          obtain rfl : q = lbN (lby D (some lp)) 11 := by omega
          rw [f_Mo_makeHead_314, if_pos (nI_le (Nat.le_refl _) (by omega))]
        | succ d ih =>
          intro q w e1 e2
          obtain ⟨w, rfl⟩ : ∃ m, w = m + 1 := ⟨w - 1, by omega⟩
          have nx := ih (q + 1) w (by omega) (by omega)
          rw [gpB] at nx
          rw [f_Mo_makeHead_314, if_neg (nI_ge (by omega) (by omega)), show (qS T (gpB Z (fun i => D (lp + i)) (1024 * (1 + g * P) + 120) q) U n R).v_label = nI lp from hl, nI_add, q_g (q_in (by omega) (by decide)), show (120 : Int32) = nI 120 from rfl, nI_add, nI_add, q_g (q_in (by omega) (by decide)), nI_clamp (by omega), nI_clamp (by omega), q_l, nI_1, q_l, show (qS T (gpB Z (fun i => D (lp + i)) (1024 * (1 + g * P) + 120) q) U n R).v_disk (lp + q) = D (lp + q) by rw [← hM.2.1.1]; rfl]
          exact nx
      refine ⟨gpB Z (fun i => D (lp + i)) (1024 * (1 + g * P) + 120) (lbN (lby D (some lp)) 11), ?_, fun Y hY j hj => ?_, fun q hq => ?_⟩
      · rw [show (qS T Z U n R).v_label = nI lp from hl, if_pos (show (0 : Int32) ≤ nI lp from nI_le (a := 0) (by omega) (by omega))]
        unfold f_Mo_makeHead_280
        exact (h282 11 K (by omega) (by omega)).trans (h314 (lbN (lby D (some lp)) 11) 0 K (by omega) (by omega))
      · rw [gpB_o1, nbX_o1]
        by_cases c : 120 ≤ j ∧ j < 120 + lbN (lby D (some lp)) 11
        · rw [if_pos (by omega), if_pos c, hb0, Nat.mod_eq_of_lt (o1_lt _ _), show 1024 * (1 + g * P) + j - (1024 * (1 + g * P) + 120) = j - 120 by omega]
          rfl
        · rw [if_neg (by omega), if_neg c]
          exact hY j hj
      · rw [gpB_o1, if_neg (by omega)]
  let X := 1024 * (1 + g * P)
  have h67 := o4_lt D 67
  let FS := st (st (st (st (st (st (st (st (st (st (st (st (st (st (st (st (st (st F X (g0 * (8 * r)) 4) (X + 4) B 4) (X + 12) fr 4) (X + 16) (g0 * (8 * r) - (10 + its.length)) 4) (X + 20) 1 4) (X + 32) P 4) (X + 36) P 4) (X + 40) (8 * r) 4) (X + 54) 65535 2) (X + 56) 61267 2) (X + 58) 1 2) (X + 60) 1 2) (X + 76) 1 4) (X + 84) 11 4) (X + 88) 128 2) (X + 90) g 2) (X + 96) 2 4) (X + 104) (o4 D 67) 4
  have hz0 : bkA F (1 + g * P) Zd := fun j hj => by rw [hz j (by omega)]; rfl
  have hFS : bkA FS (1 + g * P) (sbX Zd (g0 * (8 * r)) B fr (g0 * (8 * r) - (10 + its.length)) P (8 * r) g (o4 D 67)) := bk_st (bk_st (bk_st (bk_st (bk_st (bk_st (bk_st (bk_st (bk_st (bk_st (bk_st (bk_st (bk_st (bk_st (bk_st (bk_st (bk_st (bk_st (q := 0) hz0)))))))))))))))))
  have hFo : ∀ q, (q < 1024 * (1 + g * P) ∨ 1024 * (1 + g * P) + 1024 ≤ q) → o1 FS q = o1 F q := fun q hq => by
    have hq : q < X ∨ X + 1024 ≤ q := hq
    show o1 (st (st (st (st (st (st (st (st (st (st (st (st (st (st (st (st (st (st F X _ 4) (X + 4) _ 4) (X + 12) _ 4) (X + 16) _ 4) (X + 20) _ 4) (X + 32) _ 4) (X + 36) _ 4) (X + 40) _ 4) (X + 54) _ 2) (X + 56) _ 2) (X + 58) _ 2) (X + 60) _ 2) (X + 76) _ 4) (X + 84) _ 4) (X + 88) _ 2) (X + 90) _ 2) (X + 96) _ 4) (X + 104) _ 4) q = _
    rw [st_out (by omega), st_out (by omega), st_out (by omega), st_out (by omega), st_out (by omega), st_out (by omega), st_out (by omega), st_out (by omega), st_out (by omega), st_out (by omega), st_out (by omega), st_out (by omega), st_out (by omega), st_out (by omega), st_out (by omega), st_out (by omega), st_out (by omega), st_out (by omega)]
  obtain ⟨Z', c1, c2, c3⟩ := h280 FS
  obtain ⟨F', d1, d2, d3⟩ := h355 g0 0 K Z' (by omega) (by omega) (fun j hj => by
    rw [c3 _ (by omega), hFo _ (by omega), show 1024 * (1 + g * P + 1) + j = 1024 * (1 + g * P) + (1024 + j) by omega, hz _ (by omega)]
    rfl)
  refine ⟨F', ?_, fun j hj => ?_, d2, fun q hq => ?_⟩
  · have f1 : ∀ Z, (qS T Z U n R).v_groups = nI g0 := fun _ => hT.2.2.2.2.2.1
    have f2 : ∀ Z, (qS T Z U n R).v_inodes = nI (8 * r) := fun _ => hI
    have f3 : ∀ Z, (qS T Z U n R).v_blocks = nI B := fun _ => hT.2.2.2.1
    have f5 : ∀ Z, (qS T Z U n R).v_per = nI P := fun _ => hT.2.2.2.2.1
    have f6 : ∀ Z, (qS T Z U n R).v_items = nI its.length := fun _ => hM.2.2.1.1
    have f7 : ∀ Z, f_Mo_four K (qS T Z U n R) 67 = some (nI (o4 D 67), qS T Z U n R) := fun Z => rM4 D (p := 67) (T := qS T Z U n R) hM.2.1.1 (by omega)
    have ad : ∀ (y : Nat), nI X + nI y = nI (X + y) := fun y => nI_add X y
    have hX : X + 2048 ≤ 524288 := by show 1024 * (1 + g * P) + 2048 ≤ 524288; omega
    unfold f_Mo_makeHead
    rw [f5, pk_mul, show (1 : Int32) + nI (g * P) = nI (1 + g * P) from nI_add 1 _, show (1024 : Int32) * nI (1 + g * P) = nI X from pk_mul 1024 _, q_l, f1, f2, pk_mul, ql_4 (by omega) (by omega) (by omega), q_b, show nI X + (4 : Int32) = nI (X + 4) from ad 4, f3, ql_4 (by omega) (by omega) (by omega), q_b, show nI X + (12 : Int32) = nI (X + 12) from ad 12, ql_L4 (by omega) (by omega) (by omega), q_b, f1, f2, f6, pk_mul, show nI (g0 * (8 * r)) - 10 = nI (g0 * (8 * r) - 10) from pk_sub (b := 10) (by omega), pk_sub (by omega), show g0 * (8 * r) - 10 - its.length = g0 * (8 * r) - (10 + its.length) by omega, show nI X + (16 : Int32) = nI (X + 16) from ad 16, ql_4 (by omega) (by omega) (by omega), q_b, show nI X + (20 : Int32) = nI (X + 20) from ad 20, show (1 : Int64) = lN 1 from rfl, ql_L4 (by omega) (by omega) (by omega), q_b, show nI X + (32 : Int32) = nI (X + 32) from ad 32, f5, ql_4 (by omega) (by omega) (by omega), q_b, show nI X + (36 : Int32) = nI (X + 36) from ad 36, f5, ql_4 (by omega) (by omega) (by omega), q_b, show nI X + (40 : Int32) = nI (X + 40) from ad 40, f2, ql_4 (by omega) (by omega) (by omega), q_b, show nI X + (54 : Int32) = nI (X + 54) from ad 54, show (65535 : Int64) = lN 65535 from rfl, ql_L2 (by omega) (by omega) (by omega), q_b, show nI X + (56 : Int32) = nI (X + 56) from ad 56, show (61267 : Int64) = lN 61267 from rfl, ql_L2 (by omega) (by omega) (by omega), q_b, show nI X + (58 : Int32) = nI (X + 58) from ad 58, ql_L2 (by omega) (by omega) (by omega), q_b, show nI X + (60 : Int32) = nI (X + 60) from ad 60, ql_L2 (by omega) (by omega) (by omega), q_b, show nI X + (76 : Int32) = nI (X + 76) from ad 76, ql_L4 (by omega) (by omega) (by omega), q_b, show nI X + (84 : Int32) = nI (X + 84) from ad 84, show (11 : Int64) = lN 11 from rfl, ql_L4 (by omega) (by omega) (by omega), q_b, show nI X + (88 : Int32) = nI (X + 88) from ad 88, show (128 : Int64) = lN 128 from rfl, ql_L2 (by omega) (by omega) (by omega), q_b, show nI X + (90 : Int32) = nI (X + 90) from ad 90, ql_2 (by omega) (by omega) (by omega), q_b, show nI X + (96 : Int32) = nI (X + 96) from ad 96, show (2 : Int64) = lN 2 from rfl, ql_L4 (by omega) (by omega) (by omega), q_b, f7, q_c, show nI X + (104 : Int32) = nI (X + 104) from ad 104, ql_4 (by omega) (by omega) h67, q_b]
    exact c1.trans d1
  · rw [d3 _ (by omega)]
    exact c2 _ hFS j hj
  · rw [d3 q (by omega), c3 q (by omega), hFo q (by omega)]
