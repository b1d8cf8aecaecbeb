/-! Inodes. -/
def piX (Z : Nat → Int32) (p : Nat) (l : List Nat) : Nat → Nat → Int32
  | 0 => Z
  | i + 1 => if i < l.length then st (piX Z p l i) (p + 4 * i) (l.getD i 0) 4 else piX Z p l i
def riX (Z : Nat → Int32) (p : Nat) (rm : List Nat) (fi c : Nat) : Nat → Nat → Int32
  | 0 => Z
  | i + 1 => if i < c then st (riX Z p rm fi c i) (p + 4 * i) (rm.getD (fi + i) 0) 4 else riX Z p rm fi c i
theorem piX_stop {Z : Nat → Int32} {p i : Nat} {l : List Nat} (h : l.length ≤ i) : ∀ d, piX Z p l (i + d) = piX Z p l i := by
  intro d
  induction d with
  | zero => rfl
  | succ d ih => rw [← Nat.add_assoc, piX, if_neg (by omega), ih]
theorem riX_stop {Z : Nat → Int32} {p fi c i : Nat} {rm : List Nat} (h : c ≤ i) : ∀ d, riX Z p rm fi c (i + d) = riX Z p rm fi c i := by
  intro d
  induction d with
  | zero => rfl
  | succ d ih => rw [← Nat.add_assoc, riX, if_neg (by omega), ih]
theorem piX_ag {Z Z' : Nat → Int32} {p q : Nat} {l : List Nat} (h : o1 Z q = o1 Z' q) : ∀ i, o1 (piX Z p l i) q = o1 (piX Z' p l i) q := by
  intro i
  induction i with
  | zero => exact h
  | succ i ih =>
    rw [piX, piX]
    by_cases g : i < l.length
    · rw [if_pos g, if_pos g]; exact st_ag ih
    · rw [if_neg g, if_neg g]; exact ih
theorem riX_ag {Z Z' : Nat → Int32} {p q fi c : Nat} {rm : List Nat} (h : o1 Z q = o1 Z' q) : ∀ i, o1 (riX Z p rm fi c i) q = o1 (riX Z' p rm fi c i) q := by
  intro i
  induction i with
  | zero => exact h
  | succ i ih =>
    rw [riX, riX]
    by_cases g : i < c
    · rw [if_pos g, if_pos g]; exact st_ag ih
    · rw [if_neg g, if_neg g]; exact ih
/-- the times of an inode, if it has them -/
def tmX (Z : Nat → Int32) (a : Nat) (hasT : Bool) (tm : Nat → Nat) : Nat → Int32 := if hasT then st (st (st Z (a + 8) (tm 2) 4) (a + 12) (tm 3) 4) (a + 16) (tm 4) 4 else Z
theorem tmX_ag {Z Z' : Nat → Int32} {a q : Nat} {hasT : Bool} {tm : Nat → Nat} (h : o1 Z q = o1 Z' q) : o1 (tmX Z a hasT tm) q = o1 (tmX Z' a hasT tm) q := by
  unfold tmX
  split
  · exact st_ag (st_ag (st_ag h))
  · exact h
def inX (Z : Nat → Int32) (a mode size : Nat) (hasT : Bool) (tm : Nat → Nat) (links : Nat) (l rm : List Nat) (fi : Nat) : Nat → Int32 := riX (piX (st (st (tmX (st (st Z a mode 2) (a + 4) size 4) a hasT tm) (a + 26) links 2) (a + 28) (2 * (l.length + indN l.length)) 4) (a + 40) l 12) (a + 88) rm fi (indN l.length) 2
theorem inX_ag {Z Z' : Nat → Int32} {a mode size links fi q : Nat} {hasT : Bool} {tm : Nat → Nat} {l rm : List Nat} (h : o1 Z q = o1 Z' q) : o1 (inX Z a mode size hasT tm links l rm fi) q = o1 (inX Z' a mode size hasT tm links l rm fi) q := riX_ag (piX_ag (st_ag (st_ag (tmX_ag (st_ag (st_ag h))))) _) _
theorem tu_in229 {K N B0 fi c a : Nat} {rm : List Nat} {G : CG} {S : CS} {E f Z : Nat → Int32} {p : Option Nat} {x : Int32} (hc : tuC N G S) (hBN : B0 = N / 2) (hrm : rmC B0 rm S) (hrb : ∀ b ∈ rm, 2 * b + 1 < N) (hin : fi + c ≤ rm.length) (hc0 : c < 1000) (ha0 : a + 128 ≤ 1024) : ∀ (d i q : Nat), i + d = 2 → d < q → f_Tu_fillInode_229 K G q (nI a) (nI c) (nI fi) (nI i) (tS S E p (riX Z (a + 88) rm fi c i) f x) = some (tS S E p (riX Z (a + 88) rm fi c 2) f x) := by
  have hN := hc.2.2.1
  have hrl := hrm.2.2
  intro d
  induction d with
  | zero =>
    intro i q e1 e2
    obtain ⟨q, rfl⟩ : ∃ m, q = m + 1 := ⟨q - 1, by omega⟩
    obtain rfl : i = 2 := by omega
    rw [f_Tu_fillInode_229]
    by_cases g : c ≤ 2
    · rw [if_pos (nI_le (by omega) (by omega))]
    · rw [if_neg (nI_ge (by omega) (by omega)), if_pos (show (2 : Int32) ≤ nI 2 from nI_le (a := 2) (b := 2) (by omega) (by omega))]
  | succ d ih =>
    intro i q e1 e2
    obtain ⟨q, rfl⟩ : ∃ m, q = m + 1 := ⟨q - 1, by omega⟩
    rw [f_Tu_fillInode_229]
    by_cases g : c ≤ i
    · rw [if_pos (nI_le (by omega) (by omega)), ← e1, riX_stop g]
    · have hrr : rm.getD (fi + i) 0 < 2 ^ 31 := by have := hrb _ (getD_mem (l := rm) (j := fi + i) (by omega)); omega
      have nx := ih (i + 1) q (by omega) (by omega)
      rw [riX, if_pos (show i < c by omega)] at nx
      rw [if_neg (nI_ge (by omega) (by omega)), if_neg (show ¬ (2 : Int32) ≤ nI i from nI_ge (b := 2) (by omega) (by omega)), nI_add, tu_room hc hBN hrm (by omega), q_c, show (88 : Int32) = nI 88 from rfl, nI_add, show (4 : Int32) = nI 4 from rfl, pk_mul, nI_add, tu_p4 (by omega) (by omega), q_b, show (1 : Int32) = nI 1 from rfl, nI_add, q_l]
      exact nx
theorem tu_in178 {K N B0 fi c a : Nat} {rm l : List Nat} {G : CG} {S : CS} {E f Z : Nat → Int32} {p : Option Nat} (hK : 100 ≤ K) (hc : tuC N G S) (hBN : B0 = N / 2) (hrm : rmC B0 rm S) (hrb : ∀ b ∈ rm, 2 * b + 1 < N) (hin : fi + c ≤ rm.length) (hc0 : c < 1000) (ha0 : a + 128 ≤ 1024) (hl : l.length ≤ N / 2 + 4) (hlb : ∀ b ∈ l, b < 2 ^ 31) (hf : arr f l) : ∀ (d i q : Nat), i + d = 12 → d < q → f_Tu_fillInode_178 K G q (nI a) (nI c) (nI fi) (nI i) (tS S E p (piX Z (a + 40) l i) f (nI l.length)) = some (tS S E p (riX (piX Z (a + 40) l 12) (a + 88) rm fi c 2) f (nI l.length)) := by
  have hN := hc.2.2.1
  have hend : f_Tu_fillInode_226 K G (nI a) (nI c) (nI fi) (tS S E p (piX Z (a + 40) l 12) f (nI l.length)) = some (tS S E p (riX (piX Z (a + 40) l 12) (a + 88) rm fi c 2) f (nI l.length)) := tu_in229 (Z := piX Z (a + 40) l 12) hc hBN hrm hrb hin hc0 ha0 2 0 K (by omega) (by omega)
  intro d
  induction d with
  | zero =>
    intro i q e1 e2
    obtain ⟨q, rfl⟩ : ∃ m, q = m + 1 := ⟨q - 1, by omega⟩
    obtain rfl : i = 12 := by omega
    rw [f_Tu_fillInode_178, if_pos (show (12 : Int32) ≤ nI 12 from nI_le (a := 12) (b := 12) (by omega) (by omega))]
    exact hend
  | succ d ih =>
    intro i q e1 e2
    obtain ⟨q, rfl⟩ : ∃ m, q = m + 1 := ⟨q - 1, by omega⟩
    rw [f_Tu_fillInode_178, if_neg (show ¬ (12 : Int32) ≤ nI i from nI_ge (b := 12) (by omega) (by omega))]
    show (if nI l.length ≤ nI i then _ else _) = _
    by_cases g : l.length ≤ i
    · rw [if_pos (nI_le (by omega) (by omega))]
      have e3 : piX Z (a + 40) l i = piX Z (a + 40) l 12 := by rw [← e1, piX_stop g]
      rw [e3]
      exact hend
    · have hlv : l.getD i 0 < 2 ^ 31 := hlb _ (getD_mem (by omega))
      have nx := ih (i + 1) q (by omega) (by omega)
      rw [piX, if_pos (show i < l.length by omega)] at nx
      rw [if_neg (nI_ge (by omega) (by omega)), hc.1, q_g (q_in (by omega) (by omega)), nI_clamp (by omega)]
      show Option.bind (f_Tu_putFour K G (tS S E p (piX Z (a + 40) l i) f (nI l.length)) ((nI a + 40) + (4 * nI i)) (f i)) _ = _
      rw [hf i (by omega), show (40 : Int32) = nI 40 from rfl, nI_add, show (4 : Int32) = nI 4 from rfl, pk_mul, nI_add, tu_p4 (by omega) (by omega), q_b, show (1 : Int32) = nI 1 from rfl, nI_add, q_l]
      exact nx
/-- how many directories an item has, and two more; 1 of a file -/
noncomputable def lkN (D : Nat → Int32) (fks : List Nat) (its : List It) (i : Nat) : Nat := cif (isDr D its i) (2 + cntP (fun q => isDr D its (fkI fks i + q)) (kcI fks its.length i)) 1
theorem tu_links {K N k i : Nat} {D : Nat → Int32} {mp : Nat → Nat} {fks : List Nat} {its : List It} {e : Nat → Nat} {G : CG} {S : CS} (hK : 10000 ≤ K) (ht : trC N D mp fks its k e G S) (hi : i < its.length) : f_Tu_linksOf K G S (nI i) = some (nI (lkN D fks its i), S) ∧ lkN D fks its i < 2 ^ 16 := by
  have hlen := ht.2.2.2.1.2.1
  have hkd := ht.2.2.2.2.2.1.1
  have hk1 := hkd i (by rw [ht.2.2.2.2.2.1.2]; exact hi)
  have hkc : kcI fks its.length i ≤ 4200 := by unfold kcI; omega
  unfold f_Tu_linksOf lkN
  rw [qC_isDir ht.1 ht.2.1 ht.2.2.1 hi, q_c]
  by_cases w : isDr D its i
  rotate_left
  · rw [b01_f w, if_pos (show nI 0 = 0 from rfl), cif_f w]
    exact ⟨rfl, by decide⟩
  rw [b01_t w, if_neg (show ¬ nI 1 = 0 by decide), cif_t w]
  have key : ∀ (d q w0 : Nat), q + d = kcI fks its.length i → d < w0 → f_Tu_linksOf_17 K G w0 (nI i) (nI (2 + cntP (fun q => isDr D its (fkI fks i + q)) q)) (nI q) S = some (nI (2 + cntP (fun q => isDr D its (fkI fks i + q)) (kcI fks its.length i)), S) := by
    intro d
    induction d with
    | zero =>
      intro q w0 e1 e2
      obtain ⟨w0, rfl⟩ : ∃ m, w0 = m + 1 := ⟨w0 - 1, by omega⟩
      obtain rfl : q = kcI fks its.length i := by omega
      rw [f_Tu_linksOf_17, qC_cnt ht hi, q_c, if_pos (nI_le (by omega) (by omega))]
    | succ d ih =>
      intro q w0 e1 e2
      obtain ⟨w0, rfl⟩ : ∃ m, w0 = m + 1 := ⟨w0 - 1, by omega⟩
      have hj : fkI fks i + q < its.length := by
        have g3 : q < fks.getD (i + 1) its.length - fks.getD i 0 := by have : kcI fks its.length i = fks.getD (i + 1) its.length - fks.getD i 0 := rfl; omega
        have e0 : fkI fks i = fks.getD i 0 := rfl
        omega
      have nx := ih (q + 1) w0 (by omega) (by omega)
      rw [cntP] at nx
      rw [f_Tu_linksOf_17, qC_cnt ht hi, q_c, if_neg (nI_ge (by omega) (by omega)), qC_kd ht hi w, q_c, qC_isDir ht.1 ht.2.1 ht.2.2.1 hj, q_c]
      unfold f_Tu_linksOf_54
      by_cases c : isDr D its (fkI fks i + q)
      · rw [b01_t c, if_neg (show ¬ nI 1 = 0 by decide), nI_1, q_l, nI_1, q_l]
        rw [cif_t c, ← Nat.add_assoc] at nx
        exact nx
      · rw [b01_f c, if_pos (show nI 0 = 0 from rfl), show ∀ x, nI x + 0 = nI x from fun _ => Int32.add_zero _, q_l, nI_1, q_l]
        rw [cif_f c, Nat.add_zero] at nx
        exact nx
  have := cntP_le (fun q => isDr D its (fkI fks i + q)) (kcI fks its.length i)
  exact ⟨key (kcI fks its.length i) 0 K (by omega) (by omega), by omega⟩
