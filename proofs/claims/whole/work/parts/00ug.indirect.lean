/-! Indirect blocks. -/
def ptX (l : List Nat) (fr : Nat) (Z : Nat → Int32) : Nat → Nat → Int32
  | 0 => Z
  | i + 1 => if fr + i < l.length then st (ptX l fr Z i) (4 * i) (l.getD (fr + i) 0) 4 else ptX l fr Z i
theorem ptX_stop {l : List Nat} {fr i : Nat} {Z : Nat → Int32} (h : l.length ≤ fr + i) : ∀ d, ptX l fr Z (i + d) = ptX l fr Z i := by
  intro d
  induction d with
  | zero => rfl
  | succ d ih => rw [← Nat.add_assoc, ptX, if_neg (by omega), ih]
theorem ptX_ag {l : List Nat} {fr q : Nat} {Z Z' : Nat → Int32} (h : o1 Z q = o1 Z' q) : ∀ i, o1 (ptX l fr Z i) q = o1 (ptX l fr Z' i) q := by
  intro i
  induction i with
  | zero => exact h
  | succ i ih =>
    rw [ptX, ptX]
    by_cases g : fr + i < l.length
    · rw [if_pos g, if_pos g]; exact st_ag ih
    · rw [if_neg g, if_neg g]; exact ih
theorem zB_Zd {B : Nat → Int32} {j : Nat} (h : j < 1024) : o1 (zB B) j = o1 Zd j := by rw [zB_o1 h]; rfl
theorem tu_ptr6 {K N fr : Nat} {l : List Nat} {G : CG} {S : CS} {E f Z : Nat → Int32} {p : Option Nat} (h : tuC N G S) (hl : l.length ≤ N / 2 + 4) (hlb : ∀ b ∈ l, b < 2 ^ 32) (hf : arr f l) (hfr : fr < 2 ^ 20) : ∀ (d i k : Nat), i + d = 256 → d < k → f_Tu_putPointers_6 K G k (nI fr) (nI i) (tS S E p (ptX l fr Z i) f (nI l.length)) = some (tS S E p (ptX l fr Z 256) f (nI l.length)) := by
  have hN := h.2.2.1
  intro d
  induction d with
  | zero =>
    intro i k e1 e2
    obtain ⟨k, rfl⟩ : ∃ m, k = m + 1 := ⟨k - 1, by omega⟩
    obtain rfl : i = 256 := by omega
    rw [f_Tu_putPointers_6, if_pos (by decide)]
  | succ d ih =>
    intro i k e1 e2
    obtain ⟨k, rfl⟩ : ∃ m, k = m + 1 := ⟨k - 1, by omega⟩
    rw [f_Tu_putPointers_6, show (256 : Int32) = nI 256 from rfl, if_neg (nI_ge (by omega) (by omega)), nI_add]
    show (if nI l.length ≤ nI (fr + i) then _ else _) = _
    by_cases g : l.length ≤ fr + i
    · rw [if_pos (nI_le (by omega) (by omega)), ← e1, ptX_stop g]
    · rw [if_neg (nI_ge (by omega) (by omega)), h.1, q_g (q_in (by omega) (by omega)), nI_clamp (by omega), show (4 : Int32) = nI 4 from rfl, pk_mul]
      show Option.bind (f_Tu_putFour K G (tS S E p (ptX l fr Z i) f (nI l.length)) (nI (4 * i)) (f (fr + i))) _ = _
      rw [hf (fr + i) (by omega), qU_4 (by omega) (hlb _ (getD_mem (by omega))), q_b, show (1 : Int32) = nI 1 from rfl, nI_add, q_l]
      have e3 : st (ptX l fr Z i) (4 * i) (l.getD (fr + i) 0) 4 = ptX l fr Z (i + 1) := by rw [ptX, if_pos (by omega)]
      show f_Tu_putPointers_6 K G k (nI fr) (nI (i + 1)) (tS S E p (st (ptX l fr Z i) (4 * i) (l.getD (fr + i) 0) 4) f (nI l.length)) = _
      rw [e3]
      exact ih (i + 1) k (by omega) (by omega)
theorem tu_ptr {K N fr : Nat} {l : List Nat} {G : CG} {S : CS} {E B f : Nat → Int32} {p : Option Nat} (hK : 300 ≤ K) (h : tuC N G S) (hl : l.length ≤ N / 2 + 4) (hlb : ∀ b ∈ l, b < 2 ^ 32) (hf : arr f l) (hfr : fr < 2 ^ 20) : f_Tu_putPointers K G (tS S E p B f (nI l.length)) (nI fr) = some (tS S E p (ptX l fr (zB B) 256) f (nI l.length)) := by
  unfold f_Tu_putPointers
  rw [qU_empty, q_b]
  exact tu_ptr6 (Z := zB B) h hl hlb hf hfr 256 0 K (by decide) (by omega)
/-- pointers to the indirect blocks that follow -/
def dbX (rm : List Nat) (fi : Nat) (Z : Nat → Int32) : Nat → Nat → Int32
  | 0 => Z
  | j + 1 => st (dbX rm fi Z j) (4 * j) (rm.getD (fi + (j + 2)) 0) 4
theorem dbX_ag {rm : List Nat} {fi q : Nat} {Z Z' : Nat → Int32} (h : o1 Z q = o1 Z' q) : ∀ i, o1 (dbX rm fi Z i) q = o1 (dbX rm fi Z' i) q := by
  intro i
  induction i with
  | zero => exact h
  | succ i ih => exact st_ag ih
def inF (rm : List Nat) (fi : Nat) (l : List Nat) : Nat → Nat → List Wr
  | 0, _ => []
  | n + 1, j => blW (rm.getD (fi + j) 0) (ptX l (12 + (j - 1) * 256) Zd 256) ++ inF rm fi l n (j + 1)
def inW (rm : List Nat) (fi : Nat) (l : List Nat) (c : Nat) : List Wr := (if c = 0 then [] else blW (rm.getD fi 0) (ptX l 12 Zd 256)) ++ ((if c ≤ 1 then [] else blW (rm.getD (fi + 1) 0) (dbX rm fi Zd (c - 2))) ++ inF rm fi l (c - 2) 2)
theorem tu_blk {K N b : Nat} {G : CG} {S : CS} {E B f Y : Nat → Int32} {p : Option Nat} {x : Int32} (h : tuC N G S) (hs : 2 * b + 1 < N) (hb : byt (tS S E p B f x)) (hp : pOk p) (hY : ∀ j, j < 1024 → o1 B j = o1 Y j) : tuO S (f_Tu_storeBlock K G (tS S E p B f x) (nI b)) p (blW b Y) E := by
  obtain ⟨E', a1, a2, a3⟩ := tu_block (K := K) h hs hb hp hY
  exact ⟨E', B, f, x, a1, a2, a3⟩
/-- what the state's list is, is kept -/
abbrev tuL (S : CS) (o : Option CS) (p : Option Nat) (L : List Wr) (E f : Nat → Int32) (x : Int32) : Prop := ∃ E' B', o = some (tS S E' (pR p L.length) B' f x) ∧ eqO E' (ApL p L E) ∧ byt (tS S E' (pR p L.length) B' f x)
theorem tu_seqL {S : CS} {a : Option CS} {g : CS → Option CS} {p : Option Nat} {L M : List Wr} {E f : Nat → Int32} {x : Int32} (h1 : tuL S a p L E f x) (h2 : ∀ E' B, eqO E' (ApL p L E) → byt (tS S E' (pR p L.length) B f x) → tuL S (g (tS S E' (pR p L.length) B f x)) (pR p L.length) M E' f x) : tuL S (a.bind g) p (L ++ M) E f x := by
  obtain ⟨E1, B1, a1, a2, a3⟩ := h1
  obtain ⟨E2, B2, b1, b2, b3⟩ := h2 E1 B1 a2 a3
  rw [pR_add] at b1 b3
  refine ⟨E2, B2, ?_, ?_, ?_⟩
  · rw [a1, List.length_append]; exact b1
  · intro q
    rw [b2 q, ApL_app]
    exact ApL_eq M _ _ _ a2 q
  · rw [List.length_append]; exact b3
theorem tu_nilL {S : CS} {E B f : Nat → Int32} {p : Option Nat} {x : Int32} (h : byt (tS S E p B f x)) : tuL S (some (tS S E p B f x)) p [] E f x := ⟨E, B, by rw [List.length_nil, pR_0], fun _ => rfl, by rw [List.length_nil, pR_0]; exact h⟩
theorem tu_blkL {K N b : Nat} {G : CG} {S : CS} {E B f Y : Nat → Int32} {p : Option Nat} {x : Int32} (h : tuC N G S) (hs : 2 * b + 1 < N) (hb : byt (tS S E p B f x)) (hp : pOk p) (hY : ∀ j, j < 1024 → o1 B j = o1 Y j) : tuL S (f_Tu_storeBlock K G (tS S E p B f x) (nI b)) p (blW b Y) E f x := by
  obtain ⟨E', a1, a2, a3⟩ := tu_block (K := K) h hs hb hp hY
  exact ⟨E', B, a1, a2, a3⟩
theorem tu_room {K N B0 i : Nat} {rm : List Nat} {G : CG} {S : CS} {E B f : Nat → Int32} {p : Option Nat} {x : Int32} (h : tuC N G S) (hBN : B0 = N / 2) (hrm : rmC B0 rm S) (hi : i < 2 ^ 31) : f_Pl_room K G (tS S E p B f x) (nI i) = some (nI (rm.getD i 0), tS S E p B f x) := qC_room h.1 hBN (by have := h.2.2.1; omega) (S := tS S E p B f x) hrm hi
theorem tu_ind112 {K N B0 fi c : Nat} {rm l : List Nat} {G : CG} {S : CS} {f : Nat → Int32} (hK : 300 ≤ K) (h : tuC N G S) (hBN : B0 = N / 2) (hrm : rmC B0 rm S) (hrb : ∀ b ∈ rm, 2 * b + 1 < N) (hin : fi + c ≤ rm.length) (hl : l.length ≤ N / 2 + 4) (hlb : ∀ b ∈ l, b < 2 ^ 32) (hf : arr f l) (hc0 : c < 1000) : ∀ (d j q : Nat) (E B : Nat → Int32) (p : Option Nat), j + d = c → 2 ≤ j → d < q → byt (tS S E p B f (nI l.length)) → pOk p → tuL S (f_Tu_buildIndirects_112 K G q (nI fi) (nI c) (nI j) (tS S E p B f (nI l.length))) p (inF rm fi l d j) E f (nI l.length) := by
  have hN := h.2.2.1
  have hfi : fi ≤ 600 := by have := hrm.2.2; omega
  intro d
  induction d with
  | zero =>
    intro j q E B p e1 e2 e3 hb hp
    obtain ⟨q, rfl⟩ : ∃ m, q = m + 1 := ⟨q - 1, by omega⟩
    rw [f_Tu_buildIndirects_112, if_pos (nI_le (by omega) (by omega))]
    exact tu_nilL hb
  | succ d ih =>
    intro j q E B p e1 e2 e3 hb hp
    obtain ⟨q, rfl⟩ : ∃ m, q = m + 1 := ⟨q - 1, by omega⟩
    have e0 : (12 : Int32) + (nI j - 1) * 256 = nI (12 + (j - 1) * 256) := by
      rw [show nI j - 1 = nI (j - 1) from pk_sub (b := 1) (by omega), show (256 : Int32) = nI 256 from rfl, pk_mul, show (12 : Int32) = nI 12 from rfl, nI_add]
    have ep := tu_ptr (K := K) (fr := 12 + (j - 1) * 256) (B := B) (E := E) (p := p) hK h hl hlb hf (by omega)
    have hby : byt (tS S E p (ptX l (12 + (j - 1) * 256) (zB B) 256) f (nI l.length)) := b_Tu_putPointers (K := K) (G := G) (p0 := nI (12 + (j - 1) * 256)) hb _ ep
    rw [f_Tu_buildIndirects_112, if_neg (nI_ge (by omega) (by omega)), e0, ep, q_b, nI_add, tu_room h hBN hrm (by omega), q_c, inF]
    refine tu_seqL (tu_blkL h (hrb _ (getD_mem (by omega))) hby hp (fun j hj => ptX_ag (zB_Zd hj) _)) (fun E' B' a1 a2 => ?_)
    rw [show (1 : Int32) = nI 1 from rfl, nI_add, q_l]
    exact ih (j + 1) q E' B' _ (by omega) (by omega) (by omega) a2 (pR_ok hp _)
theorem tu_ind62 {K N B0 fi c : Nat} {rm l : List Nat} {G : CG} {S : CS} {f : Nat → Int32} (hK : 300 ≤ K) (h : tuC N G S) (hBN : B0 = N / 2) (hrm : rmC B0 rm S) (hrb : ∀ b ∈ rm, 2 * b + 1 < N) (hin : fi + c ≤ rm.length) (hl : l.length ≤ N / 2 + 4) (hlb : ∀ b ∈ l, b < 2 ^ 32) (hf : arr f l) (hc2 : 2 ≤ c) (hc0 : c ≤ 200) {E Z : Nat → Int32} {p : Option Nat} (hZ : ∀ j, j < 1024 → o1 Z j = o1 Zd j) (hp : pOk p) : ∀ (d j q : Nat), j + 2 + d = c → d < q → byt (tS S E p (dbX rm fi Z j) f (nI l.length)) → tuL S (f_Tu_buildIndirects_62 K G q (nI fi) (nI c) (nI (j + 2)) (tS S E p (dbX rm fi Z j) f (nI l.length))) p (blW (rm.getD (fi + 1) 0) (dbX rm fi Zd (c - 2)) ++ inF rm fi l (c - 2) 2) E f (nI l.length) := by
  have hN := h.2.2.1
  have hfi : fi ≤ 600 := by have := hrm.2.2; omega
  intro d
  induction d with
  | zero =>
    intro j q e1 e2 hb
    obtain ⟨q, rfl⟩ : ∃ m, q = m + 1 := ⟨q - 1, by omega⟩
    obtain rfl : c = j + 2 := by omega
    rw [f_Tu_buildIndirects_62, if_pos (nI_le (by omega) (by omega)), show (1 : Int32) = nI 1 from rfl, nI_add, tu_room h hBN hrm (by omega), q_c, Nat.add_sub_cancel]
    refine tu_seqL (tu_blkL h (hrb _ (getD_mem (by omega))) hb hp (fun q hq => dbX_ag (hZ q hq) _)) (fun E' B' a1 a2 => ?_)
    unfold f_Tu_buildIndirects_109
    exact tu_ind112 hK h hBN hrm hrb hin hl hlb hf (by omega) j 2 K E' B' _ (by omega) (by omega) (by omega) a2 (pR_ok hp _)
  | succ d ih =>
    intro j q e1 e2 hb
    obtain ⟨q, rfl⟩ : ∃ m, q = m + 1 := ⟨q - 1, by omega⟩
    have hrl : rm.getD (fi + (j + 2)) 0 < 2 ^ 32 := by
      have := hrb _ (getD_mem (l := rm) (j := fi + (j + 2)) (by omega))
      omega
    have ep := qU_4 (K := K) (G := G) (p := 4 * j) (a := rm.getD (fi + (j + 2)) 0) (S := tS S E p (dbX rm fi Z j) f (nI l.length)) (by omega) hrl
    have hby : byt (tS S E p (dbX rm fi Z (j + 1)) f (nI l.length)) := b_Tu_putFour (K := K) (G := G) hb _ ep
    rw [f_Tu_buildIndirects_62, if_neg (nI_ge (by omega) (by omega)), nI_add, tu_room h hBN hrm (by omega), q_c, show nI (j + 2) - 2 = nI (j + 2 - 2) from pk_sub (b := 2) (by omega), Nat.add_sub_cancel, show (4 : Int32) = nI 4 from rfl, pk_mul, ep, q_b, show (1 : Int32) = nI 1 from rfl, nI_add, q_l]
    exact ih (j + 1) q (by omega) (by omega) hby
theorem tu_ind {K N B0 fi : Nat} {rm l : List Nat} {G : CG} {S : CS} {E B f f' : Nat → Int32} {p : Option Nat} {x own : Int32} (hK : 300 ≤ K) (h : tuC N G S) (hBN : B0 = N / 2) (hrm : rmC B0 rm S) (hrb : ∀ b ∈ rm, 2 * b + 1 < N) (hin : fi + indN l.length ≤ rm.length) (hl : l.length ≤ N / 2 + 4) (hlb : ∀ b ∈ l, b < 2 ^ 32) (hf : arr f' l) (hga : f_Pl_gather K G (tS S E p B f x) own = some (tS S E p B f' (nI l.length))) (hfi : f_Pl_firstIndirect K G (tS S E p B f' (nI l.length)) own = some (nI fi, tS S E p B f' (nI l.length))) (hb : byt (tS S E p B f x)) (hp : pOk p) : tuO S (f_Tu_buildIndirects K G (tS S E p B f x) own) p (inW rm fi l (indN l.length)) E := by
  have hN := h.2.2.1
  have hfi6 : fi ≤ 600 := by have := hrm.2.2; omega
  have hb' : byt (tS S E p B f' (nI l.length)) := b_Pl_gather (K := K) (G := G) (p0 := own) hb _ hga
  have hind : indN l.length ≤ 200 := by
    unfold indN
    split
    · omega
    · split <;> omega
  suffices key : tuL S (f_Tu_buildIndirects K G (tS S E p B f x) own) p (inW rm fi l (indN l.length)) E f' (nI l.length) by
    obtain ⟨E', B', a1, a2, a3⟩ := key
    exact ⟨E', B', f', _, a1, a2, a3⟩
  unfold f_Tu_buildIndirects
  rw [hga, q_b, hfi, q_c]
  show tuL S (Option.bind (f_Pl_indirects K (nI l.length)) _) _ _ _ _ _
  rw [qC_indirects (by omega), q_b]
  have h50 : ∀ (E B : Nat → Int32) (p : Option Nat), byt (tS S E p B f' (nI l.length)) → pOk p → tuL S (f_Tu_buildIndirects_50 K G (nI fi) (nI (indN l.length)) (tS S E p B f' (nI l.length))) p ((if indN l.length ≤ 1 then [] else blW (rm.getD (fi + 1) 0) (dbX rm fi Zd (indN l.length - 2))) ++ inF rm fi l (indN l.length - 2) 2) E f' (nI l.length) := fun E B p hb hp => by
    unfold f_Tu_buildIndirects_50
    by_cases g : indN l.length ≤ 1
    · rw [if_pos (show nI (indN l.length) ≤ 1 from nI_le (b := 1) (by omega) (by omega)), if_pos g, show indN l.length - 2 = 0 by omega, inF]
      unfold f_Tu_buildIndirects_109
      obtain ⟨K', rfl⟩ : ∃ m, K = m + 1 := ⟨K - 1, by omega⟩
      rw [f_Tu_buildIndirects_112, if_pos (show nI (indN l.length) ≤ 2 from nI_le (b := 2) (by omega) (by omega))]
      exact tu_nilL hb
    · rw [if_neg (show ¬ nI (indN l.length) ≤ 1 from nI_ge (a := 1) (by omega) (by omega)), if_neg g, qU_empty, q_b]
      have hby : byt (tS S E p (zB B) f' (nI l.length)) := b_Tu_empty (K := K) (G := G) hb _ rfl
      exact tu_ind62 (Z := zB B) hK h hBN hrm hrb hin hl hlb hf (by omega) hind (fun j hj => zB_Zd hj) hp (indN l.length - 2) 0 K (by omega) (by omega) hby
  unfold inW
  by_cases g : indN l.length = 0
  · rw [if_pos g, if_pos (show nI (indN l.length) ≤ 0 from nI_le (b := 0) (by omega) (by omega))]
    exact h50 E B p hb' hp
  · rw [if_neg g, if_neg (show ¬ nI (indN l.length) ≤ 0 from nI_ge (a := 0) (by omega) (by omega))]
    have ep := tu_ptr (K := K) (fr := 12) (B := B) (E := E) (p := p) hK h hl hlb hf (by omega)
    have hby : byt (tS S E p (ptX l 12 (zB B) 256) f' (nI l.length)) := b_Tu_putPointers (K := K) (G := G) (p0 := nI 12) hb' _ ep
    rw [show (12 : Int32) = nI 12 from rfl, ep, q_b, tu_room h hBN hrm (by omega), q_c]
    exact tu_seqL (tu_blkL h (hrb _ (getD_mem (by omega))) hby hp (fun j hj => ptX_ag (zB_Zd hj) _)) (fun E' B' a1 a2 => h50 E' B' _ a2 (pR_ok hp _))
