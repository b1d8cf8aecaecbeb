/-! An inode laid by the reference. -/
def inPos (A P I i : Nat) : Nat := 1024 * (mBk A P ((i - 1) / I) + 2) + 128 * ((i - 1) % I)
theorem ql_inodeAt {K i : Nat} {A H k B P g0 r : Nat} {T : MS} {F U : Nat → Int32} {n : Nat} {R : Rg} (h : plN A H k B P g0 r) (hT : plM A H k B P g0 r T) (hI : T.v_inodes = nI (8 * r)) (hr : 1 ≤ r) (hi : 1 ≤ i ∧ i ≤ g0 * (8 * r)) : f_Mo_inodeAt K (qS T F U n R) (nI i) = some (nI (inPos A P (8 * r) i), qS T F U n R) := by
  have hr2 := h.2.2.2.2.2.2.1
  have hg8 : g0 ≤ 8 := by
    have h1 := h.2.2.2.1
    have := h.2.2.2.2.2.1
    rcases h.2.2.2.2.1 with q | q | q <;> rw [q] at this <;> omega
  have hgr : g0 * (8 * r) ≤ 8 * 16000 := Nat.mul_le_mul hg8 (by omega)
  have hg : (i - 1) / (8 * r) < g0 := (Nat.div_lt_iff_lt_mul (by omega)).mpr (by omega)
  have hm := Nat.div_add_mod (i - 1) (8 * r)
  have hml := Nat.mod_lt (i - 1) (show 0 < 8 * r by omega)
  unfold f_Mo_inodeAt
  rw [show (qS T F U n R).v_inodes = nI (8 * r) from hI, q_g (nI_ne0 (by omega) (by omega)), show nI i - 1 = nI (i - 1) from pk_sub (b := 1) hi.1, pk_div (by omega) (by omega) (by omega), qM_mapOf (T := qS T F U n R) h hT hg, q_c, show (qS T F U n R).v_inodes = nI (8 * r) from hI, q_g (nI_ne0 (by omega) (by omega)), pk_div (by omega) (by omega) (by omega), pk_mul, pk_sub (by rw [Nat.mul_comm]; omega), show (2 : Int32) = nI 2 from rfl, nI_add, show (1024 : Int32) = nI 1024 from rfl, pk_mul, show (128 : Int32) = nI 128 from rfl, pk_mul, nI_add]
  unfold inPos
  rw [show i - 1 - (i - 1) / (8 * r) * (8 * r) = (i - 1) % (8 * r) by rw [Nat.mul_comm] at hm; omega]
theorem ql_4W {K p a : Nat} {T : MS} {F U : Nat → Int32} {m : Nat} {R : Rg} (hK : 100 ≤ K) (hp : p + 4 ≤ 524288) (ha : a < 2 ^ 32) : f_Mo_lay K (qS T F U m R) (nI p) (nI 4) (nI a).toInt64 = some (qS T (st F p a 4) U m R) := ql_4 hK hp ha
theorem piX_out {Z : Nat → Int32} {p q : Nat} {l : List Nat} : ∀ {i : Nat}, (q < p ∨ p + 4 * i ≤ q) → o1 (piX Z p l i) q = o1 Z q := by
  intro i
  induction i with
  | zero => intro _; rfl
  | succ i ih =>
    intro h
    rw [piX]
    by_cases g : i < l.length
    · rw [if_pos g, st_out (by omega), ih (by omega)]
    · rw [if_neg g, ih (by omega)]
/-- the same put at another place -/
theorem sh_st {X Y : Nat → Int32} {a b q v n j : Nat} (h : o1 X (a + j) = o1 Y (b + j)) : o1 (st X (a + q) v n) (a + j) = o1 (st Y (b + q) v n) (b + j) := by
  rw [st_o1, st_o1, h]
  by_cases g : q ≤ j ∧ j < q + n
  · rw [if_pos (by omega), if_pos (by omega), show a + j - (a + q) = j - q by omega, show b + j - (b + q) = j - q by omega]
  · rw [if_neg (by omega), if_neg (by omega)]
theorem sh_pi {X Y : Nat → Int32} {a b p j : Nat} {l : List Nat} (h : o1 X (a + j) = o1 Y (b + j)) : ∀ i, o1 (piX X (a + p) l i) (a + j) = o1 (piX Y (b + p) l i) (b + j) := by
  intro i
  induction i with
  | zero => exact h
  | succ i ih =>
    rw [piX, piX]
    by_cases g : i < l.length
    · rw [if_pos g, if_pos g, Nat.add_assoc, Nat.add_assoc]; exact sh_st ih
    · rw [if_neg g, if_neg g]; exact ih
theorem sh_ri {X Y : Nat → Int32} {a b p j fi c : Nat} {rm : List Nat} (h : o1 X (a + j) = o1 Y (b + j)) : ∀ i, o1 (riX X (a + p) rm fi c i) (a + j) = o1 (riX Y (b + p) rm fi c i) (b + j) := by
  intro i
  induction i with
  | zero => exact h
  | succ i ih =>
    rw [riX, riX]
    by_cases g : i < c
    · rw [if_pos g, if_pos g, Nat.add_assoc, Nat.add_assoc]; exact sh_st ih
    · rw [if_neg g, if_neg g]; exact ih
theorem sh_st0 {X Y : Nat → Int32} {a b v n j : Nat} (h : o1 X (a + j) = o1 Y (b + j)) : o1 (st X a v n) (a + j) = o1 (st Y b v n) (b + j) := sh_st (q := 0) h
theorem sh_in {X Y : Nat → Int32} {a b mode size links fi j : Nat} {hasT : Bool} {tm : Nat → Nat} {l rm : List Nat} (h : o1 X (a + j) = o1 Y (b + j)) : o1 (inX X a mode size hasT tm links l rm fi) (a + j) = o1 (inX Y b mode size hasT tm links l rm fi) (b + j) := by
  unfold inX tmX
  refine sh_ri (sh_pi (sh_st (sh_st ?_)) _) _
  cases hasT with
  | true => exact sh_st (sh_st (sh_st (sh_st (sh_st0 h))))
  | false => exact sh_st (sh_st0 h)
/-- times of 0 are as none, where there was 0 -/
theorem in_tm0 {Z : Nat → Int32} {a mode size links fi q : Nat} {tm tm' : Nat → Nat} {l rm : List Nat} (h : ∀ q, a ≤ q → q < a + 128 → o1 Z q = 0) (h0 : tm 2 = 0 ∧ tm 3 = 0 ∧ tm 4 = 0) (q1 : a ≤ q) (q2 : q < a + 128) : o1 (inX Z a mode size true tm links l rm fi) q = o1 (inX Z a mode size false tm' links l rm fi) q := by
  unfold inX
  refine riX_ag (piX_ag (st_ag (st_ag ?_)) _) _
  show o1 (st (st (st (st (st Z a mode 2) (a + 4) size 4) (a + 8) (tm 2) 4) (a + 12) (tm 3) 4) (a + 16) (tm 4) 4) q = o1 (st (st Z a mode 2) (a + 4) size 4) q
  have z : ∀ p X, (∀ q, p ≤ q → q < p + 4 → o1 X q = 0) → o1 (st X p 0 4) q = o1 X q := fun p X hX => by
    rw [st_o1]
    by_cases g : p ≤ q ∧ q < p + 4
    · rw [if_pos g, hX q g.1 g.2, Nat.zero_div]
    · rw [if_neg g]
  rw [h0.1, h0.2.1, h0.2.2]
  have b : ∀ q, a + 8 ≤ q → q < a + 128 → o1 (st (st Z a mode 2) (a + 4) size 4) q = 0 := fun q g1 g2 => by rw [st_out (by omega), st_out (by omega)]; exact h q (by omega) g2
  have b1 : ∀ q, a + 12 ≤ q → q < a + 128 → o1 (st (st (st Z a mode 2) (a + 4) size 4) (a + 8) 0 4) q = 0 := fun q g1 g2 => by rw [st_out (by omega)]; exact b q (by omega) g2
  have b2 : ∀ q, a + 16 ≤ q → q < a + 128 → o1 (st (st (st (st Z a mode 2) (a + 4) size 4) (a + 8) 0 4) (a + 12) 0 4) q = 0 := fun q g1 g2 => by rw [st_out (by omega)]; exact b1 q (by omega) g2
  rw [z _ _ (fun q g1 g2 => b2 q (by omega) (by omega)), z _ _ (fun q g1 g2 => b1 q (by omega) (by omega)), z _ _ (fun q g1 g2 => b q (by omega) (by omega))]
theorem ql_inode_list {K i mode links size t0 t1 t2 : Nat} {A H k B P g0 r : Nat} {T : MS} {F U : Nat → Int32} {n : Nat} {R : Rg} {rm l : List Nat} (hK : 1000 ≤ K) (hbd : bdA T rm) (hpl : plN A H k B P g0 r) (hT : plM A H k B P g0 r T) (hI : T.v_inodes = nI (8 * r)) (hr : 1 ≤ r) (hi : 1 ≤ i ∧ i ≤ g0 * (8 * r)) (hl : l.length ≤ 512) (hlb : ∀ x ∈ l, x < 2 ^ 31) (hf : arr R.2.1 l) (ha0 : inPos A P (8 * r) i + 128 ≤ 524288) (hm : mode < 2 ^ 31) (hlk : links < 2 ^ 31) (hsz : size < 2 ^ 63) (ht : t0 < 2 ^ 63 ∧ t1 < 2 ^ 63 ∧ t2 < 2 ^ 63) (hn : n + indN l.length ≤ rm.length) (hz : ∀ t, n ≤ t → t < n + indN l.length → bkA F (rm.getD t 0) Zd) (hd : ∀ t, t < rm.length → inPos A P (8 * r) i + 128 ≤ 1024 * rm.getD t 0 ∨ 1024 * rm.getD t 0 + 1024 ≤ inPos A P (8 * r) i) : ∃ F' U', f_Mo_inode_list K (qS T F U n R) (nI i) (nI mode) (nI links) (lN t0) (lN t1) (lN t2) (lN size) (nI l.length) = some (qS T F' U' (n + indN l.length) R) ∧ (∀ q, inPos A P (8 * r) i ≤ q → q < inPos A P (8 * r) i + 128 → o1 F' q = o1 (inX F (inPos A P (8 * r) i) mode size true (fun w => if w = 2 then t0 else if w = 3 then t1 else t2) links l rm n) q) ∧ agW F' (inW rm n l (indN l.length)) ∧ (∀ q, (q < inPos A P (8 * r) i ∨ inPos A P (8 * r) i + 128 ≤ q) → (∀ t, n ≤ t → t < n + indN l.length → farR rm t q) → o1 F' q = o1 F q) ∧ ∀ p, uM U p → uM U' (fun c => p c ∨ c ∈ rmF rm n (indN l.length)) := by
  have hat := ql_inodeAt (K := K) (F := F) (U := U) (n := n) (R := R) hpl hT hI hr hi
  have hil := indN_le l.length
  generalize inPos A P (8 * r) i = a at *
  have out : ∀ Z : Nat → Int32, (∀ q, (q < a ∨ a + 128 ≤ q) → o1 Z q = o1 F q) → ∀ t, n ≤ t → t < n + indN l.length → bkA Z (rm.getD t 0) Zd := fun Z hZ t t1 t2 j hj => by
    rw [hZ _ (by have := hd t (by omega); omega)]
    exact hz t t1 t2 j hj
  let F1 := piX (st (st (tmX (st (st F a mode 2) (a + 4) size 4) a true (fun w => if w = 2 then t0 else if w = 3 then t1 else t2)) (a + 26) links 2) (a + 28) (2 * (l.length + indN l.length)) 4) (a + 40) l 12
  have hF1 : ∀ q, (q < a ∨ a + 128 ≤ q) → o1 F1 q = o1 F q := fun q hq => by
    show o1 (piX _ (a + 40) l 12) q = _
    rw [piX_out (by omega), st_out (by omega), st_out (by omega)]
    show o1 (st (st (st (st (st F a mode 2) (a + 4) size 4) (a + 8) t0 4) (a + 12) t1 4) (a + 16) t2 4) q = _
    rw [st_out (by omega), st_out (by omega), st_out (by omega), st_out (by omega), st_out (by omega)]
  obtain ⟨F', U', e1, e2, e3, e4, e5⟩ := ql_list140 (K := K) (a := a) (T := T) (F := F1) (U := U) (n := n) (R := R) hK hbd hl hlb hf ha0 hn (out F1 hF1) hd
  refine ⟨F', U', ?_, e2, e3, fun q q1 q2 => by rw [e4 q q1 q2, hF1 q q1], e5⟩
  unfold f_Mo_inode_list
  rw [hat, q_c, ql_2 (by omega) (by omega) hm, q_b, show (4 : Int32) = nI 4 from rfl, nI_add, ql_lay (by omega) (by omega) hsz (by decide), q_b, show (8 : Int32) = nI 8 from rfl, nI_add, ql_lay (by omega) (by omega) ht.1 (by decide), q_b, show (12 : Int32) = nI 12 from rfl, nI_add, ql_lay (by omega) (by omega) ht.2.1 (by decide), q_b, show (16 : Int32) = nI 16 from rfl, nI_add, ql_lay (by omega) (by omega) ht.2.2 (by decide), q_b, show (26 : Int32) = nI 26 from rfl, nI_add, ql_2 (by omega) (by omega) hlk, q_b, qM_indirect (by omega), q_b, nI_add, show (2 : Int32) = nI 2 from rfl, pk_mul, show (28 : Int32) = nI 28 from rfl, nI_add, ql_4W (by omega) (by omega) (by omega), q_b]
  have e9 := ql_list99 (K := K) (a := a) (T := T) (U := U) (n := n) (R := R) (Z := st (st (tmX (st (st F a mode 2) (a + 4) size 4) a true (fun w => if w = 2 then t0 else if w = 3 then t1 else t2)) (a + 26) links 2) (a + 28) (2 * (l.length + indN l.length)) 4) (by omega) hl hlb hf ha0 12 0 K (by omega) (by omega)
  exact e9.trans e1
theorem ql_inode_record {K i mode links size t0 t1 t2 : Nat} {A H k B P g0 r : Nat} {T : MS} {F U : Nat → Int32} {n : Nat} {R : Rg} {rm l : List Nat} (hK : 1000 ≤ K) (hbd : bdA T rm) (hpl : plN A H k B P g0 r) (hT : plM A H k B P g0 r T) (hI : T.v_inodes = nI (8 * r)) (hr : 1 ≤ r) (hi : 1 ≤ i ∧ i ≤ g0 * (8 * r)) (hl : l.length ≤ 512) (hlb : ∀ x ∈ l, x < 2 ^ 31) (hf : arr R.1 l) (ha0 : inPos A P (8 * r) i + 128 ≤ 524288) (hm : mode < 2 ^ 31) (hlk : links < 2 ^ 31) (hsz : size < 2 ^ 63) (ht : t0 < 2 ^ 63 ∧ t1 < 2 ^ 63 ∧ t2 < 2 ^ 63) (hn : n + indN l.length ≤ rm.length) (hz : ∀ t, n ≤ t → t < n + indN l.length → bkA F (rm.getD t 0) Zd) (hd : ∀ t, t < rm.length → inPos A P (8 * r) i + 128 ≤ 1024 * rm.getD t 0 ∨ 1024 * rm.getD t 0 + 1024 ≤ inPos A P (8 * r) i) : ∃ F' U', f_Mo_inode_record K (qS T F U n R) (nI i) (nI mode) (nI links) (lN t0) (lN t1) (lN t2) (lN size) (nI l.length) = some (qS T F' U' (n + indN l.length) R) ∧ (∀ q, inPos A P (8 * r) i ≤ q → q < inPos A P (8 * r) i + 128 → o1 F' q = o1 (inX F (inPos A P (8 * r) i) mode size true (fun w => if w = 2 then t0 else if w = 3 then t1 else t2) links l rm n) q) ∧ agW F' (inW rm n l (indN l.length)) ∧ (∀ q, (q < inPos A P (8 * r) i ∨ inPos A P (8 * r) i + 128 ≤ q) → (∀ t, n ≤ t → t < n + indN l.length → farR rm t q) → o1 F' q = o1 F q) ∧ ∀ p, uM U p → uM U' (fun c => p c ∨ c ∈ rmF rm n (indN l.length)) := by
  have hat := ql_inodeAt (K := K) (F := F) (U := U) (n := n) (R := R) hpl hT hI hr hi
  have hil := indN_le l.length
  generalize inPos A P (8 * r) i = a at *
  have out : ∀ Z : Nat → Int32, (∀ q, (q < a ∨ a + 128 ≤ q) → o1 Z q = o1 F q) → ∀ t, n ≤ t → t < n + indN l.length → bkA Z (rm.getD t 0) Zd := fun Z hZ t t1 t2 j hj => by
    rw [hZ _ (by have := hd t (by omega); omega)]
    exact hz t t1 t2 j hj
  let F1 := piX (st (st (tmX (st (st F a mode 2) (a + 4) size 4) a true (fun w => if w = 2 then t0 else if w = 3 then t1 else t2)) (a + 26) links 2) (a + 28) (2 * (l.length + indN l.length)) 4) (a + 40) l 12
  have hF1 : ∀ q, (q < a ∨ a + 128 ≤ q) → o1 F1 q = o1 F q := fun q hq => by
    show o1 (piX _ (a + 40) l 12) q = _
    rw [piX_out (by omega), st_out (by omega), st_out (by omega)]
    show o1 (st (st (st (st (st F a mode 2) (a + 4) size 4) (a + 8) t0 4) (a + 12) t1 4) (a + 16) t2 4) q = _
    rw [st_out (by omega), st_out (by omega), st_out (by omega), st_out (by omega), st_out (by omega)]
  obtain ⟨F', U', e1, e2, e3, e4, e5⟩ := ql_record140 (K := K) (a := a) (T := T) (F := F1) (U := U) (n := n) (R := R) hK hbd hl hlb hf ha0 hn (out F1 hF1) hd
  refine ⟨F', U', ?_, e2, e3, fun q q1 q2 => by rw [e4 q q1 q2, hF1 q q1], e5⟩
  unfold f_Mo_inode_record
  rw [hat, q_c, ql_2 (by omega) (by omega) hm, q_b, show (4 : Int32) = nI 4 from rfl, nI_add, ql_lay (by omega) (by omega) hsz (by decide), q_b, show (8 : Int32) = nI 8 from rfl, nI_add, ql_lay (by omega) (by omega) ht.1 (by decide), q_b, show (12 : Int32) = nI 12 from rfl, nI_add, ql_lay (by omega) (by omega) ht.2.1 (by decide), q_b, show (16 : Int32) = nI 16 from rfl, nI_add, ql_lay (by omega) (by omega) ht.2.2 (by decide), q_b, show (26 : Int32) = nI 26 from rfl, nI_add, ql_2 (by omega) (by omega) hlk, q_b, qM_indirect (by omega), q_b, nI_add, show (2 : Int32) = nI 2 from rfl, pk_mul, show (28 : Int32) = nI 28 from rfl, nI_add, ql_4W (by omega) (by omega) (by omega), q_b]
  have e9 := ql_record99 (K := K) (a := a) (T := T) (U := U) (n := n) (R := R) (Z := st (st (tmX (st (st F a mode 2) (a + 4) size 4) a true (fun w => if w = 2 then t0 else if w = 3 then t1 else t2)) (a + 26) links 2) (a + 28) (2 * (l.length + indN l.length)) 4) (by omega) hl hlb hf ha0 12 0 K (by omega) (by omega)
  exact e9.trans e1
