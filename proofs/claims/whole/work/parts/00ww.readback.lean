/-! Reading back what was laid: numbers, pointers, inodes. -/
theorem o4_of {X : Nat → Int32} {p u : Nat} (hu : u < 2 ^ 32) (h : ∀ k, k < 4 → o1 X (p + k) = u / 256 ^ k % 256) : o4 X p = u := by
  rw [show o4 X p = o4 (st Zd p u 4) p from o4_sh fun k hk0 => by rw [h k hk0, st_o1, if_pos (by omega), Nat.add_sub_cancel_left], st_o4 hu]
theorem o2_of {X : Nat → Int32} {p u : Nat} (hu : u < 65536) (h : ∀ k, k < 2 → o1 X (p + k) = u / 256 ^ k % 256) : o2 X p = u := by
  unfold o2
  have a := h 0 (by decide)
  have b := h 1 (by decide)
  rw [Nat.add_zero] at a
  rw [a, b, show (256 : Nat) ^ 0 = 1 from rfl, show (256 : Nat) ^ 1 = 256 from rfl]
  omega
theorem o2_sh {X Y : Nat → Int32} {p q : Nat} (h : ∀ k, k < 2 → o1 X (p + k) = o1 Y (q + k)) : o2 X p = o2 Y q := by
  unfold o2
  have a := h 0 (by decide)
  rw [Nat.add_zero, Nat.add_zero] at a
  rw [a, h 1 (by decide)]
theorem piX_get {Z : Nat → Int32} {p : Nat} {l : List Nat} : ∀ n j, j < n → j < l.length → ∀ k, k < 4 → o1 (piX Z p l n) (p + 4 * j + k) = l.getD j 0 / 256 ^ k % 256 := by
  intro n
  induction n with
  | zero => intro j hj; omega
  | succ n ih =>
    intro j hj hl k hk0
    rw [piX]
    by_cases c : j = n
    · subst c
      rw [if_pos hl, st_o1, if_pos (by omega), Nat.add_sub_cancel_left]
    · split
      · rw [st_out (by omega)]; exact ih j (by omega) hl k hk0
      · exact ih j (by omega) hl k hk0
theorem riX_get {Z : Nat → Int32} {p fi c : Nat} {rm : List Nat} : ∀ n j, j < n → j < c → ∀ k, k < 4 → o1 (riX Z p rm fi c n) (p + 4 * j + k) = rm.getD (fi + j) 0 / 256 ^ k % 256 := by
  intro n
  induction n with
  | zero => intro j hj; omega
  | succ n ih =>
    intro j hj hl k hk0
    rw [riX]
    by_cases w : j = n
    · subst w
      rw [if_pos hl, st_o1, if_pos (by omega), Nat.add_sub_cancel_left]
    · split
      · rw [st_out (by omega)]; exact ih j (by omega) hl k hk0
      · exact ih j (by omega) hl k hk0
theorem ptX_get {Z : Nat → Int32} {fr : Nat} {l : List Nat} : ∀ n j, j < n → fr + j < l.length → ∀ k, k < 4 → o1 (ptX l fr Z n) (4 * j + k) = l.getD (fr + j) 0 / 256 ^ k % 256 := by
  intro n
  induction n with
  | zero => intro j hj; omega
  | succ n ih =>
    intro j hj hl k hk0
    rw [ptX]
    by_cases c : j = n
    · subst c
      rw [if_pos hl, st_o1, if_pos (by omega), Nat.add_sub_cancel_left]
    · split
      · rw [st_out (by omega)]; exact ih j (by omega) hl k hk0
      · exact ih j (by omega) hl k hk0
theorem dbX_get {Z : Nat → Int32} {fi : Nat} {rm : List Nat} : ∀ n j, j < n → ∀ k, k < 4 → o1 (dbX rm fi Z n) (4 * j + k) = rm.getD (fi + (j + 2)) 0 / 256 ^ k % 256 := by
  intro n
  induction n with
  | zero => intro j hj; omega
  | succ n ih =>
    intro j hj k hk0
    rw [dbX]
    by_cases c : j = n
    · subst c
      rw [st_o1, if_pos (by omega), Nat.add_sub_cancel_left]
    · rw [st_out (by omega)]; exact ih j (by omega) k hk0
theorem agW_bl {X Y : Nat → Int32} {b : Nat} {L : List Wr} (h : agW X L) (hs : ∀ w ∈ blW b Y, w ∈ L) : bkA X b Y := by
  intro j hj
  by_cases c : j < 512
  · have := h _ (hs (2 * b, Y) List.mem_cons_self) j c
    rw [show 512 * (2 * b, Y).1 + j = 1024 * b + j from (by show 512 * (2 * b) + j = _; omega)] at this
    exact this
  · have := h _ (hs (2 * b + 1, fun j => Y (512 + j)) (List.mem_cons_of_mem _ (List.mem_singleton.mpr rfl))) (j - 512) (by omega)
    rw [show 512 * ((2 * b + 1, fun j => Y (512 + j)) : Wr).1 + (j - 512) = 1024 * b + j from (by show 512 * (2 * b + 1) + (j - 512) = _; omega)] at this
    rw [this]
    show ub (Y (512 + (j - 512))) = ub (Y j)
    rw [show 512 + (j - 512) = j by omega]
theorem bk_4 {X Y : Nat → Int32} {b q : Nat} (h : bkA X b Y) (hq : q + 3 < 1024) : o4 X (1024 * b + q) = o4 Y q := o4_sh fun k hk0 => by rw [Nat.add_assoc, h (q + k) (by omega)]
theorem bk_2 {X Y : Nat → Int32} {b q : Nat} (h : bkA X b Y) (hq : q + 1 < 1024) : o2 X (1024 * b + q) = o2 Y q := o2_sh fun k hk0 => by rw [Nat.add_assoc, h (q + k) (by omega)]
/-! An inode's fields. -/
theorem tmX_out {Z : Nat → Int32} {a q : Nat} {hasT : Bool} {tm : Nat → Nat} (h : q < a + 8 ∨ a + 20 ≤ q) : o1 (tmX Z a hasT tm) q = o1 Z q := by
  unfold tmX
  split
  · rw [st_out (by omega), st_out (by omega), st_out (by omega)]
  · rfl
theorem inX_lo {mode size links fi q : Nat} {hasT : Bool} {tm : Nat → Nat} {l rm : List Nat} (h : q < 26) : o1 (inX Zd 0 mode size hasT tm links l rm fi) q = o1 (tmX (st (st Zd 0 mode 2) (0 + 4) size 4) 0 hasT tm) q := by
  unfold inX
  rw [riX_out (by omega), piX_out (by omega), st_out (by omega), st_out (by omega)]
theorem in_mode {mode size links fi : Nat} {hasT : Bool} {tm : Nat → Nat} {l rm : List Nat} (hm : mode < 65536) : o2 (inX Zd 0 mode size hasT tm links l rm fi) 0 = mode := o2_of hm fun k hk0 => by
  rw [inX_lo (by omega), tmX_out (by omega), st_out (by omega), st_o1, if_pos (by omega), Nat.add_sub_cancel_left]
theorem in_size {mode size links fi : Nat} {hasT : Bool} {tm : Nat → Nat} {l rm : List Nat} (hm : size < 2 ^ 32) : o4 (inX Zd 0 mode size hasT tm links l rm fi) 4 = size := o4_of hm fun k hk0 => by
  rw [inX_lo (by omega), tmX_out (by omega), st_o1, if_pos (by omega), show 4 + k - (0 + 4) = k by omega]
theorem in_time {mode size links fi w : Nat} {tm : Nat → Nat} {l rm : List Nat} (hw : w = 2 ∨ w = 3 ∨ w = 4) (hm : tm w < 2 ^ 32) : o4 (inX Zd 0 mode size true tm links l rm fi) (4 * w) = tm w := o4_of hm fun k hk0 => by
  rw [inX_lo (by omega)]
  unfold tmX
  rw [if_pos rfl]
  rcases hw with e | e | e
  · rw [e, st_out (by omega), st_out (by omega), st_o1, if_pos (by omega), show 4 * 2 + k - (0 + 8) = k by omega]
  · rw [e, st_out (by omega), st_o1, if_pos (by omega), show 4 * 3 + k - (0 + 12) = k by omega]
  · rw [e, st_o1, if_pos (by omega), show 4 * 4 + k - (0 + 16) = k by omega]
theorem in_time0 {mode size links fi w : Nat} {tm : Nat → Nat} {l rm : List Nat} (hw : w = 2 ∨ w = 3 ∨ w = 4) : o4 (inX Zd 0 mode size false tm links l rm fi) (4 * w) = 0 := o4_of (by decide) fun k hk0 => by
  rw [inX_lo (by omega)]
  unfold tmX
  rw [if_neg (by decide), st_out (by omega), st_out (by omega), Nat.zero_div]
  rfl
theorem in_ptr {mode size links fi j : Nat} {hasT : Bool} {tm : Nat → Nat} {l rm : List Nat} (hj : j < 12) (hl : j < l.length) (hb : l.getD j 0 < 2 ^ 32) : o4 (inX Zd 0 mode size hasT tm links l rm fi) (40 + 4 * j) = l.getD j 0 := o4_of hb fun k hk0 => by
  unfold inX
  rw [riX_out (by omega), show 40 + 4 * j + k = 0 + 40 + 4 * j + k by omega, piX_get 12 j hj hl k hk0]
theorem in_ind {mode size links fi i : Nat} {hasT : Bool} {tm : Nat → Nat} {l rm : List Nat} (hj : i < 2) (hl : i < indN l.length) (hb : rm.getD (fi + i) 0 < 2 ^ 32) : o4 (inX Zd 0 mode size hasT tm links l rm fi) (88 + 4 * i) = rm.getD (fi + i) 0 := o4_of hb fun k hk0 => by
  unfold inX
  rw [show 88 + 4 * i + k = 0 + 88 + 4 * i + k by omega, riX_get 2 i hj hl k hk0]
/-! The blocks of an inode, read by the class. -/
theorem inF_mem {rm l : List Nat} {fi : Nat} : ∀ (n j i : Nat), j ≤ i → i < j + n → ∀ w ∈ blW (rm.getD (fi + i) 0) (ptX l (12 + (i - 1) * 256) Zd 256), w ∈ inF rm fi l n j := by
  intro n
  induction n with
  | zero => intro j i h1 h2; omega
  | succ n ih =>
    intro j i h1 h2 w hw
    rw [inF]
    by_cases c : i = j
    · subst c; exact List.mem_append_left _ hw
    · exact List.mem_append_right _ (ih (j + 1) i (by omega) (by omega) w hw)
abbrev nodA (X : Nat → Int32) (pos mode size : Nat) (hasT : Bool) (tm : Nat → Nat) (links : Nat) (l rm : List Nat) (fi : Nat) : Prop := (∀ x, x < 128 → o1 X (pos + x) = o1 (inX Zd 0 mode size hasT tm links l rm fi) x) ∧ agW X (inW rm fi l (indN l.length))
theorem nod_4 {X : Nat → Int32} {pos mode size links fi q : Nat} {hasT : Bool} {tm : Nat → Nat} {l rm : List Nat} (h : nodA X pos mode size hasT tm links l rm fi) (hq : q + 3 < 128) : o4 X (pos + q) = o4 (inX Zd 0 mode size hasT tm links l rm fi) q := o4_sh fun k hk0 => by rw [Nat.add_assoc, h.1 (q + k) (by omega)]
theorem cl_blockOf {K N : Nat} {X : Nat → Int32} {pos mode size links fi j : Nat} {hasT : Bool} {tm : Nat → Nat} {l rm : List Nat} {G : CG} {S : CS} (hG : G.n = N) (hS : S.w_Dk_bytes = X) (hN : N ≤ 1024) (h : nodA X pos mode size hasT tm links l rm fi) (hp : pos + 128 ≤ 512 * N) (hl : ∀ b ∈ l, b < 512) (hr : ∀ t, t < indN l.length → 1024 * rm.getD (fi + t) 0 + 1024 ≤ 512 * N) (hj : j < l.length) (hll : l.length ≤ 1000) : f_In_blockOf K G S (nI pos) (nI j) = some (nI (l.getD j 0), S) := by
  have hlj : l.getD j 0 < 512 := hl _ (getD_mem hj)
  unfold f_In_blockOf
  rw [show (12 : Int32) = nI 12 from rfl]
  by_cases c : j < 12
  · rw [if_neg (nI_ge c (by omega)), show (40 : Int32) = nI 40 from rfl, show (4 : Int32) = nI 4 from rfl, pk_mul, nI_add, nI_add, rV4 X hG hS hN (by omega), q_c, Nat.add_assoc, nod_4 h (by omega), in_ptr c hj (by omega)]
  rw [if_pos (nI_le (by omega) (by omega)), pk_sub (by omega), q_l, show (256 : Int32) = nI 256 from rfl]
  have hc : 1 ≤ indN l.length := by unfold indN; split <;> (try split) <;> omega
  have r0 : 1024 * rm.getD fi 0 + 1024 ≤ 512 * N := hr 0 (by omega)
  by_cases c2 : j - 12 < 256
  · have m1 : bkA X (rm.getD fi 0) (ptX l 12 Zd 256) := agW_bl h.2 (fun w hw => by
      unfold inW
      rw [if_neg (by omega)]
      exact List.mem_append_left _ hw)
    rw [if_neg (nI_ge c2 (by omega)), show (88 : Int32) = nI 88 from rfl, nI_add, rV4 X hG hS hN (by omega), q_c, nod_4 h (by omega), show o4 (inX Zd 0 mode size hasT tm links l rm fi) 88 = rm.getD fi 0 from in_ind (i := 0) (by decide) (by omega) (by rw [Nat.add_zero]; omega), show (1024 : Int32) = nI 1024 from rfl, show (4 : Int32) = nI 4 from rfl, pk_mul, pk_mul, nI_add, Nat.mul_comm (rm.getD fi 0), rV4 X hG hS hN (by omega), q_c, bk_4 m1 (by omega)]
    rw [o4_of (u := l.getD j 0) (by omega) (fun k hk0 => by
      have := ptX_get (Z := Zd) (fr := 12) (l := l) 256 (j - 12) c2 (by omega) k hk0
      rw [show 12 + (j - 12) = j by omega] at this
      exact this)]
  · have hc2 : 2 + (l.length - 268 + 255) / 256 = indN l.length := by unfold indN; rw [if_neg (by omega), if_neg (by omega)]
    have hdl : (j - 268) / 256 < (l.length - 268 + 255) / 256 := by omega
    have r1 := hr 1 (by omega)
    have r2 := hr (2 + (j - 268) / 256) (by omega)
    have m1 : bkA X (rm.getD (fi + 1) 0) (dbX rm fi Zd (indN l.length - 2)) := agW_bl h.2 (fun w hw => by
      unfold inW
      rw [if_neg (show ¬ indN l.length ≤ 1 by omega)]
      exact List.mem_append_right _ (List.mem_append_left _ hw))
    have m2 : bkA X (rm.getD (fi + (2 + (j - 268) / 256)) 0) (ptX l (12 + (2 + (j - 268) / 256 - 1) * 256) Zd 256) := agW_bl h.2 (fun w hw => by
      unfold inW
      exact List.mem_append_right _ (List.mem_append_right _ (inF_mem _ 2 _ (by omega) (by omega) w hw)))
    have e1 : nI (j - 12) + (-256) = nI (j - 268) := ((Int32.sub_eq_add_neg (nI (j - 12)) (nI 256)).symm.trans (pk_sub (a := j - 12) (b := 256) (by omega))).trans (by rw [show j - 12 - 256 = j - 268 by omega])
    rw [if_pos (nI_le (by omega) (by omega)), show (-nI 256 : Int32) = -256 from rfl, e1, q_l, show (92 : Int32) = nI 92 from rfl, nI_add, rV4 X hG hS hN (by omega), q_c, nod_4 h (by omega), show o4 (inX Zd 0 mode size hasT tm links l rm fi) 92 = rm.getD (fi + 1) 0 from in_ind (i := 1) (by decide) (by omega) (by omega), pk_rem (by omega) (by decide) (by decide), pk_div (by omega) (by decide) (by decide), show (1024 : Int32) = nI 1024 from rfl, show (4 : Int32) = nI 4 from rfl, pk_mul, pk_mul, nI_add, Nat.mul_comm (rm.getD (fi + 1) 0), rV4 X hG hS hN (by omega), q_c, bk_4 m1 (by omega)]
    rw [o4_of (p := 4 * ((j - 268) / 256)) (u := rm.getD (fi + (2 + (j - 268) / 256)) 0) (by omega) (fun k hk0 => by
      have := dbX_get (Z := Zd) (fi := fi) (rm := rm) (indN l.length - 2) ((j - 268) / 256) (by omega) k hk0
      rw [show (j - 268) / 256 + 2 = 2 + (j - 268) / 256 by omega] at this
      exact this), pk_mul, pk_mul, nI_add, Nat.mul_comm (rm.getD (fi + (2 + (j - 268) / 256)) 0), rV4 X hG hS hN (by omega), q_c, bk_4 m2 (by omega)]
    rw [o4_of (u := l.getD j 0) (by omega) (fun k hk0 => by
      have := ptX_get (Z := Zd) (fr := 12 + (2 + (j - 268) / 256 - 1) * 256) (l := l) 256 ((j - 268) % 256) (by omega) (by omega) k hk0
      rw [show 12 + (2 + (j - 268) / 256 - 1) * 256 + (j - 268) % 256 = j by omega] at this
      exact this)]
