/-! Where inodes, rooms and kept blocks stand. -/
theorem slot_in {A H k B P g0 r i : Nat} (h : plN A H k B P g0 r) (hm : rmy A H k B P g0 r) (hr : 1 ≤ r) (hi : 1 ≤ i ∧ i ≤ g0 * (8 * r)) : ∃ g b, g < g0 ∧ g = (i - 1) / (8 * r) ∧ b = mBk A P g + 2 + (i - 1) % (8 * r) / 8 ∧ fxd A P r g0 b ∧ inPos A P (8 * r) i = 1024 * b + 128 * ((i - 1) % (8 * r) % 8) ∧ b < B ∧ A ≤ b ∧ mBk A P g + 2 ≤ b ∧ b < mBk A P g + (2 + r) := by
  have hg : (i - 1) / (8 * r) < g0 := (Nat.div_lt_iff_lt_mul (by omega)).mpr (by omega)
  have hml := Nat.mod_lt (i - 1) (show 0 < 8 * r by omega)
  obtain ⟨q1, q2, q3, q4, q5⟩ := gr_in h hg (hm.1 _ hg)
  have hA := h.1
  refine ⟨_, _, hg, rfl, rfl, ⟨_, hg, Or.inr (Or.inr ⟨by omega, by omega⟩)⟩, ?_, by omega, ?_, by omega, by omega⟩
  · unfold inPos
    omega
  · unfold mBk at *
    split
    · omega
    · rename_i w
      have : 1 * P ≤ (i - 1) / (8 * r) * P := Nat.mul_le_mul_right _ (Nat.one_le_iff_ne_zero.mpr w)
      have := h.2.2.2.2.1
      omega
theorem slot_dis {A H k B P g0 r i b : Nat} (h : plN A H k B P g0 r) (hm : rmy A H k B P g0 r) (hr : 1 ≤ r) (hi : 1 ≤ i ∧ i ≤ g0 * (8 * r)) (hb : ¬ fxd A P r g0 b) : inPos A P (8 * r) i + 128 ≤ 1024 * b ∨ 1024 * b + 1024 ≤ inPos A P (8 * r) i := by
  obtain ⟨g, c, -, -, -, c1, c2, -⟩ := slot_in h hm hr hi
  have : b ≠ c := fun e => hb (by rw [e]; exact c1)
  omega
theorem grp_ap {A H k B P g0 r g g' : Nat} (h : plN A H k B P g0 r) (hm : rmy A H k B P g0 r) (hg : g < g') (hg' : g' < g0) : mBk A P g + (2 + r) ≤ 1 + g' * P ∧ 1 + g' * P < mBk A P g' := by
  obtain ⟨q1, q2, q3, q4, q5⟩ := gr_in h (show g < g0 by omega) (hm.1 _ (by omega))
  obtain ⟨p1, p2, p3, p4, p5⟩ := gr_in h hg' (hm.1 _ hg')
  have hs := (gr_le h (show g < g0 by omega)).2.2.2.2.2.2
  have : (g + 1) * P ≤ g' * P := Nat.mul_le_mul_right _ hg
  rw [Nat.succ_mul] at this
  omega
theorem slots_ap {A H k B P g0 r i j : Nat} (h : plN A H k B P g0 r) (hm : rmy A H k B P g0 r) (hr : 1 ≤ r) (hi : 1 ≤ i ∧ i ≤ g0 * (8 * r)) (hj : 1 ≤ j ∧ j ≤ g0 * (8 * r)) (hij : i ≠ j) : inPos A P (8 * r) i + 128 ≤ inPos A P (8 * r) j ∨ inPos A P (8 * r) j + 128 ≤ inPos A P (8 * r) i := by
  obtain ⟨g, c, g1, g2, g3, -, g4, -, -, g5, g6⟩ := slot_in h hm hr hi
  obtain ⟨g', c', g1', g2', g3', -, g4', -, -, g5', g6'⟩ := slot_in h hm hr hj
  by_cases w : g = g'
  · have hdi := Nat.div_add_mod (i - 1) (8 * r)
    have hdj := Nat.div_add_mod (j - 1) (8 * r)
    rw [← g2] at hdi
    rw [← g2', ← w] at hdj
    have hne : (i - 1) % (8 * r) ≠ (j - 1) % (8 * r) := fun e => by omega
    rw [← w] at g3'
    generalize (i - 1) % (8 * r) = x at *
    generalize (j - 1) % (8 * r) = y at *
    omega
  · rcases Nat.lt_or_gt_of_ne w with y | y
    · have := grp_ap h hm y g1'
      omega
    · have := grp_ap h hm y g1
      omega
/-- rooms, kept blocks: none is fixed, and they are apart -/
theorem room_f {N : Nat} {D : Nat → Int32} {its : List It} {A H k B P G r to : Nat} {gl e : Nat → Nat} {bd : Nat} (h : usF N D its A H k B P G r to gl e bd) : (∀ t, t < (rml A H (fxd A P r G) e gl k).length → A ≤ (rml A H (fxd A P r G) e gl k).getD t 0 ∧ (rml A H (fxd A P r G) e gl k).getD t 0 < A + k * H ∧ ¬ fxd A P r G ((rml A H (fxd A P r G) e gl k).getD t 0) ∧ (rml A H (fxd A P r G) e gl k).getD t 0 ∉ kLs N D its A H gl its.length) := by
  intro t ht
  have hm := getD_mem ht
  obtain ⟨m1, m2, m3⟩ := rml_lt hm
  refine ⟨m1, m2, m3, fun w => ?_⟩
  obtain ⟨c, c1, c2, ⟨c3, c4⟩, j, j1, j2, -⟩ := (rml_mem k).mp hm
  obtain ⟨-, -, -, s, s1, s2, s3, s4, s5⟩ := (kLs_f h).2 _ w
  have hH : 1 ≤ H := by have := h.1.2.1; omega
  have hcs : c = s := by
    have e1 : (c - 2) * H + j = (rml A H (fxd A P r G) e gl k).getD t 0 - A := by omega
    have e2 : ((rml A H (fxd A P r G) e gl k).getD t 0 - A) / H = c - 2 := by
      rw [← e1, Nat.mul_comm, Nat.mul_add_div (by omega), Nat.div_eq_of_lt j1, Nat.add_zero]
    have e3 : ((rml A H (fxd A P r G) e gl k).getD t 0 - A) / H = s - 2 := by
      have e4 : (rml A H (fxd A P r G) e gl k).getD t 0 - A = H * (s - 2) + ((rml A H (fxd A P r G) e gl k).getD t 0 - (A + (s - 2) * H)) := by rw [Nat.mul_comm H]; omega
      rw [e4, Nat.mul_add_div (by omega), Nat.div_eq_of_lt (by omega), Nat.add_zero]
    omega
  rcases s3 with y | ⟨x, y⟩
  · rw [hcs] at c3; exact y c3
  · rw [hcs] at c4; exact c4 x y
/-- what stands in an item's inode -/
abbrev slA (N : Nat) (D : Nat → Int32) (fks : List Nat) (its : List It) (A H P r : Nat) (gl : Nat → Nat) (rm : List Nat) (F : Nat → Int32) (i : Nat) : Prop := ∀ j, j < 128 → o1 F (inPos A P (8 * r) (nmr i) + j) = o1 (iIt N D fks its A H gl rm i 0 Zd) j
theorem sl_keep {N : Nat} {D : Nat → Int32} {fks : List Nat} {its : List It} {A H P r : Nat} {gl : Nat → Nat} {rm : List Nat} {F F' : Nat → Int32} {i : Nat} (h : slA N D fks its A H P r gl rm F i) (hk0 : ∀ j, j < 128 → o1 F' (inPos A P (8 * r) (nmr i) + j) = o1 F (inPos A P (8 * r) (nmr i) + j)) : slA N D fks its A H P r gl rm F' i := fun j hj => by rw [hk0 j hj]; exact h j hj
abbrev fdA (N : Nat) (D : Nat → Int32) (fks : List Nat) (its : List It) (A H P r : Nat) (gl : Nat → Nat) (rm : List Nat) (b0 : Nat) (F : Nat → Int32) (i : Nat) : Prop := agW F (dwG D fks its i rm (eNo fks its i) 0 Zd 0 0 (boN fks D its b0 i)) ∧ agW F (inW rm (fiN fks D its b0 i) (ownL N D fks its A H b0 gl rm i) (indN (ownL N D fks its A H b0 gl rm i).length)) ∧ slA N D fks its A H P r gl rm F i
abbrev flA (N : Nat) (D : Nat → Int32) (fks : List Nat) (its : List It) (A H P r : Nat) (gl : Nat → Nat) (rm : List Nat) (b0 : Nat) (F : Nat → Int32) (i : Nat) : Prop := (∀ s, s < fbN D its i → bkA F ((ownL N D fks its A H b0 gl rm i).getD s 0) (fun j => D (1024 * srB A H (chI N D its i) s + j))) ∧ agW F (inW rm (fiN fks D its b0 i) (ownL N D fks its A H b0 gl rm i) (indN (ownL N D fks its A H b0 gl rm i).length)) ∧ slA N D fks its A H P r gl rm F i
/-- blocks in which the writes lie -/
theorem dwG_bl {D : Nat → Int32} {fks : List Nat} {its : List It} {i : Nat} {rm : List Nat} {b0 : Nat} : ∀ (n e : Nat) (Z : Nat → Int32) (a la t : Nat), a = (pkS (eSz fks its i) e).2 → t + 1 = b0 + (pkS (eSz fks its i) e).1 → ∀ w ∈ dwG D fks its i rm n e Z a la t, ∃ s, t ≤ s ∧ s < b0 + (pkS (eSz fks its i) (e + n)).1 ∧ w.1 / 2 = rm.getD s 0 := by
  have blk : ∀ b Y (w : Wr), w ∈ blW b Y → w.1 / 2 = b := fun b Y w h => by
    unfold blW at h
    rcases List.mem_cons.mp h with y | y
    · rw [y]; show 2 * b / 2 = b; omega
    · rw [List.mem_singleton.mp y]; show (2 * b + 1) / 2 = b; omega
  intro n
  induction n with
  | zero =>
    intro e Z a la t h1 h2 w hw
    exact ⟨t, Nat.le_refl _, by rw [Nat.add_zero]; omega, blk _ _ w hw⟩
  | succ n ih =>
    intro e Z a la t h1 h2 w hw
    rw [dwG] at hw
    by_cases g : a + elN (eSz fks its i e) ≤ 1024
    · rw [if_pos g] at hw
      obtain ⟨s, s1, s2, s3⟩ := ih (e + 1) _ _ _ t (by rw [pkS, if_pos (by rw [← h1]; exact g), ← h1]) (by rw [pkS, if_pos (by rw [← h1]; exact g)]; exact h2) w hw
      exact ⟨s, s1, by rw [show e + (n + 1) = e + 1 + n by omega]; exact s2, s3⟩
    · rw [if_neg g] at hw
      rcases List.mem_append.mp hw with y | y
      · have := pkS_mono (s := eSz fks its i) (e := e) (n + 1)
        exact ⟨t, Nat.le_refl _, by omega, blk _ _ w y⟩
      · obtain ⟨s, s1, s2, s3⟩ := ih (e + 1) _ _ _ (t + 1) (by rw [pkS, if_neg (by rw [← h1]; exact g)]) (by rw [pkS, if_neg (by rw [← h1]; exact g)]; show t + 1 + 1 = b0 + ((pkS (eSz fks its i) e).1 + 1); omega) w y
        exact ⟨s, by omega, by rw [show e + (n + 1) = e + 1 + n by omega]; exact s2, s3⟩
theorem inW_bl {rm l : List Nat} {fi c : Nat} : ∀ w ∈ inW rm fi l c, ∃ s, fi ≤ s ∧ s < fi + c ∧ w.1 / 2 = rm.getD s 0 := by
  have blk : ∀ b Y (w : Wr), w ∈ blW b Y → w.1 / 2 = b := fun b Y w h => by
    unfold blW at h
    rcases List.mem_cons.mp h with y | y
    · rw [y]; show 2 * b / 2 = b; omega
    · rw [List.mem_singleton.mp y]; show (2 * b + 1) / 2 = b; omega
  have key : ∀ n j (w : Wr), w ∈ inF rm fi l n j → ∃ s, fi + j ≤ s ∧ s < fi + j + n ∧ w.1 / 2 = rm.getD s 0 := by
    intro n
    induction n with
    | zero => intro j w h; cases h
    | succ n ih =>
      intro j w h
      rw [inF] at h
      rcases List.mem_append.mp h with y | y
      · exact ⟨fi + j, by omega, by omega, blk _ _ w y⟩
      · obtain ⟨s, s1, s2, s3⟩ := ih (j + 1) w y
        exact ⟨s, by omega, by omega, s3⟩
  intro w hw
  unfold inW at hw
  rcases List.mem_append.mp hw with y | y
  · by_cases g : c = 0
    · rw [if_pos g] at y; cases y
    · rw [if_neg g] at y
      exact ⟨fi, by omega, by omega, blk _ _ w y⟩
  · rcases List.mem_append.mp y with z | z
    · by_cases g : c ≤ 1
      · rw [if_pos g] at z; cases z
      · rw [if_neg g] at z
        exact ⟨fi + 1, by omega, by omega, blk _ _ w z⟩
    · obtain ⟨s, s1, s2, s3⟩ := key _ _ w z
      exact ⟨s, by omega, by omega, s3⟩
