/-! Many clusters more for a file. -/
def grN (D : Nat → Int32) (p : Nat) : List Nat → (Nat → Int32) → List Nat → Nat → Int32
  | [], X, _ => X
  | x :: xs, X, ch => grN D p xs (gr D X p ch x) (ch ++ [x])
def grLs : List Nat → List Nat → List (Nat × Nat)
  | [], _ => []
  | x :: xs, ch => grL ch x ++ grLs xs (ch ++ [x])
/-- xs: the clusters that are taken one after another, entries l having been put -/
def tkn (N : Nat) (D : Nat → Int32) : List Nat → List (Nat × Nat) → List Nat → Prop
  | [], _, _ => True
  | x :: xs, l, ch => (frst (fun y => lkV l y (ent D y)) 2 x ∧ x < hk N D + 2) ∧ tkn N D xs (l ++ grL ch x) (ch ++ [x])
theorem snoc_cl {N x : Nat} {D : Nat → Int32} {ch : List Nat} (hx : isCl N D x) (hcl : ∀ y ∈ ch, isCl N D y) : ∀ y ∈ ch ++ [x], isCl N D y := fun y hy0 => by
  rcases List.mem_append.mp hy0 with w | w
  · exact hcl y w
  · rw [List.mem_singleton.mp w]; exact hx
theorem gr_o1 {N x p q : Nat} {D X : Nat → Int32} {ch : List Nat} (h : hdOk N D) (hN : N ≤ 1024) (hx : isCl N D x) (hcl : ∀ y ∈ ch, isCl N D y) (hq : q < 512 * hv D ∨ 512 * ha D ≤ q) (hqp : q < p + 20 ∨ p + 28 ≤ q) : o1 (gr D X p ch x) q = if plC D x ≤ q ∧ q < plC D x + 512 * hc D then 0 else o1 X q := by
  have hz : o1 (zr (lk D X x 268435455) (plC D x) (512 * hc D)) q = if plC D x ≤ q ∧ q < plC D x + 512 * hc D then 0 else o1 X q := by
    rw [zr_o1, lk_out h hN (by have := hx.2; omega) hq]
  unfold gr
  by_cases g : ch.length = 0
  · rw [if_pos g, st_out (by omega), st_out (by omega), hz]
  · have hl := (hcl _ (getD_mem (show ch.length - 1 < ch.length by omega))).2
    rw [if_neg g, lk_out h hN (by omega) hq, hz]
theorem gr_tab {N x p : Nat} {D X Y : Nat → Int32} {ch : List Nat} (h : hdOk N D) (hN : N ≤ 1024) (hx : isCl N D x) (hcl : ∀ y ∈ ch, isCl N D y) (hp : 512 * ha D ≤ p) (ht : ∀ q, 512 * hv D ≤ q → q < 512 * ha D → o1 X q = o1 Y q) : ∀ q, 512 * hv D ≤ q → q < 512 * ha D → o1 (gr D X p ch x) q = o1 (lks D Y (grL ch x)) q := by
  have hxl : x < hk N D + 2 := by have := hx.2; omega
  have hpl : 512 * ha D ≤ plC D x := by unfold plC; omega
  have a1 : ∀ q, 512 * hv D ≤ q → q < 512 * ha D → o1 (zr (lk D X x 268435455) (plC D x) (512 * hc D)) q = o1 (lk D Y x 268435455) q := fun q q1 q2 => by
    rw [zr_o1, if_neg (by omega)]
    exact lk_ag h hN hxl ht q (ht q q1 q2)
  intro q q1 q2
  unfold gr grL
  by_cases g : ch.length = 0
  · rw [if_pos g, if_pos g, st_out (by omega), st_out (by omega), a1 q q1 q2]
    rfl
  · have hl := (hcl _ (getD_mem (show ch.length - 1 < ch.length by omega))).2
    rw [if_neg g, if_neg g]
    exact lk_ag h hN (by omega) a1 q (a1 q q1 q2)
theorem gr_ag {N x p : Nat} {D X Xe : Nat → Int32} {ch : List Nat} (h : hdOk N D) (hN : N ≤ 1024) (hx : isCl N D x) (hcl : ∀ y ∈ ch, isCl N D y) (ht : ∀ q, 512 * hv D ≤ q → q < 512 * ha D → o1 Xe q = o1 X q) : ∀ q, (o1 Xe q = o1 X q ∨ (plC D x ≤ q ∧ q < plC D x + 512 * hc D)) → o1 (gr D Xe p ch x) q = o1 (gr D X p ch x) q := by
  have hxl : x < hk N D + 2 := by have := hx.2; omega
  have a1 : ∀ q, (o1 Xe q = o1 X q ∨ (plC D x ≤ q ∧ q < plC D x + 512 * hc D)) → o1 (zr (lk D Xe x 268435455) (plC D x) (512 * hc D)) q = o1 (zr (lk D X x 268435455) (plC D x) (512 * hc D)) q := fun q hq => by
    rw [zr_o1, zr_o1]
    by_cases w : plC D x ≤ q ∧ q < plC D x + 512 * hc D
    · rw [if_pos w, if_pos w]
    · rw [if_neg w, if_neg w]
      exact lk_ag h hN hxl ht q (hq.resolve_right w)
  intro q hq
  unfold gr
  by_cases g : ch.length = 0
  · rw [if_pos g, if_pos g]
    exact st_ag (st_ag (a1 q hq))
  · have hl := (hcl _ (getD_mem (show ch.length - 1 < ch.length by omega))).2
    rw [if_neg g, if_neg g]
    exact lk_ag h hN (by omega) (fun q' g1 g2 => a1 q' (Or.inl (ht q' g1 g2))) q (a1 q hq)
theorem grN_tab {N p : Nat} {D : Nat → Int32} (h : hdOk N D) (hN : N ≤ 1024) (hp : 512 * ha D ≤ p) : ∀ (xs ch : List Nat) (X Y : Nat → Int32), (∀ y ∈ xs, isCl N D y) → (∀ y ∈ ch, isCl N D y) → (∀ q, 512 * hv D ≤ q → q < 512 * ha D → o1 X q = o1 Y q) → ∀ q, 512 * hv D ≤ q → q < 512 * ha D → o1 (grN D p xs X ch) q = o1 (lks D Y (grLs xs ch)) q := by
  intro xs
  induction xs with
  | nil => intro ch X Y _ _ ht q q1 q2; exact ht q q1 q2
  | cons x xs ih =>
    intro ch X Y hxs hcl ht q q1 q2
    have hx := hxs x List.mem_cons_self
    rw [grN, grLs, lks_app]
    exact ih _ _ _ (fun y hy0 => hxs y (List.mem_cons_of_mem _ hy0)) (snoc_cl hx hcl) (gr_tab h hN hx hcl hp ht) q q1 q2
/-- q lies in one of the clusters -/
abbrev inC (D : Nat → Int32) (xs : List Nat) (q : Nat) : Prop := ∃ x ∈ xs, plC D x ≤ q ∧ q < plC D x + 512 * hc D
theorem grN_ag {N p : Nat} {D : Nat → Int32} (h : hdOk N D) (hN : N ≤ 1024) : ∀ (xs ch : List Nat) (X Xe : Nat → Int32), (∀ y ∈ xs, isCl N D y) → (∀ y ∈ ch, isCl N D y) → (∀ q, 512 * hv D ≤ q → q < 512 * ha D → o1 Xe q = o1 X q) → ∀ q, (o1 Xe q = o1 X q ∨ inC D xs q) → o1 (grN D p xs Xe ch) q = o1 (grN D p xs X ch) q := by
  intro xs
  induction xs with
  | nil => intro ch X Xe _ _ _ q hq; exact hq.resolve_right (fun ⟨y, y1, _⟩ => by cases y1)
  | cons x xs ih =>
    intro ch X Xe hxs hcl ht q hq
    have hx := hxs x List.mem_cons_self
    have g := gr_ag (p := p) h hN hx hcl ht
    rw [grN, grN]
    refine ih _ _ _ (fun y hy0 => hxs y (List.mem_cons_of_mem _ hy0)) (snoc_cl hx hcl) (fun q' g1 g2 => g q' (Or.inl (ht q' g1 g2))) q ?_
    rcases hq with w | ⟨y, y1, y2⟩
    · exact Or.inl (g q (Or.inl w))
    · rcases List.mem_cons.mp y1 with e | e
      · rw [e] at y2; exact Or.inl (g q (Or.inr y2))
      · exact Or.inr ⟨y, e, y2⟩
theorem grN_o1 {N p : Nat} {D : Nat → Int32} (h : hdOk N D) (hN : N ≤ 1024) : ∀ (xs ch : List Nat) (X : Nat → Int32), (∀ y ∈ xs, isCl N D y) → (∀ y ∈ ch, isCl N D y) → ∀ q, (q < 512 * hv D ∨ 512 * ha D ≤ q) → (q < p + 20 ∨ p + 28 ≤ q) → (¬ inC D xs q → o1 (grN D p xs X ch) q = o1 X q) ∧ (inC D xs q ∨ o1 X q = 0 → o1 (grN D p xs X ch) q = 0) := by
  intro xs
  induction xs with
  | nil => intro ch X _ _ q _ _; exact ⟨fun _ => rfl, fun w => w.resolve_left (fun ⟨y, y1, _⟩ => by cases y1)⟩
  | cons x xs ih =>
    intro ch X hxs hcl q q1 q2
    have hx := hxs x List.mem_cons_self
    have g := gr_o1 (X := X) h hN hx hcl q1 q2
    obtain ⟨i1, i2⟩ := ih (ch ++ [x]) (gr D X p ch x) (fun y hy0 => hxs y (List.mem_cons_of_mem _ hy0)) (snoc_cl hx hcl) q q1 q2
    rw [grN]
    refine ⟨fun w => ?_, fun w => ?_⟩
    · rw [i1 (fun ⟨y, y1, y2⟩ => w ⟨y, List.mem_cons_of_mem _ y1, y2⟩), g, if_neg (fun y => w ⟨x, List.mem_cons_self, y⟩)]
    · rcases w with ⟨y, y1, y2⟩ | w
      · rcases List.mem_cons.mp y1 with e | e
        · rw [e] at y2
          exact i2 (Or.inr (by rw [g, if_pos y2]))
        · exact i2 (Or.inl ⟨y, e, y2⟩)
      · refine i2 (Or.inr ?_)
        rw [g]
        split
        · rfl
        · exact w
theorem grL_mem {ch : List Nat} {x : Nat} {a : Nat × Nat} (h : a ∈ grL ch x) : (a.1 = x ∧ a.2 = 268435455) ∨ (a.1 ∈ ch ∧ a.2 = x) := by
  unfold grL at h
  by_cases g : ch.length = 0
  · rw [if_pos g] at h
    rw [List.mem_singleton.mp h]
    exact Or.inl ⟨rfl, rfl⟩
  · rw [if_neg g] at h
    rcases List.mem_cons.mp h with e | e
    · rw [e]; exact Or.inl ⟨rfl, rfl⟩
    · rw [List.mem_singleton.mp e]
      exact Or.inr ⟨getD_mem (by omega), rfl⟩
theorem grL_x {ch : List Nat} {x : Nat} : (x, 268435455) ∈ grL ch x := by
  unfold grL
  by_cases g : ch.length = 0
  · rw [if_pos g]; exact List.mem_singleton.mpr rfl
  · rw [if_neg g]; exact List.mem_cons_self
theorem grLs_mem : ∀ (xs ch : List Nat) (a : Nat × Nat), a ∈ grLs xs ch → (a.1 ∈ ch ∨ a.1 ∈ xs) ∧ (a.2 = 268435455 ∨ a.2 ∈ xs) := by
  intro xs
  induction xs with
  | nil => intro ch a h; cases h
  | cons x xs ih =>
    intro ch a h
    rw [grLs] at h
    rcases List.mem_append.mp h with e | e
    · rcases grL_mem e with ⟨e1, e2⟩ | ⟨e1, e2⟩
      · exact ⟨Or.inr (by rw [e1]; exact List.mem_cons_self), Or.inl e2⟩
      · exact ⟨Or.inl e1, Or.inr (by rw [e2]; exact List.mem_cons_self)⟩
    · obtain ⟨e1, e2⟩ := ih _ _ e
      refine ⟨?_, e2.imp id (List.mem_cons_of_mem _)⟩
      rcases e1 with w | w
      · rcases List.mem_append.mp w with w | w
        · exact Or.inl w
        · exact Or.inr (by rw [List.mem_singleton.mp w]; exact List.mem_cons_self)
      · exact Or.inr (List.mem_cons_of_mem _ w)
theorem lkV_key {y : Nat} : ∀ (l : List (Nat × Nat)) (w : Nat), (∃ a ∈ l, a.1 = y) → ∃ a ∈ l, lkV l y w = a.2 := by
  intro l
  induction l with
  | nil => intro w ⟨a, h, _⟩; cases h
  | cons b l ih =>
    intro w ⟨a, h, e⟩
    rw [lkV]
    rcases lkV_or (y := y) l (if y = b.1 then b.2 else w) with g | ⟨c, c1, c2, c3⟩
    · by_cases gb : y = b.1
      · rw [if_pos gb] at g ⊢
        exact ⟨b, List.mem_cons_self, g⟩
      · rcases List.mem_cons.mp h with h | h
        · exact absurd (by rw [← h, e]) gb
        · obtain ⟨c, c1, c2⟩ := ih (if y = b.1 then b.2 else w) ⟨a, h, e⟩
          exact ⟨c, List.mem_cons_of_mem _ c1, c2⟩
    · exact ⟨c, List.mem_cons_of_mem _ c1, c3⟩
/-- what is taken was free, and is taken once -/
theorem tkn_free {N : Nat} {D : Nat → Int32} : ∀ (xs : List Nat) (l : List (Nat × Nat)) (ch : List Nat), tkn N D xs l ch → (∀ a ∈ l, a.2 ≠ 0) → (∀ x ∈ xs, isCl N D x ∧ ent D x = 0 ∧ ∀ a ∈ l, a.1 ≠ x) ∧ xs.Nodup := by
  intro xs
  induction xs with
  | nil => intro l ch _ _; exact ⟨fun x h => (by cases h), List.nodup_nil⟩
  | cons x xs ih =>
    intro l ch ⟨⟨h1, h2⟩, h3⟩ h0
    have hx2 := h1.1
    have hne : ∀ a ∈ l, a.1 ≠ x := fun a ha1 e => by
      obtain ⟨b, b1, b2⟩ := lkV_key l (ent D x) ⟨a, ha1, e⟩
      exact h0 b b1 (b2.symm.trans h1.2.1)
    have hex : ent D x = 0 := (lkV_no l hne).symm.trans h1.2.1
    obtain ⟨i1, i2⟩ := ih _ _ h3 (fun a ha1 => by
      rcases List.mem_append.mp ha1 with w | w
      · exact h0 a w
      · rcases grL_mem w with ⟨-, e⟩ | ⟨-, e⟩
        · rw [e]; decide
        · rw [e]; omega)
    refine ⟨fun y hy0 => ?_, List.nodup_cons.mpr ⟨fun w => (i1 x w).2.2 _ (List.mem_append.mpr (Or.inr grL_x)) rfl, i2⟩⟩
    rcases List.mem_cons.mp hy0 with e | e
    · rw [e]; exact ⟨⟨hx2, by omega⟩, hex, hne⟩
    · exact ⟨(i1 y e).1, (i1 y e).2.1, fun a ha1 => (i1 y e).2.2 a (List.mem_append.mpr (Or.inl ha1))⟩
theorem cntF_upd {e e' : Nat → Nat} {x : Nat} (h : ∀ y, y ≠ x → e y = 0 → e' y = 0) : ∀ d s, cntF e d s ≤ cntF e' d s + (if s ≤ x then 1 else 0) := by
  intro d
  induction d with
  | zero => intro s; rw [cntF]; omega
  | succ d ih =>
    intro s
    rw [cntF, cntF]
    have := ih (s + 1)
    by_cases w : s = x
    · rw [if_neg (show ¬ s + 1 ≤ x by omega)] at this
      rw [if_pos (show s ≤ x by omega)]
      by_cases g : e s = 0
      · rw [if_pos g]; omega
      · rw [if_neg g]; omega
    · have hle : (if s + 1 ≤ x then 1 else 0) = (if s ≤ x then 1 else 0) := by
        by_cases g : s ≤ x
        · rw [if_pos g, if_pos (by omega)]
        · rw [if_neg g, if_neg (by omega)]
      rw [hle] at this
      by_cases g : e s = 0
      · rw [if_pos g, if_pos (h s w g)]; omega
      · rw [if_neg g]; omega
theorem tkn_ex {N : Nat} {D : Nat → Int32} : ∀ (n : Nat) (l : List (Nat × Nat)) (ch : List Nat), n ≤ cntF (fun y => lkV l y (ent D y)) (hk N D) 2 → (∀ y ∈ ch, lkV l y (ent D y) ≠ 0) → ∃ xs : List Nat, xs.length = n ∧ tkn N D xs l ch := by
  intro n
  induction n with
  | zero => intro l ch _ _; exact ⟨[], rfl, trivial⟩
  | succ n ih =>
    intro l ch hn hch
    obtain ⟨x, hx, hxl⟩ := frst_ex (hk N D) 2 (Nat.le_trans (Nat.succ_le_succ (Nat.zero_le _)) hn)
    have hx2 := hx.1
    have hnew : ∀ y, lkV (l ++ grL ch x) y (ent D y) = lkV (grL ch x) y (lkV l y (ent D y)) := fun y => lkV_app (w := 0) l (grL ch x) (ent D y)
    have hnz : ∀ a ∈ grL ch x, a.2 ≠ 0 := fun a ha1 => by
      rcases grL_mem ha1 with ⟨-, e⟩ | ⟨-, e⟩
      · rw [e]; decide
      · rw [e]; omega
    obtain ⟨xs, e1, e2⟩ := ih (l ++ grL ch x) (ch ++ [x]) (by
      have := cntF_upd (e := fun y => lkV l y (ent D y)) (e' := fun y => lkV (l ++ grL ch x) y (ent D y)) (x := x) (fun y y1 y2 => by
        show lkV (l ++ grL ch x) y (ent D y) = 0
        rw [hnew, lkV_no]
        · exact y2
        · intro a ha1 e
          rcases grL_mem ha1 with ⟨e1, -⟩ | ⟨e1, -⟩
          · exact y1 (e.symm.trans e1)
          · rw [e] at e1; exact hch y e1 y2) (hk N D) 2
      rw [if_pos hx2] at this
      omega) (fun y hy0 => by
        rw [hnew]
        rcases List.mem_append.mp hy0 with w | w
        · rcases lkV_or (y := y) (grL ch x) (lkV l y (ent D y)) with g | ⟨a, a1, a2, a3⟩
          · rw [g]; exact hch y w
          · rw [a3]; exact hnz a a1
        · obtain ⟨a, a1, a2⟩ := lkV_key (y := y) (grL ch x) (lkV l y (ent D y)) ⟨_, grL_x, (List.mem_singleton.mp w).symm⟩
          rw [a2]; exact hnz a a1)
    exact ⟨x :: xs, by rw [List.length_cons, e1], ⟨hx, by omega⟩, e2⟩
