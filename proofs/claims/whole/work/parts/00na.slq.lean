/-! Slots alike on two disks. -/
abbrev slq (E : Nat → Int32) (q : Nat) (D : Nat → Int32) (p : Nat) : Prop := ∀ j, j < 32 → o1 E (q + j) = o1 D (p + j)
theorem slq_2 {E D : Nat → Int32} {q p : Nat} (h : slq E q D p) {j : Nat} (hj : j < 31) : o2 E (q + j) = o2 D (p + j) := by
  unfold o2
  rw [h j (by omega), Nat.add_assoc q j 1, h (j + 1) (by omega), Nat.add_assoc]
theorem slq_4 {E D : Nat → Int32} {q p : Nat} (h : slq E q D p) {j : Nat} (hj : j < 29) : o4 E (q + j) = o4 D (p + j) := by
  unfold o4
  rw [slq_2 h (by omega), Nat.add_assoc q j 2, slq_2 h (by omega), Nat.add_assoc]
theorem slq_0 {E D : Nat → Int32} {q p : Nat} (h : slq E q D p) : o1 E q = o1 D p := h 0 (by decide)
theorem slq_days {E D : Nat → Int32} {q p : Nat} (h : slq E q D p) : daysP E q ↔ daysP D p := by
  unfold daysP
  rw [slq_2 h (j := 16) (by decide), slq_2 h (j := 14) (by decide), h 13 (by decide), slq_2 h (j := 18) (by decide), slq_2 h (j := 24) (by decide), slq_2 h (j := 22) (by decide)]
theorem slq_sh {E D : Nat → Int32} {q p : Nat} {l : Prop} (h : slq E q D p) : shP E q l ↔ shP D p l := by
  unfold shP
  rw [slq_0 h]
  refine and_congr_right (fun _ => ⟨fun g j hj => ?_, fun g j hj => ?_⟩)
  · have := g j hj
    unfold shQ at this ⊢
    rw [h j (by omega)] at this
    refine ⟨this.1, ?_⟩
    by_cases e : j = 0
    · exact Or.inr (Or.inl e)
    · refine this.2.imp id (Or.imp id (Or.imp id (Or.imp id (fun w => ?_))))
      rw [Nat.add_sub_assoc (by omega)] at w ⊢
      rw [← h (j - 1) (by omega)]; exact w
  · have := g j hj
    unfold shQ at this ⊢
    rw [← h j (by omega)] at this
    refine ⟨this.1, ?_⟩
    by_cases e : j = 0
    · exact Or.inr (Or.inl e)
    · refine this.2.imp id (Or.imp id (Or.imp id (Or.imp id (fun w => ?_))))
      rw [Nat.add_sub_assoc (by omega)] at w ⊢
      rw [h (j - 1) (by omega)]; exact w
theorem slq_fc {E D : Nat → Int32} {q p : Nat} (h : slq E q D p) : fc E q = fc D p := by
  unfold fc
  rw [slq_2 h (j := 20) (by decide), slq_2 h (j := 26) (by decide)]
theorem slq_sm {E D : Nat → Int32} {q p : Nat} (h : slq E q D p) : ∀ i, i ≤ 32 → sm E q i = sm D p i := by
  intro i
  induction i with
  | zero => intro _; rfl
  | succ i ih =>
    intro hi
    rw [sm, sm, ih (by omega), h i (by omega)]
theorem slq_sv {E D : Nat → Int32} {q p : Nat} (h : slq E q D p) : ∀ i, i ≤ 32 → svO E q i = svO D p i := by
  intro i
  induction i with
  | zero => intro _; rfl
  | succ i ih =>
    intro hi
    rw [svO, svO, ih (by omega)]
    unfold svA svB
    rw [h i (by omega), h 8 (by decide)]
theorem uAt_lt {q : Nat} (h : q < 13) : uAt q ≤ 30 := by unfold uAt; split <;> (try split) <;> omega
theorem slq_ch {E D : Nat → Int32} {q p : Nat} (h : slq E q D p) : chunk E q = chunk D p := by
  unfold chunk
  apply List.map_congr_left
  intro j hj
  have := uAt_lt (List.mem_range.mp hj)
  exact slq_2 h (by omega)
theorem slq_pt {E D : Nat → Int32} {q p : Nat} {x : Pend} (h : slq E q D p) : ptP E q x ↔ ptP D p x := by
  unfold ptP
  rw [slq_0 h, h 13 (by decide), h 12 (by decide), slq_2 h (j := 26) (by decide)]
/-! A disk on which the clusters of another stand, some of them at other places. -/
abbrev plC (D : Nat → Int32) (c : Nat) : Nat := 512 * (ha D + (c - 2) * hc D)
abbrev agH (D E : Nat → Int32) : Prop := (∀ p, p < 512 → o1 E p = o1 D p) ∧ (∀ p, 512 * hv D ≤ p → p < 512 * ha D → o1 E p = o1 D p)
abbrev agC (N : Nat) (D E : Nat → Int32) (g : Nat → Nat) : Prop := ∀ c, isCl N D c → ent D c ≠ 0 → isCl N D (g c) ∧ ∀ j, j < 512 * hc D → o1 E (plC D (g c) + j) = o1 D (plC D c + j)
theorem agH_2 {D E : Nat → Int32} (h : agH D E) {p : Nat} (hp : p + 1 < 512) : o2 E p = o2 D p := by
  unfold o2
  rw [h.1 p (by omega), h.1 (p + 1) hp]
theorem agH_4 {D E : Nat → Int32} (h : agH D E) {p : Nat} (hp : p + 3 < 512) : o4 E p = o4 D p := by
  unfold o4
  rw [agH_2 h (by omega), agH_2 h (by omega)]
theorem agH_n {D E : Nat → Int32} (h : agH D E) : hc E = hc D ∧ hv E = hv D ∧ hy E = hy D ∧ hz E = hz D ∧ hr E = hr D ∧ ha E = ha D ∧ ∀ N, hk N E = hk N D := by
  have e1 : hc E = hc D := h.1 13 (by decide)
  have e2 : hv E = hv D := agH_2 h (by decide)
  have e3 : hy E = hy D := h.1 16 (by decide)
  have e4 : hz E = hz D := agH_4 h (by decide)
  have e5 : hr E = hr D := agH_4 h (by decide)
  have e6 : ha E = ha D := by unfold ha; rw [e2, e3, e4]
  exact ⟨e1, e2, e3, e4, e5, e6, fun N => by unfold hk; rw [e1, e6]⟩
theorem agH_ok {N : Nat} {D E : Nat → Int32} (h : agH D E) : hdOk N E ↔ hdOk N D := by
  obtain ⟨e1, e2, e3, e4, e5, e6, e7⟩ := agH_n h
  unfold hdOk hdA hdB
  rw [e1, e2, e3, e4, e5, e6, e7, agH_2 h (p := 11) (by decide), agH_2 h (p := 17) (by decide), agH_2 h (p := 19) (by decide), agH_2 h (p := 22) (by decide), agH_4 h (p := 32) (by decide), agH_2 h (p := 48) (by decide), agH_2 h (p := 50) (by decide), agH_2 h (p := 510) (by decide)]
theorem agH_t2 {D E : Nat → Int32} (h : agH D E) {p : Nat} (h1 : 512 * hv D ≤ p) (h2 : p + 1 < 512 * ha D) : o2 E p = o2 D p := by
  unfold o2
  rw [h.2 p h1 (by omega), h.2 (p + 1) (by omega) h2]
theorem agH_t4 {D E : Nat → Int32} (h : agH D E) {p : Nat} (h1 : 512 * hv D ≤ p) (h2 : p + 3 < 512 * ha D) : o4 E p = o4 D p := by
  unfold o4
  rw [agH_t2 h h1 (by omega), agH_t2 h (by omega) (by omega)]
theorem agH_e4 {N : Nat} {D E : Nat → Int32} (h : agH D E) (ho : hdOk N D) (hN : N ≤ 1024) {t x : Nat} (ht : t < hy D) (hx : x < hk N D + 2) : o4 E (512 * (hv D + t * hz D) + 4 * x) = o4 D (512 * (hv D + t * hz D) + 4 * x) := by
  obtain ⟨hC, v1, v2, hY, z1, z2, a1, a2, a3, k1, k2, r1, r2, k3, k4, k5⟩ := hd_facts ho hN
  refine agH_t4 h (by omega) ?_
  rw [a1]
  rcases hY with e | e
  · rw [e] at ht ⊢
    obtain rfl : t = 0 := by omega
    omega
  · rw [e] at ht ⊢
    rcases Nat.lt_or_ge t 1 with w | w
    · obtain rfl : t = 0 := by omega
      omega
    · obtain rfl : t = 1 := by omega
      omega
theorem agH_ent {N : Nat} {D E : Nat → Int32} (h : agH D E) (ho : hdOk N D) (hN : N ≤ 1024) {x : Nat} (hx : x < hk N D + 2) : ent E x = ent D x := by
  have hY := (hd_facts ho hN).2.2.2.1
  have := agH_e4 h ho hN (t := 0) (by omega) hx
  unfold ent
  rw [(agH_n h).2.1]
  rw [Nat.zero_mul, Nat.add_zero] at this
  rw [this]
theorem agH_tab {N : Nat} {D E : Nat → Int32} (h : agH D E) (ho : hdOk N D) (hN : N ≤ 1024) : tabOk N E ↔ tabOk N D := by
  obtain ⟨e1, e2, e3, e4, e5, e6, e7⟩ := agH_n h
  have hY := (hd_facts ho hN).2.2.2.1
  unfold tabOk
  rw [e7]
  have key : ∀ x, x < hk N D + 2 → (tabX N E x ↔ tabX N D x) := by
    intro x hx
    have a0 := agH_e4 h ho hN (t := 0) (by omega) hx
    rw [Nat.zero_mul, Nat.add_zero] at a0
    unfold tabX isCl
    rw [agH_ent h ho hN hx, e2, e3, e4, e7, a0]
    refine and_congr_right (fun _ => and_congr_right (fun _ => and_congr_right (fun _ => ?_)))
    refine ⟨fun g y => ?_, fun g y => ?_⟩
    · have a1 := agH_e4 h ho hN (t := 1) (by omega) hx
      rw [Nat.one_mul] at a1
      rw [← a1]; exact g y
    · have a1 := agH_e4 h ho hN (t := 1) (by omega) hx
      rw [Nat.one_mul] at a1
      rw [a1]; exact g y
  exact ⟨fun g x hx => (key x hx).mp (g x hx), fun g x hx => (key x hx).mpr (g x hx)⟩
theorem agH_fol {N : Nat} {D E : Nat → Int32} (h : agH D E) (ho : hdOk N D) (hN : N ≤ 1024) : ∀ (f x : Nat) (tk : List Nat), fol N E f x tk = fol N D f x tk := by
  obtain ⟨e1, e2, e3, e4, e5, e6, e7⟩ := agH_n h
  intro f
  induction f with
  | zero => intro x tk; rfl
  | succ f ih =>
    intro x tk
    rw [fol, fol]
    unfold isCl
    rw [e7]
    by_cases g : 2 ≤ x ∧ x ≤ hk N D + 1
    · rw [agH_ent h ho hN (by omega), ih]
    · rw [if_neg (fun w => g w.1), if_neg (fun w => g w.1)]
/-- the place of a slot when its cluster stands elsewhere -/
def mpP (D : Nat → Int32) (g : Nat → Nat) (p : Nat) : Nat := plC D (g (clOf D p)) + (p - 512 * ha D) % (512 * hc D)
theorem plS_off {N : Nat} {D : Nat → Int32} {ch : List Nat} {s : Nat} (h : hdOk N D) (hN : N ≤ 1024) : plS D ch s = plC D (ch.getD (s / (16 * hc D)) 0) + 32 * (s % (16 * hc D)) ∧ 32 * (s % (16 * hc D)) + 32 ≤ 512 * hc D ∧ (plS D ch s - 512 * ha D) % (512 * hc D) = 32 * (s % (16 * hc D)) := by
  have hC := (hd_facts h hN).1
  have hr : s % (16 * hc D) < 16 * hc D := Nat.mod_lt _ (by omega)
  refine ⟨rfl, by omega, ?_⟩
  unfold plS
  generalize ch.getD (s / (16 * hc D)) 0 - 2 = c at *
  generalize s % (16 * hc D) = r at *
  rw [show 512 * (ha D + c * hc D) + 32 * r - 512 * ha D = 32 * r + 512 * hc D * c by rw [Nat.mul_add, show 512 * (c * hc D) = 512 * hc D * c by rw [Nat.mul_comm c, Nat.mul_assoc]]; omega]
  rw [Nat.add_mul_mod_self_left, Nat.mod_eq_of_lt (by omega)]
theorem mpP_pl {N : Nat} {D : Nat → Int32} {g : Nat → Nat} {ch : List Nat} {s : Nat} (h : hdOk N D) (hN : N ≤ 1024) (hcl : ∀ x ∈ ch, isCl N D x) (hs : s < ch.length * 16 * hc D) : mpP D g (plS D ch s) = plS D (ch.map g) s := by
  have hC := (hd_facts h hN).1
  obtain ⟨p1, p2, p3, p4⟩ := plS_lt h hN hcl hs
  obtain ⟨o1', o2', o3'⟩ := plS_off (ch := ch) (s := s) h hN
  have hq : s / (16 * hc D) < ch.length := by rw [Nat.div_lt_iff_lt_mul (by omega), ← Nat.mul_assoc]; exact hs
  have e : (ch.map g).getD (s / (16 * hc D)) 0 = g (ch.getD (s / (16 * hc D)) 0) := by
    rw [List.getD_eq_getElem?_getD, List.getD_eq_getElem?_getD, List.getElem?_map, List.getElem?_eq_getElem hq]
    rfl
  unfold mpP
  rw [o3', plS_cl hC (hcl _ p3).1]
  unfold plS
  rw [e]
theorem mp_slq {N : Nat} {D E : Nat → Int32} {g : Nat → Nat} {ch : List Nat} {s : Nat} (h : hdOk N D) (hN : N ≤ 1024) (ha0 : agC N D E g) (hcl : ∀ x ∈ ch, isCl N D x ∧ ent D x ≠ 0) (hs : s < ch.length * 16 * hc D) : slq E (mpP D g (plS D ch s)) D (plS D ch s) ∧ mpP D g (plS D ch s) + 32 ≤ 512 * N := by
  have hcl' : ∀ x ∈ ch, isCl N D x := fun x hx => (hcl x hx).1
  have hC := (hd_facts h hN).1
  obtain ⟨p1, p2, p3, p4⟩ := plS_lt h hN hcl' hs
  obtain ⟨o1', o2', o3'⟩ := plS_off (ch := ch) (s := s) h hN
  obtain ⟨c1, c2⟩ := ha0 _ (hcl _ p3).1 (hcl _ p3).2
  have em := mpP_pl (g := g) h hN hcl' hs
  refine ⟨fun j hj => ?_, ?_⟩
  · unfold mpP
    rw [o3', plS_cl hC (hcl _ p3).1.1, Nat.add_assoc, c2 _ (by omega), o1', Nat.add_assoc]
  · rw [em]
    refine (plS_lt h hN (ch := ch.map g) (fun x hx => ?_) (by rw [List.length_map]; exact hs)).1
    obtain ⟨y, hy, rfl⟩ := List.mem_map.mp hx
    exact (ha0 y (hcl y hy).1 (hcl y hy).2).1
