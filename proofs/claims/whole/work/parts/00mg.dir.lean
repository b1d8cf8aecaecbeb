/-! The slots of a directory, one by one. -/
def plS (D : Nat → Int32) (ch : List Nat) (s : Nat) : Nat := 512 * (ha D + (ch.getD (s / (16 * hc D)) 0 - 2) * hc D) + 32 * (s % (16 * hc D))
def clOf (D : Nat → Int32) (p : Nat) : Nat := (p / 512 - ha D) / hc D + 2
theorem getD_mem {l : List Nat} {j : Nat} (h : j < l.length) : l.getD j 0 ∈ l := by
  rw [List.getD_eq_getElem?_getD, List.getElem?_eq_getElem h]
  exact List.getElem_mem h
theorem plS_cl {D : Nat → Int32} {ch : List Nat} {s : Nat} (hc0 : hc D = 2 ∨ hc D = 4 ∨ hc D = 8) (h2 : 2 ≤ ch.getD (s / (16 * hc D)) 0) : clOf D (plS D ch s) = ch.getD (s / (16 * hc D)) 0 := by
  unfold clOf plS
  generalize ch.getD (s / (16 * hc D)) 0 = c at *
  have hr : s % (16 * hc D) < 16 * hc D := Nat.mod_lt _ (by omega)
  have e : (512 * (ha D + (c - 2) * hc D) + 32 * (s % (16 * hc D))) / 512 - ha D = (c - 2) * hc D + s % (16 * hc D) / 16 := by omega
  rw [e]
  have hq : s % (16 * hc D) / 16 < hc D := by omega
  rw [Nat.mul_comm, Nat.mul_add_div (by omega), Nat.div_eq_of_lt hq]
  omega
theorem plS_lt {N : Nat} {D : Nat → Int32} {ch : List Nat} {s : Nat} (h : hdOk N D) (hN : N ≤ 1024) (hcl : ∀ x ∈ ch, isCl N D x) (hs : s < ch.length * 16 * hc D) : plS D ch s + 32 ≤ 512 * N ∧ plS D ch s % 32 = 0 ∧ ch.getD (s / (16 * hc D)) 0 ∈ ch ∧ 512 * ha D ≤ plS D ch s := by
  obtain ⟨hC, v1, v2, hY, z1, z2, a1, a2, a3, k1, k2, r1, r2, k3, k4, k5⟩ := hd_facts h hN
  have hq : s / (16 * hc D) < ch.length := by
    rw [Nat.div_lt_iff_lt_mul (by omega), ← Nat.mul_assoc]; exact hs
  have hm := getD_mem hq
  obtain ⟨c1, c2⟩ := hcl _ hm
  unfold plS
  generalize ch.getD (s / (16 * hc D)) 0 = c at *
  have hr : s % (16 * hc D) < 16 * hc D := Nat.mod_lt _ (by omega)
  have e : (c - 2) * hc D + hc D ≤ hk N D * hc D := by
    have := Nat.mul_le_mul_right (hc D) (show c - 2 + 1 ≤ hk N D by omega)
    rw [Nat.add_mul, Nat.one_mul] at this
    exact this
  refine ⟨?_, ?_, hm, ?_⟩
  · generalize (c - 2) * hc D = x at *
    generalize hk N D * hc D = y at *
    generalize s % (16 * hc D) = r at *
    omega
  · omega
  · omega
theorem nodup_inj {l : List Nat} (h : l.Nodup) {i j : Nat} (hi : i < l.length) (hj : j < l.length) (e : l.getD i 0 = l.getD j 0) : i = j := by
  rw [List.getD_eq_getElem?_getD, List.getD_eq_getElem?_getD, List.getElem?_eq_getElem hi, List.getElem?_eq_getElem hj] at e
  exact (List.getElem_inj h).mp e
theorem plS_inj {N : Nat} {D : Nat → Int32} {ch : List Nat} {s t : Nat} (h : hdOk N D) (hN : N ≤ 1024) (hcl : ∀ x ∈ ch, isCl N D x) (hn : ch.Nodup) (hs : s < ch.length * 16 * hc D) (ht : t < ch.length * 16 * hc D) (e : plS D ch s = plS D ch t) : s = t := by
  have hC := (hd_facts h hN).1
  obtain ⟨-, -, s3, -⟩ := plS_lt h hN hcl hs
  obtain ⟨-, -, t3, -⟩ := plS_lt h hN hcl ht
  have e1 : ch.getD (s / (16 * hc D)) 0 = ch.getD (t / (16 * hc D)) 0 := by
    rw [← plS_cl hC (hcl _ s3).1, ← plS_cl hC (hcl _ t3).1, e]
  have q1 : s / (16 * hc D) < ch.length := by rw [Nat.div_lt_iff_lt_mul (by omega), ← Nat.mul_assoc]; exact hs
  have q2 : t / (16 * hc D) < ch.length := by rw [Nat.div_lt_iff_lt_mul (by omega), ← Nat.mul_assoc]; exact ht
  have e2 := nodup_inj hn q1 q2 e1
  unfold plS at e
  rw [e1] at e
  have e3 : s % (16 * hc D) = t % (16 * hc D) := by omega
  rw [← Nat.div_add_mod s (16 * hc D), ← Nat.div_add_mod t (16 * hc D), e2, e3]
def exb {α β : Type} (a : Except Nat α) (f : α → Except Nat β) : Except Nat β := match a with
  | .ok x => f x
  | .error e => .error e
theorem exb_o {α β : Type} (x : α) (f : α → Except Nat β) : exb (.ok x) f = f x := rfl
theorem exb_e {α β : Type} (e : Nat) (f : α → Except Nat β) : exb (.error e) f = .error e := rfl
theorem exb_ok {α β : Type} {a : Except Nat α} {f : α → Except Nat β} {y : β} (h : exb a f = .ok y) : ∃ x, a = .ok x ∧ f x = .ok y := by
  cases a with
  | ok x => exact ⟨x, rfl, h⟩
  | error e => cases h
noncomputable def slS (N : Nat) (D : Nat → Int32) (i fk s p : Nat) (z : SS) : Except Nat SS := cif (1 ≤ i ∧ s < 2) (cif (dtP D (sIt z) p i s) (.ok z) (.error 4)) (cif (o1 D p = 229) (cif (pM (sPe z) = 0) (.ok z) (.error 4)) (cif (o1 D (p + 11) % 64 = 15) (cif (ptP D p (sPe z)) (.ok ((sIt z, sLb z), sTk z, ptN D p (sPe z))) (.error 4)) (entS N D i s p fk z)))
noncomputable def dirL (N : Nat) (D : Nat → Int32) (i fk : Nat) (ch : List Nat) : Nat → Nat → SS → Except Nat (Nat × SS)
  | 0, s, z => .ok (s, z)
  | m + 1, s, z => cif (o1 D (plS D ch s) = 0) (.ok (s, z)) (exb (slS N D i fk s (plS D ch s) z) (dirL N D i fk ch m (s + 1)))
noncomputable def dirE (i : Nat) (x : Nat × SS) : Except Nat SS := cif (pM (sPe x.2) = 0 ∧ (i = 0 ∨ 2 ≤ x.1)) (.ok x.2) (.error 4)
noncomputable def dirC (N : Nat) (D : Nat → Int32) (i : Nat) (ch : List Nat) (z : SS) : Except Nat SS := exb (dirL N D i (sIt z).length ch (ch.length * 16 * hc D) 0 ((sIt z, sLb z), ch ++ sTk z, pe0)) (dirE i)
noncomputable def dirS (N : Nat) (D : Nat → Int32) (i : Nat) (z : SS) : Except Nat SS := match fo N D (begI D (sIt z) i) (sTk z) with
  | none => .error 3
  | some ch => dirC N D i ch z
/-- a slot in which an entry or a part may stand -/
def ptW (D : Nat → Int32) (p : Nat) : Prop := o1 D (p + 11) % 64 = 15 ∧ o1 D (p + 12) = 0 ∧ o2 D (p + 26) = 0
def cpP (D : Nat → Int32) (p : Nat) : Prop := (ptW D p ∧ unP (o2 D (p + 1))) ∨ (o1 D (p + 11) ≤ 63 ∧ daysP D p ∧ shP D p ((0 : Nat) = 1) ∧ (o1 D (p + 11) / 16 % 2 = 1 → o4 D (p + 28) = 0))
def capOk (N : Nat) (D : Nat → Int32) (m : Nat) : Prop := ∀ vs : List Nat, vs.Nodup → (∀ v ∈ vs, v < 16 * N ∧ cpP D (32 * v)) → vs.length ≤ m
/-- what holds of a tree while it is read: its numbers, and how much of the disk it has used -/
abbrev zOk (N : Nat) (z : SS) : Prop := itsOk N (sIt z) ∧ peOk (sPe z) ∧ (∀ q, sLb z = some q → q + 32 ≤ 512 * N)
abbrev vsl (D : Nat → Int32) (tk0 ch : List Nat) (s v : Nat) : Prop := clOf D (32 * v) ∈ tk0 ∨ ∃ t, t < s ∧ 32 * v = plS D ch t
abbrev cin (N : Nat) (D : Nat → Int32) (tk0 ch : List Nat) (s : Nat) (z : SS) : Prop := ∃ vs ps : List Nat, (ps ++ vs).Nodup ∧ (∀ v ∈ vs, v < 16 * N ∧ cpP D (32 * v) ∧ vsl D tk0 ch s v) ∧ (∀ v ∈ ps, v < 16 * N ∧ ptW D (32 * v) ∧ vsl D tk0 ch s v) ∧ ps.length = pM (sPe z) ∧ (∀ i, i < pM (sPe z) → (pU (sPe z)).getD (13 * i) 0 = o2 D (32 * ps.getD i 0 + 1)) ∧ (sIt z).length ≤ 1 + vs.length ∧ (uns (sIt z)).length ≤ 22 * vs.length
theorem nodup_right {a b : List Nat} (h : (a ++ b).Nodup) : b.Nodup := (List.nodup_append.mp h).2.1
theorem cin_bnd {N m s : Nat} {D : Nat → Int32} {tk0 ch : List Nat} {z : SS} (h : cin N D tk0 ch s z) (hc : capOk N D m) : (sIt z).length ≤ 1 + m ∧ (uns (sIt z)).length ≤ 22 * m := by
  obtain ⟨vs, ps, h1, h2, -, -, -, h3, h4⟩ := h
  have := hc vs (nodup_right h1) (fun v hv => ⟨(h2 v hv).1, (h2 v hv).2.1⟩)
  omega
theorem vsl_s {D : Nat → Int32} {tk0 ch : List Nat} {s v : Nat} (h : vsl D tk0 ch s v) : vsl D tk0 ch (s + 1) v := h.imp id (fun ⟨t, x, y⟩ => ⟨t, by omega, y⟩)
theorem cin_same {N s : Nat} {D : Nat → Int32} {tk0 ch : List Nat} {z z' : SS} (h : cin N D tk0 ch s z) (e1 : sIt z' = sIt z) (e2 : sPe z' = sPe z) : cin N D tk0 ch (s + 1) z' := by
  obtain ⟨vs, ps, h1, h2, h3, h4, h5, h6, h7⟩ := h
  exact ⟨vs, ps, h1, fun v hv => ⟨(h2 v hv).1, (h2 v hv).2.1, vsl_s (h2 v hv).2.2⟩, fun v hv => ⟨(h3 v hv).1, (h3 v hv).2.1, vsl_s (h3 v hv).2.2⟩, by rw [e2]; exact h4, by rw [e2]; exact h5, by rw [e1]; exact h6, by rw [e1]; exact h7⟩
/-- the slot that is read is none of those before -/
theorem cin_new {N s : Nat} {D : Nat → Int32} {tk0 ch : List Nat} (h : hdOk N D) (hN : N ≤ 1024) (hcl : ∀ x ∈ ch, isCl N D x) (hn : ch.Nodup) (hd : ∀ x ∈ ch, x ∉ tk0) (hs : s < ch.length * 16 * hc D) : ¬ vsl D tk0 ch s (plS D ch s / 32) ∧ 32 * (plS D ch s / 32) = plS D ch s ∧ plS D ch s / 32 < 16 * N ∧ vsl D tk0 ch (s + 1) (plS D ch s / 32) := by
  obtain ⟨p1, p2, p3, p4⟩ := plS_lt h hN hcl hs
  have hC := (hd_facts h hN).1
  have ev : 32 * (plS D ch s / 32) = plS D ch s := by omega
  refine ⟨fun c => ?_, ev, by omega, Or.inr ⟨s, by omega, ev⟩⟩
  unfold vsl at c
  rw [ev] at c
  rcases c with c | ⟨t, t1, t2⟩
  · rw [plS_cl hC (hcl _ p3).1] at c
    exact hd _ p3 c
  · have := plS_inj h hN hcl hn hs (by omega) t2
    omega
theorem cin_part {N s : Nat} {D : Nat → Int32} {tk0 ch : List Nat} {z z' : SS} (h : hdOk N D) (hN : N ≤ 1024) (hcl : ∀ x ∈ ch, isCl N D x) (hn : ch.Nodup) (hd : ∀ x ∈ ch, x ∉ tk0) (hs : s < ch.length * 16 * hc D) (hi : cin N D tk0 ch s z) (hpu : (pU (sPe z)).length = 13 * pM (sPe z)) (hp : ptW D (plS D ch s)) (e1 : sIt z' = sIt z) (e2 : pM (sPe z') = pM (sPe z) + 1) (e3 : pU (sPe z') = chunk D (plS D ch s) ++ pU (sPe z)) : cin N D tk0 ch (s + 1) z' := by
  obtain ⟨vs, ps, h1, h2, h3, h4, h5, h6, h7⟩ := hi
  obtain ⟨n1, n2, n3, n4⟩ := cin_new h hN hcl hn hd hs
  refine ⟨vs, (plS D ch s / 32) :: ps, ?_, fun v hv => ⟨(h2 v hv).1, (h2 v hv).2.1, vsl_s (h2 v hv).2.2⟩, fun v hv => ?_, by rw [e2, List.length_cons, h4], fun i hii => ?_, by rw [e1]; exact h6, by rw [e1]; exact h7⟩
  · rw [List.cons_append, List.nodup_cons]
    refine ⟨fun w => ?_, h1⟩
    rcases List.mem_append.mp w with w | w
    · exact n1 (h3 _ w).2.2
    · exact n1 (h2 _ w).2.2
  · rcases List.mem_cons.mp hv with w | w
    · rw [w, n2]; exact ⟨n3, hp, n4⟩
    · exact ⟨(h3 v w).1, (h3 v w).2.1, vsl_s (h3 v w).2.2⟩
  · rw [e3, List.getD_eq_getElem?_getD]
    cases i with
    | zero =>
      rw [List.getElem?_append_left (by rw [chunk_len]; decide), ← List.getD_eq_getElem?_getD, chunk_get D _ (by decide)]
      show o2 D (plS D ch s + 1) = o2 D (32 * (plS D ch s / 32) + 1)
      rw [n2]
    | succ i =>
      rw [e2] at hii
      rw [List.getElem?_append_right (by rw [chunk_len]; omega), chunk_len, ← List.getD_eq_getElem?_getD, show 13 * (i + 1) - 13 = 13 * i by omega, h5 i (by omega)]
      rfl
theorem cin_ent {N s : Nat} {D : Nat → Int32} {tk0 ch : List Nat} {z z' : SS} (h : hdOk N D) (hN : N ≤ 1024) (hcl : ∀ x ∈ ch, isCl N D x) (hn : ch.Nodup) (hd : ∀ x ∈ ch, x ∉ tk0) (hs : s < ch.length * 16 * hc D) (hi : cin N D tk0 ch s z) (hp : cpP D (plS D ch s)) (hun : ∀ i, i < pM (sPe z) → unP ((pU (sPe z)).getD (13 * i) 0)) (e1 : (sIt z').length ≤ (sIt z).length + 1) (e2 : (uns (sIt z')).length ≤ (uns (sIt z)).length + 13 * pM (sPe z) + 22) (e3 : sPe z' = pe0) : cin N D tk0 ch (s + 1) z' := by
  obtain ⟨vs, ps, h1, h2, h3, h4, h5, h6, h7⟩ := hi
  obtain ⟨n1, n2, n3, n4⟩ := cin_new h hN hcl hn hd hs
  refine ⟨(plS D ch s / 32) :: (ps ++ vs), [], ?_, fun v hv => ?_, fun v hv => (by cases hv), (by rw [e3]; rfl), fun i hii => (by rw [e3] at hii; exact absurd hii (Nat.not_lt_zero _)), ?_, ?_⟩
  · rw [List.nil_append, List.nodup_cons]
    refine ⟨fun w => ?_, h1⟩
    rcases List.mem_append.mp w with w | w
    · exact n1 (h3 _ w).2.2
    · exact n1 (h2 _ w).2.2
  · rcases List.mem_cons.mp hv with w | w
    · rw [w, n2]; exact ⟨n3, hp, n4⟩
    · rcases List.mem_append.mp w with w | w
      · refine ⟨(h3 v w).1, Or.inl ⟨(h3 v w).2.1, ?_⟩, vsl_s (h3 v w).2.2⟩
        obtain ⟨i, hi1, hi2⟩ := List.getElem_of_mem w
        have := hun i (by omega)
        rw [h5 i (by omega), List.getD_eq_getElem?_getD, List.getElem?_eq_getElem hi1] at this
        rw [← hi2]; exact this
      · exact ⟨(h2 v w).1, (h2 v w).2.1, vsl_s (h2 v w).2.2⟩
  · rw [List.length_cons, List.length_append]; omega
  · rw [List.length_cons, List.length_append]; omega
theorem svO_pos {D : Nat → Int32} {p : Nat} (h : o1 D p ≠ 32) : 1 ≤ (svO D p 11).length := by
  have key : ∀ i, 1 ≤ (svO D p (i + 1)).length := by
    intro i
    induction i with
    | zero =>
      show 1 ≤ ((svO D p 0 ++ svA D p 0) ++ svB D p 0).length
      rw [svB_y h]
      simp only [List.length_append, List.length_cons]
      omega
    | succ i ih =>
      show 1 ≤ ((svO D p (i + 1) ++ svA D p (i + 1)) ++ svB D p (i + 1)).length
      rw [List.length_append, List.length_append]
      omega
  exact key 10
theorem uns_snoc (its : List It) (x : It) : uns (its ++ [x]) = uns its ++ inm x := by rw [uns_app, uns_one]
/-- an item more: the numbers stay in range -/
theorem itsOk_add {N i p s m : Nat} {its : List It} {nm : List Nat} (h : itsOk N its) (h1 : its.length < 4200) (h2 : (uns its).length + nm.length ≤ 90000) (h3 : ∀ u ∈ nm, u < 65536) (h4 : p + 32 ≤ 512 * N) (h5 : s < 100000) (h6 : m ≤ 20) (h7 : i < its.length) (h8 : nm.length ≤ 255) (h9 : 1 ≤ nm.length) : itsOk N (its ++ [((i, p), (s, m), nm)]) := by
  obtain ⟨a1, a2, a3, a4, a5⟩ := h
  refine ⟨?_, ?_, ?_, ?_, fun j g1 g2 => ?_⟩
  · rw [List.length_append]; omega
  · rw [List.length_append]; simp only [List.length_cons, List.length_nil]; omega
  · rw [uns_snoc, List.length_append]; exact h2
  · rw [uns_snoc]
    intro u hu
    exact (List.mem_append.mp hu).elim (a4 u) (h3 u)
  · rw [List.length_append] at g2
    have g2 : j < its.length + 1 := g2
    by_cases e : j = its.length
    · subst e
      rw [itr_last]
      exact ⟨h4, h5, h6, h7, h8, h9⟩
    · rw [itr_app (by omega)]
      exact a5 j g1 (by omega)
theorem pe0_ok : peOk pe0 := ⟨by decide, rfl, by decide, fun u hu => by cases hu⟩
theorem slS_ok {N m i fk s : Nat} {D : Nat → Int32} {tk0 ch : List Nat} {z z' : SS} (h : hdOk N D) (hN : N ≤ 1024) (hcl : ∀ x ∈ ch, isCl N D x) (hn : ch.Nodup) (hd : ∀ x ∈ ch, x ∉ tk0) (hs : s < ch.length * 16 * hc D) (hs2 : s < 100000) (hc : capOk N D m) (hm : m ≤ 4000) (hz : zOk N z) (hi : cin N D tk0 ch s z) (hii : i < (sIt z).length) (e : slS N D i fk s (plS D ch s) z = .ok z') : zOk N z' ∧ cin N D tk0 ch (s + 1) z' ∧ (sIt z).length ≤ (sIt z').length := by
  obtain ⟨b1, b2⟩ := cin_bnd hi hc
  obtain ⟨p1, p2, p3, p4⟩ := plS_lt h hN hcl hs
  obtain ⟨z1, z2, z3⟩ := hz
  unfold slS at e
  by_cases g1 : 1 ≤ i ∧ s < 2
  · rw [cif_t g1] at e
    by_cases g2 : dtP D (sIt z) (plS D ch s) i s
    · rw [cif_t g2] at e
      cases e
      exact ⟨⟨z1, z2, z3⟩, cin_same hi rfl rfl, Nat.le_refl _⟩
    · rw [cif_f g2] at e
      cases e
  rw [cif_f g1] at e
  by_cases g2 : o1 D (plS D ch s) = 229
  · rw [cif_t g2] at e
    by_cases g3 : pM (sPe z) = 0
    · rw [cif_t g3] at e
      cases e
      exact ⟨⟨z1, z2, z3⟩, cin_same hi rfl rfl, Nat.le_refl _⟩
    · rw [cif_f g3] at e
      cases e
  rw [cif_f g2] at e
  by_cases g3 : o1 D (plS D ch s + 11) % 64 = 15
  · rw [cif_t g3] at e
    by_cases g4 : ptP D (plS D ch s) (sPe z)
    · rw [cif_t g4] at e
      cases e
      exact ⟨⟨z1, ptN_ok z2 g4, z3⟩, cin_part h hN hcl hn hd hs hi z2.2.1 ⟨g3, g4.2.2.1, g4.2.2.2⟩ rfl rfl rfl, Nat.le_refl _⟩
    · rw [cif_f g4] at e
      cases e
  rw [cif_f g3] at e
  unfold entS at e
  by_cases a1 : o1 D (plS D ch s + 11) ≤ 63 ∧ daysP D (plS D ch s)
  rotate_left
  · rw [cif_f a1] at e
    cases e
  rw [cif_t a1] at e
  by_cases a2 : o1 D (plS D ch s + 11) / 8 % 2 = 1
  · rw [cif_t a2] at e
    by_cases a3 : enLb D i (plS D ch s) z
    · rw [cif_t a3] at e
      cases e
      refine ⟨⟨z1, z2, fun q hq => ?_⟩, cin_same hi rfl rfl, Nat.le_refl _⟩
      cases hq
      exact p1
    · rw [cif_f a3] at e
      cases e
  rw [cif_f a2] at e
  by_cases a3 : enBad D (plS D ch s) (sPe z)
  rotate_left
  · rw [cif_f a3] at e
    cases e
  rw [cif_t a3] at e
  by_cases a4 : enTw D (sIt z) fk (plS D ch s) (nmN D (plS D ch s) (sPe z))
  · rw [cif_t a4] at e
    cases e
  rw [cif_f a4] at e
  have n1 : (nmN D (plS D ch s) (sPe z)).length ≤ 255 ∧ 1 ≤ (nmN D (plS D ch s) (sPe z)).length ∧ (nmN D (plS D ch s) (sPe z)).length ≤ 13 * pM (sPe z) + 22 := by
    unfold nmN
    split
    · have := svO_bnd D (plS D ch s)
      have := svO_pos a3.1.1
      omega
    · rename_i w
      have k1 := (a3.2.2 w).2.2.2.2
      have k2 := tw_len (pU (sPe z))
      have k3 := z2.2.1
      exact ⟨k1.2.1, k1.1, by omega⟩
  have n2 := nmN_lt (D := D) (p := plS D ch s) z2
  cases hE : entF N D (plS D ch s) (sTk z) with
  | none => rw [entR_n hE] at e; cases e
  | some c =>
    rw [entR_s hE] at e
    cases e
    have hun : ∀ i, i < pM (sPe z) → unP ((pU (sPe z)).getD (13 * i) 0) := by
      intro i hi'
      obtain ⟨-, -, k1⟩ := a3.2.2 (by omega)
      have k3 := z2.2.1
      have k4 := tw_pre (pU (sPe z))
      have k5 := k1.2.1
      have hlt : 13 * i < (tw (pU (sPe z))).length := by omega
      rw [(k4.2.1 _ hlt).1]
      exact k1.2.2.2.2.1 _ hlt
    refine ⟨⟨itsOk_add z1 (by omega) (by omega) n2 p1 hs2 (by have := z2.1; omega) hii n1.1 n1.2.1, pe0_ok, z3⟩, cin_ent h hN hcl hn hd hs hi (Or.inr ⟨a1.1, a1.2, a3.1, a3.2.1⟩) hun (by rw [List.length_append]; exact Nat.le_refl _) ?_ rfl, by rw [List.length_append]; exact Nat.le_add_right _ _⟩
    show (uns (sIt z ++ [_])).length ≤ _
    rw [uns_snoc, List.length_append]
    show (uns (sIt z)).length + (nmN D (plS D ch s) (sPe z)).length ≤ _
    omega
