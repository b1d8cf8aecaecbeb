/-! make: the disk read again. What was read before is read again, one item more. -/
def shf (p j : Nat) : Nat := if j < p then j else j + 1
def shI (p : Nat) (it : It) : It := ((shf p (ipa it), isp it), (isl it, ipt it), inm it)
theorem shf_lo {p j : Nat} (h : j < p) : shf p j = j := if_pos h
theorem shf_hi {p j : Nat} (h : p ≤ j) : shf p j = j + 1 := if_neg (by omega)
theorem shf_0 {p j : Nat} (h : 1 ≤ p) : shf p j = 0 ↔ j = 0 := by
  unfold shf
  split <;> omega
theorem shf_ne {p j : Nat} : shf p j ≠ p := by
  unfold shf
  split <;> omega
theorem shf_lt {p j n : Nat} (h : j < n) (hp : p ≤ n) : shf p j < n + 1 := by
  unfold shf
  split <;> omega
abbrev simZ (p : Nat) (nw : It) (Xs : List Nat) (z z' : SS) : Prop := (sIt z').length = (sIt z).length + 1 ∧ p ≤ (sIt z).length ∧ 1 ≤ p ∧ (∀ j, j < (sIt z).length → itr (sIt z') (shf p j) = shI p (itr (sIt z) j)) ∧ itr (sIt z') p = nw ∧ sLb z' = sLb z ∧ sPe z' = sPe z ∧ ∀ y, y ∈ sTk z' ↔ y ∈ sTk z ∨ y ∈ Xs
theorem sim_add {p : Nat} {nw it : It} {Xs c : List Nat} {z z' : SS} {lb : Option Nat} {pe : Pend} (h : simZ p nw Xs z z') : simZ p nw Xs ((sIt z ++ [it], lb), c ++ sTk z, pe) ((sIt z' ++ [shI p it], lb), c ++ sTk z', pe) := by
  obtain ⟨a1, a2, a3, a4, a5, a6, a7, a8⟩ := h
  have e1 : (sIt z' ++ [shI p it]).length = (sIt z').length + 1 := List.length_append
  have e2 : (sIt z ++ [it]).length = (sIt z).length + 1 := List.length_append
  refine ⟨?_, ?_, a3, fun j hj => ?_, ?_, rfl, rfl, fun y => ?_⟩
  · show (sIt z' ++ [shI p it]).length = (sIt z ++ [it]).length + 1
    omega
  · show p ≤ (sIt z ++ [it]).length
    omega
  · have hj : j < (sIt z ++ [it]).length := hj
    show itr (sIt z' ++ [shI p it]) (shf p j) = shI p (itr (sIt z ++ [it]) j)
    by_cases c : j = (sIt z).length
    · rw [c, shf_hi a2, ← a1, itr_last, itr_last]
    · have hj2 : j < (sIt z).length := by omega
      rw [itr_ap hj2, itr_ap (by rw [a1]; exact shf_lt hj2 a2), a4 j hj2]
  · show itr (sIt z' ++ [shI p it]) p = nw
    rw [itr_ap (by omega), a5]
  · show y ∈ c ++ sTk z' ↔ y ∈ c ++ sTk z ∨ y ∈ Xs
    rw [List.mem_append, List.mem_append, a8 y, or_assoc]
theorem fol_nt {N : Nat} {D : Nat → Int32} : ∀ (f x : Nat) (tk ch : List Nat), fol N D f x tk = some ch → ∀ y ∈ ch, y ∉ tk ∧ ent D y ≠ 0 := by
  intro f
  induction f with
  | zero => intro x tk ch h; cases h
  | succ f ih =>
    intro x tk ch h y hy
    rw [fol] at h
    by_cases c : isCl N D x ∧ x ∉ tk ∧ ent D x ≠ 0
    rotate_left
    · rw [if_neg c] at h; cases h
    rw [if_pos c] at h
    by_cases e : 268435448 ≤ ent D x
    · rw [if_pos e] at h
      cases h
      rcases List.mem_cons.mp hy with w | w
      · rw [w]; exact c.2
      · cases w
    · rw [if_neg e] at h
      cases g : fol N D f (ent D x) (x :: tk) with
      | none => rw [g] at h; cases h
      | some l =>
        rw [g] at h
        cases h
        rcases List.mem_cons.mp hy with w | w
        · rw [w]; exact c.2
        · have := ih _ _ _ g y w
          exact ⟨fun t => this.1 (List.mem_cons_of_mem _ t), this.2⟩
theorem fol_sim {N : Nat} {D D' : Nat → Int32} (hn : hk N D' = hk N D) : ∀ (f x : Nat) (tk tk' ch : List Nat), fol N D f x tk = some ch → (∀ y ∈ ch, ent D' y = ent D y) → (∀ y ∈ ch, y ∈ tk' → y ∈ tk) → fol N D' f x tk' = some ch := by
  intro f
  induction f with
  | zero => intro x tk tk' ch h; cases h
  | succ f ih =>
    intro x tk tk' ch h hy ht
    rw [fol] at h ⊢
    by_cases c : isCl N D x ∧ x ∉ tk ∧ ent D x ≠ 0
    rotate_left
    · rw [if_neg c] at h; cases h
    rw [if_pos c] at h
    by_cases e : 268435448 ≤ ent D x
    · rw [if_pos e] at h
      cases h
      have hx := hy x List.mem_cons_self
      rw [hx, if_pos (show isCl N D' x ∧ x ∉ tk' ∧ ent D x ≠ 0 from ⟨by unfold isCl; rw [hn]; exact c.1, fun w => c.2.1 (ht x List.mem_cons_self w), c.2.2⟩), if_pos e]
    · rw [if_neg e] at h
      cases g : fol N D f (ent D x) (x :: tk) with
      | none => rw [g] at h; cases h
      | some l =>
        rw [g] at h
        cases h
        have hx := hy x List.mem_cons_self
        have := ih _ _ (x :: tk') _ g (fun y w => hy y (List.mem_cons_of_mem _ w)) (fun y w t => by
          rcases List.mem_cons.mp t with t | t
          · rw [t]; exact List.mem_cons_self
          · exact List.mem_cons_of_mem _ (ht y (List.mem_cons_of_mem _ w) t))
        rw [hx, if_pos (show isCl N D' x ∧ x ∉ tk' ∧ ent D x ≠ 0 from ⟨by unfold isCl; rw [hn]; exact c.1, fun w => c.2.1 (ht x List.mem_cons_self w), c.2.2⟩), if_neg e, this]
        rfl
theorem entF_sim {N p : Nat} {D D' : Nat → Int32} {tk tk' ch : List Nat} (hn : numE N D D') (hp : slq D' p D p) (h : entF N D p tk = some ch) (hy : ∀ y ∈ ch, ent D' y = ent D y) (ht : ∀ y ∈ ch, y ∉ tk → y ∉ tk') : entF N D' p tk' = some ch := by
  unfold entF at h ⊢
  rw [hp 11 (by decide), slq_4 hp (by decide), slq_fc hp, hn.1]
  by_cases w1 : o1 D (p + 11) / 16 % 2 = 1
  · rw [if_pos w1] at h ⊢; exact h
  rw [if_neg w1] at h ⊢
  by_cases w2 : o4 D (p + 28) = 0
  · rw [if_pos w2] at h ⊢; exact h
  rw [if_neg w2] at h ⊢
  by_cases w3 : o4 D (p + 28) < 2 ^ 31
  rotate_left
  · rw [if_neg w3] at h; cases h
  rw [if_pos w3] at h ⊢
  cases g : fo N D (fc D p) tk with
  | none => rw [g] at h; cases h
  | some c =>
    rw [g] at h
    have h : (if c.length = (o4 D (p + 28) + 512 * hc D - 1) / (512 * hc D) then some c else none) = some ch := h
    by_cases y : c.length = (o4 D (p + 28) + 512 * hc D - 1) / (512 * hc D)
    · have h2 := h
      rw [if_pos y] at h2
      cases h2
      rw [show fo N D' (fc D p) tk' = some ch from fol_sim hn.2.2.2 _ _ _ _ _ g hy (fun y hy0 w => absurd w (ht y hy0 (fol_nt _ _ _ _ g y hy0).1))]
      exact h
    · rw [if_neg y] at h; cases h
theorem shf_inv {p fk fk' n j' : Nat} (hf : (p ≤ fk ∧ fk' = fk + 1) ∨ (fk ≤ p ∧ fk' = fk)) (h1 : fk' ≤ j') (h2 : j' < n + 1) (hne : j' ≠ p) (hpn : p ≤ n) : ∃ j, fk ≤ j ∧ j < n ∧ j' = shf p j := by
  by_cases x : j' < p
  · exact ⟨j', by omega, by omega, (shf_lo x).symm⟩
  · exact ⟨j' - 1, by omega, by omega, by rw [shf_hi (by omega)]; omega⟩
theorem entF_nt {N q : Nat} {D : Nat → Int32} {tk c : List Nat} (hE : entF N D q tk = some c) : ∀ y ∈ c, y ∉ tk := by
  intro y w
  unfold entF at hE
  by_cases w1 : o1 D (q + 11) / 16 % 2 = 1
  · rw [if_pos w1] at hE; cases hE; cases w
  rw [if_neg w1] at hE
  by_cases w2 : o4 D (q + 28) = 0
  · rw [if_pos w2] at hE
    by_cases w4 : fc D q = 0
    · rw [if_pos w4] at hE; cases hE; cases w
    · rw [if_neg w4] at hE; cases hE
  rw [if_neg w2] at hE
  by_cases w3 : o4 D (q + 28) < 2 ^ 31
  rotate_left
  · rw [if_neg w3] at hE; cases hE
  rw [if_pos w3] at hE
  cases g : fo N D (fc D q) tk with
  | none => rw [g] at hE; cases hE
  | some c' =>
    rw [g] at hE
    have hE : (if c'.length = (o4 D (q + 28) + 512 * hc D - 1) / (512 * hc D) then some c' else none) = some c := hE
    by_cases y5 : c'.length = (o4 D (q + 28) + 512 * hc D - 1) / (512 * hc D)
    · rw [if_pos y5] at hE
      cases hE
      exact (fol_nt _ _ _ _ g y w).1
    · rw [if_neg y5] at hE; cases hE
theorem sim_beg {N p j : Nat} {nw : It} {Xs : List Nat} {D D' : Nat → Int32} {z z' : SS} (hn : numE N D D') (hI : agI D D' (sIt z)) (hz : simZ p nw Xs z z') (hj : j < (sIt z).length) : begI D' (sIt z') (shf p j) = begI D (sIt z) j := by
  unfold begI
  by_cases w : j = 0
  · rw [if_pos ((shf_0 hz.2.2.1).mpr w), if_pos w, hn.2.2.1]
  · rw [if_neg (fun y => w ((shf_0 hz.2.2.1).mp y)), if_neg w, hz.2.2.2.1 j hj]
    exact slq_fc (hI j (by omega) hj)
theorem slS_sim {N i fk fk' s q p : Nat} {nw : It} {Xs : List Nat} {D D' : Nat → Int32} {z z' z1 : SS} (hn : numE N D D') (hp : slq D' q D q) (hI : agI D D' (sIt z)) (hz : simZ p nw Xs z z') (hi : i < (sIt z).length) (hpa : ipa (itr (sIt z) i) < (sIt z).length) (hfk : 1 ≤ fk) (hf2 : (p ≤ fk ∧ fk' = fk + 1) ∨ (fk ≤ p ∧ fk' = fk)) (hnew : fk' ≤ p → ∀ it, sIt z1 = sIt z ++ [it] → ¬ (alk (inm nw) (inm it) ∨ ssP D' (isp nw) (isp it))) (hy : ∀ y ∈ sTk z1, y ∉ sTk z → ent D' y = ent D y ∧ y ∉ Xs) (e : slS N D i fk s q z = .ok z1) : ∃ z1', slS N D' (shf p i) fk' s q z' = .ok z1' ∧ simZ p nw Xs z1 z1' := by
  obtain ⟨a1, a2, a3, a4, a5, a6, a7, a8⟩ := hz
  have hz : simZ p nw Xs z z' := ⟨a1, a2, a3, a4, a5, a6, a7, a8⟩
  have s1 : (1 ≤ shf p i ∧ s < 2) ↔ (1 ≤ i ∧ s < 2) := by
    have := shf_0 (p := p) (j := i) a3
    constructor <;> intro w <;> omega
  have e1 : dtP D' (sIt z') q (shf p i) s ↔ dtP D (sIt z) q i s := by
    unfold dtP
    rw [hp 11 (by decide), slq_fc hp, sim_beg hn hI hz hi, a4 i hi, show ipa (shI p (itr (sIt z) i)) = shf p (ipa (itr (sIt z) i)) from rfl, sim_beg hn hI hz hpa]
    have x1 : (∀ r, r < 11 → o1 D' (q + r) = (if r ≤ s then 46 else 32)) ↔ (∀ r, r < 11 → o1 D (q + r) = (if r ≤ s then 46 else 32)) := ⟨fun w r hr => by rw [← hp r (by omega)]; exact w r hr, fun w r hr => by rw [hp r (by omega)]; exact w r hr⟩
    have x2 : (if shf p (ipa (itr (sIt z) i)) = 0 then 0 else begI D (sIt z) (ipa (itr (sIt z) i))) = (if ipa (itr (sIt z) i) = 0 then 0 else begI D (sIt z) (ipa (itr (sIt z) i))) := by
      by_cases w : ipa (itr (sIt z) i) = 0
      · rw [if_pos w, if_pos ((shf_0 a3).mpr w)]
      · rw [if_neg w, if_neg (fun y => w ((shf_0 a3).mp y))]
    rw [x1, x2]
  have e2 : ptN D' q (sPe z') = ptN D q (sPe z) := by unfold ptN; rw [a7, slq_0 hp, hp 13 (by decide), slq_ch hp]
  unfold slS at e ⊢
  by_cases g1 : 1 ≤ i ∧ s < 2
  · rw [cif_t g1] at e
    rw [cif_t (s1.mpr g1)]
    by_cases g2 : dtP D (sIt z) q i s
    · rw [cif_t g2] at e
      rw [cif_t (e1.mpr g2)]
      cases e
      exact ⟨z', rfl, hz⟩
    · rw [cif_f g2] at e; cases e
  rw [cif_f g1] at e
  rw [cif_f (fun y => g1 (s1.mp y)), slq_0 hp]
  by_cases g3 : o1 D q = 229
  · rw [cif_t g3] at e ⊢
    rw [a7]
    by_cases g4 : pM (sPe z) = 0
    · rw [cif_t g4] at e ⊢
      cases e
      exact ⟨z', rfl, hz⟩
    · rw [cif_f g4] at e; cases e
  rw [cif_f g3] at e ⊢
  rw [hp 11 (by decide)]
  by_cases g5 : o1 D (q + 11) % 64 = 15
  · rw [cif_t g5] at e ⊢
    rw [e2, a7, propext (slq_pt hp)]
    by_cases g6 : ptP D q (sPe z)
    · rw [cif_t g6] at e ⊢
      cases e
      exact ⟨_, rfl, a1, a2, a3, a4, a5, a6, rfl, a8⟩
    · rw [cif_f g6] at e; cases e
  rw [cif_f g5] at e ⊢
  have en : nmN D' q (sPe z') = nmN D q (sPe z) := by unfold nmN; rw [a7, slq_sv hp 11 (by decide)]
  unfold entS at e ⊢
  rw [en]
  have f1 : (o1 D' (q + 11) ≤ 63 ∧ daysP D' q) ↔ (o1 D (q + 11) ≤ 63 ∧ daysP D q) := by rw [hp 11 (by decide), slq_days hp]
  by_cases g7 : o1 D (q + 11) ≤ 63 ∧ daysP D q
  rotate_left
  · rw [cif_f g7] at e; cases e
  rw [cif_t g7] at e
  rw [cif_t (f1.mpr g7), hp 11 (by decide)]
  by_cases g8 : o1 D (q + 11) / 8 % 2 = 1
  · rw [cif_t g8] at e ⊢
    have f2 : enLb D' (shf p i) q z' ↔ enLb D i q z := by
      unfold enLb
      rw [hp 11 (by decide), slq_fc hp, slq_4 hp (by decide), slq_sh hp, a6, a7, shf_0 a3]
    by_cases g9 : enLb D i q z
    · rw [cif_t g9] at e
      rw [cif_t (f2.mpr g9)]
      cases e
      exact ⟨_, rfl, a1, a2, a3, a4, a5, rfl, a7, a8⟩
    · rw [cif_f g9] at e; cases e
  rw [cif_f g8] at e ⊢
  have f3 : enBad D' q (sPe z') ↔ enBad D q (sPe z) := by
    unfold enBad
    rw [hp 11 (by decide), slq_4 hp (by decide), slq_sm hp 11 (by decide), slq_sh hp, a7]
  by_cases g10 : enBad D q (sPe z)
  rotate_left
  · rw [cif_f g10] at e; cases e
  rw [cif_t g10] at e
  rw [cif_t (f3.mpr g10)]
  by_cases g11 : enTw D (sIt z) fk q (nmN D q (sPe z))
  · rw [cif_t g11] at e; cases e
  rw [cif_f g11] at e
  cases hE : entF N D q (sTk z) with
  | none => rw [entR_n hE] at e; cases e
  | some c =>
    rw [entR_s hE] at e
    cases e
    have f4 : ¬ enTw D' (sIt z') fk' q (nmN D q (sPe z)) := by
      rintro ⟨j', b1, b2, b3⟩
      by_cases w : j' = p
      · refine hnew (w ▸ b1) _ rfl ?_
        rw [w, a5] at b3
        exact b3
      · obtain ⟨j, c1, c2, c3⟩ := shf_inv hf2 b1 (by rw [← a1]; exact b2) w a2
        refine g11 ⟨j, c1, c2, ?_⟩
        rw [c3, a4 j c2] at b3
        refine b3.imp id fun w r hr => ?_
        have := w r hr
        rw [show isp (shI p (itr (sIt z) j)) = isp (itr (sIt z) j) from rfl, hI j (Nat.le_trans hfk c1) c2 r (Nat.lt_trans hr (by decide)), hp r (Nat.lt_trans hr (by decide))] at this
        exact this
    rw [cif_f f4]
    have hE' : entF N D' q (sTk z') = some c := by
      have hcz : ∀ y ∈ c, ent D' y = ent D y ∧ y ∉ Xs := fun y w => hy y (List.mem_append_left _ w) (entF_nt hE y w)
      exact entF_sim hn hp hE (fun y w => (hcz y w).1) (fun y w t t' => by
        rcases (a8 y).mp t' with u | u
        · exact t u
        · exact (hcz y w).2 u)
    rw [entR_s hE', en, a7, a6]
    exact ⟨_, rfl, sim_add hz⟩
