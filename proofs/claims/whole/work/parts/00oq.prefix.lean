/-! A directory before HERE reads alike when only HERE and what lies below it has changed. -/
abbrev numE (N : Nat) (D D' : Nat → Int32) : Prop := hc D' = hc D ∧ ha D' = ha D ∧ hr D' = hr D ∧ hk N D' = hk N D
abbrev agI (D D' : Nat → Int32) (its : List It) : Prop := ∀ j, 1 ≤ j → j < its.length → slq D' (isp (itr its j)) D (isp (itr its j))
theorem cif_mo {α : Type} {P : Prop} {a b a' b' : Except Nat α} {x : α} (h1 : a = .ok x → a' = .ok x) (h2 : b = .ok x → b' = .ok x) (h : cif P a b = .ok x) : cif P a' b' = .ok x := by
  by_cases w : P
  · rw [cif_t w] at h ⊢; exact h1 h
  · rw [cif_f w] at h ⊢; exact h2 h
theorem fol_cong {N : Nat} {D D' : Nat → Int32} (hn : hk N D' = hk N D) : ∀ (f x : Nat) (tk ch : List Nat), fol N D f x tk = some ch → (∀ y ∈ ch, ent D' y = ent D y) → fol N D' f x tk = some ch := by
  intro f
  induction f with
  | zero => intro x tk ch h; cases h
  | succ f ih =>
    intro x tk ch h hy
    rw [fol] at h ⊢
    by_cases c : isCl N D x ∧ x ∉ tk ∧ ent D x ≠ 0
    rotate_left
    · rw [if_neg c] at h; cases h
    rw [if_pos c] at h
    by_cases e : 268435448 ≤ ent D x
    · rw [if_pos e] at h
      cases h
      have hx := hy x List.mem_cons_self
      rw [hx, if_pos (show isCl N D' x ∧ x ∉ tk ∧ ent D x ≠ 0 from ⟨by unfold isCl; rw [hn]; exact c.1, c.2⟩), if_pos e]
    · rw [if_neg e] at h
      cases g : fol N D f (ent D x) (x :: tk) with
      | none => rw [g] at h; cases h
      | some l =>
        rw [g] at h
        cases h
        have hx := hy x List.mem_cons_self
        have := ih _ _ _ g (fun y w => hy y (List.mem_cons_of_mem _ w))
        rw [hx, if_pos (show isCl N D' x ∧ x ∉ tk ∧ ent D x ≠ 0 from ⟨by unfold isCl; rw [hn]; exact c.1, c.2⟩), if_neg e, this]
        rfl
theorem entF_cong {N p : Nat} {D D' : Nat → Int32} {tk ch : List Nat} (hn : numE N D D') (hp : slq D' p D p) (h : entF N D p tk = some ch) (hy : ∀ y ∈ ch, ent D' y = ent D y) : entF N D' p tk = some ch := by
  unfold entF at h ⊢
  rw [hp 11 (by decide), slq_4 hp (by decide), slq_fc hp, hn.1]
  by_cases w1 : o1 D (p + 11) / 16 % 2 = 1
  · rw [if_pos w1] at h ⊢; exact h
  rw [if_neg w1] at h ⊢
  by_cases w2 : o4 D (p + 28) = 0
  · rw [if_pos w2] at h ⊢; exact h
  rw [if_neg w2] at h ⊢
  by_cases w3 : o4 D (p + 28) < 2 ^ 31
  rotate_left
  · rw [if_neg w3] at h; cases h
  rw [if_pos w3] at h ⊢
  cases g : fo N D (fc D p) tk with
  | none => rw [g] at h; cases h
  | some c =>
    rw [g] at h
    have h : (if c.length = (o4 D (p + 28) + 512 * hc D - 1) / (512 * hc D) then some c else none) = some ch := h
    by_cases y : c.length = (o4 D (p + 28) + 512 * hc D - 1) / (512 * hc D)
    · have h2 := h
      rw [if_pos y] at h2
      cases h2
      rw [show fo N D' (fc D p) tk = some ch from fol_cong hn.2.2.2 _ _ _ _ g hy]
      exact h
    · rw [if_neg y] at h; cases h
theorem entS_cong {N i s p fk : Nat} {D D' : Nat → Int32} {z z' : SS} (hn : numE N D D') (hp : slq D' p D p) (hI : agI D D' (sIt z)) (hfk : 1 ≤ fk) (hy : ∀ y ∈ sTk z', ent D' y = ent D y) (e : entS N D i s p fk z = .ok z') : entS N D' i s p fk z = .ok z' := by
  have en : ∀ x, nmN D' p x = nmN D p x := fun x => by unfold nmN; rw [slq_sv hp 11 (by decide)]
  have e1 : (o1 D' (p + 11) ≤ 63 ∧ daysP D' p) = (o1 D (p + 11) ≤ 63 ∧ daysP D p) := by rw [hp 11 (by decide), propext (slq_days hp)]
  have e2 : enLb D' i p z = enLb D i p z := by unfold enLb; rw [hp 11 (by decide), slq_fc hp, slq_4 hp (by decide), propext (slq_sh hp)]
  have e3 : enBad D' p (sPe z) = enBad D p (sPe z) := by unfold enBad; rw [hp 11 (by decide), slq_4 hp (by decide), slq_sm hp 11 (by decide), propext (slq_sh hp)]
  have e4 : enTw D' (sIt z) fk p (nmN D p (sPe z)) = enTw D (sIt z) fk p (nmN D p (sPe z)) := by
    apply propext
    unfold enTw
    refine exists_congr fun j => ?_
    constructor
    · rintro ⟨a, b, c⟩
      refine ⟨a, b, c.imp id fun w q hq => ?_⟩
      have := w q hq
      rw [hI j (by omega) b q (by omega), hp q (by omega)] at this
      exact this
    · rintro ⟨a, b, c⟩
      refine ⟨a, b, c.imp id fun w q hq => ?_⟩
      rw [hI j (by omega) b q (by omega), hp q (by omega)]
      exact w q hq
  unfold entS at e ⊢
  rw [en, e1, e2, e3, e4, hp 11 (by decide)]
  refine cif_mo (cif_mo id (cif_mo (cif_mo id (fun h => ?_)) id)) id e
  cases hE : entF N D p (sTk z) with
  | none => rw [entR_n hE] at h; cases h
  | some c =>
    rw [entR_s hE] at h
    cases h
    rw [entR_s (entF_cong hn hp hE (fun y w => hy y (List.mem_append_left _ w))), en]
theorem slS_cong {N i s p fk : Nat} {D D' : Nat → Int32} {z z' : SS} (hn : numE N D D') (hp : slq D' p D p) (hI : agI D D' (sIt z)) (hi : i < (sIt z).length) (hpa : ipa (itr (sIt z) i) < (sIt z).length) (hfk : 1 ≤ fk) (hy : ∀ y ∈ sTk z', ent D' y = ent D y) (e : slS N D i fk s p z = .ok z') : slS N D' i fk s p z = .ok z' := by
  have hb : ∀ j, j < (sIt z).length → begI D' (sIt z) j = begI D (sIt z) j := fun j hj => by
    unfold begI
    by_cases w : j = 0
    · rw [if_pos w, if_pos w, hn.2.2.1]
    · rw [if_neg w, if_neg w, slq_fc (hI j (by omega) hj)]
  have e1 : dtP D' (sIt z) p i s = dtP D (sIt z) p i s := by
    unfold dtP
    rw [hp 11 (by decide), slq_fc hp, hb i hi, hb _ hpa]
    have : (∀ q, q < 11 → o1 D' (p + q) = (if q ≤ s then 46 else 32)) = (∀ q, q < 11 → o1 D (p + q) = (if q ≤ s then 46 else 32)) := propext ⟨fun w q hq => by rw [← hp q (by omega)]; exact w q hq, fun w q hq => by rw [hp q (by omega)]; exact w q hq⟩
    rw [this]
  have e2 : ptN D' p (sPe z) = ptN D p (sPe z) := by unfold ptN; rw [slq_0 hp, hp 13 (by decide), slq_ch hp]
  unfold slS at e ⊢
  rw [e1, e2, slq_0 hp, hp 11 (by decide), propext (slq_pt hp)]
  exact cif_mo id (cif_mo id (cif_mo id (entS_cong hn hp hI hfk hy))) e
