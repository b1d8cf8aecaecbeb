/-! The chains. -/
def mk1 (f : Nat → Int32) (vs : List Nat) : Nat → Int32 := fun x => if x ∈ vs then nI 1 else f x
def mkL (f : Nat → Int32) (vs : List Nat) : Nat → Int32 := fun j => if j < vs.length then nI (vs.getD j 0) else f j
theorem mk1_add (f : Nat → Int32) (vs : List Nat) (x : Nat) : upd (mk1 f vs) x (nI 1) = mk1 f (vs ++ [x]) := by
  funext y
  show (if y = x then nI 1 else mk1 f vs y) = mk1 f (vs ++ [x]) y
  unfold mk1
  by_cases g : y = x
  · rw [if_pos g, if_pos (by rw [g]; simp)]
  · rw [if_neg g]
    by_cases g2 : y ∈ vs
    · rw [if_pos g2, if_pos (List.mem_append_left _ g2)]
    · rw [if_neg g2, if_neg (fun z => (List.mem_append.mp z).elim g2 (fun z => g (List.mem_singleton.mp z)))]
theorem mkL_add (f : Nat → Int32) (vs : List Nat) (x : Nat) : upd (mkL f vs) vs.length (nI x) = mkL f (vs ++ [x]) := by
  funext j
  show (if j = vs.length then nI x else mkL f vs j) = mkL f (vs ++ [x]) j
  unfold mkL
  by_cases g : j = vs.length
  · rw [if_pos g, if_pos (by rw [g, List.length_append]; simp), g]
    simp [List.getD]
  · rw [if_neg g]
    by_cases g2 : j < vs.length
    · rw [if_pos g2, if_pos (by rw [List.length_append]; omega)]
      simp [List.getD, List.getElem?_append_left g2]
    · rw [if_neg g2, if_neg (by rw [List.length_append]; simp; omega)]
theorem mk1_nil (f : Nat → Int32) : mk1 f [] = f := funext (fun x => if_neg (by simp))
theorem mkL_nil (f : Nat → Int32) : mkL f [] = f := funext (fun x => if_neg (by simp))
theorem mkL_get {f : Nat → Int32} {vs : List Nat} {j : Nat} (h : j < vs.length) : mkL f vs j = nI (vs.getD j 0) := if_pos h
/-- as many as there are numbers -/
theorem nd_len : ∀ (m : Nat) (l : List Nat), l.Nodup → (∀ x ∈ l, x < m) → l.length ≤ m := by
  intro m
  induction m with
  | zero =>
    intro l _ h
    cases l with
    | nil => exact Nat.le_refl 0
    | cons x l => exact absurd (h x List.mem_cons_self) (by omega)
  | succ m ih =>
    intro l hn h
    have h1 := ih (l.erase m) (hn.erase m) (fun x hx => by
      have a := h x (List.mem_of_mem_erase hx)
      have b : x ≠ m := fun e => by subst e; exact (List.Nodup.not_mem_erase hn) hx
      omega)
    have h2 : l.length ≤ (l.erase m).length + 1 := by
      rw [List.length_erase]
      split <;> omega
    omega
theorem nd_cl {k : Nat} {l : List Nat} (hn : l.Nodup) (h : ∀ x ∈ l, 2 ≤ x ∧ x ≤ k + 1) : l.length ≤ k := by
  have h1 := nd_len (k + 2) (0 :: 1 :: l) (List.nodup_cons.mpr ⟨fun z => by
    rcases List.mem_cons.mp z with e | e
    · omega
    · have := h 0 e
      omega, List.nodup_cons.mpr ⟨fun z => by have := h 1 z; omega, hn⟩⟩) (fun x hx => by
    rcases List.mem_cons.mp hx with e | e
    · omega
    · rcases List.mem_cons.mp e with e | e
      · omega
      · have := h x e
        omega)
  simp only [List.length_cons] at h1
  omega
/-- the clusters of a chain that begins with x and meets none of tk -/
def fol (N : Nat) (D : Nat → Int32) : Nat → Nat → List Nat → Option (List Nat)
  | 0, _, _ => none
  | f + 1, x, tk => if isCl N D x ∧ x ∉ tk ∧ ent D x ≠ 0 then (if 268435448 ≤ ent D x then some [x] else (fol N D f (ent D x) (x :: tk)).map (List.cons x)) else none
def fo (N : Nat) (D : Nat → Int32) (x : Nat) (tk : List Nat) : Option (List Nat) := fol N D (N / 2 + 2) x tk

/-- what has been taken, as a row of flags -/
abbrev tkR (N : Nat) (f : Nat → Int32) (tk : List Nat) : Prop := ∀ x, x < N / 2 + 2 → f x = if x ∈ tk then nI 1 else nI 0
theorem fol_fuel {N : Nat} {D : Nat → Int32} : ∀ (f g x : Nat) (vs tk : List Nat), vs.Nodup → (∀ y ∈ vs, isCl N D y) → hk N D + 1 ≤ vs.length + f → hk N D + 1 ≤ vs.length + g → fol N D f x (vs ++ tk) = fol N D g x (vs ++ tk) := by
  intro f
  induction f with
  | zero =>
    intro g x vs tk h1 h2 h3 h4
    have := nd_cl h1 h2
    omega
  | succ f ih =>
    intro g x vs tk h1 h2 h3 h4
    cases g with
    | zero =>
      have := nd_cl h1 h2
      omega
    | succ g =>
      rw [fol, fol]
      by_cases c : isCl N D x ∧ x ∉ vs ++ tk ∧ ent D x ≠ 0
      · rw [if_pos c, if_pos c]
        by_cases e : 268435448 ≤ ent D x
        · rw [if_pos e, if_pos e]
        · rw [if_neg e, if_neg e]
          have := ih g (ent D x) (x :: vs) tk (List.nodup_cons.mpr ⟨fun z => c.2.1 (List.mem_append_left _ z), h1⟩) (fun y hy => by
            rcases List.mem_cons.mp hy with q | q
            · rw [q]; exact c.1
            · exact h2 y q) (by rw [List.length_cons]; omega) (by rw [List.length_cons]; omega)
          rw [List.cons_append] at this
          rw [this]
      · rw [if_neg c, if_neg c]
def chT (T : MS) (vs : List Nat) : MS := ((T.u_v_chained (mk1 T.v_chained vs)).u_v_chain (mkL T.v_chain vs)).u_v_links (nI vs.length)
theorem fol_mem {N : Nat} {D : Nat → Int32} : ∀ (f x : Nat) (a b : List Nat), (∀ y, y ∈ a ↔ y ∈ b) → fol N D f x a = fol N D f x b := by
  intro f
  induction f with
  | zero => intros; rfl
  | succ f ih =>
    intro x a b h
    rw [fol, fol, ih (ent D x) (x :: a) (x :: b) (fun y => by rw [List.mem_cons, List.mem_cons, h y])]
    by_cases c : isCl N D x ∧ x ∉ a ∧ ent D x ≠ 0
    · rw [if_pos c, if_pos (show isCl N D x ∧ x ∉ b ∧ ent D x ≠ 0 from ⟨c.1, fun z => c.2.1 ((h x).mpr z), c.2.2⟩)]
    · rw [if_neg c, if_neg (fun z => c ⟨z.1, fun y => z.2.1 ((h x).mp y), z.2.2⟩)]
theorem nd_snoc {l : List Nat} {x : Nat} (h : l.Nodup) (hx : x ∉ l) : (l ++ [x]).Nodup := by
  rw [List.nodup_append]
  exact ⟨h, List.nodup_cons.mpr ⟨by simp, List.nodup_nil⟩, fun a ha b hb => by
    rw [List.mem_singleton] at hb
    intro e
    rw [e, hb] at ha
    exact hx ha⟩
theorem qM_fol7 {K N : Nat} {D : Nat → Int32} {T : MS} {tk : List Nat} (hT : mIs N D T) (h : hdOk N D) (h2 : N ≤ 1024) (hk0 : tkR N T.v_chained tk) : ∀ (k x : Nat) (vs : List Nat), x < 2 ^ 28 → vs.Nodup → (∀ y ∈ vs, isCl N D y) → hk N D + 1 ≤ vs.length + k → (∀ ch, fol N D k x (vs ++ tk) = some ch → f_Mo_follows_7 K k (nI x) (chT T vs) = some (nI 1, chT T (vs ++ ch))) ∧ (fol N D k x (vs ++ tk) = none → ∃ a b c, f_Mo_follows_7 K k (nI x) (chT T vs) = some (nI 0, ((T.u_v_chained a).u_v_chain b).u_v_links c)) := by
  have F := hd_facts h h2
  intro k
  induction k with
  | zero =>
    intro x vs _ h3 h4 h5
    have := nd_cl h3 h4
    omega
  | succ k ih =>
    intro x vs hx h3 h4 h5
    have hv := nd_cl h3 h4
    have hT1 : mIs N D (chT T vs) := hT
    rw [f_Mo_follows_7]
    simp only [ql]
    rw [qM_isCl' (k := hk N D) hT1.2.2.2.2.2.2.2.2 (by omega) (by omega), q_c]
    by_cases c1 : isCl N D x
    · rw [if_pos c1, if_neg n10, q_g (q_in (by omega) (by decide))]
      simp only [nI_clamp (show x < 2 ^ 31 by omega)]
      have e1 : (chT T vs).v_chained x = if x ∈ vs ++ tk then nI 1 else nI 0 := by
        show mk1 T.v_chained vs x = _
        unfold mk1
        by_cases g : x ∈ vs
        · rw [if_pos g, if_pos (List.mem_append_left _ g)]
        · rw [if_neg g, hk0 x (by omega)]
          exact q_iC (by rw [List.mem_append]; exact ⟨Or.inr, fun z => z.resolve_left g⟩)
      by_cases c2 : x ∈ vs ++ tk
      · have ef : fol N D (k + 1) x (vs ++ tk) = none := by rw [fol, if_neg (fun z => z.2.1 c2)]
        rw [ef, if_neg (fun z => n10 (by rw [e1, if_pos c2] at z; exact z))]
        exact ⟨fun ch q => (by cases q), fun _ => ⟨_, _, _, rfl⟩⟩
      · rw [if_pos (by rw [e1, if_neg c2]), qM_entry hT1 h h2 (by unfold isCl at c1; omega), q_c]
        have l28 := ent_lt D x
        by_cases c3 : ent D x = 0
        · have ef : fol N D (k + 1) x (vs ++ tk) = none := by rw [fol, if_neg (fun z => z.2.2 c3)]
          rw [ef, if_pos (by rw [c3])]
          exact ⟨fun ch q => (by cases q), fun _ => ⟨_, _, _, rfl⟩⟩
        · rw [if_neg (fun z => c3 ((nI_eq (b := 0) (by omega) (by decide)).mp z)), q_g (q_in (by omega) (by decide)), q_l]
          have hl : ((chT T vs).u_v_chained (upd (chT T vs).v_chained x (vp_nar .boolean (nI 1)))).v_links = nI vs.length := rfl
          rw [hl, q_g (q_in (by omega) (by decide)), q_l, q_l, nI_clamp (by omega)]
          have hst : (((chT T vs).u_v_chained (upd (chT T vs).v_chained x (vp_nar .boolean (nI 1)))).u_v_chain (upd (chT T vs).v_chain vs.length (nI x))).u_v_links (nI vs.length + nI 1) = chT T (vs ++ [x]) := by
            show ((T.u_v_chained (upd (mk1 T.v_chained vs) x (nI 1))).u_v_chain (upd (mkL T.v_chain vs) vs.length (nI x))).u_v_links (nI vs.length + nI 1) = _
            rw [mk1_add, mkL_add, nI_add]
            unfold chT
            rw [List.length_append]
            rfl
          have hst2 : ∀ f : Int32 → MS → Option (Int32 × MS), lf_c (f_Mo_entry K ((((chT T vs).u_v_chained (upd (chT T vs).v_chained x (vp_nar .boolean (nI 1)))).u_v_chain (upd ((chT T vs).u_v_chained (upd (chT T vs).v_chained x (vp_nar .boolean (nI 1)))).v_chain vs.length (nI x))).u_v_links ((((chT T vs).u_v_chained (upd (chT T vs).v_chained x (vp_nar .boolean (nI 1)))).u_v_chain (upd ((chT T vs).u_v_chained (upd (chT T vs).v_chained x (vp_nar .boolean (nI 1)))).v_chain vs.length (nI x))).v_links + nI 1)) (nI x)) f = f (nI (ent D x)) (chT T (vs ++ [x])) := by
            intro f
            change lf_c (f_Mo_entry K ((((chT T vs).u_v_chained (upd (chT T vs).v_chained x (vp_nar .boolean (nI 1)))).u_v_chain (upd (chT T vs).v_chain vs.length (nI x))).u_v_links (nI vs.length + nI 1)) (nI x)) f = _
            rw [hst, qM_entry (T := chT T (vs ++ [x])) hT h h2 (by unfold isCl at c1; omega), q_c]
          rw [hst2]
          by_cases c4 : 268435448 ≤ ent D x
          · have ef : fol N D (k + 1) x (vs ++ tk) = some [x] := by rw [fol, if_pos (show isCl N D x ∧ x ∉ vs ++ tk ∧ ent D x ≠ 0 from ⟨c1, c2, c3⟩), if_pos c4]
            rw [ef, if_neg (nI_nlt c4 (by omega))]
            exact ⟨fun ch q => by cases q; rfl, fun q => by cases q⟩
          · have ef : fol N D (k + 1) x (vs ++ tk) = (fol N D k (ent D x) (x :: (vs ++ tk))).map (List.cons x) := by rw [fol, if_pos (show isCl N D x ∧ x ∉ vs ++ tk ∧ ent D x ≠ 0 from ⟨c1, c2, c3⟩), if_neg c4]
            rw [ef, if_pos (nI_lt (by omega) (by omega))]
            have hn : x ∉ vs := fun z => c2 (List.mem_append_left _ z)
            have I := ih (ent D x) (vs ++ [x]) l28 (nd_snoc h3 hn) (fun y hy => by
              rcases List.mem_append.mp hy with q | q
              · exact h4 y q
              · rw [List.mem_singleton.mp q]; exact c1) (by rw [List.length_append]; show _ ≤ vs.length + 1 + k; omega)
            have em : fol N D k (ent D x) (vs ++ [x] ++ tk) = fol N D k (ent D x) (x :: (vs ++ tk)) := fol_mem _ _ _ _ (fun y => by simp [or_left_comm])
            rw [em] at I
            cases hq : fol N D k (ent D x) (x :: (vs ++ tk)) with
            | none =>
              refine ⟨fun ch q => (by cases q), fun _ => I.2 hq⟩
            | some ch =>
              refine ⟨fun ch' q => ?_, fun q => by cases q⟩
              cases q
              rw [I.1 ch hq, List.append_assoc]
              rfl
    · have ef : fol N D (k + 1) x (vs ++ tk) = none := by rw [fol, if_neg (fun z => c1 z.1)]
      rw [ef, if_neg c1, if_pos rfl]
      exact ⟨fun ch q => (by cases q), fun _ => ⟨_, _, _, rfl⟩⟩
theorem qM_follows {K N x : Nat} {D : Nat → Int32} {T : MS} {tk : List Nat} (hK : 1000 ≤ K) (hT : mIs N D T) (h : hdOk N D) (h2 : N ≤ 1024) (hk0 : tkR N T.v_chained tk) (hx : x < 2 ^ 28) : (∀ ch, fo N D x tk = some ch → f_Mo_follows K T (nI x) = some (nI 1, chT T ch)) ∧ (fo N D x tk = none → ∃ a b c, f_Mo_follows K T (nI x) = some (nI 0, ((T.u_v_chained a).u_v_chain b).u_v_links c)) := by
  have F := hd_facts h h2
  have e0 : f_Mo_follows K T (nI x) = f_Mo_follows_7 K K (nI x) (chT T []) := by
    unfold chT
    rw [mk1_nil, mkL_nil]
    rfl
  have I := qM_fol7 (K := K) hT h h2 hk0 K x [] hx List.nodup_nil (fun y hy => by cases hy) (by simp only [List.length_nil]; omega)
  have e1 : fol N D K x ([] ++ tk) = fo N D x tk := fol_fuel _ _ x [] tk List.nodup_nil (fun y hy => by cases hy) (by simp only [List.length_nil]; omega) (by simp only [List.length_nil]; omega)
  rw [e1] at I
  rw [e0]
  exact I
