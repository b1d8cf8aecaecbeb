/-! What a function comes to: it answers, and the answer is so. -/
def wp {α : Type} (a : Option α) (Q : α → Prop) : Prop := ∃ x, a = some x ∧ Q x
theorem wp_i {α : Type} {x : α} {Q : α → Prop} (h : Q x) : wp (some x) Q := ⟨x, rfl, h⟩
theorem wp_l {α β : Type} {a : α} {f : α → Option β} {Q : β → Prop} (h : wp (f a) Q) : wp (lf_l a f) Q := h
theorem wp_L {α β : Type} {a : α} {f : α → Option β} {Q : β → Prop} (h : ∀ x, x = a → wp (f x) Q) : wp (lf_l a f) Q := h a rfl
theorem wp_g {α : Type} {P : Prop} [Decidable P] {a : Option α} {Q : α → Prop} (h : P) (h2 : wp a Q) : wp (lf_g P a) Q := by rw [q_g h]; exact h2
theorem wp_c {ρ σ β : Type} {a : Option (ρ × σ)} {f : ρ → σ → Option β} {Q : β → Prop} (h : wp a (fun x => wp (f x.1 x.2) Q)) : wp (lf_c a f) Q := by
  obtain ⟨⟨r, s⟩, e, h⟩ := h
  rw [e]
  exact h
theorem wp_b {α β : Type} {a : Option α} {f : α → Option β} {Q : β → Prop} (h : wp a (fun x => wp (f x) Q)) : wp (a.bind f) Q := by
  obtain ⟨x, e, h⟩ := h
  rw [e]
  exact h
theorem wp_n {α β : Type} {a : Option (α × CG × CS)} {f : α → CG → CS → Option β} {Q : β → Prop} (h : wp a (fun x => wp (f x.1 x.2.1 x.2.2) Q)) : wp (lf_n a f) Q := by
  obtain ⟨⟨r, G, s⟩, e, h⟩ := h
  rw [e]
  exact h
theorem wp_w {α : Type} {a : Option α} {P Q : α → Prop} (h : wp a P) (g : ∀ x, P x → Q x) : wp a Q := by
  obtain ⟨x, e, h⟩ := h
  exact ⟨x, e, g x h⟩
theorem wp_e {α : Type} {a : Option α} {x : α} {Q : α → Prop} (h : a = some x) (g : Q x) : wp a Q := ⟨x, h, g⟩
theorem wp_if {α : Type} {P R : Prop} [Decidable P] {a b : Option α} {Q : α → Prop} (h : P ↔ R) (h1 : R → wp a Q) (h2 : ¬ R → wp b Q) : wp (if P then a else b) Q := by
  by_cases g : P
  · rw [if_pos g]; exact h1 (h.mp g)
  · rw [if_neg g]; exact h2 (fun z => g (h.mpr z))
theorem wp_t {α : Type} {P : Prop} [Decidable P] {a b : Option α} {Q : α → Prop} (h : P) (h1 : wp a Q) : wp (if P then a else b) Q := by rw [if_pos h]; exact h1
theorem wp_f {α : Type} {P : Prop} [Decidable P] {a b : Option α} {Q : α → Prop} (h : ¬ P) (h1 : wp b Q) : wp (if P then a else b) Q := by rw [if_neg h]; exact h1
theorem wp_loop {σ α : Type} {F : Nat → Nat → σ → Option α} (Inv : Nat → σ → Prop) {Q : α → Prop} (n : Nat) (hs : ∀ i s k, i < n → Inv i s → (∀ s', Inv (i + 1) s' → wp (F k (i + 1) s') Q) → wp (F (k + 1) i s) Q) (he : ∀ s k, Inv n s → wp (F (k + 1) n s) Q) : ∀ i k s, i ≤ n → n - i < k → Inv i s → wp (F k i s) Q := by
  intro i k s h1 h2 h3
  obtain ⟨d, hd⟩ : ∃ d, n - i = d := ⟨_, rfl⟩
  induction d generalizing i k s with
  | zero =>
    obtain ⟨k, rfl⟩ : ∃ m, k = m + 1 := ⟨k - 1, by omega⟩
    obtain rfl : i = n := by omega
    exact he s k h3
  | succ d ih =>
    obtain ⟨k, rfl⟩ : ∃ m, k = m + 1 := ⟨k - 1, by omega⟩
    exact hs i s k (by omega) h3 (fun s' h => ih (i + 1) k s' (by omega) (by omega) h (by omega))
/-- a choice over any statement -/
noncomputable def cif {α : Type} (P : Prop) (a b : α) : α := @ite α P (Classical.propDecidable P) a b
theorem cif_t {α : Type} {P : Prop} {a b : α} (h : P) : cif P a b = a := by unfold cif; exact if_pos h
theorem cif_f {α : Type} {P : Prop} {a b : α} (h : ¬ P) : cif P a b = b := by unfold cif; exact if_neg h
noncomputable def b01 (P : Prop) : Int32 := cif P (nI 1) (nI 0)
theorem b01_t {P : Prop} (h : P) : b01 P = nI 1 := cif_t h
theorem b01_f {P : Prop} (h : ¬ P) : b01 P = nI 0 := cif_f h
theorem b01_0 {P : Prop} : b01 P = 0 ↔ ¬ P := by
  by_cases h : P
  · rw [b01_t h]; exact ⟨fun g => absurd g (by decide), fun g => absurd h g⟩
  · rw [b01_f h]; exact ⟨fun _ => h, fun _ => rfl⟩
theorem b01_of {σ : Type} {P : Prop} {a : Option (Int32 × σ)} {s : σ} (h : (P → a = some (nI 1, s)) ∧ (¬ P → a = some (nI 0, s))) : a = some (b01 P, s) := by
  by_cases g : P
  · rw [h.1 g, b01_t g]
  · rw [h.2 g, b01_f g]
theorem b01_iff {P R : Prop} (h : P ↔ R) : b01 P = b01 R := by
  by_cases g : P
  · rw [b01_t g, b01_t (h.mp g)]
  · rw [b01_f g, b01_f (fun z => g (h.mpr z))]
theorem b01_or (P : Prop) : b01 P = 0 ∨ b01 P = 1 := by
  by_cases h : P
  · rw [b01_t h]; exact Or.inr rfl
  · rw [b01_f h]; exact Or.inl rfl
theorem dN {a b : Nat} : nI a ≤ nI b → a < 2 ^ 31 → b < 2 ^ 31 → a ≤ b := fun h ha hb => (nI_leI ha hb).mp h
/-! A disk's tree: its items in order (the first is the root). -/
abbrev It : Type := (Nat × Nat) × (Nat × Nat) × List Nat
abbrev ipa (x : It) : Nat := x.1.1
abbrev isp (x : It) : Nat := x.1.2
abbrev isl (x : It) : Nat := x.2.1.1
abbrev ipt (x : It) : Nat := x.2.1.2
abbrev inm (x : It) : List Nat := x.2.2
def it0 : It := ((0, 0), (0, 0), [])
abbrev itr (its : List It) (j : Nat) : It := its.getD j it0
def uns (its : List It) : List Nat := its.flatMap inm
theorem uns_app (a b : List It) : uns (a ++ b) = uns a ++ uns b := by unfold uns; exact List.flatMap_append
theorem uns_one (x : It) : uns [x] = inm x := by unfold uns; simp
theorem uns_take {its : List It} {j : Nat} (h : j < its.length) : uns (its.take (j + 1)) = uns (its.take j) ++ inm (itr its j) := by
  rw [List.take_succ, uns_app]
  congr 1
  rw [List.getElem?_eq_getElem h]
  simp [uns, List.getD_eq_getElem?_getD, List.getElem?_eq_getElem h]
theorem uns_mono (its : List It) (j : Nat) : (uns (its.take j)).length ≤ (uns its).length := by
  conv => rhs; rw [← List.take_append_drop j its, uns_app]
  rw [List.length_append]
  omega
theorem uns_len {its : List It} {j : Nat} (h : j < its.length) : (uns (its.take j)).length + (inm (itr its j)).length ≤ (uns its).length := by
  have := uns_mono its (j + 1)
  rw [uns_take h, List.length_append] at this
  exact this
theorem uns_cut {its : List It} {j : Nat} (h : j < its.length) : uns its = uns (its.take j) ++ inm (itr its j) ++ uns (its.drop (j + 1)) := by
  rw [← uns_take h, ← uns_app, List.take_append_drop]
theorem uns_get {its : List It} {j q : Nat} (h : j < its.length) (hq : q < (inm (itr its j)).length) : (uns its).getD ((uns (its.take j)).length + q) 0 = (inm (itr its j)).getD q 0 := by
  generalize hm : (uns (its.take j)).length = m
  rw [uns_cut h, List.getD_eq_getElem?_getD, List.getD_eq_getElem?_getD]
  rw [List.getElem?_append_left (by rw [List.length_append]; omega), List.getElem?_append_right (by omega)]
  congr 2
  omega
/-- small letters and capitals are the same -/
def capN (u : Nat) : Nat := if 97 ≤ u ∧ u ≤ 122 then u - 32 else u
theorem capN_lt {u : Nat} (h : u < 65536) : capN u < 65536 := by unfold capN; split <;> omega
def alk (a b : List Nat) : Prop := a.map capN = b.map capN
theorem alk_iff {a b : List Nat} : alk a b ↔ a.length = b.length ∧ ∀ q, q < b.length → capN (a.getD q 0) = capN (b.getD q 0) := by
  unfold alk
  constructor
  · intro h
    have hl : a.length = b.length := by simpa using congrArg List.length h
    refine ⟨hl, fun q hq => ?_⟩
    have h1 := congrArg (fun l => l[q]?) h
    simp only [List.getElem?_map] at h1
    rw [List.getElem?_eq_getElem (by omega), List.getElem?_eq_getElem hq] at h1
    rw [List.getD_eq_getElem?_getD, List.getD_eq_getElem?_getD, List.getElem?_eq_getElem (by omega), List.getElem?_eq_getElem hq]
    simpa using h1
  · rintro ⟨hl, h⟩
    apply List.ext_getElem?
    intro q
    simp only [List.getElem?_map]
    by_cases hq : q < b.length
    · have h1 := h q hq
      rw [List.getD_eq_getElem?_getD, List.getD_eq_getElem?_getD, List.getElem?_eq_getElem (by omega), List.getElem?_eq_getElem hq] at h1
      rw [List.getElem?_eq_getElem (by omega), List.getElem?_eq_getElem hq]
      simpa using h1
    · rw [List.getElem?_eq_none (by omega), List.getElem?_eq_none (by omega)]
theorem qM_capital (K : Nat) {u : Nat} (h : u < 2 ^ 31) : f_Mo_capital K (nI u) = some (nI (capN u)) := by
  unfold f_Mo_capital f_Mo_capital_19 capN
  have e1 : nI u < 97 ↔ u < 97 := nI_ltI (b := 97) h (by decide)
  have e2 : 122 < nI u ↔ 122 < u := nI_ltI (a := 122) (by decide) h
  by_cases g1 : u < 97
  · rw [if_pos (e1.mpr g1), if_neg (by omega)]
  · rw [if_neg (fun z => g1 (e1.mp z))]
    by_cases g2 : 122 < u
    · rw [if_pos (e2.mpr g2), if_neg (by omega)]
    · rw [if_neg (fun z => g2 (e2.mp z)), if_pos (by omega), show (32 : Int32) = nI 32 from rfl, pk_sub (by omega)]
theorem qV_capital (K : Nat) {u : Nat} (h : u < 2 ^ 31) : f_Wo_capital K (nI u) = some (nI (capN u)) := qM_capital K h
/-- how the reference holds the items -/
abbrev rmI (its : List It) (T : MS) : Prop := T.v_items = nI its.length ∧ T.v_units = nI (uns its).length ∧ (∀ j, 1 ≤ j → j < its.length → T.v_at j = nI (isp (itr its j)) ∧ T.v_slot j = nI (isl (itr its j)) ∧ T.v_parts j = nI (ipt (itr its j)) ∧ T.v_parent j = nI (ipa (itr its j)) ∧ T.v_nameAt j = nI (uns (its.take j)).length ∧ T.v_nameSize j = nI (inm (itr its j)).length) ∧ (∀ u, u < (uns its).length → T.v_unit u = nI ((uns its).getD u 0))
/-- their numbers are in range -/
abbrev itsOk (N : Nat) (its : List It) : Prop := 1 ≤ its.length ∧ its.length ≤ 4200 ∧ (uns its).length ≤ 90000 ∧ (∀ u ∈ uns its, u < 65536) ∧ ∀ j, 1 ≤ j → j < its.length → isp (itr its j) + 32 ≤ 512 * N ∧ isl (itr its j) < 100000 ∧ ipt (itr its j) ≤ 20 ∧ ipa (itr its j) < j ∧ (inm (itr its j)).length ≤ 255 ∧ 1 ≤ (inm (itr its j)).length
theorem getD_lt {l : List Nat} {b q : Nat} (h : ∀ u ∈ l, u < b) (hb : 0 < b) : l.getD q 0 < b := by
  rw [List.getD_eq_getElem?_getD]
  cases e : l[q]? with
  | none => exact hb
  | some x => exact h x (List.mem_of_getElem? e)
theorem qM_alike {K N j : Nat} {its : List It} {us : List Nat} {T : MS} (hK : 1000 ≤ K) (hT : rmI its T) (ho : itsOk N its) (h1 : 1 ≤ j) (h2 : j < its.length) (hs : T.v_size = nI us.length) (hl : us.length ≤ 260) (hb : bufR T.v_name us) (hu : ∀ u ∈ us, u < 65536) : f_Mo_isAlike K T (nI j) = some (b01 (alk (inm (itr its j)) us), T) := by
  obtain ⟨-, -, hI, hU⟩ := hT
  obtain ⟨-, o1', o2', o3', o4'⟩ := ho
  obtain ⟨-, -, -, -, n1, n2⟩ := hI j h1 h2
  have n3 := (o4' j h1 h2).2.2.2.2.1
  have n4 := uns_len h2
  have hin : lf_in (nI j) 4200 := q_in (by omega) (by decide)
  have hcl : (nI j).toNatClampNeg = j := nI_clamp (by omega)
  have loop : ∀ (P : Prop) (i k : Nat), i ≤ us.length → us.length - i < k → (P → (inm (itr its j)).length = us.length) → f_Mo_isAlike_21 K k (nI j) (b01 P) (nI i) T = some (b01 (P ∧ ∀ q, i ≤ q → q < us.length → capN ((inm (itr its j)).getD q 0) = capN (us.getD q 0)), T) := by
    intro P i k
    induction k generalizing P i with
    | zero => intro h1 h2; omega
    | succ k ih =>
      intro g1 g2 g3
      rw [f_Mo_isAlike_21, hs]
      by_cases e : us.length ≤ i
      · rw [if_pos (nI_le e (by omega)), f_Mo_isAlike_73, q_g (b01_or _)]
        congr 2
        exact b01_iff ⟨fun h => ⟨h, fun q a b => by omega⟩, fun h => h.1⟩
      · rw [if_neg (nI_ge (by omega) (by omega))]
        by_cases hP : P
        · have g4 := g3 hP
          have q1 : nI (uns (its.take j)).length + nI i = nI ((uns (its.take j)).length + i) := nI_add _ _
          rw [if_neg (fun z => b01_0.mp z hP), q_g hin, hcl, n1, q1, q_g (q_in (by omega) (by decide)), nI_clamp (by omega), hU _ (by omega), uns_get h2 (by omega)]
          have b1 : (inm (itr its j)).getD i 0 < 65536 := by rw [← uns_get h2 (by omega)]; exact getD_lt o3' (by decide)
          have b2 : us.getD i 0 < 65536 := getD_lt hu (by decide)
          rw [qM_capital K (by omega), q_b, q_g (q_in (by omega) (by decide)), nI_clamp (by omega), hb i (by omega), qM_capital K (by omega), q_b]
          have c1 := capN_lt b1
          have c2 := capN_lt b2
          unfold f_Mo_isAlike_66
          rw [q_l, q_l, nI_1]
          by_cases ec : capN ((inm (itr its j)).getD i 0) = capN (us.getD i 0)
          · rw [if_pos (by rw [ec])]
            have := ih P (i + 1) (by omega) (by omega) g3
            rw [b01_t hP] at this
            rw [show (1 : Int32) = nI 1 from rfl, this]
            congr 2
            refine b01_iff ⟨fun h => ⟨h.1, fun q a b => ?_⟩, fun h => ⟨h.1, fun q a b => h.2 q (by omega) b⟩⟩
            rcases Nat.lt_or_ge i q with z | z
            · exact h.2 q z b
            · obtain rfl : q = i := by omega
              exact ec
          · rw [if_neg (fun z => ec ((nI_eq (by omega) (by omega)).mp z))]
            have := ih False (i + 1) (by omega) (by omega) (fun z => z.elim)
            rw [b01_f (fun z => z)] at this
            rw [show (0 : Int32) = nI 0 from rfl, this]
            congr 2
            exact b01_iff ⟨fun h => h.1.elim, fun h => absurd (h.2 i (by omega) (by omega)) ec⟩
        · rw [if_pos (b01_0.mpr hP), f_Mo_isAlike_73, q_g (b01_or _)]
          congr 2
          exact b01_iff ⟨fun h => absurd h hP, fun h => absurd h.1 hP⟩
  unfold f_Mo_isAlike f_Mo_isAlike_18
  rw [q_g hin, hcl, n2, hs]
  by_cases e : (inm (itr its j)).length = us.length
  · rw [if_pos (by rw [e])]
    have := loop True 0 K (by omega) (by omega) (fun _ => e)
    rw [b01_t trivial] at this
    rw [show (1 : Int32) = nI 1 from rfl, show (0 : Int32) = nI 0 from rfl, this]
    congr 2
    rw [b01_iff alk_iff]
    exact b01_iff ⟨fun h => ⟨e, fun q hq => h.2 q (by omega) hq⟩, fun h => ⟨trivial, fun q _ hq => h.2 q hq⟩⟩
  · rw [if_neg (fun z => e ((nI_eq (by omega) (by omega)).mp z))]
    have := loop False 0 K (by omega) (by omega) (fun z => z.elim)
    rw [b01_f (fun z => z)] at this
    rw [show (0 : Int32) = nI 0 from rfl, this]
    congr 2
    rw [b01_iff alk_iff]
    exact b01_iff ⟨fun h => h.1.elim, fun h => absurd h.1 e⟩
