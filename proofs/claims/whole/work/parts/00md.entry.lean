/-! An entry in the reference: twins, adding it. -/
theorem qM_taken {K N i fk n : Nat} {its : List It} {us : List Nat} {T : MS} (hK : 10000 ≤ K) (hT : rmI its T) (ho : itsOk N its) (hi : i < 4200) (hf : T.v_firstKid i = nI fk) (hn : T.v_kids i = nI n) (h1 : 1 ≤ fk) (h2 : fk + n ≤ its.length) (hs : T.v_size = nI us.length) (hl : us.length ≤ 260) (hb : bufR T.v_name us) (hu : ∀ u ∈ us, u < 65536) : f_Mo_isTaken K T (nI i) = some (b01 (∃ j, fk ≤ j ∧ j < fk + n ∧ alk (inm (itr its j)) us), T) := by
  have hin : lf_in (nI i) 4200 := q_in hi (by decide)
  have hcl : (nI i).toNatClampNeg = i := nI_clamp (by omega)
  have hlen := ho.2.1
  have loop : ∀ (k : Nat) (P : Prop) (j : Nat), fk ≤ j → j ≤ fk + n → fk + n - j < k → (P ∧ j = fk + n ∨ P ∨ ¬ P) → f_Mo_isTaken_9 K k (nI i) (b01 P) (nI j) T = some (b01 (P ∨ ∃ q, j ≤ q ∧ q < fk + n ∧ alk (inm (itr its q)) us), T) := by
    intro k
    induction k with
    | zero => intro P j h1 h2 h3; omega
    | succ k ih =>
      intro P j g1 g2 g3 _
      rw [f_Mo_isTaken_9, q_g hin, q_g hin, hcl, hf, hn, nI_add]
      unfold f_Mo_isTaken_42
      by_cases e : fk + n ≤ j
      · rw [if_pos (nI_le e (by omega)), q_g (b01_or _)]
        congr 2
        exact b01_iff ⟨fun h => Or.inl h, fun h => h.elim id (fun ⟨q, a, b, _⟩ => by omega)⟩
      · rw [if_neg (nI_ge (by omega) (by omega))]
        by_cases hP : P
        · rw [if_neg (fun z => b01_0.mp z hP), q_g (b01_or _)]
          congr 2
          exact b01_iff ⟨fun h => Or.inl h, fun _ => hP⟩
        · rw [if_pos (b01_0.mpr hP), qM_alike (by omega) hT ho (by omega) (by omega) hs hl hb hu, q_c, q_l, nI_1, ih _ (j + 1) (by omega) (by omega) (by omega) (Or.inr (Classical.em _))]
          congr 2
          refine b01_iff ⟨fun h => ?_, fun h => ?_⟩
          · rcases h with h | ⟨q, a, b, c⟩
            · exact Or.inr ⟨j, Nat.le_refl _, by omega, h⟩
            · exact Or.inr ⟨q, by omega, b, c⟩
          · rcases h with h | ⟨q, a, b, c⟩
            · exact absurd h hP
            · rcases Nat.lt_or_ge j q with y | y
              · exact Or.inr ⟨q, y, b, c⟩
              · obtain rfl : q = j := by omega
                exact Or.inl c
  have l0 := loop K False fk (Nat.le_refl _) (by omega) (by omega) (Or.inr (Or.inr (fun z => z)))
  rw [b01_f (fun z => z)] at l0
  unfold f_Mo_isTaken
  rw [q_g hin, hcl, hf, q_l, show (0 : Int32) = nI 0 from rfl, l0]
  congr 2
  exact b01_iff ⟨fun h => h.elim (fun z => z.elim) id, fun h => Or.inr h⟩
def ssP (D : Nat → Int32) (a b : Nat) : Prop := ∀ q, q < 11 → o1 D (a + q) = o1 D (b + q)
theorem qM_adm240 {K p j : Nat} {D : Nat → Int32} {its : List It} {T : MS} {N : Nat} (hN : N ≤ 1024) (hD : T.v_disk = D) (hT : rmI its T) (ho : itsOk N its) (hp : p + 31 < 524288) (h1 : 1 ≤ j) (h2 : j < its.length) (rec : Int32 → Int32 → Int32 → Int32 → Int32 → MS → Option (Int32 × MS)) (y2 y3 y4 : Int32) : ∀ (k : Nat) (P : Prop) (q : Nat), q ≤ 11 → 11 - q < k → f_Mo_adm_240 K rec k (nI p) y2 y3 y4 (nI j) (b01 P) (nI q) T = cif (P ∧ ∀ r, q ≤ r → r < 11 → o1 D (isp (itr its j) + r) = o1 D (p + r)) (some (nI 5, T)) (rec (nI p) y2 y3 y4 (nI (j + 1)) T) := by
  obtain ⟨-, -, hI, -⟩ := hT
  obtain ⟨-, o1', -, -, o4'⟩ := ho
  have hat := (hI j h1 h2).1
  have hsp := (o4' j h1 h2).1
  intro k
  induction k with
  | zero => intro P q h1 h2; omega
  | succ k ih =>
    intro P q g1 g2
    rw [f_Mo_adm_240]
    unfold f_Mo_adm_281 f_Mo_adm_282
    by_cases e : q = 11
    · rw [if_pos (by rw [e]; decide)]
      by_cases hP : P
      · rw [if_neg (fun z => b01_0.mp z hP), cif_t ⟨hP, fun r a b => by omega⟩]; rfl
      · rw [if_pos (b01_0.mpr hP), cif_f (fun z => hP z.1), q_l, nI_1]
    · rw [if_neg (show ¬ 11 ≤ nI q from nI_ge (b := 11) (by omega) (by decide))]
      have i0 := ih False (q + 1) (by omega) (by omega)
      rw [b01_f (fun z => z), cif_f (fun z => z.1)] at i0
      by_cases hP : P
      · rw [if_neg (fun z => b01_0.mp z hP), q_g (q_in (by omega) (by decide)), nI_clamp (by omega), hat, nI_add, rM1 D hD (by omega), q_c, nI_add, rM1 D hD (by omega), q_c, q_l, q_l, nI_1]
        have b1 := o1_lt D (isp (itr its j) + q)
        have b2 := o1_lt D (p + q)
        by_cases z : o1 D (isp (itr its j) + q) = o1 D (p + q)
        · have i1 := ih P (q + 1) (by omega) (by omega)
          rw [b01_t hP] at i1
          rw [if_pos (by rw [z]), show (1 : Int32) = nI 1 from rfl, i1]
          by_cases y : P ∧ ∀ r, q ≤ r → r < 11 → o1 D (isp (itr its j) + r) = o1 D (p + r)
          · rw [cif_t y, cif_t ⟨hP, fun r a b => y.2 r (by omega) b⟩]
          · rw [cif_f y, cif_f (fun w => y ⟨hP, fun r a b => by
              rcases Nat.lt_or_ge q r with v | v
              · exact w.2 r v b
              · obtain rfl : r = q := by omega
                exact z⟩)]
        · rw [if_neg (fun y => z ((nI_eq (by omega) (by omega)).mp y)), show (0 : Int32) = nI 0 from rfl, i0, cif_f (fun y => z (y.2 q (Nat.le_refl _) (by omega)))]
      · rw [if_pos (b01_0.mpr hP), q_l, nI_1, show (0 : Int32) = nI 0 from rfl, i0, cif_f (fun z => hP z.1)]
theorem qM_adm225 {K p fk : Nat} {D : Nat → Int32} {its : List It} {T : MS} {N : Nat} (hK : 10000 ≤ K) (hN : N ≤ 1024) (hD : T.v_disk = D) (hT : rmI its T) (ho : itsOk N its) (hp : p + 31 < 524288) (h1 : 1 ≤ fk) (h2 : fk ≤ its.length) (y2 y3 y4 : Int32) : (∃ k, f_Mo_adm_225 K K (nI p) y2 y3 y4 (nI fk) T = cif (∃ j, fk ≤ j ∧ j < its.length ∧ ssP D (isp (itr its j)) p) (some (nI 5, T)) (f_Mo_adm_225 K (k + 1) (nI p) y2 y3 y4 (nI its.length) T)) := by
  have hlen := ho.2.1
  have loop : ∀ (k j : Nat), fk ≤ j → j ≤ its.length → its.length - j < k → ∃ k', f_Mo_adm_225 K k (nI p) y2 y3 y4 (nI j) T = cif (∃ q, j ≤ q ∧ q < its.length ∧ ssP D (isp (itr its q)) p) (some (nI 5, T)) (f_Mo_adm_225 K (k' + 1) (nI p) y2 y3 y4 (nI its.length) T) := by
    intro k
    induction k with
    | zero => intro j h1 h2 h3; omega
    | succ k ih =>
      intro j g1 g2 g3
      by_cases e : j = its.length
      · refine ⟨k, ?_⟩
        rw [e, cif_f (fun ⟨q, a, b, _⟩ => by omega)]
      · obtain ⟨k', hk'⟩ := ih (j + 1) (by omega) (by omega) (by omega)
        refine ⟨k', ?_⟩
        rw [f_Mo_adm_225, hT.1, if_neg (nI_ge (by omega) (by omega))]
        have a := qM_adm240 (K := K) (p := p) (j := j) hN hD hT ho hp (by omega) (by omega) (f_Mo_adm_225 K k) y2 y3 y4 K True 0 (by omega) (by omega)
        rw [b01_t trivial] at a
        rw [show (1 : Int32) = nI 1 from rfl, show (0 : Int32) = nI 0 from rfl, a]
        by_cases z : ssP D (isp (itr its j)) p
        · rw [cif_t ⟨trivial, fun r _ b => z r b⟩, cif_t ⟨j, Nat.le_refl _, by omega, z⟩]
        · rw [cif_f (fun y => z (fun q hq => y.2 q (Nat.zero_le _) hq)), hk']
          by_cases y : ∃ q, j ≤ q ∧ q < its.length ∧ ssP D (isp (itr its q)) p
          · obtain ⟨q, a, b, c⟩ := y
            rw [cif_t ⟨q, by
              rcases Nat.lt_or_ge j q with v | v
              · exact v
              · obtain rfl : q = j := by omega
                exact absurd c z, b, c⟩, cif_t ⟨q, a, b, c⟩]
          · rw [cif_f y, cif_f (fun ⟨q, a, b, c⟩ => y ⟨q, by omega, b, c⟩)]
  exact loop K fk (Nat.le_refl _) h2 (by omega)
/-! What an entry comes to. -/
abbrev SS : Type := (List It × Option Nat) × List Nat × Pend
abbrev sIt (x : SS) : List It := x.1.1
abbrev sLb (x : SS) : Option Nat := x.1.2
abbrev sTk (x : SS) : List Nat := x.2.1
abbrev sPe (x : SS) : Pend := x.2.2
def nmN (D : Nat → Int32) (p : Nat) (x : Pend) : List Nat := if pM x = 0 then svO D p 11 else tw (pU x)
noncomputable def entF (N : Nat) (D : Nat → Int32) (p : Nat) (tk : List Nat) : Option (List Nat) := if o1 D (p + 11) / 16 % 2 = 1 then some [] else if o4 D (p + 28) = 0 then (if fc D p = 0 then some [] else none) else if o4 D (p + 28) < 2 ^ 31 then (match fo N D (fc D p) tk with
  | some ch => if ch.length = (o4 D (p + 28) + 512 * hc D - 1) / (512 * hc D) then some ch else none
  | none => none) else none
abbrev enBad (D : Nat → Int32) (p : Nat) (x : Pend) : Prop := shP D p ((0 : Nat) = 1) ∧ (o1 D (p + 11) / 16 % 2 = 1 → o4 D (p + 28) = 0) ∧ (pM x ≠ 0 → pL x = 0 ∧ sm D p 11 = pS x ∧ sdP (pU x))
abbrev enTw (D : Nat → Int32) (its : List It) (fk p : Nat) (nm : List Nat) : Prop := ∃ j, fk ≤ j ∧ j < its.length ∧ (alk (inm (itr its j)) nm ∨ ssP D (isp (itr its j)) p)
abbrev enLb (D : Nat → Int32) (i p : Nat) (z : SS) : Prop := o1 D (p + 11) / 16 % 2 = 0 ∧ i = 0 ∧ sLb z = none ∧ pM (sPe z) = 0 ∧ fc D p = 0 ∧ o4 D (p + 28) = 0 ∧ shP D p ((1 : Nat) = 1)
noncomputable def entR (N : Nat) (D : Nat → Int32) (i s p : Nat) (z : SS) : Except Nat SS := match entF N D p (sTk z) with
  | some ch => .ok ((sIt z ++ [((i, p), (s, pM (sPe z)), nmN D p (sPe z))], sLb z), ch ++ sTk z, pe0)
  | none => .error 3
theorem entR_s {N : Nat} {D : Nat → Int32} {i s p : Nat} {z : SS} {ch : List Nat} (h : entF N D p (sTk z) = some ch) : entR N D i s p z = .ok ((sIt z ++ [((i, p), (s, pM (sPe z)), nmN D p (sPe z))], sLb z), ch ++ sTk z, pe0) := by unfold entR; rw [h]
theorem entR_n {N : Nat} {D : Nat → Int32} {i s p : Nat} {z : SS} (h : entF N D p (sTk z) = none) : entR N D i s p z = .error 3 := by unfold entR; rw [h]
noncomputable def entS (N : Nat) (D : Nat → Int32) (i s p fk : Nat) (z : SS) : Except Nat SS := cif (o1 D (p + 11) ≤ 63 ∧ daysP D p) (cif (o1 D (p + 11) / 8 % 2 = 1) (cif (enLb D i p z) (.ok ((sIt z, some p), sTk z, sPe z)) (.error 4)) (cif (enBad D p (sPe z)) (cif (enTw D (sIt z) fk p (nmN D p (sPe z))) (.error 5) (entR N D i s p z)) (.error 4))) (.error 4)
/-- a function of the reference does what an answer of the tree asks -/
abbrev stM (E : Except Nat SS) (f : Option (Int32 × MS)) (A : SS → MS → Prop) (B : MS → Prop) : Prop := (∀ z', E = .ok z' → ∃ T', f = some (nI 0, T') ∧ A z' T') ∧ (∀ e, E = .error e → ∃ T', f = some (nI e, T') ∧ B T')
theorem stM_e {e : Nat} {f : Option (Int32 × MS)} {A : SS → MS → Prop} {B : MS → Prop} {T' : MS} (h : f = some (nI e, T')) (b : B T') : stM (.error e) f A B := ⟨fun z' hz' => (by cases hz'), fun e' he => ⟨T', by cases he; exact h, b⟩⟩
theorem stM_o {z : SS} {f : Option (Int32 × MS)} {A : SS → MS → Prop} {B : MS → Prop} {T' : MS} (h : f = some (nI 0, T')) (a : A z T') : stM (.ok z) f A B := ⟨fun z' hz' => ⟨T', h, by cases hz'; exact a⟩, fun e he => (by cases he)⟩
