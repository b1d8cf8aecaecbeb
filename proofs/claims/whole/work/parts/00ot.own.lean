/-! What belongs to HERE: its clusters, those of its items, and the free ones. -/
theorem num_of {N : Nat} {D D' : Nat → Int32} (h : ∀ p, p < 512 → o1 D' p = o1 D p) : numE N D D' := by
  have e2' : ∀ p, p + 1 < 512 → o2 D' p = o2 D p := fun p hp => by unfold o2; rw [h p (by omega), h (p + 1) hp]
  have e4' : ∀ p, p + 3 < 512 → o4 D' p = o4 D p := fun p hp => by unfold o4; rw [e2' p (by omega), e2' (p + 2) (by omega)]
  have e1 : hc D' = hc D := h 13 (by decide)
  have e2 : hv D' = hv D := e2' 14 (by decide)
  have e3 : hy D' = hy D := h 16 (by decide)
  have e4 : hz D' = hz D := e4' 36 (by decide)
  have e5 : hr D' = hr D := e4' 44 (by decide)
  have e6 : ha D' = ha D := by unfold ha; rw [e2, e3, e4]
  exact ⟨e1, e6, e5, by unfold hk; rw [e1, e6]⟩
def own (N : Nat) (D : Nat → Int32) (its : List It) (h x : Nat) : Prop := ent D x = 0 ∨ x ∈ chI N D its h ∨ ∃ j, 1 ≤ j ∧ j < its.length ∧ ipa (itr its j) = h ∧ x ∈ chI N D its j
theorem chI_cl {N : Nat} {D : Nat → Int32} {its : List It} {tk : List Nat} (h : SI N D its.length its tk) {j : Nat} (hj : j < its.length) : ∀ x ∈ chI N D its j, isCl N D x ∧ ent D x ≠ 0 := by
  intro x hx
  have hcf := h.2.2.1 j hj (Or.inr hj)
  by_cases d : isDr D its j
  · have := (fol_spec _ _ _ _ (hcf.1 d)).2.2.2.2.1 x hx
    exact ⟨this.1, this.2.2⟩
  · have hf := hcf.2 d
    have hnd : ¬ o1 D (isp (itr its j) + 11) / 16 % 2 = 1 := fun w => d (Or.inr w)
    by_cases e4 : o4 D (isp (itr its j) + 28) = 0
    · unfold entF at hf
      rw [if_neg hnd, if_pos e4] at hf
      by_cases f : fc D (isp (itr its j)) = 0
      · rw [if_pos f] at hf
        have hf : [] = chI N D its j := Option.some.inj hf
        rw [← hf] at hx
        cases hx
      · rw [if_neg f] at hf; cases hf
    · obtain ⟨-, h2, -⟩ := entF_file hf hnd e4
      have := (fol_spec _ _ _ _ h2).2.2.2.2.1 x hx
      exact ⟨this.1, this.2.2⟩
theorem own_not {N h j : Nat} {D : Nat → Int32} {its : List It} {tk : List Nat} (hS : SI N D its.length its tk) (hh : h < its.length) (hd : isDr D its h) (hj : j < its.length) (hc0 : (isDr D its j ∧ j < h) ∨ (¬ isDr D its j ∧ ipa (itr its j) < h)) : ∀ x ∈ chI N D its j, ¬ own N D its h x := by
  intro x hx ho
  have hne : j ≠ h := fun e => by
    rcases hc0 with w | w
    · omega
    · rw [e] at w; exact w.1 hd
  rcases ho with w | w | ⟨j', g1, g2, g3, g4⟩
  · exact (chI_cl hS hj x hx).2 w
  · exact hS.2.2.2.1 j h hj hh (Or.inr hj) (Or.inr hh) hne x hx w
  · refine hS.2.2.2.1 j j' hj g2 (Or.inr hj) (Or.inr g2) (fun e => ?_) x hx g4
    rw [← e] at g3
    have := (hS.2.1 j (by omega) hj).2.1
    rcases hc0 with w | w
    · omega
    · omega
theorem plS_in {N s k : Nat} {D : Nat → Int32} {ch : List Nat} (h : hdOk N D) (hN : N ≤ 1024) (hcl : ∀ x ∈ ch, isCl N D x) (hs : s < ch.length * 16 * hc D) (hk0 : k < 32) : 512 * ha D ≤ plS D ch s + k ∧ plS D ch s + k < 512 * N ∧ clOf D (plS D ch s + k) ∈ ch := by
  have hC := (hd_facts h hN).1
  have hq : s / (16 * hc D) < ch.length := by rw [Nat.div_lt_iff_lt_mul (by omega), ← Nat.mul_assoc]; exact hs
  have hmem : ch.getD (s / (16 * hc D)) 0 ∈ ch := by
    rw [List.getD_eq_getElem?_getD, List.getElem?_eq_getElem hq]
    exact List.getElem_mem hq
  have hm : s % (16 * hc D) < 16 * hc D := Nat.mod_lt _ (by omega)
  have e : plS D ch s + k = plC D (ch.getD (s / (16 * hc D)) 0) + (32 * (s % (16 * hc D)) + k) := by unfold plS plC; rw [Nat.add_assoc]
  have hb : 32 * (s % (16 * hc D)) + k < 512 * hc D := by omega
  rw [e]
  refine ⟨(plC_lt h hN (hcl _ hmem) hb).1, (plC_lt h hN (hcl _ hmem) hb).2, ?_⟩
  rw [plC_cl hC (hcl _ hmem).1 hb]
  exact hmem
theorem kept_own {N m hh : Nat} {D E D' : Nat → Int32} {fks : List Nat} {z : SS} {G : CG} {S : CS} {T : MS} (hN : N ≤ 1024) (v : tv N m D E fks z hh G S T) (h0 : ∀ p, p < 512 → o1 D' p = o1 D p) (hdt : ∀ p, 512 * ha D ≤ p → p < 512 * N → ¬ own N D (sIt z) hh (clOf D p) → o1 D' p = o1 D p) (hen : ∀ x, isCl N D x → ¬ own N D (sIt z) hh x → ent D' x = ent D x) : numE N D D' ∧ kept N D D' (sIt z) hh := by
  have hS := v.2.2.2.2.2.2.1
  have ho := v.2.2.2.1
  have hh1 := v.2.2.1.1
  have hd1 := v.2.2.1.2.1
  clear v
  refine ⟨num_of h0, fun j g1 g2 g3 s hs k hk0 => ?_, fun j g1 g2 x hx => ?_⟩
  · obtain ⟨q1, q2, q3⟩ := plS_in ho hN (fun x hx => (chI_cl hS g2 x hx).1) hs hk0
    exact hdt _ q1 q2 (own_not hS hh1 hd1 g2 (Or.inl ⟨g3, g1⟩) _ q3)
  · exact hen x (chI_cl hS g1 x hx).1 (own_not hS hh1 hd1 g1 g2 x hx)
/-- the entry of an item in HERE lies in HERE -/
theorem item_pos {N m hh j k : Nat} {D E : Nat → Int32} {fks : List Nat} {z : SS} {G : CG} {S : CS} {T : MS} (hN : N ≤ 1024) (v : tv N m D E fks z hh G S T) (h1 : 1 ≤ j) (hj : j < (sIt z).length) (hp : ipa (itr (sIt z) j) = hh) (hk0 : k < 32) : 512 * ha D ≤ isp (itr (sIt z) j) + k ∧ isp (itr (sIt z) j) + k < 512 * N ∧ clOf D (isp (itr (sIt z) j) + k) ∈ chI N D (sIt z) hh ∧ isp (itr (sIt z) j) % 32 = 0 := by
  have hS := v.2.2.2.2.2.2.1
  have ho := v.2.2.2.1
  have hh1 := v.2.2.1.1
  clear v
  obtain ⟨a1, a2, a3, a4, a5⟩ := hS.2.1 j h1 hj
  rw [hp] at a5
  obtain ⟨b1, b2, -⟩ := a5
  obtain ⟨q1, q2, q3⟩ := plS_in ho hN (fun x hx => (chI_cl hS hh1 x hx).1) b2 hk0
  rw [← b1] at q1 q2 q3
  refine ⟨q1, q2, q3, ?_⟩
  rw [b1]
  unfold plS
  omega
