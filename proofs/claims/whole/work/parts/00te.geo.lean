/-! make: HERE's slots. -/
theorem cl_room {N : Nat} {D : Nat → Int32} {ch : List Nat} (h : hdOk N D) (hN : N ≤ 1024) (hn : ch.Nodup) (hcl : ∀ x ∈ ch, isCl N D x) : ch.length * 16 * hc D ≤ 16384 ∧ ch.length ≤ 514 := by
  have hff := hd_facts h hN
  have h1 : ch.length ≤ hk N D := nd_cl hn hcl
  have h2 : hk N D * hc D ≤ N - ha D := by
    unfold hk
    exact Nat.div_mul_le_self _ _
  have h3 : ch.length * hc D ≤ 1024 := Nat.le_trans (Nat.mul_le_mul_right _ h1) (by omega)
  have e : ch.length * 16 * hc D = 16 * (ch.length * hc D) := by rw [Nat.mul_comm ch.length 16, Nat.mul_assoc]
  refine ⟨by omega, ?_⟩
  rcases hff.1 with w | w | w <;> rw [w] at h3 <;> omega
theorem slots_dis {N b W : Nat} {D : Nat → Int32} {ch : List Nat} (h : hdOk N D) (hN : N ≤ 1024) (hn : ch.Nodup) (hcl : ∀ x ∈ ch, isCl N D x) (hb : b + W ≤ ch.length * 16 * hc D) : disP (fun i => plS D ch (b + i)) W := by
  intro i j hi hj hne
  show plS D ch (b + i) + 32 ≤ plS D ch (b + j) ∨ plS D ch (b + j) + 32 ≤ plS D ch (b + i)
  have h1 := plS_lt h hN hcl (show b + i < ch.length * 16 * hc D by omega)
  have h2 := plS_lt h hN hcl (show b + j < ch.length * 16 * hc D by omega)
  have : plS D ch (b + i) ≠ plS D ch (b + j) := fun e => by
    have := plS_inj h hN hcl hn (by omega) (by omega) e
    omega
  omega
theorem plS_app {D : Nat → Int32} {ch xs : List Nat} {s : Nat} (hC : hc D = 2 ∨ hc D = 4 ∨ hc D = 8) (hs : s < ch.length * 16 * hc D) : plS D (ch ++ xs) s = plS D ch s := by
  have hq : s / (16 * hc D) < ch.length := by rw [Nat.div_lt_iff_lt_mul (by omega), ← Nat.mul_assoc]; exact hs
  unfold plS
  rw [List.getD_eq_getElem?_getD, List.getD_eq_getElem?_getD, List.getElem?_append_left hq]
theorem here_ch {N m hh : Nat} {D E : Nat → Int32} {fks : List Nat} {z : SS} {G : CG} {S : CS} {T : MS} (hN : N ≤ 1024) (v : tv N m D E fks z hh G S T) : fo N D (begI D (sIt z) hh) [] = some (chI N D (sIt z) hh) := by
  have hSI := v.2.2.2.2.2.2.1
  have hlt := v.2.2.1.1
  have := hSI.2.2.1 hh hlt (Or.inr hlt)
  exact this.1 v.2.2.1.2.1
theorem here_geo {N m hh : Nat} {D E : Nat → Int32} {fks : List Nat} {z : SS} {G : CG} {S : CS} {T : MS} (hN : N ≤ 1024) (v : tv N m D E fks z hh G S T) : 1 ≤ (chI N D (sIt z) hh).length ∧ (chI N D (sIt z) hh).Nodup ∧ (∀ x ∈ chI N D (sIt z) hh, isCl N D x) ∧ (chI N D (sIt z) hh).length < N / 2 + 2 ∧ begI D (sIt z) hh < 2 ^ 28 ∧ lnk N D (begI D (sIt z) hh) (chI N D (sIt z) hh) ∧ (chI N D (sIt z) hh).length * 16 * hc D ≤ 16384 ∧ (chI N D (sIt z) hh).length ≤ 514 := by
  obtain ⟨-, a2, a3, a4, -⟩ := fo_spec (here_ch hN v) hN
  obtain ⟨l1, l2, l3, l4⟩ := item_ch hN v v.2.2.1.1
  exact ⟨a2, a3, a4, l2, l3, l4, (cl_room v.2.2.2.1 hN a3 a4).1, l1⟩
