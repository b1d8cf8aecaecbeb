/-! make: what has been laid, byte by byte, the same for both sides. -/
/-- F over X1: the slots, the end mark c at P (b + W), the dots of o -/
abbrev allX (P : Nat → Nat) (W m : Nat) (nm : Nat → Nat) (a o : Nat) (us : List Nat) (c : Prop) (em dr p h : Nat) (X F : Nat → Int32) : Prop := ∃ F1 F2 : Nat → Int32, slX P W m nm a o us X F1 ∧ (∀ q, o1 F2 q = (@ite _ (c ∧ q = em) (Classical.propDecidable _) 0 (o1 F1 q))) ∧ ((dr = 0 ∧ F = F2) ∨ (dr = 1 ∧ dotX p o h F2 F))
theorem em_pd {X : Nat → Int32} {c : Prop} [Decidable c] {q r : Nat} : o1 (emF X c q) r = (@ite _ (c ∧ r = q) (Classical.propDecidable _) 0 (o1 X r)) := by
  rw [emF_o1]
  by_cases w : c ∧ r = q
  · rw [if_pos w, if_pos w]
  · rw [if_neg w, if_neg w]
theorem all_M {D X1 : Nat → Int32} {ch : List Nat} {b W e L dr o h : Nat} {nm : Nat → Nat} {us : List Nat} (hW : 1 ≤ W) (hd : disP (fun i => plS D ch (b + i)) W) (hdr : dr = 0 ∨ dr = 1) (ho : o < 65536) (hh : h < 65536) (hz : dr = 1 → ∀ q, plC D o ≤ q → q < plC D o + 64 → o1 X1 q = 0 ∧ (∀ i, i < W → ¬ inS (fun i => plS D ch (b + i)) i q)) : allX (fun i => plS D ch (b + i)) W (smN nm 11) nm (if dr = 0 then 32 else 48) o us (e ≤ b + W ∧ b + W < L) (plS D ch (b + W)) dr (plC D o) h X1 (layM D ch b W e L nm us dr o h X1) := by
  have eW : plS D ch (b + W - 1) = (fun i => plS D ch (b + i)) (W - 1) := by
    show _ = plS D ch (b + (W - 1))
    rw [show b + (W - 1) = b + W - 1 by omega]
  unfold layM
  rw [eW]
  rcases hdr with rfl | rfl
  · rw [if_pos rfl, if_pos rfl]
    exact ⟨_, _, slX_M (nm := nm) (a := 32) (o := o) (us := us) hW hd, fun q => em_pd, Or.inl ⟨rfl, rfl⟩⟩
  · rw [if_neg (show ¬ 1 = 0 by omega), if_neg (show ¬ 1 = 0 by omega)]
    have sx := slX_M (X := X1) (m := smN nm 11) (nm := nm) (a := 48) (o := o) (us := us) hW hd
    refine ⟨_, _, sx, fun q => em_pd, Or.inr ⟨rfl, dot_M ho hh fun q q1 q2 => ?_⟩⟩
    obtain ⟨z1, z2⟩ := hz rfl q q1 q2
    rw [emF_o1]
    split
    · rfl
    · rw [sx.2.2 q z2]; exact z1
theorem all_C {D X1 : Nat → Int32} {ch : List Nat} {b W un L' dr o h : Nat} {nm : Nat → Nat} {us : List Nat} (hW : 1 ≤ W) (hd : disP (fun i => plS D ch (b + i)) W) (hdr : dr = 0 ∨ dr = 1) (hz : dr = 1 → ∀ q, plC D o ≤ q → q < plC D o + 64 → o1 X1 q = 0 ∧ (∀ i, i < W → ¬ inS (fun i => plS D ch (b + i)) i q)) : allX (fun i => plS D ch (b + i)) W (smN nm 11) nm (if dr = 0 then 32 else 48) o us (un < b + W ∧ b + W < L') (plS D ch (b + W)) dr (plC D o) h X1 (layC D ch b W un L' nm us dr o h X1) := by
  have eW : plS D ch (b + W - 1) = (fun i => plS D ch (b + i)) (W - 1) := by
    show _ = plS D ch (b + (W - 1))
    rw [show b + (W - 1) = b + W - 1 by omega]
  unfold layC
  rw [eW]
  rcases hdr with rfl | rfl
  · rw [if_pos rfl, if_pos rfl]
    exact ⟨_, _, slX_C (nm := nm) (a := 32) (o := o) (us := us) hW hd, fun q => em_pd, Or.inl ⟨rfl, rfl⟩⟩
  · rw [if_neg (show ¬ 1 = 0 by omega), if_neg (show ¬ 1 = 0 by omega)]
    have sx := slX_C (X := X1) (m := smN nm 11) (nm := nm) (a := 48) (o := o) (us := us) hW hd
    refine ⟨_, _, sx, fun q => em_pd, Or.inr ⟨rfl, dot_C fun q q1 q2 => ?_⟩⟩
    obtain ⟨z1, z2⟩ := hz rfl q q1 q2
    rw [emF_o1]
    split
    · rfl
    · rw [sx.2.2 q z2]; exact z1
