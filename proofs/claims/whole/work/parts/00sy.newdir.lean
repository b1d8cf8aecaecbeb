/-! make: the new item read: a file has nothing, a directory its two first entries. -/
theorem new_file {N p : Nat} {nw : It} {xs : List Nat} {D' : Nat → Int32} {z2 z2' : SS} (hz : simY p nw xs z2 z2') (h11 : o1 D' (isp nw + 11) = 32) : ∃ z'', cif (isDr D' (sIt z2') p) (dirS N D' p z2') (.ok z2') = .ok z'' ∧ simY p nw xs z2 z'' := by
  refine ⟨z2', cif_f ?_, hz⟩
  unfold isDr
  rw [hz.2.2.2.2.1, h11]
  have := hz.2.2.1
  intro w
  rcases w with w | w
  · omega
  · exact absurd w (by decide)
theorem plS_one {D : Nat → Int32} {o s : Nat} (hs : s < 16 * hc D) : plS D [o] s = plC D o + 32 * s := by
  unfold plS plC
  rw [Nat.div_eq_of_lt hs, Nat.mod_eq_of_lt hs]
  rfl
theorem new_dir {N hh p o c1 : Nat} {nw : It} {xs : List Nat} {D D' : Nat → Int32} {z2 z2' : SS} (h : hdOk N D) (hN1 : 256 ≤ N) (hN : N ≤ 1024) (hn : numE N D D') (hz : simY p nw xs z2 z2') (hI : agI D D' (sIt z2)) (hhp : hh < p) (hpa : ipa nw = hh) (h11 : o1 D' (isp nw + 11) = 48) (hfc : fc D' (isp nw) = o) (hoc : isCl N D o) (hoe : ent D' o = 268435455) (hot : o ∉ sTk z2) (hox : o ∉ xs) (hdots : ∀ s, s < 2 → (∀ q, q < 11 → o1 D' (plC D o + 32 * s + q) = dnm s q) ∧ o1 D' (plC D o + 32 * s + 11) = 16 ∧ fc D' (plC D o + 32 * s) = (if s = 0 then o else c1)) (h64 : o1 D' (plC D o + 64) = 0) (hc1 : c1 = if hh = 0 then 0 else begI D (sIt z2) hh) : ∃ z'', cif (isDr D' (sIt z2') p) (dirS N D' p z2') (.ok z2') = .ok z'' ∧ simY p nw (xs ++ [o]) z2 z'' := by
  obtain ⟨a1, a2, a3, a4, a5, a6, a8⟩ := hz
  have hff := hd_facts h hN
  have hdr : isDr D' (sIt z2') p := by
    unfold isDr
    rw [a5, h11]
    exact Or.inr (by decide)
  have hbg : begI D' (sIt z2') p = o := by
    unfold begI
    rw [if_neg (by omega), a5, hfc]
  have hfo : fo N D' o (sTk z2') = some [o] := by
    unfold fo
    obtain ⟨n, en⟩ : ∃ n, N / 2 + 2 = n + 1 := ⟨N / 2 + 1, rfl⟩
    rw [en, fol, hoe, if_pos (show isCl N D' o ∧ o ∉ sTk z2' ∧ (268435455 : Nat) ≠ 0 from ⟨by unfold isCl; rw [hn.2.2.2]; exact hoc, fun w => ((a8 o).mp w).elim hot hox, by decide⟩), if_pos (by decide)]
  have hpc : plC D' o = plC D o := by unfold plC; rw [hn.1, hn.2.1]
  have hpl : ∀ s, s < 3 → plS D' [o] s = plC D o + 32 * s := fun s hs => by rw [plS_one (by rw [hn.1]; omega), hpc]
  have hdt : ∀ s, s < 2 → dtP D' (sIt z2') (plC D o + 32 * s) p s := fun s hs => by
    obtain ⟨d1, d2, d3⟩ := hdots s hs
    refine ⟨fun q hq => ?_, d2, ?_⟩
    · rw [d1 q hq]
      rfl
    · rw [d3, hbg, a5, hpa]
      by_cases w : s = 0
      · rw [if_pos w, if_pos w]
      · rw [if_neg w, if_neg w, hc1]
        by_cases u : hh = 0
        · rw [if_pos u, if_pos u]
        · rw [if_neg u, if_neg u]
          have := sim_beg (N := N) (z := noPe z2) (z' := noPe z2') (nw := nw) (Xs := xs) hn hI (simZ_of ⟨a1, a2, a3, a4, a5, a6, a8⟩) (show hh < (sIt z2).length by omega)
          rw [shf_lo hhp] at this
          exact this.symm
  have hstep : ∀ s d y, s < 2 → sIt y = sIt z2' → dirL N D' p (sIt z2').length [o] (d + 1) s y = dirL N D' p (sIt z2').length [o] d (s + 1) y := fun s d y hs hy => by
    obtain ⟨d1, -, -⟩ := hdots s hs
    have h46 : o1 D' (plC D o + 32 * s) = 46 := by
      have := d1 0 (by omega)
      rw [Nat.add_zero] at this
      rw [this]
      unfold dnm
      rw [if_pos (Nat.zero_le _)]
    rw [dirL, hpl s (by omega), cif_f (by rw [h46]; decide)]
    have : slS N D' p (sIt z2').length s (plC D o + 32 * s) y = .ok y := by
      unfold slS
      rw [cif_t ⟨a3, hs⟩, hy, cif_t (hdt s hs)]
    rw [this, exb_o]
  have hdirL : dirL N D' p (sIt z2').length [o] ([o].length * 16 * hc D') 0 ((sIt z2', sLb z2'), [o] ++ sTk z2', pe0) = .ok (2, ((sIt z2', sLb z2'), [o] ++ sTk z2', pe0)) := by
    obtain ⟨n, en⟩ : ∃ n, [o].length * 16 * hc D' = n + 1 + 1 + 1 := ⟨16 * hc D - 3, by rw [hn.1]; show 1 * 16 * hc D = _; omega⟩
    rw [en, hstep 0 _ ((sIt z2', sLb z2'), [o] ++ sTk z2', pe0) (by omega) rfl, hstep 1 _ ((sIt z2', sLb z2'), [o] ++ sTk z2', pe0) (by omega) rfl, dirL, hpl 2 (by omega), cif_t h64]
  refine ⟨((sIt z2', sLb z2'), [o] ++ sTk z2', pe0), ?_, a1, a2, a3, a4, a5, a6, fun y => ?_⟩
  · rw [cif_t hdr]
    unfold dirS
    rw [hbg, hfo]
    show dirC N D' p [o] z2' = _
    exact dirC_of hdirL rfl (Or.inr (Nat.le_refl _))
  · show y ∈ [o] ++ sTk z2' ↔ y ∈ sTk z2 ∨ y ∈ xs ++ [o]
    rw [List.mem_append, List.mem_append, a8 y]
    constructor
    · rintro (w | w | w)
      · exact Or.inr (Or.inr w)
      · exact Or.inl w
      · exact Or.inr (Or.inl w)
    · rintro (w | w | w)
      · exact Or.inr (Or.inl w)
      · exact Or.inr (Or.inr w)
      · exact Or.inl w
/-! the chain of HERE made longer -/
theorem fol_of {N : Nat} {D : Nat → Int32} (hlt : ∀ y, isCl N D y → y < 268435448) : ∀ (c : List Nat) (f x : Nat) (tk : List Nat), c.getD 0 0 = x → 1 ≤ c.length → c.Nodup → c.length ≤ f → (∀ y ∈ c, isCl N D y ∧ y ∉ tk) → (∀ q, q + 1 < c.length → ent D (c.getD q 0) = c.getD (q + 1) 0) → 268435448 ≤ ent D (c.getD (c.length - 1) 0) → fol N D f x tk = some c := by
  intro c
  induction c with
  | nil => intro f x tk _ h; exact absurd h (by decide)
  | cons u l ih =>
    intro f x tk hx _ hnd hf hcl hlk hls
    have hx : u = x := hx
    subst hx
    rw [List.length_cons] at hf
    obtain ⟨f, rfl⟩ : ∃ n, f = n + 1 := ⟨f - 1, by omega⟩
    obtain ⟨hu1, hu2⟩ := hcl u List.mem_cons_self
    cases l with
    | nil =>
      have hls : 268435448 ≤ ent D u := hls
      rw [fol, if_pos ⟨hu1, hu2, by omega⟩, if_pos hls]
    | cons w l =>
      have e : ent D u = w := hlk 0 (by rw [List.length_cons, List.length_cons]; omega)
      obtain ⟨hw1, hw2⟩ := hcl w (List.mem_cons_of_mem _ List.mem_cons_self)
      have hw := hlt w hw1
      have hnd' := List.nodup_cons.mp hnd
      rw [fol, e, if_pos ⟨hu1, hu2, by have := hw1.1; omega⟩, if_neg (by omega), ih f w (u :: tk) rfl (by rw [List.length_cons]; omega) hnd'.2 (by omega) (fun y hy => ⟨(hcl y (List.mem_cons_of_mem _ hy)).1, fun t => by
        rcases List.mem_cons.mp t with t | t
        · rw [t] at hy; exact hnd'.1 hy
        · exact (hcl y (List.mem_cons_of_mem _ hy)).2 t⟩) (fun q hq => hlk (q + 1) (by rw [List.length_cons]; omega)) (by
        have : 268435448 ≤ ent D ((u :: w :: l).getD ((w :: l).length + 1 - 1) 0) := hls
        rw [Nat.add_sub_cancel, show (w :: l).length = l.length + 1 from rfl] at this
        exact this)]
      rfl
