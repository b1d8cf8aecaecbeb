/-! HERE stays what it is when a change leaves what lies before it. -/
theorem trE_scL {N : Nat} {D : Nat → Int32} {fks : List Nat} {z : SS} (h : trE N D = .ok (fks, z)) : hdOk N D ∧ tabOk N D ∧ scL N D 5000 0 [] z0 = .ok (fks, z) ∧ ¬ stray N D (sTk z) := by
  unfold trE at h
  by_cases g1 : hdOk N D
  rotate_left
  · rw [cif_f g1] at h; cases h
  rw [cif_t g1] at h
  by_cases g2 : tabOk N D
  rotate_left
  · rw [cif_f g2] at h; cases h
  rw [cif_t g2] at h
  unfold trS at h
  obtain ⟨x, e1, e2⟩ := exb_ok h
  by_cases w : stray N D (sTk x.2)
  · rw [cif_t w] at e2; cases e2
  rw [cif_f w] at e2
  cases e2
  exact ⟨g1, g2, e1, w⟩
theorem SI_0 (N : Nat) (D : Nat → Int32) : SI N D 0 (sIt z0) (sTk z0) := by
  refine ⟨Nat.zero_le _, fun j g1 g2 => ?_, fun j g1 g2 => ?_, fun j j' g1 g2 g3 g4 g5 => ?_, fun x => ⟨fun w => by (cases w), fun ⟨j, b1, b2, b3⟩ => ?_⟩, fun j j' g1 g2 g3 => ?_⟩
  · have g2 : j < 1 := g2
    omega
  · have g1 : j < 1 := g1
    obtain rfl : j = 0 := by omega
    rcases g2 with w | w
    · exact absurd (Or.inl rfl) w
    · omega
  · have g1 : j < 1 := g1
    have g2 : j' < 1 := g2
    omega
  · have b1 : j < 1 := b1
    obtain rfl : j = 0 := by omega
    rcases b2 with w | w
    · exact absurd (Or.inl rfl) w
    · omega
  · have g3 : j' < 1 := g3
    omega
theorem here_kept {N h : Nat} {D D' : Nat → Int32} {fks fks' : List Nat} {z z' : SS} (hn : numE N D D') (e : trE N D = .ok (fks, z)) (e' : trE N D' = .ok (fks', z')) (hl : (sIt z).length ≤ 4200) (hh : h < (sIt z).length) (hd : isDr D (sIt z) h) (hk0 : kept N D D' (sIt z) h) : h < (sIt z').length ∧ isDr D' (sIt z') h ∧ begI D' (sIt z') h = begI D (sIt z) h ∧ ∀ j, j ≤ h → itr (sIt z') j = itr (sIt z) j := by
  obtain ⟨-, -, e1, -⟩ := trE_scL e
  obtain ⟨-, -, e2, -⟩ := trE_scL e'
  have hI0 : agI D D' (sIt z0) := fun j g1 g2 => by
    have g2 : j < 1 := g2
    omega
  obtain ⟨dh, fh, zh, b1, b2, b3, b4, b5⟩ := scL_pre (D' := D') hn hk0 hh 5000 [] z0 (SI_0 N D) (by decide) hI0 rfl e1 (Nat.zero_le _) (by show h < 0 + 5000; omega)
  rw [show (scL N D' 5000 0 [] z0) = scL N D' dh h fh zh from b2] at e2
  have hx := scL_ext _ _ _ _ _ _ e2
  have hit : ∀ j, j ≤ h → itr (sIt z') j = itr (sIt z) j := fun j hj => by rw [ext_itr hx (by omega), ext_itr b3 (by omega)]
  have hi2 := hit h (Nat.le_refl _)
  have hsl : 1 ≤ h → slq D' (isp (itr (sIt z) h)) D (isp (itr (sIt z) h)) := fun g => by
    have := b4 h g b5
    rw [← ext_itr b3 b5] at this
    exact this
  refine ⟨Nat.lt_of_lt_of_le b5 (ext_len hx), ?_, ?_, hit⟩
  · by_cases g : h = 0
    · exact Or.inl g
    · refine Or.inr ?_
      rw [hi2, hsl (by omega) 11 (by decide)]
      exact hd.resolve_left g
  · unfold begI
    rw [hi2]
    by_cases g : h = 0
    · rw [if_pos g, if_pos g, hn.2.2.1]
    · rw [if_neg g, if_neg g, slq_fc (hsl (by omega))]
/-- what of the class, and of the reference, a change of the disk leaves -/
abbrev coE (S : CS) := ((S.w_Vt_failAsks, S.w_Vt_failWrites, S.v_Vt_fails), (S.v_Vt_here, S.v_Vt_hasRun, S.v_Dk_sectors, S.v_Pl_blocks), (S.w_Tp_bytes, S.w_Tp_ready, S.v_Tp_used))
abbrev coN (T : MS) := ((T.v_n, T.v_tape, T.v_ready, T.v_taped, T.v_told), (T.v_fed, T.v_turned, T.v_ran, T.v_here, T.v_parent 0))
theorem ivA_chg {N t m m' hh : Nat} {D E D' E' : Nat → Int32} {fks : List Nat} {z : SS} {G : CG} {S S' : CS} {T T' : MS} (h : ivA N t m D E G S T) (e : trE N D = .ok (fks, z)) (v : tv N m D E fks z hh G S T) (hS : coE S' = coE S) (hT : coN T' = coN T) (hD : T'.v_disk = D') (hE : S'.w_Dk_bytes = E') (hl : T'.v_looked = 0) (hs : S'.v_Vt_stale = 1) (hn : numE N D D') (hk0 : kept N D D' (sIt z) hh) (hag : agF N T.v_ran D' E') (h27 : sec27 D') (hcp : capOk N D' m') (hm : m' ≤ 4000) : ivA N t m' D' E' G S' T' := by
  obtain ⟨⟨h0, ⟨i1, i2, i3⟩, -, h5, h6, ⟨h7, h8, h9⟩, -, -, h12⟩, hg, -, -⟩ := h
  have s1 : S'.w_Vt_failAsks = S.w_Vt_failAsks := congrArg (fun x => x.1.1) hS
  have s2 : S'.w_Vt_failWrites = S.w_Vt_failWrites := congrArg (fun x => x.1.2.1) hS
  have s3 : S'.v_Vt_fails = S.v_Vt_fails := congrArg (fun x => x.1.2.2) hS
  have s4 : S'.v_Vt_here = S.v_Vt_here := congrArg (fun x => x.2.1.1) hS
  have s5 : S'.v_Vt_hasRun = S.v_Vt_hasRun := congrArg (fun x => x.2.1.2.1) hS
  have s6 : S'.v_Dk_sectors = S.v_Dk_sectors := congrArg (fun x => x.2.1.2.2.1) hS
  have s7 : S'.v_Pl_blocks = S.v_Pl_blocks := congrArg (fun x => x.2.1.2.2.2) hS
  have s8 : S'.w_Tp_bytes = S.w_Tp_bytes := congrArg (fun x => x.2.2.1) hS
  have s9 : S'.w_Tp_ready = S.w_Tp_ready := congrArg (fun x => x.2.2.2.1) hS
  have s10 : S'.v_Tp_used = S.v_Tp_used := congrArg (fun x => x.2.2.2.2) hS
  have t1 : T'.v_n = T.v_n := congrArg (fun x => x.1.1) hT
  have t2 : T'.v_tape = T.v_tape := congrArg (fun x => x.1.2.1) hT
  have t3 : T'.v_ready = T.v_ready := congrArg (fun x => x.1.2.2.1) hT
  have t4 : T'.v_taped = T.v_taped := congrArg (fun x => x.1.2.2.2.1) hT
  have t5 : T'.v_told = T.v_told := congrArg (fun x => x.1.2.2.2.2) hT
  have t6 : T'.v_fed = T.v_fed := congrArg (fun x => x.2.1) hT
  have t7 : T'.v_turned = T.v_turned := congrArg (fun x => x.2.2.1) hT
  have t8 : T'.v_ran = T.v_ran := congrArg (fun x => x.2.2.2.1) hT
  have t9 : T'.v_here = T.v_here := congrArg (fun x => x.2.2.2.2.1) hT
  have t10 : T'.v_parent 0 = T.v_parent 0 := congrArg (fun x => x.2.2.2.2.2) hT
  refine ⟨⟨h0, ⟨t1.trans i1, s6.trans i2, s7.trans i3⟩, ⟨hD, hE⟩, ?_, ?_, ⟨t7.trans h7, by rw [s5, t8]; exact h8, by rw [t8]; exact h9⟩, ⟨by rw [t8]; exact hag, h27, hcp, hm⟩, ?_, t10.trans h12⟩, hg, Or.inl hl, Or.inl hs⟩
  · unfold iv_tape at *
    rw [s10, s8, s9, t4, t2, t6, t3]
    exact h5
  · unfold flR at *
    rw [s3, t5, s1, s2]
    exact h6
  · intro fks' z' e'
    obtain ⟨d1, d2, d3, d4⟩ := v.2.2.1
    obtain ⟨k1, k2, k3, -⟩ := here_kept hn e e' v.2.2.2.2.2.1.1.2.1 d1 d2 hk0
    refine ⟨hh, k1, k2, s4.trans d3, ?_⟩
    rw [t9, d4, k3]
