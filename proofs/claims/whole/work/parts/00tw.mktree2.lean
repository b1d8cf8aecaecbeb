/-! make: the tree of the changed disk. -/
theorem mk_tree {N m hh dr o b W e L L' hcl : Nat} {D E : Nat → Int32} {fks : List Nat} {z : SS} {G : CG} {S : CS} {T : MS} {xs us : List Nat} {nm : Nat → Nat} (etr : trE N D = .ok (fks, z)) (v : tv N m D E fks z hh G S T) (hp : mkP N D (chI N D (sIt z) hh) xs dr o b W e L L') (ho : o < 65536) (hh0 : hcl < 65536) (ho0 : dr = 0 → o = 0) (hcl0 : hcl = if hh = 0 then 0 else begI D (sIt z) hh) (hb2 : hh = 0 ∨ 2 ≤ b) (hus : nmP us) (hu : ∀ u ∈ us, u < 65536) (hsh : ∃ x y, shX nm x y) (hW1 : W = 1 → brP us ∧ ∀ q, q < 11 → nm q = brG us (fpt us) us.length q) (hWn : W ≠ 1 → us.length ≤ 13 * (W - 1) ∧ 13 * (W - 1) < us.length + 13) (hal : ¬ ∃ j, fkI fks hh ≤ j ∧ j < fkI fks hh + hn fks z hh ∧ alk (inm (itr (sIt z) j)) us) (hst : ¬ shT D (sIt z) (fkI fks hh) (hn fks z hh) nm) : ∃ p f1 z1', trE N (mkD D D (chI N D (sIt z) hh) xs b W e L nm us dr o hcl) = .ok (f1, z1') ∧ simY p ((hh, plS D (chI N D (sIt z) hh ++ xs) (b + (W - 1))), (b + W - 1, W - 1), us) (xs ++ mkO dr o) z z1' ∧ fkI f1 hh = fkI fks hh ∧ fkI fks hh ≤ p ∧ hh < p ∧ p ≤ fks.getD (hh + 1) (sIt z).length ∧ (∀ j, fkI fks hh ≤ j → j < p → isl (itr (sIt z) j) < b) ∧ (∀ j, p ≤ j → j < fks.getD (hh + 1) (sIt z).length → b ≤ isl (itr (sIt z) j)) := by
  have hN1 := hp.1.2.1
  have hN := hp.1.2.2
  have hd := v.2.2.2.1
  have hTb := v.2.2.2.2.1
  have hz := v.2.2.2.2.2.1
  have hSI := v.2.2.2.2.2.2.1
  have hkd := v.2.2.2.2.2.2.2.1
  have hus2 := v.2.2.2.2.2.2.2.2
  have hhl := v.2.2.1.1
  have hhd := v.2.2.1.2.1
  have hfl : hh < fks.length := by rw [v.1.1.2.2.2.2.2.1]; exact hhl
  have hf := hd_facts hd hN
  have hC := hf.1
  obtain ⟨-, -, es, -⟩ := trE_scL etr
  have hx0 := scL_ext _ _ _ _ _ _ es
  have hi0 : ipa (itr (sIt z) 0) = 0 := by
    rw [ext_itr hx0 (show 0 < 1 by decide)]
    rfl
  obtain ⟨c1, c2, c3, c4⟩ := mk_cl hp
  obtain ⟨w1, w2, w3, w4⟩ := mk_own hp
  have h0 : ∀ q, q < 512 * hv D → o1 (mkD D D (chI N D (sIt z) hh) xs b W e L nm us dr o hcl) q = o1 D q := fun q g => mk_h0 hp ho hh0 g
  have ht := mk_ht (us := us) (nm := nm) hp ho hh0
  have hen := fun y g => mk_ent (y := y) (us := us) (nm := nm) hp ho hh0 g
  obtain ⟨hd1, hnum, hd3⟩ := hd_new hd hN h0
  have hd2 := tab_new hd hN hTb w2 w4 h0 ht hd3
  have hfaq := fun q g1 g2 g3 => mk_faq (q := q) (us := us) (nm := nm) hp ho hh0 g1 g2 g3
  have hk0 := (kept_own hN v (fun p g => h0 p (by omega)) (fun p g1 g2 g3 => hfaq p g1 (fun y => g3 (Or.inr (Or.inl y))) (fun y => g3 (Or.inl (w1 _ y).2))) (fun x x1 x2 => by
    rw [hen x (by have := x1.2; omega)]
    exact (mk_lkV hp).1 (fun y => x2 (Or.inr (Or.inl y))) (fun y => x2 (Or.inl (w1 _ y).2)) _)).2
  have haM := mk_aM (X := D) (us := us) (nm := nm) hp ho hh0
  have hbW := hp.2.2.2.1.2.2.2.2
  have hW := hp.2.2.2.1.2.2.1
  have hW2 := hp.2.2.2.1.2.2.2.1
  have hla : laid (fun i => plS D (chI N D (sIt z) hh ++ xs) (b + i)) W (smN nm 11) nm (if dr = 0 then 32 else 48) o us (mkD D D (chI N D (sIt z) hh) xs b W e L nm us dr o hcl) := all_laid hW haM (mk_hem hp) (fun g i q g1 g2 => by
    have y1 : plS D (chI N D (sIt z) hh ++ xs) (b + i) ≤ q := g2.1
    have y2 : q < plS D (chI N D (sIt z) hh ++ xs) (b + i) + 32 := g2.2
    have := (mk_slot (s := b + i) (k := q - plS D (chI N D (sIt z) hh ++ xs) (b + i)) hp (by omega) (by omega)).2.1 (by omega)
    omega)
  obtain ⟨sx, sy, hsx⟩ := hsh
  obtain ⟨hnm, hn0⟩ := shX_nm hsx
  obtain ⟨r1, r2, -, -, -, -, -, -, r3, -⟩ := entry_read (p := plS D (chI N D (sIt z) hh ++ xs) (b + (W - 1))) (by split <;> decide) (by omega) hnm (fun q g1 g2 => hla.2 q ⟨g1, g2⟩)
  have hkid : ∀ j, 1 ≤ j → j < (sIt z).length → ipa (itr (sIt z) j) = hh → fkI fks hh ≤ j ∧ j < fkI fks hh + hn fks z hh ∧ slq (mkD D D (chI N D (sIt z) hh) xs b W e L nm us dr o hcl) (isp (itr (sIt z) j)) D (isp (itr (sIt z) j)) := fun j j1 j2 j3 => by
    obtain ⟨k1, k2⟩ := ((hkd hh hfl).2.2.2.2 j j1 j2).mp j3
    obtain ⟨-, -, -, s4, s5⟩ := hSI.2.1 j j1 j2
    rw [j3] at s5
    refine ⟨k1, by show j < fkI fks hh + (fks.getD (hh + 1) (sIt z).length - fks.getD hh 0); have : fkI fks hh = fks.getD hh 0 := rfl; omega, ?_⟩
    obtain ⟨i1, i2, -, -, -, i6⟩ := s5
    rw [i1]
    have hse : isl (itr (sIt z) j) < e := Nat.lt_of_not_le fun g => i6 e g (hp.2.2.2.2.1.2.1 (by rw [hp.2.2.2.1.1]; omega))
    refine mk_lo hp ho hh0 (by rw [hp.2.2.2.1.1]; exact i2) ?_
    by_cases g : isl (itr (sIt z) j) < b
    · exact Or.inl g
    · refine Or.inr ?_
      by_cases g2 : b + W ≤ isl (itr (sIt z) j)
      · exact ⟨by omega, g2⟩
      · exfalso
        have := hp.2.2.2.2.2.2 (isl (itr (sIt z) j)) (by omega) (by omega) hse
        rw [← i1] at this
        exact s4.2.2.2.2.2.2.2 this
  have hnmE : (if W = 1 then svO (mkD D D (chI N D (sIt z) hh) xs b W e L nm us dr o hcl) (plS D (chI N D (sIt z) hh ++ xs) (b + (W - 1))) 11 else us) = us := by
    by_cases g : W = 1
    · rw [if_pos g]
      exact br_sv (hW1 g).1 hu (fun q hq => by rw [r1 q hq]; exact (hW1 g).2 q hq)
    · rw [if_neg g]
  have hms : smN nm 11 < 256 := smN_lt nm 11
  have key := make_tree (N := N) (hh := hh) (b := b) (W := W) (e := e) (L := L) (L' := L') (m := smN nm 11) (a := if dr = 0 then 32 else 48) (o := o) (P := fun i => plS D (chI N D (sIt z) hh ++ xs) (b + i)) (nm := nm) (us := us) (ch := chI N D (sIt z) hh) (xs := xs) (Xs2 := xs ++ mkO dr o) (D := D) (D' := mkD D D (chI N D (sIt z) hh) xs b W e L nm us dr o hcl) (fks := fks) (z := z) hd hN hd1 hd2 hnum etr hz.1.2.1 hhl hhd hk0 hSI hi0 rfl (fun tk g1 g2 => here_long (l0 := mkY dr o) (fun y hy0 => by have := hy0.2; omega) hnum.2.2.2 g1 hp.2.1.2.2 c3 (fun y y1 y2 => ?_) (by have := nd_cl hp.2.1.2.2 c3; omega) (fun a a1 a2 => ?_) (fun y y1 => ?_)) (fun x x1 => ?_) (fun x x1 => (w1 x x1).2) (fun x x1 => List.mem_append_left _ x1) (fun x x1 x2 x3 => ?_) (fun x x1 x2 x3 => ?_) hp.2.2.2.1.1 hp.2.2.2.1.2.1 hp.2.2.2.2.1 hp.2.2.2.2.2.1 hp.2.2.2.2.2.2 (fun s g => ?_) (fun g1 s g2 g3 => mk_lo hp ho hh0 g3 (Or.inr ⟨g1, g2⟩)) (fun g1 g2 => mk_z0 hp ho hh0 g1 g2) (fun s g1 g2 g3 => mk_end hp ho hh0 g1 g2 g3) (fun s g => plS_app hC (by rw [← hp.2.2.2.1.1]; exact g)) (mk_LL hp) hbW hla (fun i _ => rfl) hms hu hW hW2 hb2 ?_ ho hnm hn0 (sh_of hsx r1) rfl (fun g => ⟨hus, hWn g⟩) (fun j j1 j2 j3 => ?_) (fun p z2 z2' g1 g2 g3 g4 g5 => ?_)
  · have key2 : ∃ p f1 z1', trE N (mkD D D (chI N D (sIt z) hh) xs b W e L nm us dr o hcl) = .ok (f1, z1') ∧ simY p ((hh, plS D (chI N D (sIt z) hh ++ xs) (b + (W - 1))), (b + W - 1, W - 1), if W = 1 then svO (mkD D D (chI N D (sIt z) hh) xs b W e L nm us dr o hcl) (plS D (chI N D (sIt z) hh ++ xs) (b + (W - 1))) 11 else us) (xs ++ mkO dr o) z z1' ∧ fkI f1 hh = fkI fks hh ∧ fkI fks hh ≤ p ∧ hh < p ∧ p ≤ fks.getD (hh + 1) (sIt z).length ∧ (∀ j, fkI fks hh ≤ j → j < p → isl (itr (sIt z) j) < b) ∧ (∀ j, p ≤ j → j < fks.getD (hh + 1) (sIt z).length → b ≤ isl (itr (sIt z) j)) := key
    rw [hnmE] at key2
    exact key2
  · -- taken clusters are none of the tree's
    exact ((hus2 y (c2 y y1)).mpr (g2 y y2)) (hp.2.2.1.2.1 y y1).2
  · obtain ⟨q1, q2⟩ := mkY_mem a1
    rw [q2] at a2
    exact (c4 q1).2.2.2.1 a2
  · rw [hen y (by have := (c3 y y1).2; omega), lkV_app (w := 0)]
  · obtain ⟨j, j1, -, j3⟩ := (hSI.2.2.2.2.1 x).mp x1
    exact chI_cl hSI j1 x j3
  · have n2 : x ∉ xs ++ mkO dr o := fun y => x2 (w1 x y).2
    refine ⟨by rw [hen x (by have := x1.2; omega)]; exact (mk_lkV hp).1 x3 n2 _, fun r hr => ?_⟩
    have e1 := plC_cl hC x1.1 hr
    exact hfaq _ (plC_lt hd hN x1 hr).1 (by rw [e1]; exact x3) (by rw [e1]; exact n2)
  · rw [hen x x2] at x3
    rcases (mk_lkV hp).2 x3 with y | y
    · exact Or.inl ((hus2 x ⟨x1, by omega⟩).mp y)
    · exact Or.inr y
  · refine mk_lo hp ho hh0 ?_ (Or.inl g)
    have := hp.2.2.2.2.1.1
    have := hp.2.2.2.2.2.1
    omega
  · by_cases g : dr = 0
    · rw [if_pos g]; exact Or.inl ⟨rfl, ho0 g⟩
    · rw [if_neg g]; exact Or.inr rfl
  · obtain ⟨k1, k2, k3⟩ := hkid j j1 j2 j3
    have := no_twin hal hst r1 k1 k2 k3
    have e2 : (if W = 1 then svO (mkD D D (chI N D (sIt z) hh) xs b W e L nm us dr o hcl) ((fun i => plS D (chI N D (sIt z) hh ++ xs) (b + i)) (W - 1)) 11 else us) = us := hnmE
    rw [e2]
    exact this
  · rcases hp.2.1.1 with g | g
    · have e2 : mkO dr o = [] := by unfold mkO; rw [if_pos g]
      rw [e2, List.append_nil]
      refine new_file g1 ?_
      have r2' := r2
      rw [if_pos g] at r2'
      exact r2'
    · have g0 : dr ≠ 0 := by omega
      have e2 : mkO dr o = [o] := by unfold mkO; rw [if_neg g0]
      have r2' := r2
      rw [if_neg g0] at r2'
      rw [e2]
      have haM2 := haM
      rw [g] at haM2
      refine new_dir (o := o) (c1 := hcl) hd hN1 hN hnum g1 g2 g4 rfl r2' r3 (c4 g0).1 ?_ ?_ (c4 g0).2.2.1 ?_ ?_ (by rw [hcl0, g5])
      · rw [hen o (by have := (c4 g0).1.2; omega)]
        exact mk_lo_o hp g0
      · exact fun y => ((hus2 o (c4 g0).1).mpr (g3 o y)) (c4 g0).2.1
      · have := all_dots haM2 ho hh0
        rw [← g] at this
        exact this
      · rw [mk_awy hp ho hh0 (fun i hi y => ?_) (fun _ q y => ?_) (fun _ => Or.inr (Nat.le_refl _))]
        · refine (mk_X1 hd hN (fun y => (c4 y).1) c2 c1 hp.2.1.2.1 (Or.inr ?_)).2 ⟨o, List.mem_append_right _ (mkO_in g0), by omega, by omega⟩
          have := (plC_lt (j := 0) hd hN (c4 g0).1 (by omega)).1
          omega
        · have y1 : plS D (chI N D (sIt z) hh ++ xs) (b + i) ≤ plC D o + 64 := y.1
          have y2 : plC D o + 64 < plS D (chI N D (sIt z) hh ++ xs) (b + i) + 32 := y.2
          have := (mk_slot (s := b + i) (k := plC D o + 64 - plS D (chI N D (sIt z) hh ++ xs) (b + i)) hp (by omega) (by omega)).2.1 g0
          omega
        · have := mk_LL hp
          have := (mk_slot (s := b + W) (k := 0) hp (by omega) (by decide)).2.1 g0
          omega
