/-! make: what the tree and the invariant ask of the changed disk. -/
theorem mk_LL {N dr o b W e L L' : Nat} {D : Nat → Int32} {ch xs : List Nat} (h : mkP N D ch xs dr o b W e L L') : L ≤ L' := by rw [h.2.2.2.1.1, h.2.2.2.1.2.1, List.length_append]; exact Nat.mul_le_mul_right _ (Nat.mul_le_mul_right _ (Nat.le_add_right _ _))
theorem mk_1 {N dr o b W e L L' s k : Nat} {D X : Nat → Int32} {ch xs : List Nat} (h : mkP N D ch xs dr o b W e L L') (hs : s < L') (hk0 : k < 32) : (s < L → o1 (grN D (512 * ha D) xs (mkX D dr o X) ch) (plS D (ch ++ xs) s + k) = o1 X (plS D (ch ++ xs) s + k)) ∧ (L ≤ s → o1 (grN D (512 * ha D) xs (mkX D dr o X) ch) (plS D (ch ++ xs) s + k) = 0) := by
  obtain ⟨c1, c2, c3, c4⟩ := mk_cl h
  obtain ⟨a1, a2, a3, a4⟩ := mk_slot (k := k) h hs hk0
  have := mk_X1 (X := X) (q := plS D (ch ++ xs) s + k) (dr := dr) (o := o) h.1.1 h.1.2.2 (fun y => (c4 y).1) c2 c1 h.2.1.2.1 (Or.inr a1.1)
  exact ⟨fun g => this.1 (a3 g), fun g => this.2 (a4 g)⟩
theorem mk_lo {N dr o b W e L L' hcl s : Nat} {D : Nat → Int32} {ch xs us : List Nat} {nm : Nat → Nat} (h : mkP N D ch xs dr o b W e L L') (ho : o < 65536) (hh : hcl < 65536) (hs : s < L) (hs2 : s < b ∨ (b + W ≤ e ∧ b + W ≤ s)) : slq (mkD D D ch xs b W e L nm us dr o hcl) (plS D ch s) D (plS D ch s) := by
  intro k hk0
  have hC := (hd_facts h.1.1 h.1.2.2).1
  have hLL := mk_LL h
  have ep : plS D (ch ++ xs) s = plS D ch s := plS_app hC (by rw [← h.2.2.2.1.1]; exact hs)
  rw [← ep]
  by_cases w : s = b + W ∧ k = 0 ∧ e ≤ b + W ∧ b + W < L
  · obtain ⟨w1, w2, w3, w4⟩ := w
    have hse : s = e := by omega
    have hz0 : o1 D (plS D ch s) = 0 := by
      have := h.2.2.2.2.1.2.1 (by omega)
      rw [hse]
      exact this
    rw [w2, Nat.add_zero, ep, hz0]
    refine all_zero (mk_aM h ho hh) (fun i hi y => ?_) (Or.inl ⟨⟨w3, w4⟩, by rw [← w1, ep]⟩) (fun g => ?_)
    · rw [← ep] at y
      exact mk_apart (k := 0) h (show s < L' by omega) (show b + i < L' by omega) (by omega) (by decide) y
    · have := (mk_slot (k := 0) h (show s < L' by omega) (by decide)).2.1 (by omega)
      rw [ep] at this
      omega
  · rw [mk_rest h ho hh (by omega) (by omega) hk0 w]
    exact (mk_1 h (by omega) hk0).1 hs
theorem mk_z0 {N dr o b W e L L' hcl : Nat} {D : Nat → Int32} {ch xs us : List Nat} {nm : Nat → Nat} (h : mkP N D ch xs dr o b W e L L') (ho : o < 65536) (hh : hcl < 65536) (g1 : e < b + W) (g2 : b + W < L') : o1 (mkD D D ch xs b W e L nm us dr o hcl) (plS D (ch ++ xs) (b + W)) = 0 := by
  have hC := (hd_facts h.1.1 h.1.2.2).1
  refine all_zero (mk_aM h ho hh) (mk_hem h) ?_ (fun g => ?_)
  · by_cases w : b + W < L
    · exact Or.inl ⟨⟨by omega, w⟩, rfl⟩
    · exact Or.inr ((mk_1 (k := 0) h g2 (by decide)).2 (by omega))
  · have := (mk_slot (k := 0) h g2 (by decide)).2.1 (by omega)
    omega
theorem mk_end {N dr o b W e L L' hcl s : Nat} {D : Nat → Int32} {ch xs us : List Nat} {nm : Nat → Nat} (h : mkP N D ch xs dr o b W e L L') (ho : o < 65536) (hh : hcl < 65536) (g1 : L ≤ s) (g2 : s < L') (g3 : b + W ≤ s) : o1 (mkD D D ch xs b W e L nm us dr o hcl) (plS D (ch ++ xs) s) = 0 := by
  have := mk_rest (k := 0) (X := D) (us := us) (nm := nm) h ho hh g2 (Or.inr g3) (by decide) (fun y => by omega)
  rw [Nat.add_zero] at this
  rw [this]
  exact (mk_1 (k := 0) h g2 (by decide)).2 g1
theorem mk_faq {N dr o b W e L L' hcl q : Nat} {D : Nat → Int32} {ch xs us : List Nat} {nm : Nat → Nat} (h : mkP N D ch xs dr o b W e L L') (ho : o < 65536) (hh : hcl < 65536) (q1 : 512 * ha D ≤ q) (q2 : clOf D q ∉ ch) (q3 : clOf D q ∉ xs ++ mkO dr o) : o1 (mkD D D ch xs b W e L nm us dr o hcl) q = o1 D q := by
  obtain ⟨c1, c2, c3, c4⟩ := mk_cl h
  have hC := (hd_facts h.1.1 h.1.2.2).1
  have hbW := h.2.2.2.1.2.2.2.2
  have hLL := mk_LL h
  have hno : clOf D q ∉ ch ++ xs := fun w => (List.mem_append.mp w).elim q2 (fun y => q3 (List.mem_append_left _ y))
  have hcl0 : ∀ x, 2 ≤ x → plC D x ≤ q → q < plC D x + 512 * hc D → clOf D q = x := fun x x1 x2 x3 => by
    have e := plC_cl (j := q - plC D x) hC x1 (by omega)
    rw [show plC D x + (q - plC D x) = q by omega] at e
    exact e
  rw [mk_awy h ho hh (fun i hi w => ?_) (fun _ g w => ?_) (fun g => ?_)]
  · refine (mk_X1 h.1.1 h.1.2.2 (fun y => (c4 y).1) c2 c1 h.2.1.2.1 (Or.inr q1)).1 ?_
    rintro ⟨x, x1, x2, x3⟩
    exact q3 (by rw [hcl0 x ((mk_own h).1 x x1).1.1 x2 x3]; exact x1)
  · have w1 : plS D (ch ++ xs) (b + i) ≤ q := w.1
    have w2 : q < plS D (ch ++ xs) (b + i) + 32 := w.2
    have := (mk_slot (s := b + i) (k := q - plS D (ch ++ xs) (b + i)) h (by omega) (by omega)).1.2.2
    rw [show plS D (ch ++ xs) (b + i) + (q - plS D (ch ++ xs) (b + i)) = q by omega] at this
    exact hno this
  · have := (mk_slot (s := b + W) (k := 0) h (by omega) (by decide)).1.2.2
    rw [Nat.add_zero, ← w] at this
    exact hno this
  · exact Classical.byContradiction fun w => q3 (by rw [hcl0 o (c4 g).1.1 (by omega) (by omega)]; exact List.mem_append_right _ (mkO_in g))
theorem mk_ent {N dr o b W e L L' hcl y : Nat} {D : Nat → Int32} {ch xs us : List Nat} {nm : Nat → Nat} (h : mkP N D ch xs dr o b W e L L') (ho : o < 65536) (hh : hcl < 65536) (hy0 : y < hk N D + 2) : ent (mkD D D ch xs b W e L nm us dr o hcl) y = lkV (mkY dr o ++ grLs xs ch) y (ent D y) := ent_tab h.1.1 h.1.2.2 (mk_own h).2.1 (fun _ g => mk_h0 h ho hh g) (mk_ht h ho hh) hy0
theorem mk_lkV {N dr o b W e L L' y : Nat} {D : Nat → Int32} {ch xs : List Nat} (h : mkP N D ch xs dr o b W e L L') : (y ∉ ch → y ∉ xs ++ mkO dr o → ∀ w, lkV (mkY dr o ++ grLs xs ch) y w = w) ∧ (lkV (mkY dr o ++ grLs xs ch) y (ent D y) ≠ 0 → ent D y ≠ 0 ∨ y ∈ xs ++ mkO dr o) := by
  refine ⟨fun g1 g2 w => ?_, fun g => ?_⟩
  · rcases lkV_or (y := y) (mkY dr o ++ grLs xs ch) w with e | ⟨a, a1, a2, -⟩
    · exact e
    · rcases (mk_ls h a a1).1 with e | e
      · rw [a2] at e; exact absurd e g1
      · rw [a2] at e; exact absurd e g2
  · rcases lkV_or (y := y) (mkY dr o ++ grLs xs ch) (ent D y) with e | ⟨a, a1, a2, -⟩
    · rw [e] at g; exact Or.inl g
    · rcases (mk_ls h a a1).1 with e | e
      · rw [a2] at e; exact Or.inl (h.2.2.1.1 y e).2
      · rw [a2] at e; exact Or.inr e
theorem mk_lo_o {N dr o b W e L L' : Nat} {D : Nat → Int32} {ch xs : List Nat} (h : mkP N D ch xs dr o b W e L L') (g : dr ≠ 0) : lkV (mkY dr o ++ grLs xs ch) o (ent D o) = 268435455 := by
  obtain ⟨c1, c2, c3, c4⟩ := mk_cl h
  rw [lkV_app (w := 0)]
  have e1 : lkV (mkY dr o) o (ent D o) = 268435455 := by
    unfold mkY
    rw [if_neg g, lkV, if_pos rfl, lkV]
  rw [e1]
  rcases lkV_or (y := o) (grLs xs ch) 268435455 with e | ⟨a, a1, a2, -⟩
  · exact e
  · rcases (grLs_mem _ _ a a1).1 with e | e
    · rw [a2] at e; exact absurd e (c4 g).2.2.2.1
    · rw [a2] at e; exact absurd e (c4 g).2.2.1
theorem mk_same {N dr o b W e L L' hcl un q : Nat} {D E : Nat → Int32} {ch xs us : List Nat} {nm : Nat → Nat} (h : mkP N D ch xs dr o b W e L L') (ho : o < 65536) (hh : hcl < 65536) (ht : ∀ q, 512 * hv D ≤ q → q < 512 * ha D → o1 E q = o1 D q) (hs : ∀ s, s < L → slq E (plS D ch s) D (plS D ch s)) (hcc : ¬ ((e ≤ b + W ∧ b + W < L) ↔ (un < b + W ∧ b + W < L')) → (b + W = e ∧ e < L) ∨ (L ≤ b + W ∧ b + W < L')) (hq : o1 E q = o1 D q ∨ inC D (xs ++ mkO dr o) q) : o1 (mkE D E ch xs b W un L' nm us dr o hcl) q = o1 (mkD D D ch xs b W e L nm us dr o hcl) q := by
  obtain ⟨c1, c2, c3, c4⟩ := mk_cl h
  have hLL := mk_LL h
  have hC := (hd_facts h.1.1 h.1.2.2).1
  refine all_same h.2.2.2.1.2.2.1 (mk_aM h ho hh) (mk_aC h) (mk_hem h) (fun g => ?_) (Or.inl (mk_agr h.1.1 h.1.2.2 (fun y => (c4 y).1) c2 c1 ht hq))
  rcases hcc g with ⟨g1, g2⟩ | ⟨g1, g2⟩
  · have a1 := (mk_1 (X := D) (s := b + W) (k := 0) h (by omega) (by decide)).1 (by omega)
    have a2 := (mk_1 (X := E) (s := b + W) (k := 0) h (by omega) (by decide)).1 (by omega)
    rw [Nat.add_zero] at a1 a2
    have ep : plS D (ch ++ xs) (b + W) = plS D ch (b + W) := plS_app hC (by rw [← h.2.2.2.1.1]; omega)
    have z : o1 D (plS D ch (b + W)) = 0 := by rw [g1]; exact h.2.2.2.2.1.2.1 g2
    have z2 := hs (b + W) (by omega) 0 (by decide)
    rw [Nat.add_zero] at z2
    rw [a1, a2, ep, z2, z]
    exact ⟨rfl, rfl⟩
  · have a1 := (mk_1 (X := D) (s := b + W) (k := 0) h g2 (by decide)).2 g1
    have a2 := (mk_1 (X := E) (s := b + W) (k := 0) h g2 (by decide)).2 g1
    exact ⟨a1, a2⟩
def mkW (D : Nat → Int32) (c : List Nat) (b W o : Nat) : List Nat := (plC D o / 32) :: (plC D o / 32 + 1) :: (List.range (W + 1)).map (fun i => plS D c (b + i) / 32)
theorem mkW_len (D : Nat → Int32) (c : List Nat) (b W o : Nat) : (mkW D c b W o).length = W + 3 := by
  unfold mkW
  rw [List.length_cons, List.length_cons, List.length_map, List.length_range]
theorem mk_cap {N dr o b W e L L' hcl w : Nat} {D : Nat → Int32} {ch xs us : List Nat} {nm : Nat → Nat} (h : mkP N D ch xs dr o b W e L L') (ho : o < 65536) (hh : hcl < 65536) (w2 : 512 * ha D ≤ 32 * w) (w3 : w ∉ mkW D (ch ++ xs) b W o) (w4 : cpP (mkD D D ch xs b W e L nm us dr o hcl) (32 * w)) : cpP D (32 * w) := by
  obtain ⟨c1, c2, c3, c4⟩ := mk_cl h
  have hC := (hd_facts h.1.1 h.1.2.2).1
  have n1 : w ≠ plC D o / 32 := fun y => w3 (by rw [y]; exact List.mem_cons_self)
  have n2 : w ≠ plC D o / 32 + 1 := fun y => w3 (by rw [y]; exact List.mem_cons_of_mem _ List.mem_cons_self)
  have n3 : ∀ i, i ≤ W → w ≠ plS D (ch ++ xs) (b + i) / 32 := fun i hi y => w3 (by
    rw [y]
    exact List.mem_cons_of_mem _ (List.mem_cons_of_mem _ (List.mem_map.mpr ⟨i, List.mem_range.mpr (by omega), rfl⟩)))
  have n4 : ∀ s, plS D (ch ++ xs) s % 32 = 0 := fun s => by unfold plS; omega
  have hq : ∀ k, k < 32 → o1 (mkD D D ch xs b W e L nm us dr o hcl) (32 * w + k) = o1 (grN D (512 * ha D) xs (mkX D dr o D) ch) (32 * w + k) := fun k hk0 => by
    refine mk_awy h ho hh (fun i hi y => ?_) (fun _ g y => ?_) (fun g => ?_)
    · have y1 : plS D (ch ++ xs) (b + i) ≤ 32 * w + k := y.1
      have y2 : 32 * w + k < plS D (ch ++ xs) (b + i) + 32 := y.2
      have := n4 (b + i)
      exact n3 i (by omega) (by omega)
    · have := n4 (b + W)
      exact n3 W (Nat.le_refl _) (by omega)
    · unfold plC at n1 n2 ⊢
      omega
  have hg := fun k (hk0 : k < 32) => mk_X1 (X := D) (q := 32 * w + k) (dr := dr) (o := o) h.1.1 h.1.2.2 (fun y => (c4 y).1) c2 c1 h.2.1.2.1 (Or.inr (by omega))
  have hst : ∀ x k, k < 32 → ((plC D x ≤ 32 * w + k ∧ 32 * w + k < plC D x + 512 * hc D) ↔ (plC D x ≤ 32 * w ∧ 32 * w < plC D x + 512 * hc D)) := fun x k hk0 => by
    unfold plC
    generalize ha D + (x - 2) * hc D = y
    omega
  by_cases gi : inC D (xs ++ mkO dr o) (32 * w)
  · exfalso
    have hz : ∀ k, k < 32 → o1 (mkD D D ch xs b W e L nm us dr o hcl) (32 * w + k) = 0 := fun k hk0 => by
      rw [hq k hk0]
      obtain ⟨x, x1, x2⟩ := gi
      exact (hg k hk0).2 ⟨x, x1, (hst x k hk0).mpr x2⟩
    refine nocap_of (p := 32 * w) (Or.inl ?_) w4
    have e0 := hz 0 (by decide)
    have e1 := hz 1 (by decide)
    have e2 := hz 2 (by decide)
    have e3 := hz 3 (by decide)
    rw [Nat.add_zero] at e0
    unfold o4 o2
    rw [e0, e1, e2, show 32 * w + 2 + 1 = 32 * w + 3 from rfl, e3]
    decide
  · refine (cpP_slq fun k hk0 => ?_).mp w4
    rw [hq k hk0]
    exact (hg k hk0).1 fun ⟨x, x1, x2⟩ => gi ⟨x, x1, (hst x k hk0).mp x2⟩
theorem mk_inv {N t m hh dr o b W e L L' hcl un : Nat} {D E : Nat → Int32} {fks : List Nat} {z : SS} {G : CG} {S S' : CS} {T T' : MS} {xs us : List Nat} {nm : Nat → Nat} (h : ivA N t m D E G S T) (etr : trE N D = .ok (fks, z)) (v : tv N m D E fks z hh G S T) (hp : mkP N D (chI N D (sIt z) hh) xs dr o b W e L L') (ho : o < 65536) (hh0 : hcl < 65536) (hcc : ¬ ((e ≤ b + W ∧ b + W < L) ↔ (un < b + W ∧ b + W < L')) → (b + W = e ∧ e < L) ∨ (L ≤ b + W ∧ b + W < L')) (hS : coE S' = coE S) (hT : coN T' = coN T) (hD : T'.v_disk = mkD D D (chI N D (sIt z) hh) xs b W e L nm us dr o hcl) (hE : S'.w_Dk_bytes = mkE D E (chI N D (sIt z) hh) xs b W un L' nm us dr o hcl) (hl0 : T'.v_looked = 0) (hs : S'.v_Vt_stale = 1) (hm : m + (W + 3) ≤ 4000) : ivA N t (m + (W + 3)) T'.v_disk S'.w_Dk_bytes G S' T' := by
  have hag := h.1.2.2.2.2.2.2.1.1
  have hH := ((agF_A h.1.1.1 h.1.1.2.1 hag).2 v.2.2.2.1).1
  have hsame : ∀ s, s < L → slq E (plS D (chI N D (sIt z) hh) s) D (plS D (chI N D (sIt z) hh) s) := fun s g => here_same h v (by rw [← hp.2.2.2.1.1]; exact g)
  obtain ⟨w1, w2, w3, -⟩ := mk_own hp
  have sm := fun q g => mk_same (q := q) (us := us) (nm := nm) (un := un) hp ho hh0 hH.2 hsame hcc g
  rw [hD, hE]
  have := ivA_tab (mkW D (chI N D (sIt z) hh ++ xs) b W o) h etr v hS hT hD hE hl0 hs w2 w3 (fun a a1 => ?_) (fun _ g => mk_h0 hp ho hh0 g) (mk_ht hp ho hh0) (fun w _ g2 g3 g4 => mk_cap hp ho hh0 g2 g3 g4) (fun q q1 q2 q3 => mk_faq hp ho hh0 q1 (fun y => q3 (Or.inr (Or.inl y))) (fun y => q3 (Or.inl (w1 _ y).2))) (ag_tab h.1.1.2.1 hag v.2.2.2.1 w2 (fun _ g => mk_h0 hp ho hh0 g) (mk_ht hp ho hh0) (fun q _ g => sm q (Or.inl g)) (fun x x1 x2 x3 j hj => ?_)) (by rw [mkW_len]; exact hm)
  · rw [mkW_len] at this
    exact this
  · rcases (mk_ls hp a a1).1 with y | y
    · exact Or.inr (Or.inl y)
    · exact Or.inl (w1 _ y).2
  · refine sm _ (Or.inr ⟨x, ?_, by omega, by omega⟩)
    exact ((mk_lkV hp).2 x3).resolve_left (fun y => y x2)
