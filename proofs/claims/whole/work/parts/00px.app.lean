/-! A file made longer keeps the invariant. -/
theorem ivA_app {N t m hh j s n : Nat} {D E : Nat → Int32} {fks : List Nat} {z : SS} {G : CG} {S S' : CS} {T T' : MS} {xs : List Nat} {svM svC : Nat → Int32} (L : List Nat) (h : ivA N t m D E G S T) (etr : trE N D = .ok (fks, z)) (v : tv N m D E fks z hh G S T) (j2 : 1 ≤ j) (j1 : j < (sIt z).length) (j3 : ipa (itr (sIt z) j) = hh) (hdn : ¬ isDr D (sIt z) j) (htk : tkn N D xs [] (chI N D (sIt z) j)) (hsn : s + n ≤ (chI N D (sIt z) j ++ xs).length * (512 * hc D)) (hub : ∀ i, i < n → ub (svC i) = ub (svM i)) (hS : coE S' = coE S) (hT : coN T' = coN T) (hD : T'.v_disk = st (wrN (grN D (isp (itr (sIt z) j)) xs D (chI N D (sIt z) j)) (fun i => psF D (chI N D (sIt z) j ++ xs) (s + i)) svM n) (isp (itr (sIt z) j) + 28) (s + n) 4) (hE : S'.w_Dk_bytes = wrN (st (grN D (isp (itr (sIt z) j)) xs E (chI N D (sIt z) j)) (isp (itr (sIt z) j) + 28) (s + n) 4) (fun i => psF D (chI N D (sIt z) j ++ xs) (s + i)) svC n) (hl0 : T'.v_looked = 0) (hs : S'.v_Vt_stale = 1) (hpL : isp (itr (sIt z) j) / 32 ∈ L) (hcap : ∀ w, w < 16 * N → w ∉ L → (∃ i, i < n ∧ psF D (chI N D (sIt z) j ++ xs) (s + i) / 32 = w) → ¬ cpP T'.v_disk (32 * w)) (hm : m + L.length ≤ 4000) : ivA N t (m + L.length) T'.v_disk S'.w_Dk_bytes G S' T' := by
  have hN := h.1.1.2.1
  have hN1 := h.1.1.1
  have ho := v.2.2.2.1
  have hf := hd_facts ho hN
  have hC := hf.1
  have hag := h.1.2.2.2.2.2.2.1.1
  have hH := ((agF_A hN1 hN hag).2 ho).1
  have hSI := v.2.2.2.2.2.2.1
  have hhl := v.2.2.1.1
  have hhd := v.2.2.1.2.1
  have hch : ∀ y ∈ chI N D (sIt z) j, isCl N D y ∧ ent D y ≠ 0 := chI_cl hSI j1
  have hhh : ∀ y ∈ chI N D (sIt z) hh, isCl N D y ∧ ent D y ≠ 0 := chI_cl hSI hhl
  have hdis : ∀ y ∈ chI N D (sIt z) j, y ∉ chI N D (sIt z) hh := hSI.2.2.2.1 j hh j1 hhl (Or.inr j1) (Or.inr hhl) (fun e => hdn (by rw [e]; exact hhd))
  have hfree := (tkn_free xs [] _ htk (fun a ha1 => by cases ha1)).1
  have hpos : ∀ k, k < 32 → 512 * ha D ≤ isp (itr (sIt z) j) + k ∧ isp (itr (sIt z) j) + k < 512 * N ∧ clOf D (isp (itr (sIt z) j) + k) ∈ chI N D (sIt z) hh ∧ isp (itr (sIt z) j) % 32 = 0 := fun k hk0 => item_pos hN v j2 j1 j3 hk0
  have hj' : ∃ j', 1 ≤ j' ∧ j' < (sIt z).length ∧ ipa (itr (sIt z) j') = hh ∧ chI N D (sIt z) j = chI N D (sIt z) j' := ⟨j, j2, j1, j3, rfl⟩
  have v0 : Nonempty (PLift (tv N m D E fks z hh G S T)) := ⟨⟨v⟩⟩
  clear v
  generalize chI N D (sIt z) j = ch at *
  generalize isp (itr (sIt z) j) = p at *
  have hp0 := hpos 0 (by decide)
  have hp31 := hpos 31 (by decide)
  have hcl : ∀ y ∈ ch, isCl N D y := fun y hy0 => (hch y hy0).1
  have hxs : ∀ y ∈ xs, isCl N D y := fun y hy0 => (hfree y hy0).1
  have hcs : ∀ y ∈ ch ++ xs, isCl N D y := fun y hy0 => (List.mem_append.mp hy0).elim (hcl y) (hxs y)
  have hown : ∀ y ∈ ch ++ xs, own N D (sIt z) hh y := fun y hy0 => by
    rcases List.mem_append.mp hy0 with w | w
    · obtain ⟨j', a1, a2, a3, a4⟩ := hj'
      exact Or.inr (Or.inr ⟨j', a1, a2, a3, by rw [← a4]; exact w⟩)
    · exact Or.inl (hfree y w).2.1
  have hnot : ∀ y ∈ ch ++ xs, y ∉ chI N D (sIt z) hh := fun y hy0 => by
    rcases List.mem_append.mp hy0 with w | w
    · exact hdis y w
    · exact fun g => (hhh y g).2 (hfree y w).2.1
  clear hSI hj' hdis
  have hpi : ∀ i, i < n → 512 * ha D ≤ psF D (ch ++ xs) (s + i) ∧ psF D (ch ++ xs) (s + i) < 512 * N ∧ clOf D (psF D (ch ++ xs) (s + i)) ∈ ch ++ xs := fun i hi => by
    obtain ⟨-, a2, a3, a4, a5⟩ := psF_in (f := s + i) ho hN hcs (by omega)
    exact ⟨a2, a3, by rw [a5]; exact a4⟩
  have hoff : ∀ i, i < n → psF D (ch ++ xs) (s + i) < p ∨ p + 32 ≤ psF D (ch ++ xs) (s + i) := fun i hi => Classical.byContradiction fun w => by
    have a := hpos (psF D (ch ++ xs) (s + i) - p) (by omega)
    rw [show p + (psF D (ch ++ xs) (s + i) - p) = psF D (ch ++ xs) (s + i) by omega] at a
    exact hnot _ (hpi i hi).2.2 a.2.2.1
  -- the clusters taken, by place
  have hin : ∀ q, inC D xs q → 512 * ha D ≤ q ∧ clOf D q ∈ xs ∧ ent D (clOf D q) = 0 := fun q ⟨x, x1, x2, x3⟩ => by
    have e := plC_cl (j := q - plC D x) hC (hxs x x1).1 (by omega)
    rw [show plC D x + (q - plC D x) = q by omega] at e
    have := plC_lt (j := q - plC D x) ho hN (hxs x x1) (by omega)
    rw [e]
    exact ⟨by omega, x1, (hfree x x1).2.1⟩
  have hlo : lsOk N D (grLs xs ch) := fun a ha1 => by
    obtain ⟨e1, e2⟩ := grLs_mem _ _ a ha1
    have b1 : a.1 < hk N D + 2 := by
      have := (hcs a.1 (List.mem_append.mpr e1)).2
      omega
    rcases e2 with e | e
    · exact ⟨b1, by rw [e]; decide⟩
    · exact ⟨b1, by have := (hxs _ e).2; omega⟩
  have hlc : lsCl (grLs xs ch) := fun a ha1 => by
    rcases (grLs_mem _ _ a ha1).2 with e | e
    · exact Or.inr (by rw [e]; decide)
    · exact Or.inl (by have := (hxs _ e).2; omega)
  have hlown : ∀ a ∈ grLs xs ch, own N D (sIt z) hh a.1 := fun a ha1 => hown _ (List.mem_append.mpr (grLs_mem _ _ a ha1).1)
  have hvle : hv D ≤ ha D := by rw [hf.2.2.2.2.2.2.1]; exact Nat.le_add_right _ _
  -- what the end is, by place
  have hX : ∀ q, (∀ i, i < n → psF D (ch ++ xs) (s + i) ≠ q) → (q < p + 28 ∨ p + 32 ≤ q) → o1 T'.v_disk q = o1 (grN D p xs D ch) q := fun q q1 q2 => by
    rw [hD, st_out (by omega), wrN_out n q1]
  have hlow : ∀ q, q < 512 * ha D → o1 T'.v_disk q = o1 (grN D p xs D ch) q := fun q hq => hX q (fun i hi e => by have := (hpi i hi).1; omega) (by omega)
  have h0 : ∀ q, q < 512 * hv D → o1 T'.v_disk q = o1 D q := fun q hq => by
    rw [hlow q (by omega), (grN_o1 ho hN xs ch D hxs hcl q (Or.inl hq) (by omega)).1 (fun w => by have := (hin q w).1; omega)]
  have ht : ∀ q, 512 * hv D ≤ q → q < 512 * ha D → o1 T'.v_disk q = o1 (lks D D (grLs xs ch)) q := fun q q1 q2 => by
    rw [hlow q q2]
    exact grN_tab ho hN (by omega) xs ch D D hxs hcl (fun _ _ _ => rfl) q q1 q2
  have hXe : ∀ q, o1 S'.w_Dk_bytes q = o1 (st (wrN (grN D p xs E ch) (fun i => psF D (ch ++ xs) (s + i)) svC n) (p + 28) (s + n) 4) q := fun q => by
    rw [hE]
    exact wrN_st fun i hi => by have := hoff i hi; omega
  have hagq : ∀ q, (o1 E q = o1 D q ∨ inC D xs q) → o1 S'.w_Dk_bytes q = o1 T'.v_disk q := fun q hq => by
    rw [hXe q, hD]
    exact st_ag (wrN_ag (grN_ag ho hN xs ch D E hxs hcl (fun q' g1 g2 => hH.2 q' g1 g2) q hq) n hub)
  refine ivA_tab L h etr (Classical.choice v0).down hS hT rfl rfl hl0 hs hlo hlc hlown h0 ht (fun w w1 w2 w3 w4 => ?_) (fun q q1 q2 q3 => ?_) (ag_tab hN hag ho hlo h0 ht (fun q _ g => hagq q (Or.inl g)) (fun x x1 x2 x3 jj hjj => ?_)) hm
  · by_cases g : ∃ i, i < n ∧ psF D (ch ++ xs) (s + i) / 32 = w
    · exact absurd w4 (hcap w w1 w3 g)
    have hwp : w ≠ p / 32 := fun e => w3 (by rw [e]; exact hpL)
    have hq : ∀ k, k < 32 → o1 T'.v_disk (32 * w + k) = o1 (grN D p xs D ch) (32 * w + k) := fun k hk0 => hX _ (fun i hi e => g ⟨i, hi, by omega⟩) (by omega)
    have hg := fun k (hk0 : k < 32) => grN_o1 (p := p) ho hN xs ch D hxs hcl (32 * w + k) (Or.inr (by omega)) (by omega)
    by_cases gi : inC D xs (32 * w)
    · exfalso
      have hz : ∀ k, k < 32 → o1 T'.v_disk (32 * w + k) = 0 := fun k hk0 => by
        rw [hq k hk0]
        refine (hg k hk0).2 (Or.inl ?_)
        obtain ⟨x, x1, x2, x3⟩ := gi
        refine ⟨x, x1, by omega, ?_⟩
        unfold plC at x2 x3 ⊢
        generalize ha D + (x - 2) * hc D = y at *
        omega
      refine nocap_of (X := T'.v_disk) (p := 32 * w) (Or.inl ?_) w4
      have e0 := hz 0 (by decide)
      have e1 := hz 1 (by decide)
      have e2 := hz 2 (by decide)
      have e3 := hz 3 (by decide)
      rw [Nat.add_zero] at e0
      unfold o4 o2
      rw [e0, e1, e2, show 32 * w + 2 + 1 = 32 * w + 3 from rfl, e3]
      decide
    · refine (cpP_slq fun k hk0 => ?_).mp w4
      rw [hq k hk0]
      refine (hg k hk0).1 fun ⟨x, x1, x2, x3⟩ => gi ⟨x, x1, ?_, by omega⟩
      unfold plC at x2 x3 ⊢
      generalize ha D + (x - 2) * hc D = y at *
      omega
  · have hnp : q < p ∨ p + 32 ≤ q := Classical.byContradiction fun w => q3 (by
      have a := hpos (q - p) (by omega)
      rw [show p + (q - p) = q by omega] at a
      exact Or.inr (Or.inl a.2.2.1))
    rw [hX q (fun i hi e => q3 (by rw [← e]; exact hown _ (hpi i hi).2.2)) (by omega)]
    exact (grN_o1 ho hN xs ch D hxs hcl q (Or.inr q1) (by omega)).1 (fun w => q3 (Or.inl (hin q w).2.2))
  · refine hagq _ (Or.inr ⟨x, ?_, by omega, by omega⟩)
    rcases lkV_or (y := x) (grLs xs ch) (ent D x) with e | ⟨a, a1, a2, -⟩
    · exact absurd (e.trans x2) x3
    · rcases (grLs_mem _ _ a a1).1 with e | e
      · rw [a2] at e; exact absurd x2 (hch x e).2
      · rw [a2] at e; exact e
