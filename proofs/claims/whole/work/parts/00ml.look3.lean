/-- what a look leaves as it was -/
def coL (T : MS) := ((T.v_n, T.v_disk, T.v_fresh, T.v_tape, T.v_ready, T.v_taped, T.v_thrown, T.v_told), (T.v_fed, T.v_turned, T.v_ran, T.v_here), (T.v_brief, T.v_stem, T.v_tail), (T.v_groups, T.v_per, T.v_inodes, T.v_rows, T.v_blocks, T.v_fixed, T.v_used, T.v_moved, T.v_aimed, T.v_built), (T.v_fixedBlocks, T.v_moves, T.v_builds, T.v_kept, T.v_next, T.v_record, T.v_list, T.v_spot, T.v_filled, T.v_latest), T.v_parent 0)
theorem coL_of {T T0 : MS} (h : coM T = coM T0) : coL T = coL T0 ∧ T.v_looked = T0.v_looked := by
  obtain ⟨h, hp⟩ := Prod.mk.inj h
  simp only [coMa, Prod.mk.injEq] at h
  obtain ⟨⟨⟨a1, a2, a3, a4, a5, a6, a7, a8⟩, ⟨b1, b2, b3, b4, b5⟩⟩, -, ⟨c1, c2, c3⟩, ⟨d1, d2, d3, d4, d5, d6, d7, d8, d9, d10⟩, ⟨e1, e2, e3, e4, e5, e6, e7, e8, e9, e10⟩⟩ := h
  refine ⟨?_, b5⟩
  unfold coL
  rw [a1, a2, a3, a4, a5, a6, a7, a8, b1, b2, b3, b4, c1, c2, c3, d1, d2, d3, d4, d5, d6, d7, d8, d9, d10, e1, e2, e3, e4, e5, e6, e7, e8, e9, e10, hp]
/-- how the reference holds a sound tree -/
abbrev trR (N : Nat) (D : Nat → Int32) (fks : List Nat) (z : SS) (T : MS) : Prop := mIs N D T ∧ rmI (sIt z) T ∧ tkR N T.v_chained (sTk z) ∧ T.v_label = lbI (sLb z) ∧ kdR fks (sIt z).length T ∧ fks.length = (sIt z).length ∧ zOk N z
abbrev lkR (N : Nat) (D : Nat → Int32) (T : MS) : Prop := T.v_looked = 1 ∧ (∀ fks z, trE N D = .ok (fks, z) → T.v_fault = nI 0 ∧ trR N D fks z T) ∧ (∀ e, trE N D = .error e → T.v_fault = nI e ∧ 1 ≤ e ∧ e ≤ 6 ∧ (e ≠ 1 → mIs N D T))
theorem qM_look {K N m : Nat} {D : Nat → Int32} {T : MS} (hK : 20000 ≤ K) (hN1 : 256 ≤ N) (hN : N ≤ 1024) (hcp : capOk N D m) (hm : m ≤ 4000) (hD : T.v_disk = D) (hn : T.v_n = nI N) (hlk : T.v_looked = 0) : ∃ T', f_Mo_look K T = some T' ∧ coL T' = coL T ∧ lkR N D T' := by
  unfold f_Mo_look
  rw [if_pos hlk, q_l, q_l, q_l, q_l]
  generalize hT1 : (((T.u_v_looked 1).u_v_items 1).u_v_units 0).u_v_label (-1) = T1
  have a1 : coL T1 = coL T := by rw [← hT1]; rfl
  have aD : T1.v_disk = D := by rw [← hT1]; exact hD
  have an : T1.v_n = nI N := by rw [← hT1]; exact hn
  have al : T1.v_looked = 1 := by rw [← hT1]; rfl
  obtain ⟨hd1, hd2⟩ := qM_head (K := K) aD an hN1 hN
  unfold lkR trE f_Mo_look_52
  by_cases g1 : hdOk N D
  rotate_left
  · obtain ⟨a, k, hd3⟩ := hd2 g1
    rw [hd3, q_c, if_pos rfl, q_l, if_neg (show ¬ ((((mH D T1).u_v_a a).u_v_k k).u_v_fault 1).v_fault ≤ 0 from (by decide : ¬ (1 : Int32) ≤ 0)), cif_f g1]
    refine ⟨_, rfl, a1, al, fun fks z e => (by cases e), fun e he => ?_⟩
    cases he
    exact ⟨rfl, by omega, by omega, fun w => absurd rfl w⟩
  rw [hd1 g1, q_c, if_neg (show ¬ (1 : Int32) = 0 by decide), cif_t g1]
  generalize hT2 : ((mH D T1).u_v_a (nI (ha D))).u_v_k (nI (hk N D)) = T2
  have bM : mIs N D T2 := by
    rw [← hT2]
    exact ⟨aD, an, rfl, rfl, rfl, rfl, rfl, rfl, rfl⟩
  have b1 : coL T2 = coL T := by rw [← hT2]; exact a1
  have bl : T2.v_looked = 1 := by rw [← hT2]; exact al
  obtain ⟨bd1, bd2⟩ := qM_bad (K := K) (by omega) bM g1 hN
  by_cases g2 : tabOk N D
  rotate_left
  · rw [bd2 g2, q_c, if_neg (by decide), q_l, if_neg (show ¬ (T2.u_v_fault 2).v_fault ≤ 0 from (by decide : ¬ (2 : Int32) ≤ 0)), cif_f g2]
    refine ⟨_, rfl, b1, bl, fun fks z e => (by cases e), fun e he => ?_⟩
    cases he
    exact ⟨rfl, by omega, by omega, fun _ => bM⟩
  rw [bd1 g2, q_c, if_pos (by decide), q_l, if_pos (show (T2.u_v_fault 0).v_fault ≤ 0 from (by decide : (0 : Int32) ≤ 0)), cif_t g2]
  -- no cluster is taken
  have h65 : f_Mo_look_65 K K 0 (T2.u_v_fault 0) = f_Mo_look_87 K K 0 ((T2.u_v_fault 0).u_v_chained (foF T2.v_chained (fun _ => nI 0) 560)) := by
    have key := lp (F := fun k q S => f_Mo_look_65 K k (nI q) S) (Inv := fun q s => s = (T2.u_v_fault 0).u_v_chained (foF T2.v_chained (fun _ => nI 0) q)) (Post := fun r => r = f_Mo_look_87 K K 0 ((T2.u_v_fault 0).u_v_chained (foF T2.v_chained (fun _ => nI 0) 560))) (n := 560) ?_ ?_ 560 0 K (T2.u_v_fault 0) (by omega) (by omega) ?_
    · exact key
    · intro q s k hq hI
      left
      refine ⟨_, rfl, ?_⟩
      have e2 : s.v_chained = foF T2.v_chained (fun _ => nI 0) q := by rw [hI]; rfl
      rw [f_Mo_look_65, if_neg (show ¬ 560 ≤ nI q from nI_ge (b := 560) hq (by decide)), q_g (q_in hq (by decide)), q_l, q_l, nI_1, nI_clamp (by omega), e2, show vp_nar .boolean 0 = (fun _ => nI 0) q from rfl, foF_add, hI]
      rfl
    · intro s k hI
      rw [f_Mo_look_65, if_pos (by decide), hI]
    · rw [foF_0]
      rfl
  rw [h65]
  generalize hT3 : (T2.u_v_fault 0).u_v_chained (foF T2.v_chained (fun _ => nI 0) 560) = T3
  have c1 : coL T3 = coL T := by rw [← hT3]; exact b1
  have cl : T3.v_looked = 1 := by rw [← hT3]; exact bl
  have cM : mIs N D T3 := by rw [← hT3]; exact bM
  have cI : rmI (sIt z0) T3 := by
    rw [← hT3, ← hT2, ← hT1]
    refine ⟨rfl, rfl, fun j h1 h2 => ?_, fun u hu => ?_⟩
    · have h2 : j < 1 := h2
      omega
    · have hu : u < 0 := hu
      omega
  have ct : tkR N T3.v_chained (sTk z0) := by
    intro x hx
    rw [← hT3]
    show foF T2.v_chained (fun _ => nI 0) 560 x = if x ∈ ([] : List Nat) then nI 1 else nI 0
    unfold foF
    rw [if_pos (by omega), if_neg (fun w => by cases w)]
  have clb : T3.v_label = lbI (sLb z0) := by rw [← hT3, ← hT2, ← hT1]; rfl
  have cf : T3.v_fault = 0 := by rw [← hT3]; rfl
  obtain ⟨q1, q2⟩ := qM_look87 (K := K) (T0 := T3) hK g1 hN hcp hm cM 5000 K [] z0 T3 rfl (by omega) (by decide) ⟨rfl, rfl, cf, cI, ct, clb, fun j hj => absurd hj (Nat.not_lt_zero _), z0_ok hN1, z0_cin N D⟩
  unfold trS
  cases hs : scL N D 5000 0 [] z0 with
  | error e1 =>
    obtain ⟨T4, r1, r2, r3, r4, r5⟩ := q2 e1 hs
    obtain ⟨o1', o2'⟩ := coL_of r5
    have hne : ¬ T4.v_fault = 0 := by rw [r2]; exact nI_ne0 (by omega) (by omega)
    have h138 : f_Mo_look_138 K T4 = some T4 := by
      unfold f_Mo_look_138
      obtain ⟨k, rfl⟩ : ∃ q, K = q + 1 := ⟨K - 1, by omega⟩
      rw [f_Mo_look_140, if_neg hne, ite_self]
    rw [show (0 : Int32) = nI ([] : List Nat).length from rfl, r1, h138]
    refine ⟨T4, rfl, o1'.trans c1, o2'.trans cl, fun fks z e => (by cases e), fun e he => ?_⟩
    cases he
    exact ⟨r2, by omega, by omega, fun _ => mIs_co r5 cM⟩
  | ok x =>
    obtain ⟨fks, z⟩ := x
    obtain ⟨T4, r1, r2, r3⟩ := q1 fks z hs
    obtain ⟨o1', o2'⟩ := coL_of r3.1
    have dM := mIs_co r3.1 cM
    rw [show (0 : Int32) = nI ([] : List Nat).length from rfl, r1, qM_look140 hK g1 hN dM r3.2.2.2.2.1 r3.2.2.1, exb_o]
    refine ⟨_, rfl, o1'.trans c1, o2'.trans cl, fun fks' z' e => ?_, fun e he => ?_⟩
    · by_cases w : stray N D (sTk z)
      · rw [cif_t w] at e; cases e
      · rw [cif_f w] at e
        cases e
        exact ⟨cif_f w, dM, r3.2.2.2.1, r3.2.2.2.2.1, r3.2.2.2.2.2.1, r3.2.2.2.2.2.2.1, r2, r3.2.2.2.2.2.2.2.1⟩
    · by_cases w : stray N D (sTk z)
      · rw [cif_t w] at he
        cases he
        exact ⟨cif_t w, by omega, by omega, fun _ => dM⟩
      · rw [cif_f w] at he; cases he
