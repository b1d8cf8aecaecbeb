/-! The plan that is recalled, and the tree that has moved, as the class holds them. -/
abbrev pTr (N : Nat) (D : Nat → Int32) (fks : List Nat) (z : SS) (k : Nat) : Prop := trE N D = .ok (fks, z) ∧ itsOk N (sIt z) ∧ (kdS fks (sIt z) ∧ fks.length = (sIt z).length) ∧ (∀ j, j < (sIt z).length → (chI N D (sIt z) j).length ≤ k ∧ begI D (sIt z) j < 2 ^ 28 ∧ lke k (ent D) (begI D (sIt z) j) (chI N D (sIt z) j)) ∧ (∀ j, j < (sIt z).length → ¬ isDr D (sIt z) j → szI D (sIt z) j < 2 ^ 22) ∧ sumN (fun i => (chI N D (sIt z) i).length) (sIt z).length ≤ k ∧ (∀ i, i < (sIt z).length → isDr D (sIt z) i → ipa (itr (sIt z) i) < (sIt z).length ∧ isDr D (sIt z) (ipa (itr (sIt z) i))) ∧ (∀ j, 1 ≤ j → j < (sIt z).length → daysP D (isp (itr (sIt z) j))) ∧ tmOk D (sIt z) ∧ ∀ q, sLb z = some q → q + 32 ≤ 512 * N
theorem cl_plan {K N t m : Nat} {D : Nat → Int32} {fks : List Nat} {z : SS} {A H k B P g0 r to : Nat} {gl : Nat → Nat} {E : Nat → Int32} {G : CG} {S : CS} (hK : 20000 ≤ K) (h : pPl N D fks (sIt z) A H k B P g0 r to gl) (ht : pTr N D fks z k) (hcp : capOk N D m) (hm : m ≤ 4000) (hE : dM N D fks (sIt z) A H k P g0 r gl E) (hG : gOk N G) (hlim : gLim t G) (hS : S.w_Dk_bytes = E) (hs : S.v_Dk_sectors = nI N) (hbl : S.v_Pl_blocks = nI B) : ∃ S1 G' S', f_Tu_recall K G S = some (1, S1) ∧ (lf_n (f_Rd_scan K G S1 1) fun r_12 G_12 S_12 => f_Tu_turn_85 K r_12 G_12 S_12) = ((f_Tu_putFixed K G' S').bind fun S_20 => f_Tu_turn_109 K G' S_20) ∧ coR S' = coR S ∧ (S'.w_Dk_bytes = E ∧ S'.v_Dk_power = S.v_Dk_power ∧ S'.w_Tu_block = S.w_Tu_block) ∧ gOk N G' ∧ gLim t G' ∧ fxC N D (mpP D (gF 1 gl)) fks (sIt z) A H k B P g0 r to gl (ent D) (usd N D (sIt z) A H gl (rml A H (fxd A P r g0) (ent D) gl k) (bdN N fks D (sIt z) A H) (fxd A P r g0)) (B - 1 - (g0 * (4 + r) + (bdN N fks D (sIt z) A H + kpN N D (sIt z) A H))) G' S' ∧ S'.v_Tr_label = lbC (mpP D (gF 1 gl)) (sLb z) := by
  obtain ⟨S1, a1, a2, ⟨a3, a3p, a3b⟩, a4, a5, a6, a7, a8⟩ := cl_recall hK h hE hG hS hs hbl
  have hH := dM_agH h hE
  have hC := dM_agC h hE
  obtain ⟨⟨ho, ⟨hN1, hN⟩, hN2, -⟩, ⟨hA2, hH2, hk0, hB0⟩, hu, hr1, hil, hl1, hrc⟩ := h
  obtain ⟨etr, t1, t2, t3, t4, t5, t6, t7, t8, t9⟩ := ht
  have b3 := hu.1
  have hB := b3.2.2.2.1
  have hAk := b3.2.2.2.2.2.2.2
  have hs1 : S1.v_Dk_sectors = nI N := (congrArg (fun x => x.2.1) a2).trans hs
  obtain ⟨i1, i2, i3, i4, i5, i6⟩ := aimR_inv _ _ _ hu.2.2.1
  have hglk : ∀ c, gl c < k + 2 := fun c => (a4.2.2.2.2.2.2 c).1
  obtain ⟨r0, G2, S2, c1, c2, c3, c4, c5, -⟩ := qC_scanW (K := K) (mv := 1) (S := S1) (gl := gl) (D := D) hK hN1 hN hcp hm hG hlim a3 hs1 ⟨fun p hp => hE.1 p (by omega), fun _ => ⟨hH, hC⟩⟩ (Or.inr rfl) (fun _ c q1 q2 => a4.2.2.2.2.2.1 c q1 (by rw [hk0]; exact q2)) (fun c => by have := hglk c; have := b3.2.2.1; omega)
  obtain ⟨c6, c7, c8, -⟩ := c5 fks z etr
  have hnx := nxR_of ho hN hH c7
  obtain ⟨ec, ev', ey, ez, er, ea, ek⟩ := agH_n hH
  have s1 : S2.v_Tb_start = nI (2 * A) := by rw [← hA2, ← ea]; exact c7.2.2.2.2.2.2.2.2.1
  have s2 : S2.v_Tb_cluster = nI (2 * H) := by rw [← hH2, ← ec]; exact c7.2.2.2.1
  have s3 : S2.v_Tb_clusters = nI k := by rw [hk0, ← ek]; exact c7.2.2.2.2.2.2.2.2.2.1
  have hls : lsC A H k B N (ent D) gl G2 S2 := ⟨a4.1, ⟨c3.1, a4.2.1.2⟩, ⟨s1, s2, s3⟩, by rw [hk0]; exact hnx.2.2, a4.2.2.2.2.1, fun c q1 q2 => by rw [coK_w_Tb_goal c2]; exact a4.2.2.2.2.2.1 c q1 q2, a4.2.2.2.2.2.2⟩
  have hpk : plK A H k B P g0 S2 := ⟨s1, s2, s3, by rw [coK_v_Pl_blocks c2]; exact a5.2.2.2.1, by rw [coK_v_Pl_size c2]; exact a5.2.2.2.2.1, by rw [coK_v_Pl_groups c2]; exact a5.2.2.2.2.2⟩
  have hrm : rmC B (rml A H (fxd A P r g0) (ent D) gl k) S2 := ⟨by rw [coK_v_Pl_roomCount c2]; exact a6.1, by rw [coK_w_Pl_rooms c2]; exact a6.2.1, a6.2.2⟩
  have htr : trC N D (mpP D (gF 1 gl)) fks (sIt z) k (ent D) G2 S2 := by
    refine ⟨c3, c8.1, c8.2.2.2.2.1.2.2.1, t1, fun j hj => ?_, t2, t3, t4, t5⟩
    have e := c8.2.2.2.1 j hj
    refine ⟨?_, fun d => ?_⟩
    · rw [e.2]
      unfold kcD
      rw [if_pos (by rw [t2.2]; exact hj)]
    · rw [e.1]
      unfold ksD
      rw [cif_t ⟨by rw [t2.2]; exact hj, d⟩]
  obtain ⟨f6, x6, w6, w7, j1, j2⟩ := qC_assign (K := K) (S := S2) hK hls htr hAk hrm
  rw [b01_t hu.2.2.2.2.2.2] at j1
  obtain ⟨S4, eS4⟩ : ∃ S4, aS2 (gSt S2 f6 x6) (nI (bdN N fks D (sIt z) A H)) w6 w7 = S4 := ⟨_, rfl⟩
  rw [eS4] at j1
  have hmk : mkC N D (mpP D (gF 1 gl)) fks (sIt z) A H k B P g0 r to gl (ent D) G2 S4 := by
    refine ⟨by rw [← eS4]; exact hls, by rw [← eS4]; exact htr, hu, by rw [← eS4]; exact hpk, by rw [← eS4]; exact hrm, fun b hb => ?_, by rw [← eS4]; exact j2⟩
    rw [← eS4]
    show S2.w_Pl_fixed b = _
    rw [coK_w_Pl_fixed c2]
    exact a7 b hb
  obtain ⟨f7, x7, u7, k1, k2, k3⟩ := qC_markUsed (K := K) hK hmk
  have co1 : coR S2 = coR S1 := by
    unfold coR
    rw [coK_w_Vt_failAsks c2, coK_w_Vt_failWrites c2, coK_v_Vt_fails c2, coK_v_Vt_here c2, coK_v_Vt_hasRun c2, coK_v_Vt_stale c2, coK_v_Vt_lastFault c2, coK_v_Dk_sectors c2, coK_w_Tp_bytes c2, coK_w_Tp_ready c2, coK_v_Tp_used c2, coK_v_Pl_blocks c2]
  refine ⟨S1, G2, (uSt S4 f7 x7 u7).u_v_Pl_free (nI (B - 1 - (g0 * (4 + r) + (bdN N fks D (sIt z) A H + kpN N D (sIt z) A H)))), a1, ?_, ?_, ⟨?_, ?_, ?_⟩, c3, c4, ⟨⟨?_, ⟨?_, ?_, t6⟩, ⟨c3.1, hN1, hN, ?_⟩, ?_⟩, k1, rfl, ?_, hil⟩, ?_⟩
  rotate_left
  · rw [← a2, ← co1, ← eS4]; rfl
  · rw [← eS4]; exact (coK_w_Dk_bytes c2).trans a3
  · rw [← eS4]; exact (coK_v_Dk_power c2).trans a3p
  · rw [← eS4]; exact (coK_w_Tu_block c2).trans a3b
  · exact hmk
  · rw [← eS4]; exact htr
  · exact c8.2.2.2.2.1.2.2.2
  · rw [← eS4]; exact (coK_v_Dk_sectors c2).trans hs1
  · rw [← eS4]; exact (coK_v_Pl_inodes c2).trans a8
  · omega
  · rw [← eS4]; exact c8.2.2.1
  · have c1' : f_Rd_scan K G S1 1 = some (nI r0, G2, S2) := c1
    rw [c1']
    show f_Tu_turn_85 K (nI r0) G2 S2 = _
    unfold f_Tu_turn_85
    rw [c6, if_pos (show nI 0 = 0 from rfl), j1, q_c, if_neg (show ¬ nI 1 = 0 by decide), k3, q_b]
