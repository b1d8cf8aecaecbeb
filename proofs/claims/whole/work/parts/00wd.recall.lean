/-! The plan is recalled from the mark. -/
theorem o4_sh {X Y : Nat → Int32} {p q : Nat} (h : ∀ k, k < 4 → o1 X (p + k) = o1 Y (q + k)) : o4 X p = o4 Y q := by
  have h0 := h 0 (by decide)
  have h1 := h 1 (by decide)
  have h2 := h 2 (by decide)
  have h3 := h 3 (by decide)
  unfold o4 o2
  rw [show p + 2 + 1 = p + 3 from rfl, show q + 2 + 1 = q + 3 from rfl, h1, h2, h3]
  rw [Nat.add_zero, Nat.add_zero] at h0
  rw [h0]
theorem mrk_o4 {P r : Nat} (hP : P < 2 ^ 32) (hr : 8 * r < 2 ^ 32) : o4 (mrkX P r) 0 = 1314018644 ∧ o4 (mrkX P r) 4 = P ∧ o4 (mrkX P r) 8 = 8 * r := by
  unfold mrkX
  refine ⟨?_, ?_, ?_⟩
  · rw [st_o4o (by omega), st_o4o (by omega), st_o4 (by decide)]
  · rw [st_o4o (by omega), st_o4 hP]
  · rw [st_o4 hr]
theorem dM_agH {N : Nat} {D : Nat → Int32} {fks : List Nat} {its : List It} {A H k B P g0 r to : Nat} {gl : Nat → Nat} {E : Nat → Int32} (h : pPl N D fks its A H k B P g0 r to gl) (hE : dM N D fks its A H k P g0 r gl E) : agH D E := by
  have hf := hd_facts h.1.1 h.1.2.1.2
  refine ⟨fun p hp => hE.1 p (by omega), fun p p1 p2 => ?_⟩
  rw [h.2.1.1] at p2
  rw [hE.2.1 p (by omega) (by omega), if_neg (by omega)]
theorem dM_agC {N : Nat} {D : Nat → Int32} {fks : List Nat} {its : List It} {A H k B P g0 r to : Nat} {gl : Nat → Nat} {E : Nat → Int32} (h : pPl N D fks its A H k B P g0 r to gl) (hE : dM N D fks its A H k P g0 r gl E) : agC N D E (gF 1 gl) := by
  obtain ⟨⟨ho, ⟨hN1, hN⟩, hN2, -⟩, ⟨hA2, hH2, hk0, hB0⟩, hu, -, -, -, -⟩ := h
  obtain ⟨i1, i2, i3, i4, i5, i6⟩ := aimR_inv _ _ _ hu.2.2.1
  intro c hc0 he
  have hgs : gF 1 gl c = stnd gl c := by
    unfold gF stnd
    by_cases g : gl c = 0
    · rw [if_neg (fun y => y.2 g), if_pos g]
    · rw [if_pos ⟨rfl, g⟩, if_neg g]
  rw [hgs]
  refine ⟨?_, fun j hj => ?_⟩
  · have := (stnd_f hu.2.2.1).1 c hc0.1 (by have := hc0.2; omega) he
    exact ⟨this.1, by omega⟩
  · have := hE.2.2.1 c hc0.1 (by have := hc0.2; omega) he j (by rw [hH2] at hj; omega)
    unfold bOf at this
    unfold plC
    rw [hA2, hH2, show (stnd gl c - 2) * (2 * H) = 2 * ((stnd gl c - 2) * H) from Nat.mul_left_comm _ _ _, show (c - 2) * (2 * H) = 2 * ((c - 2) * H) from Nat.mul_left_comm _ _ _, show 512 * (2 * A + 2 * ((stnd gl c - 2) * H)) = 1024 * (A + (stnd gl c - 2) * H) by omega, show 512 * (2 * A + 2 * ((c - 2) * H)) = 1024 * (A + (c - 2) * H) by omega]
    exact this
theorem cl_marked {K N : Nat} {D : Nat → Int32} {fks : List Nat} {its : List It} {A H k B P g0 r to : Nat} {gl : Nat → Nat} {E : Nat → Int32} {G : CG} {S : CS} (h : pPl N D fks its A H k B P g0 r to gl) (hE : dM N D fks its A H k P g0 r gl E) (hG : G.n = N) (hS : S.w_Dk_bytes = E) : f_In_isMarked K G S = some (1, S) ∧ f_In_markedSize K G S = some (nI P, S) ∧ f_In_markedInodes K G S = some (nI (8 * r), S) := by
  obtain ⟨⟨ho, ⟨hN1, hN⟩, hN2, -⟩, -, hu, -, -, -, -⟩ := h
  have hA := hu.1.1
  have hP2 : P < 2 ^ 32 := by rcases hu.1.2.2.2.2.1 with q | q | q <;> omega
  have hr2 := hu.1.2.2.2.2.2.2.1
  obtain ⟨m1, m2, m3⟩ := mrk_o4 (P := P) (r := r) hP2 (by omega)
  have key : ∀ a, a + 4 ≤ 512 → o4 E (3584 + a) = o4 (mrkX P r) a := fun a ha0 => o4_sh (fun k hk0 => by
    rw [hE.2.1 _ (by omega) (by omega), if_pos (by omega), show 3584 + a + k - 3584 = a + k by omega])
  refine ⟨?_, ?_, ?_⟩
  · unfold f_In_isMarked
    rw [show (3584 : Int32) = nI 3584 from rfl, rV4 E hG hS hN (by omega), q_c, show o4 E 3584 = 1314018644 from (key 0 (by omega)).trans m1, if_pos (by decide)]
  · unfold f_In_markedSize
    rw [show (3588 : Int32) = nI 3588 from rfl, rV4 E hG hS hN (by omega), q_c, show o4 E 3588 = P from (key 4 (by omega)).trans m2]
  · unfold f_In_markedInodes
    rw [show (3592 : Int32) = nI 3592 from rfl, rV4 E hG hS hN (by omega), q_c, show o4 E 3592 = 8 * r from (key 8 (by omega)).trans m3]
theorem cl_recall {K N : Nat} {D : Nat → Int32} {fks : List Nat} {its : List It} {A H k B P g0 r to : Nat} {gl : Nat → Nat} {E : Nat → Int32} {G : CG} {S : CS} (hK : 20000 ≤ K) (h : pPl N D fks its A H k B P g0 r to gl) (hE : dM N D fks its A H k P g0 r gl E) (hG : gOk N G) (hS : S.w_Dk_bytes = E) (hs : S.v_Dk_sectors = nI N) (hbl : S.v_Pl_blocks = nI B) : ∃ S', f_Tu_recall K G S = some (1, S') ∧ coR S' = coR S ∧ (S'.w_Dk_bytes = E ∧ S'.v_Dk_power = S.v_Dk_power ∧ S'.w_Tu_block = S.w_Tu_block) ∧ lsC A H k B N (ent D) gl G S' ∧ plK A H k B P g0 S' ∧ rmC B (rml A H (fxd A P r g0) (ent D) gl k) S' ∧ (∀ b, b < B → S'.w_Pl_fixed b = b01 (fxd A P r g0 b)) ∧ S'.v_Pl_inodes = nI (8 * r) := by
  obtain ⟨m1, m2, m3⟩ := cl_marked (K := K) h hE hG.1 hS
  have hH := dM_agH h hE
  obtain ⟨⟨ho, ⟨hN1, hN⟩, hN2, -⟩, ⟨hA2, hH2, hk0, hB0⟩, hu, hr1, -, -, -⟩ := h
  have b3 := hu.1
  have hB := b3.2.2.2.1
  have hff := hd_facts ho hN
  have hoE : hdOk N E := (agH_ok hH).mpr ho
  obtain ⟨rd1, -⟩ := qV_read (K := K) (N := N) (G := G) (D := E) (S := S) (by omega) hG.1 hS hN1 hN hs
  have hcI := cT_is (S := S) hG.1 hS hs
  have hnx := nxR_of ho hN hH hcI
  obtain ⟨ec, ev', ey, ez, er, ea, ek⟩ := agH_n hH
  obtain ⟨S0, eS0⟩ : ∃ S0, cT N E S = S0 := ⟨_, rfl⟩
  have c0 : coR S0 = coR S := by rw [← eS0]; rfl
  have c1 : S0.w_Dk_bytes = E ∧ S0.v_Dk_power = S.v_Dk_power ∧ S0.w_Tu_block = S.w_Tu_block := by rw [← eS0]; exact ⟨hS, rfl, rfl⟩
  have hbl0 : S0.v_Pl_blocks = nI B := by rw [← eS0]; exact hbl
  rw [eS0] at hcI hnx rd1
  have s1 : S0.v_Tb_start = nI (2 * A) := by rw [← hA2, ← ea]; exact hcI.2.2.2.2.2.2.2.2.1
  have s2 : S0.v_Tb_cluster = nI (2 * H) := by rw [← hH2, ← ec]; exact hcI.2.2.2.1
  have s3 : S0.v_Tb_clusters = nI k := by rw [hk0, ← ek]; exact hcI.2.2.2.2.2.2.2.2.2.1
  have hdv := qC_divide (K := K) (G := G) (S := S0) b3.2.2.2.2.1 hB hbl0
  rw [← b3.2.2.2.2.2.1] at hdv
  obtain ⟨S1, eS1⟩ : ∃ S1, (S0.u_v_Pl_size (nI P)).u_v_Pl_groups (nI g0) = S1 := ⟨_, rfl⟩
  rw [eS1] at hdv
  have hS1 : plK A H k B P g0 S1 := by rw [← eS1]; exact ⟨s1, s2, s3, hbl0, rfl, rfl⟩
  obtain ⟨f2, d1, d2⟩ := qC_layOut (K := K) (S := S1) (by omega) b3 hr1 (by rw [hG.1, hB0]) hS1
  have d3 := d2 hu.2.1
  obtain ⟨S2, eS2⟩ : ∃ S2, (S1.u_v_Pl_inodes (nI (8 * r))).u_w_Pl_fixed f2 = S2 := ⟨_, rfl⟩
  rw [eS2, b01_t hu.2.1] at d1
  have haC : aimC A H k B P g0 r N (fxd A P r g0) (ent D) G S2 := ⟨b3, ⟨hG.1, hN, hB0, by rw [hk0]; exact hff.2.2.2.2.2.2.2.2.2.2.2.2.2.2.2⟩, by rw [← eS2]; exact hS1, by rw [← eS2]; exact d3, by rw [← eS2, ← eS1, hk0]; exact hnx.2.2, fun x => ent_28 D x⟩
  obtain ⟨u1, -⟩ := qC_aim (K := K) (S := S2) (by omega) haC
  obtain ⟨g, a, f5, u3, u4, u5⟩ := u1 to gl hu.2.2.1
  obtain ⟨i1, i2, i3, i4, i5, i6⟩ := aimR_inv _ _ _ hu.2.2.1
  refine ⟨rSt (aSt S2 g a (nI (mvN A H (fxd A P r g0) (ent D) k))) f5 (nI (rml A H (fxd A P r g0) (ent D) gl k).length), ?_, ?_, ?_, ?_, ?_, ?_, ?_, ?_⟩
  · unfold f_Tu_recall
    rw [m1, q_c, if_neg (show ¬ (1 : Int32) = 0 by decide), m2, q_c, m3, q_c]
    unfold f_Pl_recall
    rw [rd1 hoE, q_c, if_neg (show ¬ (1 : Int32) = 0 by decide), hdv, q_c, if_neg (show ¬ (1 : Int32) = 0 by decide), d1, q_c, if_neg (show ¬ nI 1 = 0 by decide), u3, q_c, if_neg (show ¬ (1 : Int32) = 0 by decide), q_c, if_neg (show ¬ (1 : Int32) = 0 by decide)]
  · rw [← c0, ← eS2, ← eS1]; rfl
  · rw [← eS2, ← eS1]; exact c1
  · refine ⟨⟨b3.1, b3.2.1, b3.2.2.1, hB⟩, ⟨hG.1, hN, hB0, by rw [hk0]; exact hff.2.2.2.2.2.2.2.2.2.2.2.2.2.2.2⟩, by rw [← eS2, ← eS1]; exact ⟨s1, s2, s3⟩, by rw [← eS2, ← eS1, hk0]; exact hnx.2.2, fun x => ent_28 D x, u4, fun c => ?_⟩
    by_cases y : gl c = 0
    · exact ⟨by omega, fun y2 => absurd y y2⟩
    · have := i3 c y
      exact ⟨by omega, fun _ => this.2.2.2.2.1⟩
  · rw [← eS2]; exact hS1
  · refine ⟨rfl, u5, ?_⟩
    have := rml_len (A := A) (H := H) (fx := fxd A P r g0) (e := ent D) (gl := gl) k
    have := b3.2.2.2.2.2.2.2
    omega
  · rw [← eS2]; exact d3
  · rw [← eS2]; rfl
