/-- what format asks for: what stands in every phase -/
abbrev baF (N t : Nat) (G : CG) (S : CS) (T : MS) : Prop := (256 ≤ N ∧ N ≤ 1024 ∧ N % 2 = 0) ∧ (T.v_n = nI N ∧ S.v_Dk_sectors = nI N ∧ S.v_Pl_blocks = nI (N / 2)) ∧ iv_tape S T ∧ flR S T ∧ T.v_parent 0 = 0 ∧ gOk N G ∧ gLim t G
theorem baF_A {N t m : Nat} {D E : Nat → Int32} {G : CG} {S : CS} {T : MS} (h : ivA N t m D E G S T) : baF N t G S T := ⟨h.1.1, h.1.2.1, h.1.2.2.2.1, h.1.2.2.2.2.1, h.1.2.2.2.2.2.2.2.2, h.2.1.1, h.2.1.2⟩
theorem lks_num {A B : Nat → Int32} (h1 : hv B = hv A) (h2 : hz B = hz A) (h3 : hy B = hy A) : ∀ (l : List (Nat × Nat)) (X : Nat → Int32), lks B X l = lks A X l := by
  intro l
  induction l with
  | nil => intro X; rfl
  | cons a l ih =>
    intro X
    rw [lks, lks, ih]
    unfold lk
    rw [h1, h2, h3]
theorem fL_ag {X Y : Nat → Int32} {p : Nat} {s s' : Nat → Int32} {q : Nat} (h : o1 X q = o1 Y q) (hs : ∀ i, i < 11 → ub (s i) = ub (s' i)) : o1 (fL X p s) q = o1 (fL Y p s') q := by
  unfold fL
  exact st_ag (st_ag (wrN_ag h 11 hs))
theorem fL_out {X : Nat → Int32} {p : Nat} {s : Nat → Int32} {q : Nat} (h : q < p ∨ p + 32 ≤ q) : o1 (fL X p s) q = o1 X q := by
  unfold fL
  rw [st_out (by omega), st_out (by omega)]
  refine wrN_out 11 fun j hj e => ?_
  have e : p + j = q := e
  omega
/-- a new volume -/
theorem ivA_new {N t C V Y Z I n : Nat} {A B : Nat → Int32} {tM tC : Nat → Int32} {G : CG} {S : CS} {T : MS} (hN1 : 256 ≤ N) (hN : N ≤ 1024) (hN2 : N % 2 = 0) (hC : C = 2 ∨ C = 4 ∨ C = 8) (hV1 : 8 ≤ V) (hV : V ≤ 64) (hY : Y = 1 ∨ Y = 2) (hZ1 : 1 ≤ Z) (hZ : Z ≤ 32) (hzP : zP N C V Y Z) (hA : ∀ q, q < 512 * N → o1 A q = fM N C V Y Z I q) (hB : ∀ q, q < 512 * N → o1 B q = fM N C V Y Z I q) (hn : ∀ i, i < n → tC i = tM i) (hD : T.v_disk = (if n = 0 then lks A A [(0, 268435448), (1, 268435455), (2, 268435455)] else fL (lks A A [(0, 268435448), (1, 268435455), (2, 268435455)]) (plC A 2) (lbM tM n))) (hE : S.w_Dk_bytes = (if n = 0 then lks B B [(0, 268435448), (1, 268435455), (2, 268435455)] else fL (lks B B [(0, 268435448), (1, 268435455), (2, 268435455)]) (plC B 2) (lbD tC n))) (h1 : T.v_n = nI N ∧ S.v_Dk_sectors = nI N ∧ S.v_Pl_blocks = nI (N / 2)) (h2 : iv_tape S T) (h3 : flR S T) (h4 : T.v_parent 0 = 0) (h5 : gOk N G ∧ gLim t G) (h6 : T.v_turned = 0) (h7 : T.v_ran = 0) (h8 : T.v_here = 0) (h9 : T.v_looked = 0) (h10 : S.v_Vt_hasRun = 0) (h11 : S.v_Vt_stale = 1) (h12 : S.v_Vt_here = 0) : ivA N t 51 T.v_disk S.w_Dk_bytes G S T ∧ hk N B = hk N A := by
  have hYZ := ar_z hY hZ
  obtain ⟨ho, a1, a2, a3, a4, a5, a6⟩ := fM_hd hN1 hN hC hV1 hV hY hZ1 hZ hzP (fun q hq => hA q (by omega))
  obtain ⟨hoB, b1, b2, b3, b4, b5, b6⟩ := fM_hd hN1 hN hC hV1 hV hY hZ1 hZ hzP (fun q hq => hB q (by omega))
  have hf := hd_facts ho hN
  have hkk : hk N B = hk N A := by unfold hk; rw [a1, b1, a6, b6]
  have hpl : plC A 2 = 512 * ha A := by unfold plC; rw [Nat.sub_self, Nat.zero_mul, Nat.add_zero]
  have hplB : plC B 2 = plC A 2 := by unfold plC; rw [a1, b1, a6, b6]
  have hlo : lsOk N A [(0, 268435448), (1, 268435455), (2, 268435455)] := fun a ha1 => by
    rcases List.mem_cons.mp ha1 with e | ha1
    · rw [e]; exact ⟨by show 0 < _; omega, by show 268435448 < _; decide⟩
    rcases List.mem_cons.mp ha1 with e | ha1
    · rw [e]; exact ⟨by show 1 < _; omega, by show 268435455 < _; decide⟩
    · rw [List.mem_singleton.mp ha1]; exact ⟨by show 2 < _; omega, by show 268435455 < _; decide⟩
  have hlm : ∀ a ∈ [((0 : Nat), 268435448), (1, 268435455), (2, 268435455)], a.1 ≤ 2 := fun a ha1 => by
    rcases List.mem_cons.mp ha1 with e | ha1
    · rw [e]; decide
    rcases List.mem_cons.mp ha1 with e | ha1
    · rw [e]; decide
    · rw [List.mem_singleton.mp ha1]; decide
  generalize [((0 : Nat), 268435448), (1, 268435455), (2, 268435455)] = l at *
  have hAB : ∀ q, q < 512 * N → o1 B q = o1 A q := fun q hq => (hB q hq).trans (hA q hq).symm
  have hag0 : ∀ q, q < 512 * N → o1 (lks B B l) q = o1 (lks A A l) q := fun q hq => by
    rw [lks_num (A := A) (B := B) (by rw [a2, b2]) (by rw [a4, b4]) (by rw [a3, b3])]
    exact lks_ag ho hN l A B hlo (fun q' g1 g2 => hAB q' (by omega)) q (hAB q hq)
  have hag : ∀ q, q < 512 * N → o1 S.w_Dk_bytes q = o1 T.v_disk q := fun q hq => by
    rw [hE, hD]
    by_cases w : n = 0
    · rw [if_pos w, if_pos w]; exact hag0 q hq
    · rw [if_neg w, if_neg w, hplB]
      refine fL_ag (hag0 q hq) fun i _ => ?_
      unfold lbM lbD
      by_cases g : i < n
      · rw [if_pos g, if_pos g, hn i g]; exact ub_tp _
      · rw [if_neg g, if_neg g]; decide
  have hlow : ∀ q, (q < plC A 2 ∨ plC A 2 + 32 ≤ q) → o1 T.v_disk q = o1 (lks A A l) q := fun q hq => by
    rw [hD]
    by_cases w : n = 0
    · rw [if_pos w]
    · rw [if_neg w]; exact fL_out hq
  have h27 : sec27 T.v_disk := fun p hp => by
    rw [hlow p (by omega), lks_out ho hN (Or.inl (by omega)) l A hlo, hA p (by omega)]
    unfold fM
    rw [if_neg (by omega), if_neg (by omega), if_neg (by omega)]
  have hz0 : capOk N (fun _ => 0) 0 := fun vs _ hvs => by
    cases vs with
    | nil => exact Nat.le_refl _
    | cons v vs =>
      exfalso
      exact nocap_of (X := fun _ => 0) (p := 32 * v) (Or.inl (by show o4 (fun _ => 0) (32 * v) % 2 ^ 28 ≤ 600; have e : o4 (fun _ => (0 : Int32)) (32 * v) = 0 := rfl; rw [e]; decide)) (hvs v List.mem_cons_self).2
  have hcp : capOk N T.v_disk 51 := by
    have := capOk_more (D' := T.v_disk) (List.range 32 ++ ((List.range 16).map (fun i => i + 96) ++ [16 * V, 16 * (V + Z), 16 * (V + Y * Z)])) hz0 (fun v v1 v2 v3 => ?_)
    · have hl : (List.range 32 ++ ((List.range 16).map (fun i => i + 96) ++ [16 * V, 16 * (V + Z), 16 * (V + Y * Z)])).length = 51 := by
        rw [List.length_append, List.length_append, List.length_map, List.length_range, List.length_range]
        rfl
      rw [hl] at this
      exact this
    · rw [List.mem_append, List.mem_append] at v2
      have n1 : ¬ v < 32 := fun w => v2 (Or.inl (List.mem_range.mpr w))
      have n2 : ¬ (96 ≤ v ∧ v < 112) := fun w => v2 (Or.inr (Or.inl (List.mem_map.mpr ⟨v - 96, List.mem_range.mpr (by omega), by omega⟩)))
      have n3 : v ≠ 16 * V := fun w => v2 (Or.inr (Or.inr (by rw [w]; exact List.mem_cons_self)))
      have n4 : v ≠ 16 * (V + Z) := fun w => v2 (Or.inr (Or.inr (by rw [w]; exact List.mem_cons_of_mem _ List.mem_cons_self)))
      have n5 : v ≠ 16 * (V + Y * Z) := fun w => v2 (Or.inr (Or.inr (by rw [w]; exact List.mem_cons_of_mem _ (List.mem_cons_of_mem _ List.mem_cons_self))))
      refine (cpP_slq fun j hj => ?_).mp v3
      rw [hlow _ (by rw [hpl, a6]; omega), lks_same l A (fun a ha1 t ht => ?_), hA _ (by omega)]
      · unfold fM
        rw [if_neg (by omega), if_neg (by omega), if_neg (by omega)]
        rfl
      · have := hlm a ha1
        rw [a2, a4]
        rw [a3] at ht
        unfold pE
        rcases Nat.lt_or_ge t 1 with w | w
        · obtain rfl : t = 0 := by omega
          rw [Nat.zero_mul]
          omega
        · obtain rfl : t = 1 := by omega
          rw [Nat.one_mul]
          omega
  exact ⟨⟨⟨⟨hN1, hN, hN2⟩, h1, ⟨rfl, rfl⟩, h2, h3, ⟨h6, by rw [h10, h7], Or.inl h7⟩, ⟨Or.inl hag, h27, hcp, by decide⟩, heR_0 hN1 hN hcp (by decide) h12 h8, h4⟩, h5, Or.inl h9, Or.inl h11⟩, hkk⟩
theorem opF_format {K N t : Nat} {G : CG} {S : CS} {T : MS} (hK : 600000 ≤ K) (h : baF N t G S T) (p0 p1 p2 p3 : Int32) : (f_Vt_format K G S p0 p1 p2 p3 = some (.error 0, G.made 1 6, S.u_v_Tp_used 0) ∧ ∃ y, f_Mo_format K T p0 p1 p2 p3 = some (y, ((T.u_v_thrown 0).u_v_taped 0).u_v_thrown 1)) ∨ (∃ r S' T' D' E', f_Vt_format K G S p0 p1 p2 p3 = some (.ok r, G, S') ∧ f_Mo_format K T p0 p1 p2 p3 = some (r, T') ∧ T'.v_thrown = nI 0 ∧ ivA N t 51 D' E' G S' T' ∧ S'.v_Tp_used = nI 0) := by
  obtain ⟨⟨hN1, hN, hN2⟩, ⟨t1, t2, t3⟩, ⟨n, n1, n2, n3, n4, n5, n6⟩, hfl, hp0, hG, hL⟩ := h
  obtain ⟨T0, eT⟩ : ∃ T0, (T.u_v_thrown 0).u_v_taped 0 = T0 := ⟨_, rfl⟩
  have ht0 : T0.v_thrown = 0 := by rw [← eT]; rfl
  have htn : T0.v_n = nI N := by rw [← eT]; exact t1
  have htt : T0.v_tape = T.v_tape := by rw [← eT]; rfl
  have hbad : ∀ a b c d e, f_Mo_format_204 K a b c d e e 1 T0 = some (0, T0.u_v_thrown 1) ∧ (∀ z, f_Mo_format_204 K a b c d e z 1 T0 = some (0, T0.u_v_thrown 1)) := by
    have key : ∀ a b c d e z, f_Mo_format_204 K a b c d e z 1 T0 = some (0, T0.u_v_thrown 1) := fun a b c d e z => by
      have := qM_fails (K := K) T0 True 1 ht0 (by decide)
      rw [b01_t trivial, cif_t trivial] at this
      have this : f_Mo_fails K T0 1 1 = some (1, T0.u_v_thrown 1) := this
      unfold f_Mo_format_204
      rw [this, q_c, if_neg (by decide)]
    exact fun a b c d e => ⟨key a b c d e e, fun z => key a b c d e z⟩
  have hbad0 : ∀ a b c d e, f_Mo_format_124 K a b c d e 0 T0 = some (0, T0.u_v_thrown 1) := fun a b c d e => by
    obtain ⟨k, hk0⟩ : ∃ m, K = m + 1 := ⟨K - 1, by omega⟩
    have : f_Mo_format_127 K K a b c d e 0 1 T0 = some (0, T0.u_v_thrown 1) := by
      have g : ∀ k, f_Mo_format_127 K (k + 1) a b c d e 0 1 T0 = some (0, T0.u_v_thrown 1) := fun k => by
        rw [f_Mo_format_127, if_pos rfl]
        unfold f_Mo_format_186 f_Mo_format_199
        rw [if_pos rfl]
        exact (hbad a b c d e).2 1
      have := g k
      rw [← hk0] at this
      exact this
    exact this
  have h71z : ∀ a b c d e i, f_Mo_format_71 K K a b c d e 0 i T0 = some (0, T0.u_v_thrown 1) := fun a b c d e i => by
    obtain ⟨k, hk0⟩ : ∃ m, K = m + 1 := ⟨K - 1, by omega⟩
    have g := fun k => qM_f71z (K := K) (k := k) (T := T0) a b c d e i
    have := g k
    rw [← hk0] at this
    rw [this]
    exact hbad0 a b c d e
  have hf0 := qM_f0 (K := K) (T := T) p0 p1 p2 p3
  rw [n3, eT] at hf0
  unfold f_Mo_format_66 at hf0
  have hC1 : f_Tp_useUp K G S = some (nI n, S.u_v_Tp_used 0) := by
    unfold f_Tp_useUp
    rw [q_l, q_l, n2]
  have hVt : f_Vt_format K G S p0 p1 p2 p3 = lf_c (f_Tb_leastLength K G (S.u_v_Tp_used 0) p0 p1 p2) fun r_2 S_2 => if r_2 = ((-1)) then (f_Vt_format_39 K G S_2) else (lf_c (f_Tp_isLabel K G S_2 (nI n)) fun r_4 S_4 => if r_4 = 0 then (f_Vt_format_39 K G S_4) else fmC K G p0 p1 p2 r_2 p3 (nI n) S_4) := by
    unfold f_Vt_format
    rw [hC1, q_c]
    rfl
  rw [hVt, eT]
  unfold f_Tb_leastLength f_Vt_format_39
  by_cases fm : fmP p0 p1 p2
  rotate_left
  · refine Or.inl ⟨?_, 0, ?_⟩
    · rw [show f_Tb_leastLength_3 K G K p0 p1 p2 1 (S.u_v_Tp_used 0) = some (-1, S.u_v_Tp_used 0) from qC_lenN fm 32 1 K rfl (Nat.le_refl _) (by omega), q_c, if_pos rfl]
    · rw [hf0, b01_f (fun y => fm y.1)]
      exact h71z _ _ _ _ _ _
  obtain ⟨C, hC, eC⟩ : ∃ C, (C = 2 ∨ C = 4 ∨ C = 8) ∧ p0 = nI C := by
    rcases fm.1 with e | e | e
    · exact ⟨2, Or.inl rfl, e⟩
    · exact ⟨4, Or.inr (Or.inl rfl), e⟩
    · exact ⟨8, Or.inr (Or.inr rfl), e⟩
  obtain ⟨Y, hY, eY⟩ : ∃ Y, (Y = 1 ∨ Y = 2) ∧ p2 = nI Y := by
    rcases fm.2.2 with e | e
    · exact ⟨1, Or.inl rfl, e⟩
    · exact ⟨2, Or.inr rfl, e⟩
  obtain ⟨V, hV1, hV, eV⟩ : ∃ V, 8 ≤ V ∧ V ≤ 64 ∧ p1 = nI V := by
    obtain ⟨V, v1, v2⟩ := nI_of (x := p1) (fun y => fm.2.1.1 (Int32.lt_trans y (by decide)))
    have g1 := fm.2.1.1
    have g2 := fm.2.1.2
    rw [v2] at g1 g2
    refine ⟨V, Nat.le_of_not_lt fun y => g1 (nI_lt (b := 8) y (by decide)), Nat.le_of_not_lt fun y => g2 (nI_lt (a := 64) y v1), v2⟩
  obtain ⟨I, hI, eI⟩ := nI_all p3
  obtain ⟨z0, z1, z2, z3, z4⟩ := z_ex (zP N C V Y)
  have hlen := qC_len (K := K) (G := G) (S := S.u_v_Tp_used 0) hN1 hN hC hV hY eC eV eY fm t2 z2 z3 z4 (z0 - 1) 1 K (by omega) (by omega) (by omega)
  have hlab := qC_isLabel (K := K) (G := G) (S := S.u_v_Tp_used 0) (n := n) (tp := S.w_Tp_bytes) (by omega) n1 rfl
  rw [show f_Tb_leastLength_3 K G K p0 p1 p2 1 (S.u_v_Tp_used 0) = _ from hlen, q_c, hlab, q_c]
  have elb : (n ≤ 11 ∧ ∀ j, j < n → lbB S.w_Tp_bytes j) ↔ (n ≤ 11 ∧ ∀ j, j < n → lbB T.v_tape j) := by
    refine and_congr Iff.rfl (forall_congr' fun j => forall_congr' fun hj => ?_)
    unfold lbB
    rw [n4 j hj]
  have hL0 : ¬ (n ≤ 11 ∧ ∀ j, j < n → lbB T.v_tape j) → f_Mo_format K T p0 p1 p2 p3 = some (0, T0.u_v_thrown 1) := fun w => by
    rw [hf0]
    by_cases g : n ≤ 11
    · rw [b01_t ⟨fm, show ¬ 11 < nI n from nI_nlt (a := 11) g (by omega)⟩, show (0 : Int32) = nI 0 from rfl, qM_f71 n1 htt p0 p1 p2 p3 n 0 K (by omega) (by omega), b01_f (fun y => w ⟨g, fun j hj => y j (Nat.zero_le _) hj⟩)]
      exact hbad0 _ _ _ _ _
    · rw [b01_f (fun y => y.2 (show 11 < nI n from nI_lt (a := 11) (by omega) (by omega)))]
      exact h71z _ _ _ _ _ _
  have hL1 : (n ≤ 11 ∧ ∀ j, j < n → lbB T.v_tape j) → f_Mo_format K T p0 p1 p2 p3 = f_Mo_format_186 K (nI C) (nI V) (nI Y) p3 (nI n) (nI 1) (nI z0) T0 := fun w => by
    rw [hf0, b01_t ⟨fm, show ¬ 11 < nI n from nI_nlt (a := 11) w.1 (by omega)⟩, show (0 : Int32) = nI 0 from rfl, qM_f71 n1 htt p0 p1 p2 p3 n 0 K (by omega) (by omega), b01_t (fun j _ hj => w.2 j hj), eC, eV, eY]
    exact qM_f127 hN1 hN hC hV hY htn p3 (nI n) z2 z3 z4 (z0 - 1) 1 K (by omega) (by omega) (by omega)
  by_cases hz32 : z0 ≤ 32
  rotate_left
  · refine Or.inl ⟨by rw [if_neg hz32, if_pos rfl], 0, ?_⟩
    by_cases w : n ≤ 11 ∧ ∀ j, j < n → lbB T.v_tape j
    · rw [hL1 w]
      unfold f_Mo_format_186 f_Mo_format_199
      rw [if_neg (show ¬ nI 1 = 0 by decide), if_neg (show ¬ nI z0 ≤ 32 from nI_ge (a := 32) (by omega) (by omega))]
      exact (hbad _ _ _ _ _).2 _
    · exact hL0 w
  rw [if_pos hz32, if_neg (show ¬ nI z0 = -1 by
    rw [show (-1 : Int32) = nI 4294967295 by decide]
    intro y
    have := congrArg Int32.toBitVec y
    rw [q_bv, q_bv] at this
    have := congrArg BitVec.toNat this
    rw [BitVec.toNat_ofNat, BitVec.toNat_ofNat] at this
    omega)]
  by_cases w : n ≤ 11 ∧ ∀ j, j < n → lbB T.v_tape j
  rotate_left
  · exact Or.inl ⟨by rw [b01_f (fun y => w (elb.mp y)), if_pos (show nI 0 = 0 from rfl)], 0, hL0 w⟩
  rw [b01_t (elb.mpr w), if_neg (show ¬ nI 1 = 0 by decide), hL1 w, eI]
  unfold f_Mo_format_186 f_Mo_format_204
  have hf00 := qM_fails (K := K) T0 False 1 ht0 (by decide)
  rw [b01_f (fun y => y), cif_f (fun y => y)] at hf00
  have hf00 : f_Mo_fails K T0 0 1 = some (0, T0) := hf00
  rw [if_neg (show ¬ nI 1 = 0 by decide), if_pos (show nI z0 ≤ 32 from nI_le (b := 32) hz32 (by decide)), hf00, q_c, if_pos rfl, eC, eV, eY]
  obtain ⟨A, T', m1, m2, m3, m4, m5, m6, m7, m8⟩ := qM_fmt (K := K) (n := n) (T := T0) hK hN1 hN hC hV1 hV hY z1 hz32 hI (z4 hz32) rfl htn htt n1
  obtain ⟨B, S', c1, c2, c3, c4, c5, c6, c7⟩ := qC_fmt (K := K) (n := n) (G := G) (S := S.u_v_Tp_used 0) (tp := S.w_Tp_bytes) (by omega) hG.1 hN1 hN hC hV1 hV hY z1 hz32 hI (z4 hz32) rfl t2 rfl n1
  have q1 : T'.v_n = T.v_n := (congrArg (fun x => x.1) m4).trans (by rw [← eT]; rfl)
  have q3 : T'.v_ready = T.v_ready := (congrArg (fun x => x.2.2.1) m4).trans (by rw [← eT]; rfl)
  have q4 : T'.v_taped = 0 := (congrArg (fun x => x.2.2.2.1) m4).trans (by rw [← eT]; rfl)
  have q5 : T'.v_told = T.v_told := (congrArg (fun x => x.2.2.2.2.1) m4).trans (by rw [← eT]; rfl)
  have q6 : T'.v_fed = T.v_fed := (congrArg (fun x => x.2.2.2.2.2.1) m4).trans (by rw [← eT]; rfl)
  have q7 : T'.v_parent 0 = T.v_parent 0 := (congrArg (fun x => x.2.2.2.2.2.2.1) m4).trans (by rw [← eT]; rfl)
  have q8 : T'.v_thrown = 0 := (congrArg (fun x => x.2.2.2.2.2.2.2) m4).trans (by rw [← eT]; rfl)
  have s1 : S'.w_Vt_failAsks = S.w_Vt_failAsks := congrArg (fun x => x.1.1) c4
  have s2 : S'.w_Vt_failWrites = S.w_Vt_failWrites := congrArg (fun x => x.1.2.1) c4
  have s3 : S'.v_Vt_fails = S.v_Vt_fails := congrArg (fun x => x.1.2.2) c4
  have s4 : S'.v_Dk_sectors = S.v_Dk_sectors := congrArg (fun x => x.2.1.1) c4
  have s5 : S'.v_Pl_blocks = S.v_Pl_blocks := congrArg (fun x => x.2.1.2) c4
  have s7 : S'.w_Tp_ready = S.w_Tp_ready := congrArg (fun x => x.2.2.2.1) c4
  have s8 : S'.v_Tp_used = 0 := congrArg (fun x => x.2.2.2.2) c4
  have hfl' : flR S' T' := by
    unfold flR at *
    rw [s3, q5, s1, s2]
    exact hfl
  have htp' : iv_tape S' T' := ⟨0, by omega, s8, q4, fun j hj => absurd hj (Nat.not_lt_zero _), fun j hj => by rw [s7, q6, q3]; exact n5 j hj, fun j hj => by rw [s7]; exact n6 j hj⟩
  obtain ⟨iv, hkk⟩ := ivA_new (t := t) (tM := T.v_tape) (tC := S.w_Tp_bytes) (G := G) (S := S') (T := T') hN1 hN hN2 hC hV1 hV hY z1 hz32 (z4 hz32) m1 c1 n4 m3 c3 ⟨q1.trans t1, s4.trans t2, s5.trans t3⟩ htp' hfl' (q7.trans hp0) ⟨hG, hL⟩ m5 m6 m7 m8 c5 c6 c7
  rw [c2, m2, hkk]
  exact Or.inr ⟨_, _, _, _, _, rfl, rfl, q8, iv, s8⟩
