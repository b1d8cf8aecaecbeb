/-- a change of entries (none of a free cluster) and of bytes of HERE -/
theorem ivA_TF {N t m hh : Nat} {D E X Xe : Nat → Int32} {fks : List Nat} {z : SS} {G : CG} {S S' : CS} {T T' : MS} {l : List (Nat × Nat)} (F : (Nat → Int32) → Nat → Int32) (L : List Nat) (h : ivA N t m D E G S T) (e : trE N D = .ok (fks, z)) (v : tv N m D E fks z hh G S T) (hS : coE S' = coE S) (hT : coN T' = coN T) (hD : T'.v_disk = X) (hE : S'.w_Dk_bytes = Xe) (hl0 : T'.v_looked = 0) (hs : S'.v_Vt_stale = 1) (hl : lsOk N D l) (hcl : lsCl l) (hown : ∀ a ∈ l, own N D (sIt z) hh a.1) (hne0 : ∀ a ∈ l, ent D a.1 ≠ 0) (hF1 : ∀ X Y q, o1 X q = o1 Y q → o1 (F X) q = o1 (F Y) q) (hd : ∀ v, v < 16 * N → 512 * ha D ≤ 32 * v → v ∉ L → cpP (F D) (32 * v) → cpP D (32 * v)) (hdt : ∀ p, 512 * ha D ≤ p → p < 512 * N → ¬ own N D (sIt z) hh (clOf D p) → o1 (F D) p = o1 D p) (ha1 : ∀ q, q < 512 * ha D → o1 X q = o1 (lks D D l) q) (ha2 : ∀ q, q < 512 * ha D → o1 Xe q = o1 (lks D E l) q) (hb1 : ∀ q, 512 * ha D ≤ q → o1 X q = o1 (F D) q) (hb2 : ∀ q, 512 * ha D ≤ q → o1 Xe q = o1 (F E) q) (hm : m + L.length ≤ 4000) : ivA N t (m + L.length) X Xe G S' T' := by
  have hN := h.1.1.2.1
  have ho := v.2.2.2.1
  have hff := hd_facts ho hN
  have hag := h.1.2.2.2.2.2.2.1.1
  have hH := ((agF_A h.1.1.1 hN hag).2 ho).1
  have h0 : ∀ q, q < 512 * hv D → o1 X q = o1 D q := fun q hq => by
    have : hv D ≤ ha D := by rw [hff.2.2.2.2.2.2.1]; exact Nat.le_add_right _ _
    rw [ha1 q (by omega), lks_out ho hN (Or.inl hq) l D hl]
  have ht : ∀ q, 512 * hv D ≤ q → q < 512 * ha D → o1 X q = o1 (lks D D l) q := fun q _ hq => ha1 q hq
  refine ivA_tab L h e v hS hT hD hE hl0 hs hl hcl hown h0 ht (fun w w1 w2 w3 w4 => hd w w1 w2 w3 ((cpP_slq fun j hj => (hb1 _ (by omega)).symm).mpr w4)) (fun p q1 q2 q3 => by rw [hb1 p q1]; exact hdt p q1 q2 q3) (ag_tab hN hag ho hl h0 ht (fun q hq w => ?_) (fun x hx hx0 hx1 => ?_)) hm
  · by_cases y : q < 512 * ha D
    · rw [ha1 q y, ha2 q y]
      exact lks_ag ho hN l D E hl (fun q' g1 g2 => hH.2 q' g1 g2) q w
    · rw [hb1 q (by omega), hb2 q (by omega)]
      exact hF1 E D q w
  · exfalso
    rcases lkV_or (y := x) l (ent D x) with y | ⟨a, a1, a2, a3⟩
    · exact hx1 (y.trans hx0)
    · exact hne0 a a1 (by rw [a2]; exact hx0)
theorem qM_noFile {K N t m : Nat} {D E : Nat → Int32} {G : CG} {S : CS} {T T1 : MS} (hK : 20000 ≤ K) (hN : N ≤ 1024) (m1 : f_Mo_look K (T.u_v_thrown 0) = some T1) (p1 : T1.v_thrown = 0) (p2 : T1.v_turned = 0) (p3 : T1.v_fault = nI (flt N D)) (a b : Int32) : (flt N D ≠ 0 → f_Mo_noFile K T a b = some (1, T1.u_v_thrown 1)) ∧ (∀ fks z hh, flt N D = 0 → tv N m D E fks z hh G S T1 → ((a < 0 ∨ nI (hn fks z hh) ≤ a) → f_Mo_noFile K T a b = some (1, T1.u_v_thrown 2)) ∧ (∀ k, k < hn fks z hh → a = nI k → (isDr D (sIt z) (fkI fks hh + k) ∨ ¬ b = 0 → f_Mo_noFile K T a b = some (1, T1.u_v_thrown 3)) ∧ (¬ isDr D (sIt z) (fkI fks hh + k) → b = 0 → f_Mo_noFile K T a b = some (0, T1)))) := by
  have fl : ∀ (x c : Int32) (y : Prop), x = b01 y → ¬ c = 0 → f_Mo_fails K T1 x c = some (x, cif y (T1.u_v_thrown c) T1) := fun x c y e hc0 => by rw [e]; exact qM_fails T1 y c p1 hc0
  have f2 : f_Mo_fails K T1 1 2 = some (1, T1.u_v_thrown 2) := by rw [fl 1 2 True (b01_t trivial).symm (by decide), cif_t trivial]
  have f20 : f_Mo_fails K T1 0 2 = some (0, T1) := by rw [fl 0 2 False (b01_f (fun y => y)).symm (by decide), cif_f (fun y => y)]
  have f3 : f_Mo_fails K T1 1 3 = some (1, T1.u_v_thrown 3) := by rw [fl 1 3 True (b01_t trivial).symm (by decide), cif_t trivial]
  have f30 : f_Mo_fails K T1 0 3 = some (0, T1) := by rw [fl 0 3 False (b01_f (fun y => y)).symm (by decide), cif_f (fun y => y)]
  unfold f_Mo_noFile f_Mo_noFile_20 f_Mo_noFile_61
  rw [qM_fixed m1 p1 p2 p3, q_c]
  have g2 : f_Mo_noFile_25 K a b 1 T1 = some (1, T1.u_v_thrown 2) := by
    unfold f_Mo_noFile_25 f_Mo_noFile_61
    rw [f2, q_c, if_neg (by decide)]
  refine ⟨fun w => ?_, fun fks z hh w v => ?_⟩
  · rw [b01_t w, cif_t w, if_neg (by decide)]
  · rw [b01_f (fun y => y w), cif_f (fun y => y w), if_pos (show nI 0 = 0 from rfl)]
    have hmany := qM_many hK hN p2 v
    refine ⟨fun g => ?_, fun k hk e => ?_⟩
    · by_cases a0 : a < 0
      · rw [if_pos a0, g2]
      · rw [if_neg a0, hmany, q_c, if_neg (fun y => absurd y (Int32.not_lt.mpr (g.resolve_left a0))), g2]
    · subst e
      have hkl : hh < fks.length := by rw [v.1.1.2.2.2.2.2.1]; exact v.2.2.1.1
      obtain ⟨j1, j2, j3⟩ := hn_lt v.2.2.2.2.2.2.2.1 hkl hk
      have hnl := hn_le v.2.2.2.2.2.2.2.1 hkl
      have hl42 := v.2.2.2.2.2.1.1.2.1
      have hk31 : hn fks z hh < 2 ^ 31 := by clear v fl f2 f20 f3 f30 g2; omega
      have hit := qM_item hK hN v hk
      have hfo := qM_isFolder (K := K) v.1.1.1.1 hN v.1.1.2.1 v.2.2.2.2.2.1.1 j1
      rw [if_neg (nI_pos (Nat.lt_trans hk hk31)), hmany, q_c, if_pos (nI_lt hk hk31)]
      unfold f_Mo_noFile_25 f_Mo_noFile_49 f_Mo_noFile_54 f_Mo_noFile_61
      rw [f20, q_c, if_pos rfl, hit, q_c, hfo, q_c]
      refine ⟨fun g => ?_, fun g1 g3 => ?_⟩
      · by_cases d : isDr D (sIt z) (fkI fks hh + k)
        · rw [b01_t d, if_neg (show ¬ nI 1 = 0 by decide), f3, q_c, if_neg (by decide)]
        · rw [b01_f d, if_pos (show nI 0 = 0 from rfl), if_neg (g.resolve_left d), f3, q_c, if_neg (by decide)]
      · rw [b01_f g1, if_pos (show nI 0 = 0 from rfl), if_pos g3, f30, q_c, if_pos rfl]
