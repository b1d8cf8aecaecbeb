theorem qB_refX {K N m hh : Nat} {D E E0 : Nat → Int32} {fks : List Nat} {z : SS} {G G0 : CG} {S S0 : CS} {T : MS} (hK : 20000 ≤ K) (hN1 : 256 ≤ N) (hN : N ≤ 1024) (v : tv N m D E0 fks z hh G0 S0 T) (hH0 : agH D E0) (hcI : cIs N E G S) (hcS : ∃ t, cSc N t D E (mp0 D) fks z G S) (hH : agH D E) (hbl : S.v_Pl_blocks = nI (N / 2)) (etr : trE N D = .ok (fks, z)) (hp0 : T.v_parent 0 = 0) (a : Int32) : ∃ ans S' T', ans ≤ 15 ∧ f_Pl_refusal K G S a 0 = some (nI ans, S') ∧ f_Mo_refusal K T a = some (nI ans, T') ∧ (∀ t, ivA N t m D E G S T → ivA N t m D E G S' T') ∧ S'.v_Tp_used = S.v_Tp_used ∧ S'.v_Tb_clusters = S.v_Tb_clusters ∧ T'.v_thrown = T.v_thrown ∧ T'.v_k = T.v_k ∧ (coR S' = coR S ∧ S'.w_Dk_bytes = S.w_Dk_bytes ∧ S'.v_Dk_power = S.v_Dk_power ∧ S'.w_Tu_block = S.w_Tu_block) ∧ (ans = 0 → ∃ P, (P = 64 ∨ P = 128 ∨ P = 256) ∧ a = nI P ∧ plX N P D fks (sIt z) G S' T' ∧ T'.v_label = lbI (sLb z) ∧ T'.v_looked = T.v_looked ∧ nmOk (sIt z)) := by
  have ho := v.2.2.2.1
  have hff := hd_facts ho hN
  have hM := v.1.1.1
  obtain ⟨ec, ev', ey, ez, er, ea, ek⟩ := agH_n hH
  have hs : S.v_Tb_start = nI (ha D) := by rw [← ea]; exact hcI.2.2.2.2.2.2.2.2.1
  have hlk : f_Mo_look K T = some T := by
    unfold f_Mo_look
    rw [if_neg (show ¬ T.v_looked = 0 by rw [v.1.2.2]; decide)]
  have hT0 : f_Mo_refusal K T a = if nI (ha D % 2) = 1 then some (11, T) else if a = 64 then f_Mo_refusal_52 K a T else if a = 128 then f_Mo_refusal_52 K a T else if a = 256 then f_Mo_refusal_52 K a T else some (12, T) := by
    unfold f_Mo_refusal
    rw [hlk, q_b, v.1.2.1, if_pos (show nI 0 ≤ 0 by decide), hM.2.2.2.2.2.2.2.1, show (2 : Int32) = nI 2 from rfl, pk_rem (by omega) (by decide) (by decide)]
  by_cases hev : ha D % 2 = 0
  rotate_left
  · have h1 : ha D % 2 = 1 := by omega
    refine ⟨11, S, T, by decide, ?_, ?_, fun _ h => h, rfl, rfl, rfl, rfl, ⟨rfl, rfl, rfl, rfl⟩, fun y => by omega⟩
    · unfold f_Pl_refusal
      rw [if_pos rfl, hs, show (2 : Int32) = nI 2 from rfl, pk_rem (by omega) (by decide) (by decide), h1, if_neg (by decide)]
      rfl
    · rw [hT0, h1, if_pos (show nI 1 = 1 from rfl)]
      rfl
  have hne : ¬ nI (ha D % 2) = 1 := by rw [hev]; decide
  by_cases hP : a = 64 ∨ a = 128 ∨ a = 256
  · obtain ⟨P, hP2, rfl⟩ : ∃ P, (P = 64 ∨ P = 128 ∨ P = 256) ∧ a = nI P := by
      rcases hP with e | e | e
      · exact ⟨64, Or.inl rfl, e⟩
      · exact ⟨128, Or.inr (Or.inl rfl), e⟩
      · exact ⟨256, Or.inr (Or.inr rfl), e⟩
    have hT1 : f_Mo_refusal K T (nI P) = f_Mo_refusal_52 K (nI P) T := by
      rw [hT0, if_neg hne]
      by_cases g1 : nI P = 64
      · rw [if_pos g1]
      rw [if_neg g1]
      by_cases g2 : nI P = 128
      · rw [if_pos g2]
      rw [if_neg g2, if_pos (hP.resolve_left g1 |>.resolve_left g2)]
    rw [hT1]
    obtain ⟨ans, S', T', x1, x2, x3, x4, x5, x6, x7, x8, x9, x10⟩ := qB_refusalX hK hN1 hN v hH0 hcI hcS hH hev hP2 hbl etr hp0
    exact ⟨ans, S', T', x1, x2, x3, x4, x5, x6, x7, x8, x9, fun y => ⟨P, hP2, rfl, x10 y⟩⟩
  · refine ⟨12, S, T, by decide, ?_, ?_, fun _ h => h, rfl, rfl, rfl, rfl, ⟨rfl, rfl, rfl, rfl⟩, fun y => by omega⟩
    · unfold f_Pl_refusal f_Pl_divide f_Pl_refusal_40
      rw [if_pos rfl, hs, show (2 : Int32) = nI 2 from rfl, pk_rem (by omega) (by decide) (by decide), hev, if_pos (show nI 0 = 0 from rfl), if_neg (fun e => hP (Or.inl e)), if_neg (fun e => hP (Or.inr (Or.inl e))), if_neg (fun e => hP (Or.inr (Or.inr e))), q_c, if_pos rfl]
      rfl
    · rw [hT0, if_neg hne, if_neg (fun e => hP (Or.inl e)), if_neg (fun e => hP (Or.inr (Or.inl e))), if_neg (fun e => hP (Or.inr (Or.inr e)))]
      rfl
