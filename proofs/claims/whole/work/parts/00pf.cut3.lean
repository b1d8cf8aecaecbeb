/-- the chain of a file in a sound tree -/
theorem file_ch {N m hh j : Nat} {D E : Nat → Int32} {fks : List Nat} {z : SS} {G : CG} {S : CS} {T : MS} (hN : N ≤ 1024) (v : tv N m D E fks z hh G S T) (h1 : 1 ≤ j) (hj : j < (sIt z).length) (hd : ¬ o1 D (isp (itr (sIt z) j) + 11) / 16 % 2 = 1) : o4 D (isp (itr (sIt z) j) + 28) < 2 ^ 31 ∧ (chI N D (sIt z) j).length ≤ 514 ∧ (chI N D (sIt z) j).length < N / 2 + 2 ∧ fc D (isp (itr (sIt z) j)) < 2 ^ 28 ∧ lnk N D (fc D (isp (itr (sIt z) j))) (chI N D (sIt z) j) ∧ (chI N D (sIt z) j).Nodup ∧ (chI N D (sIt z) j).length = (o4 D (isp (itr (sIt z) j) + 28) + 512 * hc D - 1) / (512 * hc D) := by
  have ho := v.2.2.2.1
  have hSI := v.2.2.2.2.2.2.1
  have hnd : ¬ isDr D (sIt z) j := fun y => y.elim (by omega) hd
  have hE := (hSI.2.2.1 j hj (Or.inl hnd)).2 hnd
  have hC := (hd_facts ho hN).1
  clear v hSI
  by_cases e4 : o4 D (isp (itr (sIt z) j) + 28) = 0
  · unfold entF at hE
    rw [if_neg hd, if_pos e4] at hE
    by_cases f : fc D (isp (itr (sIt z) j)) = 0
    · rw [if_pos f] at hE
      have hE : [] = chI N D (sIt z) j := Option.some.inj hE
      rw [← hE, f, e4]
      refine ⟨by decide, Nat.zero_le _, by show 0 < _; omega, by decide, Or.inl rfl, List.nodup_nil, ?_⟩
      show 0 = _
      rw [Nat.zero_add, Nat.div_eq_of_lt (by omega)]
    · rw [if_neg f] at hE; cases hE
  · obtain ⟨hs, hfo, hlen⟩ := entF_file hE hd e4
    obtain ⟨l1, l2, l3, l4, l5, l6⟩ := fo_all ho hN hfo
    exact ⟨hs, l3, l2, l4, l5, (fol_spec _ _ _ _ hfo).2.2.2.1, hlen⟩
theorem ceil_le {a b B : Nat} (hB : 0 < B) (h : a ≤ b) : (a + B - 1) / B ≤ (b + B - 1) / B := Nat.div_le_div_right (by omega)
theorem le_ceil {a B : Nat} (hB : 0 < B) : a ≤ (a + B - 1) / B * B := by
  have h1 := Nat.div_add_mod (a + B - 1) B
  have h2 := Nat.mod_lt (a + B - 1) hB
  rw [Nat.mul_comm] at h1
  omega
def cutE (D E : Nat → Int32) (p c : Nat) (ch : List Nat) : Nat → Int32 := if c = 0 then st (st E (p + 20) 0 2) (p + 26) 0 2 else if c < ch.length then lk D E (ch.getD (c - 1) 0) 268435455 else E
theorem qC_shorten {K N j p x : Nat} {D E : Nat → Int32} {mp : Nat → Nat} {its : List It} {G : CG} {S : CS} {ch : List Nat} (hK : 1000 ≤ K) (hN1 : 256 ≤ N) (hN : N ≤ 1024) (ho : hdOk N D) (hH : agH D E) (hcI : cIs N E G S) (hG : gOk N G) (hS : rcI D mp its S) (hl : its.length ≤ G.l_parent) (hj : j < its.length) (hsp : spI mp its j = p) (hp : p + 32 ≤ 512 * N) (hb28 : begI D its j < 2 ^ 28) (hcl : ∀ y ∈ ch, isCl N D y) (hlk : lnk N D (begI D its j) ch) (hlen : ch.length < N / 2 + 2) (hx : x < 2 ^ 24) (hc0 : (x + 512 * hc D - 1) / (512 * hc D) ≤ ch.length) : ∃ S', f_Ed_shorten K G S (nI j) (nI x) = some (nI (ch.length - (x + 512 * hc D - 1) / (512 * hc D)), S') ∧ S'.w_Dk_bytes = st (lks D (cutE D E p ((x + 512 * hc D - 1) / (512 * hc D)) ch) (frL (ch.drop ((x + 512 * hc D - 1) / (512 * hc D))))) (p + 28) x 4 ∧ coE S' = coE S ∧ S'.v_Vt_stale = S.v_Vt_stale := by
  have hf := hd_facts ho hN
  have hC := hf.1
  obtain ⟨ec, ev', ey, ez, er, ea, ek⟩ := agH_n hH
  obtain ⟨f, r1, r2⟩ := qC_road (K := K) hK ho hN hH hcI hlen hb28 hlk
  unfold f_Ed_shorten
  rw [qC_spot hG hS hl hj, q_c, qC_first hG hS hl hj, q_c, r1, q_c, q_l, hsp]
  obtain ⟨S2, eS2⟩ : ∃ S2, (S.u_w_Ed_road f).u_v_Ed_roadLength (nI ch.length) = S2 := ⟨_, rfl⟩
  have q1 : S2.v_Ed_roadLength = nI ch.length := by rw [← eS2]; rfl
  have q2 : ∀ q, q < ch.length → S2.w_Ed_road q = nI (ch.getD q 0) := by rw [← eS2]; exact r2
  have q3 : S2.v_Tb_before = nI (hv D) := by rw [← eS2, ← ev']; exact hcI.2.2.2.2.1
  have q4 : S2.v_Tb_copies = nI (hy D) := by rw [← eS2, ← ey]; exact hcI.2.2.2.2.2.1
  have q5 : S2.v_Tb_length = nI (hz D) := by rw [← eS2, ← ez]; exact hcI.2.2.2.2.2.2.1
  have q6 : S2.v_Tb_clusters = nI (hk N D) := by rw [← eS2, ← ek]; exact hcI.2.2.2.2.2.2.2.2.2.1
  have q7 : S2.v_Tb_cluster = nI (hc D) := by rw [← eS2, ← ec]; exact hcI.2.2.2.1
  have q8 : S2.w_Dk_bytes = E := by rw [← eS2]; exact hcI.2.1
  have q9 : coE S2 = coE S := by rw [← eS2]; rfl
  have q10 : S2.v_Vt_stale = S.v_Vt_stale := by rw [← eS2]; rfl
  rw [eS2]
  clear eS2
  have hcf : f_Ed_clustersFor K G S2 (nI x) = some (nI ((x + 512 * hc D - 1) / (512 * hc D)), S2) := by
    unfold f_Ed_clustersFor f_Tb_clusterBytes
    rw [q7, show (512 : Int32) = nI 512 from rfl, pk_mul, Nat.mul_comm (hc D), q_c, if_pos (show 1 ≤ nI (512 * hc D) from nI_le (a := 1) (by omega) (by omega)), q_g (nI_ne0 (by omega) (by omega)), nI_add, show (1 : Int32) = nI 1 from rfl, pk_sub (by omega), pk_div (by omega) (by omega) (by omega)]
  rw [hcf, q_c]
  generalize (x + 512 * hc D - 1) / (512 * hc D) = c at *
  -- what follows the first entry
  have tail : ∀ S3 : CS, S3.v_Ed_roadLength = nI ch.length → (∀ q, q < ch.length → S3.w_Ed_road q = nI (ch.getD q 0)) → S3.v_Tb_before = nI (hv D) → S3.v_Tb_copies = nI (hy D) → S3.v_Tb_length = nI (hz D) → S3.v_Tb_clusters = nI (hk N D) → coE S3 = coE S → S3.v_Vt_stale = S.v_Vt_stale → ∃ S', f_Ed_shorten_86 K G K (nI x) (nI p) (nI c) (nI c) S3 = some (nI (ch.length - c), S') ∧ S'.w_Dk_bytes = st (lks D S3.w_Dk_bytes (frL (ch.drop c))) (p + 28) x 4 ∧ coE S' = coE S ∧ S'.v_Vt_stale = S.v_Vt_stale := by
    intro S3 w1 w2 w3 w4 w5 w6 w7 w8
    obtain ⟨g, e⟩ := qC_cutL (K := K) hK hG.1 hN1 ho hN hcl hlen (nI x) (nI p) (nI c) (ch.length - c) c K S3 (by omega) (by omega) w1 w2 w3 w4 w5 w6
    rw [e]
    unfold shoF
    rw [show (28 : Int32) = nI 28 from rfl, nI_add, qC_put4W hG.1 hN1 hN (by omega) (by omega), q_b]
    refine ⟨((S3.u_w_Tb_next g).u_w_Dk_bytes (lks D S3.w_Dk_bytes (frL (ch.drop c)))).u_w_Dk_bytes (st (lks D S3.w_Dk_bytes (frL (ch.drop c))) (p + 28) x 4), ?_, rfl, w7, w8⟩
    have e9 : S3.v_Ed_roadLength - nI c = nI (ch.length - c) := by rw [w1, pk_sub hc0]
    rw [← e9]
    rfl
  have t71 : ∀ S3 : CS, S3.v_Ed_roadLength = nI ch.length → (∀ q, q < ch.length → S3.w_Ed_road q = nI (ch.getD q 0)) → S3.v_Tb_before = nI (hv D) → S3.v_Tb_copies = nI (hy D) → S3.v_Tb_length = nI (hz D) → S3.v_Tb_clusters = nI (hk N D) → coE S3 = coE S → S3.v_Vt_stale = S.v_Vt_stale → ∃ S', f_Ed_shorten_71 K G (nI x) (nI p) (nI c) S3 = some (nI (ch.length - c), S') ∧ S'.w_Dk_bytes = st (lks D (if c = 0 then st (st S3.w_Dk_bytes (p + 20) 0 2) (p + 26) 0 2 else S3.w_Dk_bytes) (frL (ch.drop c))) (p + 28) x 4 ∧ coE S' = coE S ∧ S'.v_Vt_stale = S.v_Vt_stale := by
    intro S3 w1 w2 w3 w4 w5 w6 w7 w8
    unfold f_Ed_shorten_71 f_Ed_shorten_82
    by_cases g : c = 0
    · rw [if_pos (show nI c = 0 by rw [g]; rfl), if_pos g]
      have hput : f_Ed_putFirstCluster K G S3 (nI p) 0 = some ((S3.u_w_Dk_bytes (st S3.w_Dk_bytes (p + 20) 0 2)).u_w_Dk_bytes (st (st S3.w_Dk_bytes (p + 20) 0 2) (p + 26) 0 2)) := by
        unfold f_Ed_putFirstCluster
        rw [show (0 : Int32) >>> ((16 : Int32) &&& 31) = nI 0 from by decide, show (20 : Int32) = nI 20 from rfl, show (26 : Int32) = nI 26 from rfl, nI_add, nI_add, qC_put2 hG.1 hN1 hN (by omega) (by decide), q_b, show (0 : Int32) = nI 0 from rfl, qC_put2 hG.1 hN1 hN (by omega) (by decide), q_b]
        rfl
      rw [hput, q_b]
      exact tail ((S3.u_w_Dk_bytes (st S3.w_Dk_bytes (p + 20) 0 2)).u_w_Dk_bytes (st (st S3.w_Dk_bytes (p + 20) 0 2) (p + 26) 0 2)) w1 w2 w3 w4 w5 w6 w7 w8
    · rw [if_neg (nI_ne0 (by omega) (by omega)), if_neg g]
      exact tail S3 w1 w2 w3 w4 w5 w6 w7 w8
  rw [q1]
  unfold cutE
  by_cases g : ch.length ≤ c
  · rw [if_pos (nI_le g (by omega))]
    have := t71 S2 q1 q2 q3 q4 q5 q6 q9 q10
    rw [q8] at this
    by_cases g0 : c = 0
    · rw [if_pos g0] at this ⊢; exact this
    · rw [if_neg g0] at this ⊢
      rw [if_neg (by omega)]; exact this
  rw [if_neg (nI_ge (by omega) (by omega))]
  by_cases g0 : c = 0
  · rw [if_pos (show nI c ≤ 0 by rw [g0]; decide)]
    have := t71 S2 q1 q2 q3 q4 q5 q6 q9 q10
    rw [q8, if_pos g0] at this
    rw [if_pos g0]; exact this
  have hi : c - 1 < ch.length := by omega
  have hmem : ch.getD (c - 1) 0 ∈ ch := by
    rw [List.getD_eq_getElem?_getD, List.getElem?_eq_getElem hi]
    exact List.getElem_mem hi
  have hlk2 := qC_lk (K := K) (S := S2) (x := ch.getD (c - 1) 0) (v := 268435455) hK hG.1 hN1 ho hN (by have := (hcl _ hmem).2; omega) (by decide) q3 q4 q5 q6
  rw [if_neg (show ¬ nI c ≤ 0 from nI_nle (by omega) (by omega)), show (1 : Int32) = nI 1 from rfl, pk_sub (by omega), hG.1, q_g (q_in (by omega) (by omega)), nI_clamp (by omega), q2 _ hi, show (268435455 : Int32) = nI 268435455 from rfl, hlk2, q_b]
  have := t71 ((S2.u_w_Tb_next (upd S2.w_Tb_next (ch.getD (c - 1) 0) (nI 268435455))).u_w_Dk_bytes (lk D S2.w_Dk_bytes (ch.getD (c - 1) 0) 268435455)) q1 q2 q3 q4 q5 q6 q9 q10
  rw [if_neg g0] at this ⊢
  rw [if_pos (by omega)]
  rw [show ((S2.u_w_Tb_next (upd S2.w_Tb_next (ch.getD (c - 1) 0) (nI 268435455))).u_w_Dk_bytes (lk D S2.w_Dk_bytes (ch.getD (c - 1) 0) 268435455)).w_Dk_bytes = lk D S2.w_Dk_bytes (ch.getD (c - 1) 0) 268435455 from rfl, q8] at this
  rw [q8]
  exact this
