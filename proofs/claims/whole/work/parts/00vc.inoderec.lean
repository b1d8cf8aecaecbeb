/-! The same of the record's inode. -/
theorem ql_record170 {K a b : Nat} {T : MS} {U : Nat → Int32} {n : Nat} {R : Rg} {l : List Nat} (hK : 100 ≤ K) (hl : l.length ≤ 512) (hlb : ∀ x ∈ l, x < 2 ^ 31) (hf : arr R.1 l) (hb : b < 512) : ∀ (d i k : Nat) (F : Nat → Int32), i + d = 256 → d < k → bkA F b (ptX l 12 Zd i) → ∃ F', f_Mo_inode_record_170 K k (nI l.length) (nI a) (nI b) (nI (12 + i)) (qS T F U n R) = f_Mo_inode_record_216 K (nI l.length) (nI a) (qS T F' U n R) ∧ bkA F' b (ptX l 12 Zd 256) ∧ ∀ q, (q < 1024 * b ∨ 1024 * b + 1024 ≤ q) → o1 F' q = o1 F q := by
  intro d
  induction d with
  | zero =>
    intro i k F e1 e2 hF
    obtain ⟨k, rfl⟩ : ∃ m, k = m + 1 := ⟨k - 1, by omega⟩
    obtain rfl : i = 256 := by omega
    refine ⟨F, ?_, hF, fun _ _ => rfl⟩
    rw [f_Mo_inode_record_170]
    by_cases g : l.length ≤ 12 + 256
    · rw [if_pos (nI_le g (by omega))]
    · rw [if_neg (nI_ge (by omega) (by omega)), if_pos (show (268 : Int32) ≤ nI (12 + 256) from nI_le (a := 268) (by omega) (by omega))]
  | succ d ih =>
    intro i k F e1 e2 hF
    obtain ⟨k, rfl⟩ : ∃ m, k = m + 1 := ⟨k - 1, by omega⟩
    rw [f_Mo_inode_record_170]
    by_cases g : l.length ≤ 12 + i
    · refine ⟨F, ?_, ?_, fun _ _ => rfl⟩
      · rw [if_pos (nI_le g (by omega))]
      · rw [← e1, ptX_stop g]; exact hF
    · have hv := hlb _ (getD_mem (l := l) (j := 12 + i) (by omega))
      obtain ⟨F', a1, a2, a3⟩ := ih (i + 1) k (st F (1024 * b + 4 * i) (l.getD (12 + i) 0) 4) (by omega) (by omega) (by rw [ptX, if_pos (show 12 + i < l.length by omega)]; exact bk_st hF)
      refine ⟨F', ?_, a2, fun q hq => by rw [a3 q hq, st_out (by omega)]⟩
      rw [if_neg (nI_ge (by omega) (by omega)), if_neg (show ¬ (268 : Int32) ≤ nI (12 + i) from nI_ge (b := 268) (by omega) (by omega)), q_g (q_in (by omega) (by decide)), nI_clamp (by omega), show (qS T F U n R).v_record (12 + i) = nI (l.getD (12 + i) 0) from hf _ (by omega), show nI (12 + i) - 12 = nI i from (pk_sub (a := 12 + i) (b := 12) (by omega)).trans (by rw [Nat.add_sub_cancel_left]), show (4 : Int32) * nI i = nI (4 * i) from pk_mul _ _, show (1024 : Int32) = nI 1024 from rfl, pk_mul, nI_add, ql_4 hK (by omega) (by omega), q_b, nI_1, q_l]
      exact a1
theorem ql_record251 {K b : Nat} {T : MS} {U : Nat → Int32} {n : Nat} {R : Rg} {l : List Nat} {y : Int32} (hK : 100 ≤ K) (hl : l.length ≤ 512) (hlb : ∀ x ∈ l, x < 2 ^ 31) (hf : arr R.1 l) (hb : b < 512) : ∀ (d i k : Nat) (F : Nat → Int32), 268 + i + d = l.length → 1 ≤ i → d < k → bkA F b (ptX l 268 Zd i) → ∃ F', f_Mo_inode_record_251 K k (nI l.length) y (nI b) (nI (268 + i)) (qS T F U n R) = some (qS T F' U n R) ∧ bkA F' b (ptX l 268 Zd 256) ∧ ∀ q, (q < 1024 * b ∨ 1024 * b + 1024 ≤ q) → o1 F' q = o1 F q := by
  intro d
  induction d with
  | zero =>
    intro i k F e1 e3 e2 hF
    obtain ⟨k, rfl⟩ : ∃ m, k = m + 1 := ⟨k - 1, by omega⟩
    refine ⟨F, ?_, ?_, fun _ _ => rfl⟩
    · rw [f_Mo_inode_record_251, if_pos (nI_le (by omega) (by omega))]
    · have := ptX_stop (l := l) (fr := 268) (i := i) (Z := Zd) (by omega) (256 - i)
      rw [show i + (256 - i) = 256 by omega] at this
      rw [this]
      exact hF
  | succ d ih =>
    intro i k F e1 e3 e2 hF
    obtain ⟨k, rfl⟩ : ∃ m, k = m + 1 := ⟨k - 1, by omega⟩
    have hv := hlb _ (getD_mem (l := l) (j := 268 + i) (by omega))
    have es : nI (268 + i) - 268 = nI i := (pk_sub (a := 268 + i) (b := 268) (by omega)).trans (by rw [Nat.add_sub_cancel_left])
    have em : nI i - nI i / 256 * 256 = nI i := by
      have e0 : i / 256 = 0 := Nat.div_eq_of_lt (by omega)
      rw [show (256 : Int32) = nI 256 from rfl, pk_div (by omega) (by decide) (by decide), e0, pk_mul, Nat.zero_mul, pk_sub (Nat.zero_le _), Nat.sub_zero]
    obtain ⟨F', a1, a2, a3⟩ := ih (i + 1) k (st F (1024 * b + 4 * i) (l.getD (268 + i) 0) 4) (by omega) (by omega) (by omega) (by rw [ptX, if_pos (show 268 + i < l.length by omega)]; exact bk_st hF)
    refine ⟨F', ?_, a2, fun q hq => by rw [a3 q hq, st_out (by omega)]⟩
    rw [f_Mo_inode_record_251, if_neg (nI_ge (by omega) (by omega)), es, em, if_neg (nI_ne0 (by omega) (by omega))]
    unfold f_Mo_inode_record_304
    rw [q_g (q_in (by omega) (by decide)), nI_clamp (by omega), show (qS T F U n R).v_record (268 + i) = nI (l.getD (268 + i) 0) from hf _ (by omega), es, em, show nI i * (4 : Int32) = nI (i * 4) from pk_mul _ _, show (1024 : Int32) = nI 1024 from rfl, pk_mul, nI_add, Nat.mul_comm i 4, ql_4 hK (by omega) (by omega), q_b, nI_1, q_l]
    exact a1
theorem ql_record99 {K a : Nat} {T : MS} {U : Nat → Int32} {n : Nat} {R : Rg} {l : List Nat} (hK : 100 ≤ K) (hl : l.length ≤ 512) (hlb : ∀ x ∈ l, x < 2 ^ 31) (hf : arr R.1 l) (ha0 : a + 128 ≤ 524288) {Z : Nat → Int32} : ∀ (d i k : Nat), i + d = 12 → d < k → f_Mo_inode_record_99 K k (nI l.length) (nI a) (nI i) (qS T (piX Z (a + 40) l i) U n R) = f_Mo_inode_record_140 K (nI l.length) (nI a) (qS T (piX Z (a + 40) l 12) U n R) := by
  intro d
  induction d with
  | zero =>
    intro i k e1 e2
    obtain ⟨k, rfl⟩ : ∃ m, k = m + 1 := ⟨k - 1, by omega⟩
    obtain rfl : i = 12 := by omega
    rw [f_Mo_inode_record_99]
    by_cases g : l.length ≤ 12
    · rw [if_pos (nI_le g (by omega))]
    · rw [if_neg (nI_ge (by omega) (by omega)), if_pos (show (12 : Int32) ≤ nI 12 from nI_le (a := 12) (by omega) (by omega))]
  | succ d ih =>
    intro i k e1 e2
    obtain ⟨k, rfl⟩ : ∃ m, k = m + 1 := ⟨k - 1, by omega⟩
    rw [f_Mo_inode_record_99]
    by_cases g : l.length ≤ i
    · rw [if_pos (nI_le g (by omega)), ← e1, piX_stop g]
    · have hv := hlb _ (getD_mem (l := l) (j := i) (by omega))
      have nx := ih (i + 1) k (by omega) (by omega)
      rw [piX, if_pos (show i < l.length by omega)] at nx
      rw [if_neg (nI_ge (by omega) (by omega)), if_neg (show ¬ (12 : Int32) ≤ nI i from nI_ge (b := 12) (by omega) (by omega)), q_g (q_in (by omega) (by decide)), nI_clamp (by omega), show (qS T (piX Z (a + 40) l i) U n R).v_record i = nI (l.getD i 0) from hf _ (by omega), show (4 : Int32) * nI i = nI (4 * i) from pk_mul _ _, show (40 : Int32) = nI 40 from rfl, nI_add, nI_add, ql_4 hK (by omega) (by omega), q_b, nI_1, q_l]
      exact nx
/-- the blocks of the rooms n .. n + c lie apart from q -/
theorem ql_record140 {K a : Nat} {T : MS} {F U : Nat → Int32} {n : Nat} {R : Rg} {rm l : List Nat} (hK : 1000 ≤ K) (hbd : bdA T rm) (hl : l.length ≤ 512) (hlb : ∀ x ∈ l, x < 2 ^ 31) (hf : arr R.1 l) (ha0 : a + 128 ≤ 524288) (hn : n + indN l.length ≤ rm.length) (hz : ∀ t, n ≤ t → t < n + indN l.length → bkA F (rm.getD t 0) Zd) (hd : ∀ t, t < rm.length → a + 128 ≤ 1024 * rm.getD t 0 ∨ 1024 * rm.getD t 0 + 1024 ≤ a) : ∃ F' U', f_Mo_inode_record_140 K (nI l.length) (nI a) (qS T F U n R) = some (qS T F' U' (n + indN l.length) R) ∧ (∀ q, a ≤ q → q < a + 128 → o1 F' q = o1 (riX F (a + 88) rm n (indN l.length) 2) q) ∧ agW F' (inW rm n l (indN l.length)) ∧ (∀ q, (q < a ∨ a + 128 ≤ q) → (∀ t, n ≤ t → t < n + indN l.length → farR rm t q) → o1 F' q = o1 F q) ∧ ∀ p, uM U p → uM U' (fun c => p c ∨ c ∈ rmF rm n (indN l.length)) := by
  have hrb : ∀ t, t < rm.length → rm.getD t 0 < 512 := fun t ht => hbd.2.2.1 _ (getD_mem ht)
  have hne : ∀ t s, t < rm.length → s < rm.length → t ≠ s → rm.getD t 0 ≠ rm.getD s 0 := fun t s ht hs h e => h (nd_getD hbd.2.2.2 ht hs e)
  have hrl := hbd.2.1
  unfold f_Mo_inode_record_140
  by_cases g1 : l.length ≤ 12
  · have hi : indN l.length = 0 := by unfold indN; rw [if_pos g1]
    rw [hi] at hn hz ⊢
    refine ⟨F, U, ?_, fun _ _ _ => rfl, fun w ww => ?_, fun _ _ _ => rfl, fun p hp c hc0 => ?_⟩
    · unfold f_Mo_inode_record_216
      rw [if_pos (show nI l.length ≤ 12 from nI_le (b := 12) g1 (by omega)), if_pos (show nI l.length ≤ 268 from nI_le (b := 268) (by omega) (by omega)), Nat.add_zero]
    · cases ww
    · rw [hp c hc0]
      exact b01_iff ⟨Or.inl, fun y => y.resolve_right (fun z => by cases z)⟩
  have h1 : 1 ≤ indN l.length := by unfold indN; rw [if_neg g1]; split <;> omega
  have r0 := hrb n (by omega)
  have d0 := hd n (by omega)
  have hF2 : bkA (st F (a + 88) (rm.getD n 0) 4) (rm.getD n 0) (ptX l 12 Zd 0) := bk_out (hz n (by omega) (by omega)) (by omega)
  obtain ⟨F3, a1, a2, a3⟩ := ql_record170 (K := K) (a := a) (T := T) (U := upd U (rm.getD n 0) (vp_nar .boolean 1)) (n := n + 1) (R := R) (by omega) hl hlb hf r0 256 0 K _ (by omega) (by omega) hF2
  have a1 : f_Mo_inode_record_170 K K (nI l.length) (nI a) (nI (rm.getD n 0)) 12 (qS T (st F (a + 88) (rm.getD n 0) 4) (upd U (rm.getD n 0) (vp_nar .boolean 1)) (n + 1) R) = _ := a1
  rw [if_neg (show ¬ nI l.length ≤ 12 from nI_ge (a := 12) (by omega) (by omega)), ql_build hbd (by omega), q_c, show (88 : Int32) = nI 88 from rfl, nI_add, ql_4 (by omega) (by omega) (by omega), q_b, a1]
  unfold f_Mo_inode_record_216
  by_cases g2 : l.length ≤ 268
  · have hi : indN l.length = 1 := by unfold indN; rw [if_neg g1, if_pos g2]
    rw [hi] at hn hz ⊢
    refine ⟨F3, _, by rw [if_pos (show nI l.length ≤ 268 from nI_le (b := 268) g2 (by omega))], fun q q1 q2 => ?_, ?_, fun q q1 q2 => ?_, fun p hp c hc0 => ?_⟩
    · rw [a3 q (by omega)]
      rfl
    · unfold inW
      rw [if_neg (by decide), if_pos (by decide)]
      refine agW_app (agW_blk a2) (fun w ww => ?_)
      cases ww
    · rw [a3 q (q2 n (by omega) (by omega)), st_out (by omega)]
    · rw [uM_upd hp c hc0]
      exact b01_iff ⟨fun y => y.imp id (fun z => by rw [z]; exact List.mem_cons_self), fun y => y.imp id (fun z => List.mem_singleton.mp z)⟩
  have hi : indN l.length = 3 := by
    unfold indN
    rw [if_neg g1, if_neg g2]
    omega
  rw [hi] at hn hz ⊢
  have r1 := hrb (n + 1) (by omega)
  have r2 := hrb (n + 2) (by omega)
  have d1 := hd (n + 1) (by omega)
  have d2 := hd (n + 2) (by omega)
  have n01 := hne n (n + 1) (by omega) (by omega) (by omega)
  have n02 := hne n (n + 2) (by omega) (by omega) (by omega)
  have n12 := hne (n + 1) (n + 2) (by omega) (by omega) (by omega)
  have v268 := hlb _ (getD_mem (l := l) (j := 268) (by omega))
  generalize hb0 : rm.getD n 0 = b0 at *
  generalize hb1 : rm.getD (n + 1) 0 = b1 at *
  generalize hb2 : rm.getD (n + 2) 0 = b2 at *
  have z1 := hz (n + 1) (by omega) (by omega)
  have z2 := hz (n + 2) (by omega) (by omega)
  rw [hb1] at z1
  rw [hb2] at z2
  have f1 : bkA F3 b1 Zd := fun j hj => by rw [a3 _ (by omega), st_out (by omega)]; exact z1 j hj
  have f2 : bkA F3 b2 Zd := fun j hj => by rw [a3 _ (by omega), st_out (by omega)]; exact z2 j hj
  have y0 : bkA (st (st (st F3 (a + 92) b1 4) (1024 * b1 + 0) b2 4) (1024 * b2 + 0) (l.getD 268 0) 4) b0 (ptX l 12 Zd 256) := bk_out (bk_out (bk_out a2 (by omega)) (by omega)) (by omega)
  have y1 : bkA (st (st (st F3 (a + 92) b1 4) (1024 * b1 + 0) b2 4) (1024 * b2 + 0) (l.getD 268 0) 4) b1 (st Zd 0 b2 4) := bk_out (bk_st (bk_out f1 (by omega))) (by omega)
  have y2 : bkA (st (st (st F3 (a + 92) b1 4) (1024 * b1 + 0) b2 4) (1024 * b2 + 0) (l.getD 268 0) 4) b2 (ptX l 268 Zd 1) := by
    rw [ptX, if_pos (show 268 + 0 < l.length by omega)]
    exact bk_st (bk_out (bk_out f2 (by omega)) (by omega))
  obtain ⟨K', eK⟩ : ∃ m, K = m + 1 := ⟨K - 1, by omega⟩
  obtain ⟨F4, c1, c2, c3⟩ := ql_record251 (K := K) (T := T) (U := upd (upd (upd U b0 (vp_nar .boolean 1)) b1 (vp_nar .boolean 1)) b2 (vp_nar .boolean 1)) (n := n + 1 + 1 + 1) (R := R) (y := nI b1) (by omega) hl hlb hf r2 (l.length - 269) 1 K' _ (by omega) (by omega) (by omega) y2
  refine ⟨F4, upd (upd (upd U b0 (vp_nar .boolean 1)) b1 (vp_nar .boolean 1)) b2 (vp_nar .boolean 1), ?_, fun q q1 q2 => ?_, ?_, fun q q1 q2 => ?_, fun p hp c hc0 => ?_⟩
  · have bl1 := ql_build (K := K) (T := T) (F := F3) (U := upd U b0 (vp_nar .boolean 1)) (n := n + 1) (R := R) hbd (by omega)
    rw [hb1] at bl1
    have hgo : f_Mo_inode_record_251 K K (nI l.length) (nI b1) 0 268 (qS T (st F3 (a + 92) b1 4) (upd (upd U b0 (vp_nar .boolean 1)) b1 (vp_nar .boolean 1)) (n + 1 + 1) R) = f_Mo_inode_record_251 K (K' + 1) (nI l.length) (nI b1) 0 268 (qS T (st F3 (a + 92) b1 4) (upd (upd U b0 (vp_nar .boolean 1)) b1 (vp_nar .boolean 1)) (n + 1 + 1) R) := by rw [← eK]
    rw [if_neg (show ¬ nI l.length ≤ 268 from nI_ge (a := 268) (by omega) (by omega)), bl1, q_c, show (92 : Int32) = nI 92 from rfl, nI_add, ql_4 (by omega) (by omega) (by omega), q_b, hgo, f_Mo_inode_record_251, if_neg (show ¬ nI l.length ≤ 268 from nI_ge (a := 268) (by omega) (by omega)), if_pos (show ((268 : Int32) - 268) - (268 - 268) / 256 * 256 = 0 by decide)]
    have bl2 := ql_build (K := K) (T := T) (F := st F3 (a + 92) b1 4) (U := upd (upd U b0 (vp_nar .boolean 1)) b1 (vp_nar .boolean 1)) (n := n + 1 + 1) (R := R) hbd (by omega)
    rw [show rm.getD (n + 1 + 1) 0 = b2 from hb2] at bl2
    rw [bl2, q_c, show ((1024 : Int32) * nI b1) + ((268 - 268) / 256) * 4 = nI (1024 * b1 + 0) by rw [show (1024 : Int32) = nI 1024 from rfl, pk_mul, show (((268 : Int32) - 268) / 256) * 4 = nI 0 by decide, nI_add], ql_4 (by omega) (by omega) (by omega), q_b]
    unfold f_Mo_inode_record_304
    have e268 : (268 : Int32).toNatClampNeg = 268 := by decide
    rw [q_g (show lf_in (268 : Int32) 512 by decide), e268, show (qS T (st (st F3 (a + 92) b1 4) (1024 * b1 + 0) b2 4) (upd (upd (upd U b0 (vp_nar .boolean 1)) b1 (vp_nar .boolean 1)) b2 (vp_nar .boolean 1)) (n + 1 + 1 + 1) R).v_record 268 = nI (l.getD 268 0) from hf _ (by omega), show ((1024 : Int32) * nI b2) + (((268 - 268) - (268 - 268) / 256 * 256) * 4) = nI (1024 * b2 + 0) by rw [show (1024 : Int32) = nI 1024 from rfl, pk_mul, show ((((268 : Int32) - 268) - (268 - 268) / 256 * 256) * 4) = nI 0 by decide, nI_add], ql_4 (by omega) (by omega) (by omega), q_b, show (268 : Int32) + 1 = nI (268 + 1) from rfl, q_l]
    exact c1
  · rw [c3 q (by omega), st_out (by omega), st_out (by omega)]
    show _ = o1 (riX F (a + 88) rm n 3 2) q
    have e5 : riX F (a + 88) rm n 3 2 = st (st F (a + 88) (rm.getD n 0) 4) (a + 92) (rm.getD (n + 1) 0) 4 := rfl
    rw [e5, hb0, hb1]
    refine st_ag ?_
    rw [a3 q (by omega)]
  · unfold inW
    rw [if_neg (by decide), if_neg (by decide), hb0, hb1]
    refine agW_app (agW_blk fun j hj => ?_) (agW_app (agW_blk fun j hj => ?_) (agW_app (L := blW (rm.getD (n + 2) 0) (ptX l (12 + (2 - 1) * 256) Zd 256)) (M := []) (agW_blk ?_) (fun w ww => by cases ww)))
    · rw [c3 _ (by omega)]; exact y0 j hj
    · rw [c3 _ (by omega)]
      show _ = o1 (st Zd (4 * 0) (rm.getD (n + (0 + 2)) 0) 4) j
      rw [show n + (0 + 2) = n + 2 by omega, hb2]
      exact y1 j hj
    · rw [hb2]; exact c2
  · have w0 := q2 n (by omega) (by omega)
    have w1 := q2 (n + 1) (by omega) (by omega)
    have w2 := q2 (n + 2) (by omega) (by omega)
    unfold farR at w0 w1 w2
    rw [hb0] at w0
    rw [hb1] at w1
    rw [hb2] at w2
    rw [c3 q w2, st_out (by omega), st_out (by omega), st_out (by omega), a3 q w0, st_out (by omega)]
  · rw [uM_upd (uM_upd (uM_upd hp)) c hc0]
    have e3 : rmF rm n 3 = [b0, b1, b2] := by
      rw [rmF, rmF, rmF, rmF, hb0, hb1, show n + 1 + 1 = n + 2 from rfl, hb2]
    rw [e3]
    refine b01_iff ⟨fun y => ?_, fun y => ?_⟩
    · rcases y with ((y | y) | y) | y
      · exact Or.inl y
      · rw [y]; exact Or.inr (by simp)
      · rw [y]; exact Or.inr (by simp)
      · rw [y]; exact Or.inr (by simp)
    · rcases y with y | y
      · exact Or.inl (Or.inl (Or.inl y))
      · rcases List.mem_cons.mp y with z | z
        · exact Or.inl (Or.inl (Or.inr z))
        · rcases List.mem_cons.mp z with z | z
          · exact Or.inl (Or.inr z)
          · exact Or.inr (List.mem_singleton.mp z)
