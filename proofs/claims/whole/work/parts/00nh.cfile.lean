/-! A file's chain in the class. -/
theorem q_u64 {x : Nat} (h : x < 2 ^ 32) : (nI x).toInt64 &&& 4294967295 = lN x := by
  apply Int64.toBitVec_inj.mp
  rw [Int64.toBitVec_and]
  apply BitVec.eq_of_toNat_eq
  rw [BitVec.toNat_and]
  have e1 : (nI x).toInt64.toBitVec = (BitVec.ofNat 32 x).signExtend 64 := rfl
  have e2 : (4294967295 : Int64).toBitVec.toNat = 2 ^ 32 - 1 := rfl
  have e3 : (lN x).toBitVec.toNat = x := by
    show (BitVec.ofNat 64 x).toNat = x
    rw [BitVec.toNat_ofNat]
    omega
  rw [e1, e2, e3, Nat.and_two_pow_sub_one_eq_mod, BitVec.toNat_signExtend, BitVec.toNat_setWidth, BitVec.toNat_ofNat]
  split <;> omega
/-- size of a file, if its chain is so long -/
theorem qC_file {K N n p : Nat} {G : CG} {D E : Nat → Int32} {S : CS} {tk : List Nat} {its : List It} (hK : 1000 ≤ K) (hG : gOk N G) (hS : cIs N E G S) (hH : agH D E) (h : hdOk N D) (hN : N ≤ 1024) (htk : tkR N S.w_Rd_taken tk) (hct : S.v_Tr_count = nI (n + 1)) (hn : n < G.l_parent) (hb : S.w_Tr_bits n = nI (o1 D (p + 11))) (hf : S.w_Tr_first n = nI (fc D p)) : (∀ ch, entF N D p tk = some ch → ∃ f, f_Rd_followFile K G S (nI n) (lN (o4 D (p + 28))) = some (nI 1, ((S.u_w_Rd_taken (mk1 S.w_Rd_taken ch)).u_w_Rd_fileRoad f).u_w_Tr_size (if o1 D (p + 11) / 16 % 2 = 1 then S.w_Tr_size else if o4 D (p + 28) = 0 then S.w_Tr_size else upd S.w_Tr_size n (nI (o4 D (p + 28)))))) ∧ (entF N D p tk = none → ∃ a f, f_Rd_followFile K G S (nI n) (lN (o4 D (p + 28))) = some (nI 0, (S.u_w_Rd_taken a).u_w_Rd_fileRoad f)) := by
  have hGG := hG
  obtain ⟨g0, ⟨g1, g2, g3, -⟩, ga, gb, -⟩ := hGG
  have b11 := o1_lt D (p + 11)
  have b28 := o4_lt D (p + 28)
  have bf := fc_lt D p
  have hEk : hdOk N E := (agH_ok hH).mpr h
  have hfc := hd_facts h hN
  have same : ∀ x, x = S.w_Tr_size → ((S.u_w_Rd_taken (mk1 S.w_Rd_taken [])).u_w_Rd_fileRoad S.w_Rd_fileRoad).u_w_Tr_size x = S := fun x hx => by rw [mk1_nil, hx]; rfl
  have same2 : (S.u_w_Rd_taken S.w_Rd_taken).u_w_Rd_fileRoad S.w_Rd_fileRoad = S := rfl
  have hhas : f_Tr_has K G S (nI n) = some (nI 1, S) := by rw [qC_has hct (by omega) (by omega), b01_t (by omega)]
  have hfirst : f_Tr_firstOf K G S (nI n) = some (nI (fc D p), S) := by
    unfold f_Tr_firstOf
    rw [hhas, q_c, if_neg (by decide), q_g (q_in (by omega) (by omega)), nI_clamp (by omega), hf]
  have hdir : f_Tr_isDirectory K G S (nI n) = some (b01 (o1 D (p + 11) / 16 % 2 = 1), S) := by
    unfold f_Tr_isDirectory f_Tr_isDirectory_24
    rw [hhas, q_c, if_neg (by decide), q_g (q_in (by omega) (by omega)), nI_clamp (by omega), hb, show (16 : Int32) = nI 16 from rfl, q_and, q_and16 b11]
    by_cases w : o1 D (p + 11) / 16 % 2 = 1
    · rw [b01_t w, w, if_neg (by decide)]; rfl
    · rw [b01_f w, show o1 D (p + 11) / 16 % 2 = 0 by omega, if_pos (by decide)]; rfl
  unfold f_Rd_followFile f_Rd_followFile_83
  rw [hdir, q_c]
  by_cases w1 : o1 D (p + 11) / 16 % 2 = 1
  · have e : entF N D p tk = some [] := by unfold entF; rw [if_pos w1]
    rw [b01_t w1, if_neg (by decide), e]
    exact ⟨fun ch hcc => ⟨S.w_Rd_fileRoad, by cases hcc; rw [same _ (if_pos w1)]; rfl⟩, fun z => by cases z⟩
  rw [b01_f w1, if_pos (by decide)]
  have hz : lg_cmp (lN (o4 D (p + 28))) 0 = 0 ↔ o4 D (p + 28) = 0 := by
    rw [lg_cmp_eq]
    exact pk_lEQ (b := 0) (by omega) (by decide)
  by_cases w2 : o4 D (p + 28) = 0
  · rw [if_pos (hz.mpr w2), hfirst, q_c]
    by_cases w3 : fc D p = 0
    · have e : entF N D p tk = some [] := by unfold entF; rw [if_neg w1, if_pos w2, if_pos w3]
      rw [if_pos (by rw [w3]; rfl), e]
      exact ⟨fun ch hcc => ⟨S.w_Rd_fileRoad, by cases hcc; rw [same _ (by rw [if_neg w1, if_pos w2])]; rfl⟩, fun z => by cases z⟩
    · have e : entF N D p tk = none := by unfold entF; rw [if_neg w1, if_pos w2, if_neg w3]
      rw [if_neg (fun z : nI (fc D p) = 0 => w3 ((q_eqW (b := 0) bf (by decide)).mp z)), e]
      exact ⟨fun ch hcc => by (cases hcc), fun _ => ⟨S.w_Rd_taken, S.w_Rd_fileRoad, rfl⟩⟩
  rw [if_neg (fun z => w2 (hz.mp z))]
  have hcb : f_Tb_clusterBytes K G S = some (nI (512 * hc D), S) := by
    unfold f_Tb_clusterBytes
    rw [hS.2.2.2.1, (agH_n hH).1, show (512 : Int32) = nI 512 from rfl, pk_mul, Nat.mul_comm]
  have hcl : (nI (512 * hc D)).toInt64 = lN (512 * hc D) := nI_l (by omega)
  have hlt : ¬ lg_cmp (lN (512 * hc D)) 1 < 0 := by
    rw [lg_cmp_lt]
    intro w
    have := (pk_lLT (b := 1) (by omega) (by decide)).mp w
    omega
  have hne : ¬ lN (512 * hc D) = 0 := fun w => by
    have := (pk_lEQ (b := 0) (by omega) (by decide)).mp w
    omega
  rw [hcb, q_c, hcl, q_l, if_neg hlt, hfirst, q_c]
  have hdv : lN (o4 D (p + 28)) + lN (512 * hc D) - 1 = lN (o4 D (p + 28) + 512 * hc D - 1) := by
    rw [lN_add, show (1 : Int64) = lN 1 from rfl, lN_sub (by omega)]
  have hfE : ∀ x tk, fo N E x tk = fo N D x tk := fun x tk => agH_fol hH h hN _ x tk
  -- the chain of the file, or none
  have hfol : (∀ ch, fo N D (fc D p) tk = some ch → f_Rd_follow_RdfileRoad K G S (nI (fc D p)) = some (nI ch.length, chC_fileRoad S ch)) ∧ (fo N D (fc D p) tk = none → ∃ a b, f_Rd_follow_RdfileRoad K G S (nI (fc D p)) = some (-nI 1, (S.u_w_Rd_taken a).u_w_Rd_fileRoad b)) := by
    by_cases g : fc D p < 2 ^ 28
    · have := qV_follow_fileRoad (K := K) (x := fc D p) hK hS hEk hN htk g
      rw [hfE] at this
      exact this
    · have e : fo N D (fc D p) tk = none := by
        unfold fo
        rw [fol, if_neg (fun z => by have := z.1; omega)]
      refine ⟨fun ch hcc => (by rw [e] at hcc; cases hcc), fun _ => ⟨S.w_Rd_taken, S.w_Rd_fileRoad, ?_⟩⟩
      obtain ⟨k, rfl⟩ : ∃ m, K = m + 1 := ⟨K - 1, by omega⟩
      have hnx : f_Tb_nextOf (k + 1) G S (nI (fc D p)) = some (0, S) := by
        unfold f_Tb_nextOf
        have c1 : nI (fc D p) < 2 ↔ fc D p < 2 ∨ 2 ^ 31 ≤ fc D p := q_ltW bf (by decide)
        have hcls : S.v_Tb_clusters = nI (hk N D) := by rw [hS.2.2.2.2.2.2.2.2.2.1, (agH_n hH).2.2.2.2.2.2]
        by_cases w : 2 ^ 31 ≤ fc D p
        · rw [if_pos (c1.mpr (Or.inr w))]; rfl
        · rw [if_neg (fun z => by have := c1.mp z; omega), hcls, show (2 : Int32) = nI 2 from rfl, nI_add, if_pos (nI_le (by omega) (by omega))]; rfl
      unfold f_Rd_follow_RdfileRoad
      rw [f_Rd_follow_RdfileRoad_5]
      rw [if_neg (show ¬ nI (G.n / 2 + 2) ≤ 0 from nI_nle (by omega) (by omega)), hnx, q_c, if_pos rfl]
      rfl
  by_cases w3 : o4 D (p + 28) < 2 ^ 31
  · cases hfo : fo N D (fc D p) tk with
    | none =>
      have e : entF N D p tk = none := by unfold entF; rw [if_neg w1, if_neg w2, if_pos w3, hfo]
      obtain ⟨a, b, f3⟩ := hfol.2 hfo
      have hq : ¬ lg_cmp (-nI 1).toInt64 ((lN (o4 D (p + 28)) + lN (512 * hc D) - 1) / lN (512 * hc D)) = 0 := by
        rw [lg_cmp_eq, hdv, pk_lDiv (by omega) (by omega) (by omega)]
        intro w
        have w := congrArg Int64.toInt w
        rw [pk_lT (Nat.lt_of_le_of_lt (Nat.div_le_self _ _) (by omega)), show (-nI 1).toInt64.toInt = -1 from by decide] at w
        clear hfc hdv
        generalize (o4 D (p + 28) + 512 * hc D - 1) / (512 * hc D) = qq at w
        exact absurd w.symm (by have := Int.natCast_nonneg qq; omega)
      rw [e, f3, q_c, q_g hne, if_neg hq]
      exact ⟨fun ch hcc => by (cases hcc), fun _ => ⟨a, b, rfl⟩⟩
    | some ch =>
      have hlen := fo_len hfo hN
      have hq : lg_cmp (nI ch.length).toInt64 ((lN (o4 D (p + 28)) + lN (512 * hc D) - 1) / lN (512 * hc D)) = 0 ↔ ch.length = (o4 D (p + 28) + 512 * hc D - 1) / (512 * hc D) := by
        rw [lg_cmp_eq, hdv, pk_lDiv (by omega) (by omega) (by omega), nI_l (by omega), pk_lEQ (by omega) (Nat.lt_of_le_of_lt (Nat.div_le_self _ _) (by omega))]
      rw [hfol.1 ch hfo, q_c, q_g hne]
      by_cases g4 : ch.length = (o4 D (p + 28) + 512 * hc D - 1) / (512 * hc D)
      · have e : entF N D p tk = some ch := by
          unfold entF
          rw [if_neg w1, if_neg w2, if_pos w3, hfo]
          exact if_pos g4
        have hset : f_Tr_setSize K G (chC_fileRoad S ch) (nI n) (lN (o4 D (p + 28))).toInt32 = some ((chC_fileRoad S ch).u_w_Tr_size (upd S.w_Tr_size n (nI (o4 D (p + 28))))) := by
          unfold f_Tr_setSize
          rw [qC_has (S := chC_fileRoad S ch) (n := n + 1) hct (by omega) (by omega), b01_t (by omega), q_c, if_neg (by decide), q_g (q_in (by omega) (by omega)), q_l, nI_clamp (by omega), lN_i]
          rfl
        rw [if_pos (hq.mpr g4), hset, q_b, e]
        refine ⟨fun c hcc => ⟨mkL S.w_Rd_fileRoad ch, ?_⟩, fun z => by cases z⟩
        cases hcc
        rw [if_neg w1, if_neg w2]
        rfl
      · have e : entF N D p tk = none := by
          unfold entF
          rw [if_neg w1, if_neg w2, if_pos w3, hfo]
          exact if_neg g4
        rw [if_neg (fun z => g4 (hq.mp z)), e]
        exact ⟨fun c hcc => by (cases hcc), fun _ => ⟨mk1 S.w_Rd_taken ch, mkL S.w_Rd_fileRoad ch, rfl⟩⟩
  · have e : entF N D p tk = none := by unfold entF; rw [if_neg w1, if_neg w2, if_neg w3]
    rw [e]
    have big : 524288 ≤ (o4 D (p + 28) + 512 * hc D - 1) / (512 * hc D) := by
      have h1 : 2 ^ 31 / (512 * hc D) ≤ (o4 D (p + 28) + 512 * hc D - 1) / (512 * hc D) := Nat.div_le_div_right (by omega)
      have h3 : 524288 ≤ 2 ^ 31 / (512 * hc D) := by rcases hfc.1 with z | z | z <;> rw [z] <;> decide
      omega
    refine ⟨fun ch hcc => by (cases hcc), fun _ => ?_⟩
    cases hfo : fo N D (fc D p) tk with
    | none =>
      obtain ⟨a, b, f3⟩ := hfol.2 hfo
      have hq : ¬ lg_cmp (-nI 1).toInt64 ((lN (o4 D (p + 28)) + lN (512 * hc D) - 1) / lN (512 * hc D)) = 0 := by
        rw [lg_cmp_eq, hdv, pk_lDiv (by omega) (by omega) (by omega)]
        intro w
        have w := congrArg Int64.toInt w
        rw [pk_lT (Nat.lt_of_le_of_lt (Nat.div_le_self _ _) (by omega)), show (-nI 1).toInt64.toInt = -1 from by decide] at w
        clear hfc hdv
        generalize (o4 D (p + 28) + 512 * hc D - 1) / (512 * hc D) = qq at w
        exact absurd w.symm (by have := Int.natCast_nonneg qq; omega)
      rw [f3, q_c, q_g hne, if_neg hq]
      exact ⟨a, b, rfl⟩
    | some ch =>
      have hlen := fo_len hfo hN
      have hq : ¬ lg_cmp (nI ch.length).toInt64 ((lN (o4 D (p + 28)) + lN (512 * hc D) - 1) / lN (512 * hc D)) = 0 := by
        rw [lg_cmp_eq, hdv, pk_lDiv (by omega) (by omega) (by omega), nI_l (by omega), pk_lEQ (by omega) (Nat.lt_of_le_of_lt (Nat.div_le_self _ _) (by omega))]
        omega
      rw [hfol.1 ch hfo, q_c, q_g hne, if_neg hq]
      exact ⟨_, _, rfl⟩
