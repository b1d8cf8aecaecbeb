/-! The chains: the class. -/
theorem qV_nextOf {K N x : Nat} {G : CG} {D : Nat → Int32} {S : CS} (hS : cIs N D G S) (h : hdOk N D) (h2 : N ≤ 1024) (hx : x < 2 ^ 28) : f_Tb_nextOf K G S (nI x) = some (if isCl N D x then nI (ent D x) else nI 0, S) := by
  have F := hd_facts h h2
  rw [f_Tb_nextOf]
  simp only [ql]
  by_cases g1 : x < 2
  · rw [if_pos (nI_lt g1 (by decide)), if_neg (by unfold isCl; omega)]
    rfl
  rw [if_neg (nI_nlt (by omega) (by omega)), hS.2.2.2.2.2.2.2.2.2.1, nI_add]
  by_cases g2 : hk N D + 2 ≤ x
  · rw [if_pos (nI_le g2 (by omega)), if_neg (by unfold isCl; omega)]
    rfl
  rw [if_neg (nI_ge (by omega) (by omega)), if_neg (by rw [hS.1]; exact nI_ge (by omega) (by omega)), q_g (by rw [hS.1]; exact q_in (by omega) (by omega)), nI_clamp (by omega), hS.2.2.2.2.2.2.2.2.2.2 x (by omega), if_pos (by omega), if_pos (by unfold isCl; omega)]
def chC_road (S : CS) (vs : List Nat) : CS := (S.u_w_Rd_taken (mk1 S.w_Rd_taken vs)).u_w_Rd_road (mkL S.w_Rd_road vs)
theorem qV_fol5_road {K N : Nat} {G : CG} {D : Nat → Int32} {S : CS} {tk : List Nat} (hS : cIs N D G S) (h : hdOk N D) (h2 : N ≤ 1024) (hk0 : tkR N S.w_Rd_taken tk) : ∀ (d k x : Nat) (vs : List Nat), x < 2 ^ 28 → vs.length + d = N / 2 + 2 → d < k → (∀ ch, fol N D d x (vs ++ tk) = some ch → f_Rd_follow_Rdroad_5 K G k (nI x) (nI vs.length) (chC_road S vs) = some (nI (vs.length + ch.length), chC_road S (vs ++ ch))) ∧ (fol N D d x (vs ++ tk) = none → ∃ a b, f_Rd_follow_Rdroad_5 K G k (nI x) (nI vs.length) (chC_road S vs) = some (-nI 1, (S.u_w_Rd_taken a).u_w_Rd_road b)) := by
  have F := hd_facts h h2
  intro d
  induction d with
  | zero =>
    intro k x vs hx hv hk
    obtain ⟨k, rfl⟩ : ∃ m, k = m + 1 := ⟨k - 1, by omega⟩
    refine ⟨fun ch q => (by cases q), fun _ => ?_⟩
    rw [f_Rd_follow_Rdroad_5]
    simp only [ql]
    rw [if_pos (by rw [hS.1]; exact nI_le (by omega) (by omega))]
    exact ⟨_, _, rfl⟩
  | succ d ih =>
    intro k x vs hx hv hk
    obtain ⟨k, rfl⟩ : ∃ m, k = m + 1 := ⟨k - 1, by omega⟩
    have hS1 : cIs N D G (chC_road S vs) := hS
    rw [f_Rd_follow_Rdroad_5]
    simp only [ql]
    rw [if_neg (by rw [hS.1]; exact nI_ge (by omega) (by omega)), qV_nextOf hS1 h h2 hx, q_c]
    have l28 := ent_lt D x
    by_cases c1 : isCl N D x
    · rw [if_pos c1]
      have c1' := c1
      unfold isCl at c1'
      by_cases c3 : ent D x = 0
      · have ef : fol N D (d + 1) x (vs ++ tk) = none := by rw [fol, if_neg (fun z => z.2.2 c3)]
        rw [ef, if_pos (by rw [c3])]
        exact ⟨fun ch q => (by cases q), fun _ => ⟨_, _, rfl⟩⟩
      rw [if_neg (fun z => c3 ((nI_eq (b := 0) (by omega) (by decide)).mp z)), if_neg (by rw [hS.1]; exact nI_ge (by omega) (by omega))]
      have ein : lf_in (nI x) (G.n / 2 + 2) := by rw [hS.1]; exact q_in (by omega) (by omega)
      have einv : lf_in (nI vs.length) (G.n / 2 + 2) := by rw [hS.1]; exact q_in (by omega) (by omega)
      rw [q_g ein]
      simp only [nI_clamp (show x < 2 ^ 31 by omega)]
      have e1 : (chC_road S vs).w_Rd_taken x = if x ∈ vs ++ tk then nI 1 else nI 0 := by
        show mk1 S.w_Rd_taken vs x = _
        unfold mk1
        by_cases g : x ∈ vs
        · rw [if_pos g, if_pos (List.mem_append_left _ g)]
        · rw [if_neg g, hk0 x (by omega)]
          exact q_iC (by rw [List.mem_append]; exact ⟨Or.inr, fun z => z.resolve_left g⟩)
      by_cases c2 : x ∈ vs ++ tk
      · have ef : fol N D (d + 1) x (vs ++ tk) = none := by rw [fol, if_neg (fun z => z.2.1 c2)]
        rw [ef, if_neg (fun z => n10 (by rw [e1, if_pos c2] at z; exact z))]
        exact ⟨fun ch q => (by cases q), fun _ => ⟨_, _, rfl⟩⟩
      · rw [if_pos (by rw [e1, if_neg c2]), q_g ein, q_l, q_g einv, q_l, nI_clamp (show vs.length < 2 ^ 31 by omega)]
        have hst : ((chC_road S vs).u_w_Rd_taken (upd (chC_road S vs).w_Rd_taken x (vp_nar .boolean (nI 1)))).u_w_Rd_road (upd ((chC_road S vs).u_w_Rd_taken (upd (chC_road S vs).w_Rd_taken x (vp_nar .boolean (nI 1)))).w_Rd_road vs.length (nI x)) = chC_road S (vs ++ [x]) := by
          show (S.u_w_Rd_taken (upd (mk1 S.w_Rd_taken vs) x (nI 1))).u_w_Rd_road (upd (mkL S.w_Rd_road vs) vs.length (nI x)) = _
          rw [mk1_add, mkL_add]
          rfl
        have ev : vs.length + 1 = (vs ++ [x]).length := by rw [List.length_append]; rfl
        rw [hst, qV_nextOf (S := chC_road S (vs ++ [x])) hS h h2 hx, q_c, if_pos c1]
        by_cases c4 : 268435448 ≤ ent D x
        · have ef : fol N D (d + 1) x (vs ++ tk) = some [x] := by rw [fol, if_pos (show isCl N D x ∧ x ∉ vs ++ tk ∧ ent D x ≠ 0 from ⟨c1, c2, c3⟩), if_pos c4]
          rw [ef, if_neg (nI_nlt c4 (by omega)), nI_add]
          exact ⟨fun ch q => by cases q; rfl, fun q => by cases q⟩
        · have ef : fol N D (d + 1) x (vs ++ tk) = (fol N D d (ent D x) (x :: (vs ++ tk))).map (List.cons x) := by rw [fol, if_pos (show isCl N D x ∧ x ∉ vs ++ tk ∧ ent D x ≠ 0 from ⟨c1, c2, c3⟩), if_neg c4]
          rw [ef, if_pos (nI_lt (by omega) (by omega)), q_l, nI_add, ev]
          have I := ih k (ent D x) (vs ++ [x]) l28 (by rw [← ev]; omega) (by omega)
          have em : fol N D d (ent D x) (vs ++ [x] ++ tk) = fol N D d (ent D x) (x :: (vs ++ tk)) := fol_mem _ _ _ _ (fun y => by simp [or_left_comm])
          rw [em] at I
          cases hq : fol N D d (ent D x) (x :: (vs ++ tk)) with
          | none =>
            refine ⟨fun ch q => (by cases q), fun _ => I.2 hq⟩
          | some ch =>
            refine ⟨fun ch' q => ?_, fun q => by cases q⟩
            cases q
            rw [I.1 ch hq, List.append_assoc, ← ev, List.length_cons, show vs.length + 1 + ch.length = vs.length + (ch.length + 1) by omega]
            rfl
    · have ef : fol N D (d + 1) x (vs ++ tk) = none := by rw [fol, if_neg (fun z => c1 z.1)]
      rw [ef, if_neg c1, if_pos rfl]
      exact ⟨fun ch q => (by cases q), fun _ => ⟨_, _, rfl⟩⟩
theorem qV_follow_road {K N x : Nat} {G : CG} {D : Nat → Int32} {S : CS} {tk : List Nat} (hK : 1000 ≤ K) (hS : cIs N D G S) (h : hdOk N D) (h2 : N ≤ 1024) (hk0 : tkR N S.w_Rd_taken tk) (hx : x < 2 ^ 28) : (∀ ch, fo N D x tk = some ch → f_Rd_follow_Rdroad K G S (nI x) = some (nI ch.length, chC_road S ch)) ∧ (fo N D x tk = none → ∃ a b, f_Rd_follow_Rdroad K G S (nI x) = some (-nI 1, (S.u_w_Rd_taken a).u_w_Rd_road b)) := by
  have e0 : f_Rd_follow_Rdroad K G S (nI x) = f_Rd_follow_Rdroad_5 K G K (nI x) (nI ([] : List Nat).length) (chC_road S []) := by
    unfold chC_road
    rw [mk1_nil, mkL_nil]
    rfl
  have I := qV_fol5_road (K := K) hS h h2 hk0 (N / 2 + 2) K x [] hx (by simp only [List.length_nil]; omega) (by omega)
  rw [e0]
  simp only [List.nil_append, List.length_nil, Nat.zero_add] at I
  exact I
def chC_fileRoad (S : CS) (vs : List Nat) : CS := (S.u_w_Rd_taken (mk1 S.w_Rd_taken vs)).u_w_Rd_fileRoad (mkL S.w_Rd_fileRoad vs)
theorem qV_fol5_fileRoad {K N : Nat} {G : CG} {D : Nat → Int32} {S : CS} {tk : List Nat} (hS : cIs N D G S) (h : hdOk N D) (h2 : N ≤ 1024) (hk0 : tkR N S.w_Rd_taken tk) : ∀ (d k x : Nat) (vs : List Nat), x < 2 ^ 28 → vs.length + d = N / 2 + 2 → d < k → (∀ ch, fol N D d x (vs ++ tk) = some ch → f_Rd_follow_RdfileRoad_5 K G k (nI x) (nI vs.length) (chC_fileRoad S vs) = some (nI (vs.length + ch.length), chC_fileRoad S (vs ++ ch))) ∧ (fol N D d x (vs ++ tk) = none → ∃ a b, f_Rd_follow_RdfileRoad_5 K G k (nI x) (nI vs.length) (chC_fileRoad S vs) = some (-nI 1, (S.u_w_Rd_taken a).u_w_Rd_fileRoad b)) := by
  have F := hd_facts h h2
  intro d
  induction d with
  | zero =>
    intro k x vs hx hv hk
    obtain ⟨k, rfl⟩ : ∃ m, k = m + 1 := ⟨k - 1, by omega⟩
    refine ⟨fun ch q => (by cases q), fun _ => ?_⟩
    rw [f_Rd_follow_RdfileRoad_5]
    simp only [ql]
    rw [if_pos (by rw [hS.1]; exact nI_le (by omega) (by omega))]
    exact ⟨_, _, rfl⟩
  | succ d ih =>
    intro k x vs hx hv hk
    obtain ⟨k, rfl⟩ : ∃ m, k = m + 1 := ⟨k - 1, by omega⟩
    have hS1 : cIs N D G (chC_fileRoad S vs) := hS
    rw [f_Rd_follow_RdfileRoad_5]
    simp only [ql]
    rw [if_neg (by rw [hS.1]; exact nI_ge (by omega) (by omega)), qV_nextOf hS1 h h2 hx, q_c]
    have l28 := ent_lt D x
    by_cases c1 : isCl N D x
    · rw [if_pos c1]
      have c1' := c1
      unfold isCl at c1'
      by_cases c3 : ent D x = 0
      · have ef : fol N D (d + 1) x (vs ++ tk) = none := by rw [fol, if_neg (fun z => z.2.2 c3)]
        rw [ef, if_pos (by rw [c3])]
        exact ⟨fun ch q => (by cases q), fun _ => ⟨_, _, rfl⟩⟩
      rw [if_neg (fun z => c3 ((nI_eq (b := 0) (by omega) (by decide)).mp z)), if_neg (by rw [hS.1]; exact nI_ge (by omega) (by omega))]
      have ein : lf_in (nI x) (G.n / 2 + 2) := by rw [hS.1]; exact q_in (by omega) (by omega)
      have einv : lf_in (nI vs.length) (G.n / 2 + 2) := by rw [hS.1]; exact q_in (by omega) (by omega)
      rw [q_g ein]
      simp only [nI_clamp (show x < 2 ^ 31 by omega)]
      have e1 : (chC_fileRoad S vs).w_Rd_taken x = if x ∈ vs ++ tk then nI 1 else nI 0 := by
        show mk1 S.w_Rd_taken vs x = _
        unfold mk1
        by_cases g : x ∈ vs
        · rw [if_pos g, if_pos (List.mem_append_left _ g)]
        · rw [if_neg g, hk0 x (by omega)]
          exact q_iC (by rw [List.mem_append]; exact ⟨Or.inr, fun z => z.resolve_left g⟩)
      by_cases c2 : x ∈ vs ++ tk
      · have ef : fol N D (d + 1) x (vs ++ tk) = none := by rw [fol, if_neg (fun z => z.2.1 c2)]
        rw [ef, if_neg (fun z => n10 (by rw [e1, if_pos c2] at z; exact z))]
        exact ⟨fun ch q => (by cases q), fun _ => ⟨_, _, rfl⟩⟩
      · rw [if_pos (by rw [e1, if_neg c2]), q_g ein, q_l, q_g einv, q_l, nI_clamp (show vs.length < 2 ^ 31 by omega)]
        have hst : ((chC_fileRoad S vs).u_w_Rd_taken (upd (chC_fileRoad S vs).w_Rd_taken x (vp_nar .boolean (nI 1)))).u_w_Rd_fileRoad (upd ((chC_fileRoad S vs).u_w_Rd_taken (upd (chC_fileRoad S vs).w_Rd_taken x (vp_nar .boolean (nI 1)))).w_Rd_fileRoad vs.length (nI x)) = chC_fileRoad S (vs ++ [x]) := by
          show (S.u_w_Rd_taken (upd (mk1 S.w_Rd_taken vs) x (nI 1))).u_w_Rd_fileRoad (upd (mkL S.w_Rd_fileRoad vs) vs.length (nI x)) = _
          rw [mk1_add, mkL_add]
          rfl
        have ev : vs.length + 1 = (vs ++ [x]).length := by rw [List.length_append]; rfl
        rw [hst, qV_nextOf (S := chC_fileRoad S (vs ++ [x])) hS h h2 hx, q_c, if_pos c1]
        by_cases c4 : 268435448 ≤ ent D x
        · have ef : fol N D (d + 1) x (vs ++ tk) = some [x] := by rw [fol, if_pos (show isCl N D x ∧ x ∉ vs ++ tk ∧ ent D x ≠ 0 from ⟨c1, c2, c3⟩), if_pos c4]
          rw [ef, if_neg (nI_nlt c4 (by omega)), nI_add]
          exact ⟨fun ch q => by cases q; rfl, fun q => by cases q⟩
        · have ef : fol N D (d + 1) x (vs ++ tk) = (fol N D d (ent D x) (x :: (vs ++ tk))).map (List.cons x) := by rw [fol, if_pos (show isCl N D x ∧ x ∉ vs ++ tk ∧ ent D x ≠ 0 from ⟨c1, c2, c3⟩), if_neg c4]
          rw [ef, if_pos (nI_lt (by omega) (by omega)), q_l, nI_add, ev]
          have I := ih k (ent D x) (vs ++ [x]) l28 (by rw [← ev]; omega) (by omega)
          have em : fol N D d (ent D x) (vs ++ [x] ++ tk) = fol N D d (ent D x) (x :: (vs ++ tk)) := fol_mem _ _ _ _ (fun y => by simp [or_left_comm])
          rw [em] at I
          cases hq : fol N D d (ent D x) (x :: (vs ++ tk)) with
          | none =>
            refine ⟨fun ch q => (by cases q), fun _ => I.2 hq⟩
          | some ch =>
            refine ⟨fun ch' q => ?_, fun q => by cases q⟩
            cases q
            rw [I.1 ch hq, List.append_assoc, ← ev, List.length_cons, show vs.length + 1 + ch.length = vs.length + (ch.length + 1) by omega]
            rfl
    · have ef : fol N D (d + 1) x (vs ++ tk) = none := by rw [fol, if_neg (fun z => c1 z.1)]
      rw [ef, if_neg c1, if_pos rfl]
      exact ⟨fun ch q => (by cases q), fun _ => ⟨_, _, rfl⟩⟩
theorem qV_follow_fileRoad {K N x : Nat} {G : CG} {D : Nat → Int32} {S : CS} {tk : List Nat} (hK : 1000 ≤ K) (hS : cIs N D G S) (h : hdOk N D) (h2 : N ≤ 1024) (hk0 : tkR N S.w_Rd_taken tk) (hx : x < 2 ^ 28) : (∀ ch, fo N D x tk = some ch → f_Rd_follow_RdfileRoad K G S (nI x) = some (nI ch.length, chC_fileRoad S ch)) ∧ (fo N D x tk = none → ∃ a b, f_Rd_follow_RdfileRoad K G S (nI x) = some (-nI 1, (S.u_w_Rd_taken a).u_w_Rd_fileRoad b)) := by
  have e0 : f_Rd_follow_RdfileRoad K G S (nI x) = f_Rd_follow_RdfileRoad_5 K G K (nI x) (nI ([] : List Nat).length) (chC_fileRoad S []) := by
    unfold chC_fileRoad
    rw [mk1_nil, mkL_nil]
    rfl
  have I := qV_fol5_fileRoad (K := K) hS h h2 hk0 (N / 2 + 2) K x [] hx (by simp only [List.length_nil]; omega) (by omega)
  rw [e0]
  simp only [List.nil_append, List.length_nil, Nat.zero_add] at I
  exact I
