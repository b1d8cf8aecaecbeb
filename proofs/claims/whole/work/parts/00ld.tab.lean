/-! The tables, and the chains of clusters. -/
abbrev mIs (N : Nat) (D : Nat → Int32) (T : MS) : Prop := T.v_disk = D ∧ T.v_n = nI N ∧ T.v_c = nI (hc D) ∧ T.v_v = nI (hv D) ∧ T.v_y = nI (hy D) ∧ T.v_z = nI (hz D) ∧ T.v_root = nI (hr D) ∧ T.v_a = nI (ha D) ∧ T.v_k = nI (hk N D)
abbrev cIs (N : Nat) (D : Nat → Int32) (G : CG) (S : CS) : Prop := G.n = N ∧ S.w_Dk_bytes = D ∧ S.v_Dk_sectors = nI N ∧ S.v_Tb_cluster = nI (hc D) ∧ S.v_Tb_before = nI (hv D) ∧ S.v_Tb_copies = nI (hy D) ∧ S.v_Tb_length = nI (hz D) ∧ S.v_Tb_root = nI (hr D) ∧ S.v_Tb_start = nI (ha D) ∧ S.v_Tb_clusters = nI (hk N D) ∧ ∀ x, x < N / 2 + 2 → S.w_Tb_next x = if x < hk N D + 2 then nI (ent D x) else 0
abbrev tabX (N : Nat) (D : Nat → Int32) (x : Nat) : Prop := (x = 0 → ent D x = 268435448) ∧ (x = 1 → ent D x = 268435455) ∧ (2 ≤ x → ent D x = 0 ∨ isCl N D (ent D x) ∨ 268435448 ≤ ent D x) ∧ (hy D = 2 → o4 D (512 * hv D + 4 * x) = o4 D (512 * (hv D + hz D) + 4 * x))
def tabOk (N : Nat) (D : Nat → Int32) : Prop := ∀ x, x < hk N D + 2 → tabX N D x
theorem hd_tab {N : Nat} {D : Nat → Int32} (h : hdOk N D) (h2 : N ≤ 1024) : 512 * (hv D + hz D) ≤ 512 * N ∧ (hy D = 2 → 512 * (hv D + hz D + hz D) ≤ 512 * N) := by
  obtain ⟨hC, v1, v2, hY, z1, z2, a1, a2, a3, k1, k2, r1, r2, k3, k4, k5⟩ := hd_facts h h2
  constructor
  · have : hv D + hz D ≤ ha D := by rw [a1]; rcases hY with e | e <;> rw [e] <;> omega
    omega
  · intro e
    rw [e] at a1
    omega
theorem q_low' (a : Nat) : nI a &&& nI 268435455 = nI (a % 2 ^ 28) := q_low a
theorem qM_entryAt {K N t x : Nat} {D : Nat → Int32} {T : MS} (hT : mIs N D T) : f_Mo_entryAt K T (nI t) (nI x) = some (nI (512 * (hv D + t * hz D) + 4 * x), T) := by
  obtain ⟨-, -, -, g2, -, g4, -⟩ := hT
  rw [f_Mo_entryAt]
  simp only [ql]
  rw [g2, g4, pk_mul, pk_mul, nI_add, pk_mul, nI_add]
theorem qM_entry {K N x : Nat} {D : Nat → Int32} {T : MS} (hT : mIs N D T) (h : hdOk N D) (h2 : N ≤ 1024) (hx : x < hk N D + 2) : f_Mo_entry K T (nI x) = some (nI (ent D x), T) := by
  have f := hd_facts h h2
  have f2 := hd_tab h h2
  rw [f_Mo_entry]
  simp only [ql]
  rw [qM_entryAt hT, q_c, rM4 D hT.1 (by omega), q_c, q_low', Nat.zero_mul, Nat.add_zero]
  rfl
theorem qM_isCl' {K k x : Nat} {T : MS} (hk : T.v_k = nI k) (h1 : k < 2 ^ 30) (hx : x < 2 ^ 32) : f_Mo_isCluster K T (nI x) = some (if 2 ≤ x ∧ x ≤ k + 1 then nI 1 else nI 0, T) := qM_isCl hk h1 hx
theorem qM_bad {K N : Nat} {D : Nat → Int32} {T : MS} (hK : 1000 ≤ K) (hT : mIs N D T) (h : hdOk N D) (h2 : N ≤ 1024) : (tabOk N D → f_Mo_badTables K T = some (nI 0, T)) ∧ (¬ tabOk N D → f_Mo_badTables K T = some (nI 1, T)) := by
  obtain ⟨hC, v1, v2, hY, z1, z2, a1, a2, a3, k1, k2, r1, r2, k3, k4, k5⟩ := hd_facts h h2
  have f2 := hd_tab h h2
  have gk : T.v_k = nI (hk N D) := hT.2.2.2.2.2.2.2.2
  have gy : T.v_y = nI (hy D) := hT.2.2.2.2.1
  have step : ∀ (i k : Nat), i < hk N D + 2 → f_Mo_badTables_2 K (k + 1) (nI i) T = if tabX N D i then f_Mo_badTables_2 K k (nI (i + 1)) T else some (nI 1, T) := by
    intro i k hi
    have e16 : f_Mo_badTables_78 K (f_Mo_badTables_2 K k) (nI i) (nI 1) T = if (hy D = 2 → o4 D (512 * hv D + 4 * i) = o4 D (512 * (hv D + hz D) + 4 * i)) then f_Mo_badTables_2 K k (nI (i + 1)) T else some (nI 1, T) := by
      rw [f_Mo_badTables_78]
      simp only [ql]
      rw [if_neg n10, gy]
      by_cases g : hy D = 2
      · rw [if_pos (by rw [g]), qM_entryAt hT, q_c, rM4 D hT.1 (by omega), q_c, qM_entryAt hT, q_c, rM4 D hT.1 (by have := f2.2 g; omega), q_c, Nat.zero_mul, Nat.one_mul, Nat.add_zero]
        by_cases g3 : o4 D (512 * hv D + 4 * i) = o4 D (512 * (hv D + hz D) + 4 * i)
        · rw [if_pos (by rw [g3]), if_pos (fun _ => g3), f_Mo_badTables_116, q_l, nI_1]
        · rw [if_neg (fun z => g3 ((q_eqW (o4_lt _ _) (o4_lt _ _)).mp z)), if_neg (fun z => g3 (z g))]
          rfl
      · rw [if_neg (fun z => g ((nI_eq (by omega) (by decide)).mp z)), if_pos (fun z => absurd z g), f_Mo_badTables_116, q_l, nI_1]
    have e0 : f_Mo_badTables_78 K (f_Mo_badTables_2 K k) (nI i) (nI 0) T = some (nI 1, T) := rfl
    have l28 := ent_lt D i
    rw [f_Mo_badTables_2]
    simp only [ql]
    rw [gk, nI_add, if_neg (nI_ge hi (by omega)), qM_entry hT h h2 hi, q_c]
    by_cases i0 : i = 0
    · rw [if_pos (by rw [i0])]
      by_cases g : ent D i = 268435448
      · rw [if_pos (by rw [g]), e16]
        exact q_iC (by unfold tabX; omega)
      · rw [if_neg (fun z => g ((nI_eq (b := 268435448) (by omega) (by decide)).mp z)), e0, if_neg (by unfold tabX; omega)]
    rw [if_neg (fun z => i0 ((nI_eq (b := 0) (by omega) (by decide)).mp z))]
    by_cases i1 : i = 1
    · rw [if_pos (by rw [i1])]
      by_cases g : ent D i = 268435455
      · rw [if_pos (by rw [g]), e16]
        exact q_iC (by unfold tabX; omega)
      · rw [if_neg (fun z => g ((nI_eq (b := 268435455) (by omega) (by decide)).mp z)), e0, if_neg (by unfold tabX; omega)]
    rw [if_neg (fun z => i1 ((nI_eq (b := 1) (by omega) (by decide)).mp z))]
    by_cases g : ent D i = 0
    · rw [if_pos (by rw [g]), f_Mo_badTables_73, ql, e16]
      exact q_iC (by unfold tabX; omega)
    rw [if_neg (fun z => g ((nI_eq (b := 0) (by omega) (by decide)).mp z)), qM_isCl' gk (by omega) (by omega), q_c]
    by_cases g2 : 2 ≤ ent D i ∧ ent D i ≤ hk N D + 1
    · rw [if_pos g2, if_neg n10, f_Mo_badTables_73, ql, e16]
      exact q_iC (by unfold tabX isCl; omega)
    rw [if_neg g2, if_pos rfl]
    by_cases g3 : ent D i < 268435448
    · rw [if_pos (show nI (ent D i) < nI 268435448 from nI_lt g3 (by decide)), e0, if_neg (by unfold tabX isCl; omega)]
    · rw [if_neg (show ¬ nI (ent D i) < nI 268435448 from nI_nlt (by omega) (by omega)), f_Mo_badTables_73, ql, e16]
      exact q_iC (by unfold tabX isCl; omega)
  exact lpA (F := fun k i => f_Mo_badTables_2 K k (nI i) T) (P := tabX N D) (n := hk N D + 2) (fun i k hi hP => by rw [step i k hi, if_pos hP]) (fun i k hi hP => by rw [step i k hi, if_neg hP]) (fun k => by rw [f_Mo_badTables_2]; simp only [ql]; rw [gk, nI_add, if_pos (Int32.le_refl _)]) (by omega)
theorem qV_fit {K N : Nat} {G : CG} {D : Nat → Int32} {S : CS} (hK : 1000 ≤ K) (hS : cIs N D G S) (h : hdOk N D) (h2 : N ≤ 1024) : (tabOk N D → f_Tb_entriesFit K G S = some (nI 1, S)) ∧ (¬ tabOk N D → f_Tb_entriesFit K G S = some (nI 0, S)) := by
  obtain ⟨hC, v1, v2, hY, z1, z2, a1, a2, a3, k1, k2, r1, r2, k3, k4, k5⟩ := hd_facts h h2
  have f2 := hd_tab h h2
  obtain ⟨hG, hD, hs, s1, s2, s3, s4, s5, s6, s7, hn⟩ := hS
  have n0 := hn 0 (by omega)
  have n1 := hn 1 (by omega)
  rw [if_pos (by omega)] at n0 n1
  have l0 := ent_lt D 0
  have l1 := ent_lt D 1
  have oth : (S.v_Tb_copies - nI 1) * S.v_Tb_length * nI 512 = nI ((hy D - 1) * hz D * 512) := by
    rw [s3, s4, pk_sub (by omega), pk_mul, pk_mul]
  have ho : (hy D - 1) * hz D * 512 ≤ 512 * 32 := by rcases hY with e | e <;> rw [e] <;> omega
  have step : ∀ (i k : Nat), i < hk N D + 2 → f_Tb_entriesFit_42 K G (k + 1) (nI ((hy D - 1) * hz D * 512)) (nI i) S = if (ent D i = 0 ∨ isCl N D (ent D i) ∨ 268435448 ≤ ent D i) ∧ (hy D = 2 → o4 D (512 * hv D + 4 * i) = o4 D (512 * (hv D + hz D) + 4 * i)) then f_Tb_entriesFit_42 K G k (nI ((hy D - 1) * hz D * 512)) (nI (i + 1)) S else some (nI 0, S) := by
    intro i k hi
    have l28 := ent_lt D i
    have e2 : lf_in (nI i) (G.n / 2 + 2) := by rw [hG]; exact q_in (by omega) (by omega)
    have ni := hn i (by omega)
    rw [if_pos hi] at ni
    have e1 : S.v_Tb_before * nI 512 + nI 4 * nI i = nI (512 * hv D + 4 * i) := by rw [s2, pk_mul, pk_mul, nI_add, Nat.mul_comm (hv D)]
    have e16 : f_Tb_entriesFit_114 K G (f_Tb_entriesFit_42 K G k) (nI ((hy D - 1) * hz D * 512)) (nI i) (nI (512 * hv D + 4 * i)) S = if (hy D = 2 → o4 D (512 * hv D + 4 * i) = o4 D (512 * (hv D + hz D) + 4 * i)) then f_Tb_entriesFit_42 K G k (nI ((hy D - 1) * hz D * 512)) (nI (i + 1)) S else some (nI 0, S) := by
      have f3 : 512 * hv D + 4 * i + (hy D - 1) * hz D * 512 + 3 < 512 * N := by
        rcases hY with e | e
        · rw [e]; omega
        · have := f2.2 e
          rw [e]; omega
      rw [f_Tb_entriesFit_114, f_Tb_entriesFit_115]
      simp only [ql]
      rw [if_pos trivial, rV4 D hG hD h2 (by omega), q_c, nI_add, rV4 D hG hD h2 f3, q_c]
      by_cases g3 : o4 D (512 * hv D + 4 * i) = o4 D (512 * hv D + 4 * i + (hy D - 1) * hz D * 512)
      · rw [if_pos (by rw [← g3]), if_pos (fun e => by rw [g3, e]; congr 1; omega), q_l, nI_add]
      · rw [if_neg (fun z => g3 ((q_eqW (o4_lt _ _) (o4_lt _ _)).mp z)), if_neg]
        · rfl
        · intro z
          rcases hY with e | e
          · exact g3 (by rw [e]; congr 1; omega)
          · exact g3 (by rw [z e, e]; congr 1; omega)
    have e0 : f_Tb_entriesFit_110 K G (f_Tb_entriesFit_42 K G k) (nI ((hy D - 1) * hz D * 512)) (nI i) (nI (512 * hv D + 4 * i)) S = some (nI 0, S) := rfl
    rw [f_Tb_entriesFit_42]
    simp only [ql]
    rw [s7, nI_add, if_neg (nI_ge hi (by omega)), if_neg (by rw [hG]; exact nI_ge (by omega) (by omega)), q_l, q_g e2, e1]
    simp only [nI_clamp (show i < 2 ^ 31 by omega), ni]
    by_cases g1 : ent D i = 1
    · rw [if_pos (by rw [g1]), e0, if_neg (by unfold isCl; omega)]
    rw [if_neg (fun z => g1 ((nI_eq (b := 1) (by omega) (by decide)).mp z)), q_g e2, nI_add]
    by_cases g2 : ent D i ≤ hk N D + 1
    · rw [if_pos (nI_le g2 (by omega)), e16]
      exact q_iC (by unfold isCl; omega)
    rw [if_neg (nI_ge (by omega) (by omega)), q_g e2]
    by_cases g3 : 268435448 ≤ ent D i
    · rw [if_pos (show nI 268435448 ≤ nI (ent D i) from nI_le g3 (by omega)), e16]
      exact q_iC (by unfold isCl; omega)
    · rw [if_neg (show ¬ nI 268435448 ≤ nI (ent D i) from nI_ge (by omega) (by omega)), e0, if_neg (by unfold isCl; omega)]
  have all := lpA (F := fun k i => f_Tb_entriesFit_42 K G k (nI ((hy D - 1) * hz D * 512)) (nI i) S) (P := fun i => (ent D i = 0 ∨ isCl N D (ent D i) ∨ 268435448 ≤ ent D i) ∧ (hy D = 2 → o4 D (512 * hv D + 4 * i) = o4 D (512 * (hv D + hz D) + 4 * i))) (n := hk N D + 2) (k := K) (good := some (nI 1, S)) (bad := some (nI 0, S)) (fun i k hi hP => by show f_Tb_entriesFit_42 K G _ _ _ S = _; rw [step i k hi, if_pos hP]) (fun i k hi hP => by show f_Tb_entriesFit_42 K G _ _ _ S = _; rw [step i k hi, if_neg hP]) (fun k => by show f_Tb_entriesFit_42 K G _ _ _ S = _; rw [f_Tb_entriesFit_42]; simp only [ql]; rw [s7, nI_add, if_pos (Int32.le_refl _)]; rfl) (by omega)
  have e0 : lf_in (nI 0) (G.n / 2 + 2) := by rw [hG]; exact q_in (j := 0) (by omega) (by omega)
  have e1 : lf_in (nI 1) (G.n / 2 + 2) := by rw [hG]; exact q_in (j := 1) (by omega) (by omega)
  rw [f_Tb_entriesFit]
  simp only [ql]
  simp only [q_g e0, show (nI 0).toNatClampNeg = 0 from rfl, show (nI 1).toNatClampNeg = 1 from rfl, n0, n1, q_g e1, q_l, oth]
  by_cases g0 : ent D 0 = 268435448
  · rw [if_pos (by rw [g0])]
    by_cases g1 : ent D 1 = 268435455
    · rw [if_pos (by rw [g1])]
      refine ⟨fun hh => all.1 (fun j hj => ?_), fun hh => all.2 (fun z => hh (fun j hj => ?_))⟩
      · have q := hh j hj
        unfold tabX at q
        by_cases j2 : 2 ≤ j
        · exact ⟨q.2.2.1 j2, q.2.2.2⟩
        · refine ⟨?_, q.2.2.2⟩
          have : j = 0 ∨ j = 1 := by omega
          rcases this with e | e <;> subst e <;> omega
      · have q := z j hj
        refine ⟨fun e => by rw [e]; exact g0, fun e => by rw [e]; exact g1, fun _ => q.1, q.2⟩
    · rw [if_neg (fun z => g1 ((nI_eq (b := 268435455) (by omega) (by decide)).mp z))]
      exact ⟨fun hh => absurd ((hh 1 (by omega)).2.1 rfl) g1, fun _ => rfl⟩
  · rw [if_neg (fun z => g0 ((nI_eq (b := 268435448) (by omega) (by decide)).mp z))]
    exact ⟨fun hh => absurd ((hh 0 (by omega)).1 rfl) g0, fun _ => rfl⟩
