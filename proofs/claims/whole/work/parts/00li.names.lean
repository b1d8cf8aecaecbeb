/-! Sums, names. -/
theorem nlit0 {u b : Nat} (h : ¬ u = b) (hu : u < 2 ^ 31) (hb : b < 2 ^ 31) : ¬ nI u = nI b := fun z => h ((nI_eq hu hb).mp z)
def sm (D : Nat → Int32) (p : Nat) : Nat → Nat
  | 0 => 0
  | i + 1 => ((sm D p i % 2) * 128 + sm D p i / 2 + o1 D (p + i)) % 256
theorem sm_lt (D : Nat → Int32) (p i : Nat) : sm D p i < 256 := by
  cases i with
  | zero => exact (by decide : 0 < 256)
  | succ i => exact Nat.mod_lt _ (by decide)
theorem q_sm {s r : Nat} (hs : s < 256) : (((nI s &&& nI 1) * nI 128) + (nI s >>> (nI 1 &&& nI 31))) + nI r &&& nI 255 = nI (((s % 2) * 128 + s / 2 + r) % 256) := by
  rw [show (nI 31 : Int32) = 31 from rfl, q_shr (by omega) (by decide), q_and, Nat.and_one_is_mod, pk_mul, nI_add, nI_add, q_and, show 255 = 2 ^ 8 - 1 from rfl, Nat.and_two_pow_sub_one_eq_mod]
theorem qM_sum {K p : Nat} {D : Nat → Int32} {T : MS} (hK : 1000 ≤ K) (hD : T.v_disk = D) (hp : p + 31 < 524288) : f_Mo_sumOf K T (nI p) = some (nI (sm D p 11), T) := by
  refine lp (F := fun k i s => f_Mo_sumOf_4 K k (nI p) s (nI i) T) (Inv := fun i s => s = nI (sm D p i)) (Post := fun r => r = some (nI (sm D p 11), T)) (n := 11) ?_ ?_ 11 0 K (nI 0) rfl (by omega) rfl
  · intro i s k hi hI
    subst hI
    refine Or.inl ⟨nI (sm D p (i + 1)), rfl, ?_⟩
    rw [f_Mo_sumOf_4]
    simp only [ql]
    rw [if_neg (nI_ge hi (by decide)), nI_add, rM1 D hD (by omega), q_c, q_l, q_l, nI_add, q_sm (sm_lt _ _ _)]
    rfl
  · intro s k hI
    subst hI
    rw [f_Mo_sumOf_4]
    simp only [ql]
    rw [if_pos (Int32.le_refl _)]
theorem qV_sum {K N p : Nat} {G : CG} {D : Nat → Int32} {S : CS} (hK : 1000 ≤ K) (hG : G.n = N) (hD : S.w_Dk_bytes = D) (h2 : N ≤ 1024) (hp : p + 31 < 512 * N) : f_Wo_sum K G S (nI p) = some (nI (sm D p 11), S) := by
  refine lp (F := fun k i s => f_Wo_sum_4 K G k (nI p) s (nI i) S) (Inv := fun i s => s = nI (sm D p i)) (Post := fun r => r = some (nI (sm D p 11), S)) (n := 11) ?_ ?_ 11 0 K (nI 0) rfl (by omega) rfl
  · intro i s k hi hI
    subst hI
    refine Or.inl ⟨nI (sm D p (i + 1)), rfl, ?_⟩
    rw [f_Wo_sum_4]
    simp only [ql]
    rw [if_neg (nI_ge hi (by decide)), nI_add, rV1 D hG hD h2 (by omega), q_c, q_l, q_l, nI_add, q_sm (sm_lt _ _ _)]
    rfl
  · intro s k hI
    subst hI
    rw [f_Wo_sum_4]
    simp only [ql]
    rw [if_pos (Int32.le_refl _)]
/-- the first cluster that an entry says -/
def fc (D : Nat → Int32) (p : Nat) : Nat := o2 D (p + 20) * 65536 + o2 D (p + 26)
theorem fc_lt (D : Nat → Int32) (p : Nat) : fc D p < 2 ^ 32 := by
  have := o2_lt D (p + 20)
  have := o2_lt D (p + 26)
  unfold fc
  omega
theorem q_fc (a b : Nat) (hb : b < 65536) : (nI a <<< (nI 16 &&& nI 31)) ||| nI b = nI (a * 65536 + b) := by
  rw [show (nI 31 : Int32) = 31 from rfl, q_shl _ _ (by decide), q_or, Nat.or_comm, q_orN (show b < 2 ^ 16 from hb), Nat.add_comm]
theorem qM_firstOf {K p : Nat} {D : Nat → Int32} {T : MS} (hD : T.v_disk = D) (hp : p + 31 < 524288) : f_Mo_firstOf K T (nI p) = some (nI (fc D p), T) := by
  unfold f_Mo_firstOf
  simp only [ql]
  rw [nI_add, rM2 D hD (by omega), q_c, nI_add, rM2 D hD (by omega), q_c, q_fc _ _ (o2_lt _ _)]
  rfl
theorem qV_first {K N p : Nat} {G : CG} {D : Nat → Int32} {S : CS} (hG : G.n = N) (hD : S.w_Dk_bytes = D) (h2 : N ≤ 1024) (hp : p + 31 < 512 * N) : f_Rd_firstCluster K G S (nI p) = some (nI (fc D p), S) := by
  unfold f_Rd_firstCluster
  simp only [ql]
  rw [nI_add, rV2 D hG hD h2 (by omega), q_c, nI_add, rV2 D hG hD h2 (by omega), q_c, q_fc _ _ (o2_lt _ _)]
  rfl
/-- a unit that may stand in a name -/
abbrev unP (u : Nat) : Prop := 32 ≤ u ∧ u ≠ 127 ∧ (u < 55296 ∨ 57343 < u) ∧ u ≤ 65533 ∧ u ≠ 34 ∧ u ≠ 42 ∧ u ≠ 47 ∧ u ≠ 58 ∧ u ≠ 60 ∧ u ≠ 62 ∧ u ≠ 63 ∧ u ≠ 92 ∧ u ≠ 124
def nmP (us : List Nat) : Prop := 1 ≤ us.length ∧ us.length ≤ 255 ∧ (∀ j, j < us.length → unP (us.getD j 0)) ∧ us.getD (us.length - 1) 0 ≠ 32 ∧ us.getD (us.length - 1) 0 ≠ 46
abbrev bufR (f : Nat → Int32) (us : List Nat) : Prop := ∀ j, j < us.length → f j = nI (us.getD j 0)
theorem qV_unit (K : Nat) {u : Nat} (hu : u < 65536) : (unP u → f_Wo_mayBeUnit K (nI u) = some (nI 1)) ∧ (¬ unP u → f_Wo_mayBeUnit K (nI u) = some (nI 0)) := by
  have e65 : ∀ z : Nat, (z = 0 ∨ z = 1) → f_Wo_mayBeUnit_65 K (nI u) (nI z) = if z = 0 ∧ 32 ≤ u ∧ u ≤ 65533 ∧ (u < 55296 ∨ 57343 < u) then some (nI 1) else some (nI 0) := by
    intro z hz
    unfold f_Wo_mayBeUnit_65 f_Wo_mayBeUnit_94 f_Wo_mayBeUnit_98
    simp (disch := omega) only [q_lit, nI_eq, nI_ltI, nI_leI]
    repeat' split
    all_goals first | rfl | (exfalso; omega)
  have e : f_Wo_mayBeUnit K (nI u) = if u = 34 ∨ u = 42 ∨ u = 47 ∨ u = 58 ∨ u = 60 ∨ u = 62 ∨ u = 63 ∨ u = 92 ∨ u = 124 ∨ u = 127 then some (nI 0) else f_Wo_mayBeUnit_65 K (nI u) (nI 0) := by
    unfold f_Wo_mayBeUnit f_Wo_mayBeUnit_60
    simp only [ql]
    rw [e65 1 (Or.inr rfl), if_neg (show ¬ (1 = 0 ∧ _) by omega)]
    simp (disch := omega) only [nI_eq, q_iO]
  rw [e, e65 0 (Or.inl rfl)]
  by_cases g : u = 34 ∨ u = 42 ∨ u = 47 ∨ u = 58 ∨ u = 60 ∨ u = 62 ∨ u = 63 ∨ u = 92 ∨ u = 124 ∨ u = 127
  · rw [if_pos g]
    exact ⟨fun z => by unfold unP at z; omega, fun _ => rfl⟩
  · rw [if_neg g]
    exact ⟨fun z => if_pos (by unfold unP at z; omega), fun z => if_neg (by unfold unP at z; omega)⟩
theorem qM_isName {K : Nat} {T : MS} {us : List Nat} (hK : 1000 ≤ K) (hs : T.v_size = nI us.length) (hl : us.length ≤ 300) (hb : bufR T.v_name us) (hu : ∀ u ∈ us, u < 65536) : (nmP us → f_Mo_isName K T = some (nI 1, T)) ∧ (¬ nmP us → f_Mo_isName K T = some (nI 0, T)) := by
  have hu2 : ∀ j, j < us.length → us.getD j 0 < 65536 := fun j hj => by
    rw [List.getD_eq_getElem?_getD, List.getElem?_eq_getElem hj]
    exact hu _ (List.getElem_mem hj)
  have e107 : (1 ≤ us.length) → (us.getD (us.length - 1) 0 ≠ 32 ∧ us.getD (us.length - 1) 0 ≠ 46 → f_Mo_isName_107 K (nI 1) T = some (nI 1, T)) ∧ (¬ (us.getD (us.length - 1) 0 ≠ 32 ∧ us.getD (us.length - 1) 0 ≠ 46) → f_Mo_isName_107 K (nI 1) T = some (nI 0, T)) := by
    intro h1
    have hlast := hu2 (us.length - 1) (by omega)
    unfold f_Mo_isName_107 f_Mo_isName_147
    simp only [ql]
    rw [if_neg n10, hs, pk_sub h1, q_g (q_in (by omega) (by decide)), q_g (q_in (by omega) (by decide))]
    simp only [nI_clamp (show us.length - 1 < 2 ^ 31 by omega), hb (us.length - 1) (by omega)]
    by_cases c1 : us.getD (us.length - 1) 0 = 32
    · rw [if_pos (by rw [c1])]
      exact ⟨fun z => absurd c1 z.1, fun _ => rfl⟩
    rw [if_neg (nlit0 c1 (by omega) (by decide))]
    by_cases c2 : us.getD (us.length - 1) 0 = 46
    · rw [if_pos (by rw [c2])]
      exact ⟨fun z => absurd c2 z.2, fun _ => rfl⟩
    · rw [if_neg (nlit0 c2 (by omega) (by decide))]
      exact ⟨fun _ => rfl, fun z => absurd ⟨c1, c2⟩ z⟩
  have e0 : ∀ k i : Nat, f_Mo_isName_26 K (k + 1) (nI 0) (nI i) T = some (nI 0, T) := by
    intro k i
    rw [f_Mo_isName_26]
    simp only [ql]
    split
    · rfl
    · rfl
  have step : ∀ k i : Nat, i < us.length → (unP (us.getD i 0) → f_Mo_isName_26 K (k + 1) (nI 1) (nI i) T = f_Mo_isName_26 K k (nI 1) (nI (i + 1)) T) ∧ (¬ unP (us.getD i 0) → f_Mo_isName_26 K (k + 2) (nI 1) (nI i) T = some (nI 0, T)) := by
    intro k i hi
    have lu := hu2 i hi
    have ex : ∀ k, f_Mo_isName_26 K (k + 1) (nI 1) (nI i) T = if unP (us.getD i 0) then f_Mo_isName_26 K k (nI 1) (nI (i + 1)) T else f_Mo_isName_26 K k (nI 0) (nI (i + 1)) T := by
      intro k
      rw [f_Mo_isName_26]
      unfold f_Mo_isName_71 f_Mo_isName_99 f_Mo_isName_95 f_Mo_isName_100
      simp only [ql]
      rw [hs, if_neg (nI_ge hi (by omega)), if_neg n10, q_g (q_in (by omega) (by decide)), q_l]
      simp only [nI_clamp (show i < 2 ^ 31 by omega), hb i hi, q_ch lu, q_l, nI_add]
      have hx : nI 0 ≤ str_ix [nI 34, nI 42, nI 47, nI 58, nI 60, nI 62, nI 63, nI 92, nI 124] (nI (us.getD i 0)) ↔ us.getD i 0 ∈ [34, 42, 47, 58, 60, 62, 63, 92, 124] := by
        have := q_ix [34, 42, 47, 58, 60, 62, 63, 92, 124] (us.getD i 0) 0 lu (by decide) (by decide)
        rw [← Int32.not_lt]
        exact ⟨fun z => Classical.byContradiction (fun y => z (this.mpr y)), fun z y => this.mp y z⟩
      simp only [hx]
      generalize us.getD i 0 = u at *
      have hm : u ∈ [34, 42, 47, 58, 60, 62, 63, 92, 124] ↔ u = 34 ∨ u = 42 ∨ u = 47 ∨ u = 58 ∨ u = 60 ∨ u = 62 ∨ u = 63 ∨ u = 92 ∨ u = 124 := by simp
      simp only [hm]
      simp (disch := omega) only [nI_eq, nI_ltI, nI_leI]
      repeat' split
      all_goals first | rfl | (exfalso; unfold unP at *; omega)
    exact ⟨fun z => by rw [ex, if_pos z], fun z => by rw [ex, if_neg z]; exact e0 k (i + 1)⟩
  have all : ∀ (d i k : Nat), i + d = us.length → d + 1 < k → 1 ≤ us.length → ((∀ j, i ≤ j → j < us.length → unP (us.getD j 0)) ∧ us.getD (us.length - 1) 0 ≠ 32 ∧ us.getD (us.length - 1) 0 ≠ 46 → f_Mo_isName_26 K k (nI 1) (nI i) T = some (nI 1, T)) ∧ (¬ ((∀ j, i ≤ j → j < us.length → unP (us.getD j 0)) ∧ us.getD (us.length - 1) 0 ≠ 32 ∧ us.getD (us.length - 1) 0 ≠ 46) → f_Mo_isName_26 K k (nI 1) (nI i) T = some (nI 0, T)) := by
    intro d
    induction d with
    | zero =>
      intro i k hi hk h1
      obtain ⟨k, rfl⟩ : ∃ m, k = m + 1 := ⟨k - 1, by omega⟩
      rw [f_Mo_isName_26]
      simp only [ql]
      rw [hs, if_pos (nI_le (by omega) (by omega))]
      exact ⟨fun z => (e107 h1).1 z.2, fun z => (e107 h1).2 (fun y => z ⟨fun j h1 h2 => absurd h2 (by omega), y⟩)⟩
    | succ d ih =>
      intro i k hi hk h1
      obtain ⟨k, rfl⟩ : ∃ m, k = m + 2 := ⟨k - 2, by omega⟩
      by_cases c : unP (us.getD i 0)
      · rw [(step (k + 1) i (by omega)).1 c]
        have I := ih (i + 1) (k + 1) (by omega) (by omega) h1
        refine ⟨fun z => I.1 ⟨fun j a b => z.1 j (by omega) b, z.2⟩, fun z => I.2 (fun y => z ⟨fun j a b => ?_, y.2⟩)⟩
        by_cases e : j = i
        · rw [e]; exact c
        · exact y.1 j (by omega) b
      · rw [(step k i (by omega)).2 c]
        exact ⟨fun z => absurd (z.1 i (Nat.le_refl _) (by omega)) c, fun _ => rfl⟩
  unfold f_Mo_isName f_Mo_isName_22 f_Mo_isName_23 nmP
  simp only [ql]
  rw [hs]
  obtain ⟨K', rfl⟩ : ∃ m, K = m + 1 := ⟨K - 1, by omega⟩
  by_cases c1 : us.length < 1
  · rw [if_pos (nI_lt c1 (by decide)), e0]
    exact ⟨fun z => absurd z.1 (by omega), fun _ => rfl⟩
  rw [if_neg (nI_nlt (by omega) (by omega))]
  by_cases c2 : 255 < us.length
  · rw [if_pos (nI_lt c2 (by omega)), e0]
    exact ⟨fun z => absurd z.2.1 (by omega), fun _ => rfl⟩
  rw [if_neg (nI_nlt (by omega) (by decide))]
  have I := all us.length 0 (K' + 1) (by omega) (by omega) (by omega)
  exact ⟨fun z => I.1 ⟨fun j _ b => z.2.2.1 j b, z.2.2.2⟩, fun z => I.2 (fun y => z ⟨by omega, by omega, fun j b => y.1 j (Nat.zero_le _) b, y.2⟩)⟩
theorem qV_isName_Rdunits {K : Nat} {G : CG} {S : CS} {us : List Nat} (hK : 1000 ≤ K) (hl : us.length ≤ 260) (hb : bufR S.w_Rd_units us) (hu : ∀ u ∈ us, u < 65536) : (nmP us → f_Wo_isName_Rdunits K G S (nI us.length) = some (nI 1, S)) ∧ (¬ nmP us → f_Wo_isName_Rdunits K G S (nI us.length) = some (nI 0, S)) := by
  have hu2 : ∀ j, j < us.length → us.getD j 0 < 65536 := fun j hj => by
    rw [List.getD_eq_getElem?_getD, List.getElem?_eq_getElem hj]
    exact hu _ (List.getElem_mem hj)
  have all : 1 ≤ us.length → us.length ≤ 255 → ∀ (d i k : Nat), i + d = us.length → d < k → ((∀ j, i ≤ j → j < us.length → unP (us.getD j 0)) ∧ us.getD (us.length - 1) 0 ≠ 32 ∧ us.getD (us.length - 1) 0 ≠ 46 → f_Wo_isName_Rdunits_22 K G k (nI us.length) (nI i) S = some (nI 1, S)) ∧ (¬ ((∀ j, i ≤ j → j < us.length → unP (us.getD j 0)) ∧ us.getD (us.length - 1) 0 ≠ 32 ∧ us.getD (us.length - 1) 0 ≠ 46) → f_Wo_isName_Rdunits_22 K G k (nI us.length) (nI i) S = some (nI 0, S)) := by
    intro h1 h255 d
    induction d with
    | zero =>
      intro i k hi hk
      obtain ⟨k, rfl⟩ : ∃ m, k = m + 1 := ⟨k - 1, by omega⟩
      have hlast := hu2 (us.length - 1) (by omega)
      rw [f_Wo_isName_Rdunits_22]
      unfold f_Wo_isName_Rdunits_68
      simp only [ql]
      rw [if_pos (nI_le (by omega) (by omega)), pk_sub h1, q_g (q_in (by omega) (by decide)), q_g (q_in (by omega) (by decide))]
      simp only [nI_clamp (show us.length - 1 < 2 ^ 31 by omega), hb (us.length - 1) (by omega)]
      by_cases c1 : us.getD (us.length - 1) 0 = 32
      · rw [if_pos (by rw [c1])]
        exact ⟨fun z => absurd c1 z.2.1, fun _ => rfl⟩
      rw [if_neg (nlit0 c1 (by omega) (by decide))]
      by_cases c2 : us.getD (us.length - 1) 0 = 46
      · rw [if_pos (by rw [c2])]
        exact ⟨fun z => absurd c2 z.2.2, fun _ => rfl⟩
      · rw [if_neg (nlit0 c2 (by omega) (by decide))]
        exact ⟨fun _ => rfl, fun z => absurd ⟨fun j a b => absurd b (by omega), c1, c2⟩ z⟩
    | succ d ih =>
      intro i k hi hk
      obtain ⟨k, rfl⟩ : ∃ m, k = m + 1 := ⟨k - 1, by omega⟩
      have lu := hu2 i (by omega)
      rw [f_Wo_isName_Rdunits_22]
      simp only [ql]
      rw [if_neg (nI_ge (by omega) (by omega)), q_g (q_in (by omega) (by decide)), nI_clamp (by omega), hb i (by omega)]
      by_cases c : unP (us.getD i 0)
      · rw [(qV_unit K lu).1 c, q_b, if_neg n10, q_l, nI_add]
        have I := ih (i + 1) k (by omega) (by omega)
        refine ⟨fun z => I.1 ⟨fun j a b => z.1 j (by omega) b, z.2⟩, fun z => I.2 (fun y => z ⟨fun j a b => ?_, y.2⟩)⟩
        by_cases e : j = i
        · rw [e]; exact c
        · exact y.1 j (by omega) b
      · rw [(qV_unit K lu).2 c, q_b, if_pos rfl]
        exact ⟨fun z => absurd (z.1 i (Nat.le_refl _) (by omega)) c, fun _ => rfl⟩
  unfold f_Wo_isName_Rdunits f_Wo_isName_Rdunits_18 nmP
  simp only [ql]
  by_cases c1 : us.length < 1
  · rw [if_pos (nI_lt c1 (by decide))]
    exact ⟨fun z => absurd z.1 (by omega), fun _ => rfl⟩
  rw [if_neg (nI_nlt (by omega) (by omega))]
  by_cases c2 : 255 < us.length
  · rw [if_pos (nI_lt c2 (by omega))]
    exact ⟨fun z => absurd z.2.1 (by omega), fun _ => rfl⟩
  rw [if_neg (nI_nlt (by omega) (by decide)), if_pos (nI_le hl (by decide))]
  have I := all (by omega) (by omega) us.length 0 K (by omega) (by omega)
  exact ⟨fun z => I.1 ⟨fun j _ b => z.2.2.1 j b, z.2.2.2⟩, fun z => I.2 (fun y => z ⟨by omega, by omega, fun j b => y.1 j (Nat.zero_le _) b, y.2⟩)⟩
theorem qV_isName_Edunits {K : Nat} {G : CG} {S : CS} {us : List Nat} (hK : 1000 ≤ K) (hl : us.length ≤ 255) (hb : bufR S.w_Ed_units us) (hu : ∀ u ∈ us, u < 65536) : (nmP us → f_Wo_isName_Edunits K G S (nI us.length) = some (nI 1, S)) ∧ (¬ nmP us → f_Wo_isName_Edunits K G S (nI us.length) = some (nI 0, S)) := by
  have hu2 : ∀ j, j < us.length → us.getD j 0 < 65536 := fun j hj => by
    rw [List.getD_eq_getElem?_getD, List.getElem?_eq_getElem hj]
    exact hu _ (List.getElem_mem hj)
  have all : 1 ≤ us.length → us.length ≤ 255 → ∀ (d i k : Nat), i + d = us.length → d < k → ((∀ j, i ≤ j → j < us.length → unP (us.getD j 0)) ∧ us.getD (us.length - 1) 0 ≠ 32 ∧ us.getD (us.length - 1) 0 ≠ 46 → f_Wo_isName_Edunits_22 K G k (nI us.length) (nI i) S = some (nI 1, S)) ∧ (¬ ((∀ j, i ≤ j → j < us.length → unP (us.getD j 0)) ∧ us.getD (us.length - 1) 0 ≠ 32 ∧ us.getD (us.length - 1) 0 ≠ 46) → f_Wo_isName_Edunits_22 K G k (nI us.length) (nI i) S = some (nI 0, S)) := by
    intro h1 h255 d
    induction d with
    | zero =>
      intro i k hi hk
      obtain ⟨k, rfl⟩ : ∃ m, k = m + 1 := ⟨k - 1, by omega⟩
      have hlast := hu2 (us.length - 1) (by omega)
      rw [f_Wo_isName_Edunits_22]
      unfold f_Wo_isName_Edunits_68
      simp only [ql]
      rw [if_pos (nI_le (by omega) (by omega)), pk_sub h1, q_g (q_in (by omega) (by decide)), q_g (q_in (by omega) (by decide))]
      simp only [nI_clamp (show us.length - 1 < 2 ^ 31 by omega), hb (us.length - 1) (by omega)]
      by_cases c1 : us.getD (us.length - 1) 0 = 32
      · rw [if_pos (by rw [c1])]
        exact ⟨fun z => absurd c1 z.2.1, fun _ => rfl⟩
      rw [if_neg (nlit0 c1 (by omega) (by decide))]
      by_cases c2 : us.getD (us.length - 1) 0 = 46
      · rw [if_pos (by rw [c2])]
        exact ⟨fun z => absurd c2 z.2.2, fun _ => rfl⟩
      · rw [if_neg (nlit0 c2 (by omega) (by decide))]
        exact ⟨fun _ => rfl, fun z => absurd ⟨fun j a b => absurd b (by omega), c1, c2⟩ z⟩
    | succ d ih =>
      intro i k hi hk
      obtain ⟨k, rfl⟩ : ∃ m, k = m + 1 := ⟨k - 1, by omega⟩
      have lu := hu2 i (by omega)
      rw [f_Wo_isName_Edunits_22]
      simp only [ql]
      rw [if_neg (nI_ge (by omega) (by omega)), q_g (q_in (by omega) (by decide)), nI_clamp (by omega), hb i (by omega)]
      by_cases c : unP (us.getD i 0)
      · rw [(qV_unit K lu).1 c, q_b, if_neg n10, q_l, nI_add]
        have I := ih (i + 1) k (by omega) (by omega)
        refine ⟨fun z => I.1 ⟨fun j a b => z.1 j (by omega) b, z.2⟩, fun z => I.2 (fun y => z ⟨fun j a b => ?_, y.2⟩)⟩
        by_cases e : j = i
        · rw [e]; exact c
        · exact y.1 j (by omega) b
      · rw [(qV_unit K lu).2 c, q_b, if_pos rfl]
        exact ⟨fun z => absurd (z.1 i (Nat.le_refl _) (by omega)) c, fun _ => rfl⟩
  unfold f_Wo_isName_Edunits f_Wo_isName_Edunits_18 nmP
  simp only [ql]
  by_cases c1 : us.length < 1
  · rw [if_pos (nI_lt c1 (by decide))]
    exact ⟨fun z => absurd z.1 (by omega), fun _ => rfl⟩
  rw [if_neg (nI_nlt (by omega) (by omega))]
  by_cases c2 : 255 < us.length
  · rw [if_pos (nI_lt c2 (by omega))]
    exact ⟨fun z => absurd z.2.1 (by omega), fun _ => rfl⟩
  rw [if_neg (nI_nlt (by omega) (by decide)), if_pos (nI_le hl (by decide))]
  have I := all (by omega) (by omega) us.length 0 K (by omega) (by omega)
  exact ⟨fun z => I.1 ⟨fun j _ b => z.2.2.1 j b, z.2.2.2⟩, fun z => I.2 (fun y => z ⟨by omega, by omega, fun j b => y.1 j (Nat.zero_le _) b, y.2⟩)⟩
