theorem lw_PL {D : va_G} {w1 w2 : va_W} {H : Heap} (h : va_P D classes (w1 ++ w2) H) : va_P D classes w1 H := fun k q hk => h k q (by rw [List.getElem?_append_left (List.getElem?_eq_some_iff.mp hk).1]; exact hk)
theorem lw_ar {w1 w2 : va_W} {k : Nat} {q : Nat × va_E} (hk : w2[k]? = some q) : (w1 ++ w2)[w1.length + k]? = some q := by rw [List.getElem?_append_right (Nat.le_add_right _ _), Nat.add_sub_cancel_left]; exact hk
theorem lw_al {w1 w2 : va_W} {k : Nat} {q : Nat × va_E} (hk : w1[k]? = some q) : (w1 ++ w2)[k]? = some q := by rw [List.getElem?_append_left (List.getElem?_eq_some_iff.mp hk).1]; exact hk
theorem lw_PR {D : va_G} {w1 w2 : va_W} {H : Heap} (h : va_P D classes (w1 ++ w2) H) : va_P D classes w2 H := fun k q hk => h (w1.length + k) q (lw_ar hk)
theorem lw_DL {A : Nat → Prop} {w1 w2 : va_W} (h : va_D A (w1 ++ w2)) : va_D A w1 := ⟨fun i j p q hp hq e => h.1 i j p q (lw_al hp) (lw_al hq) e, fun k q hk => h.2 k q (lw_al hk)⟩
theorem lw_DR {A : Nat → Prop} {w1 w2 : va_W} (h : va_D A (w1 ++ w2)) : va_D A w2 := ⟨fun i j p q hp hq e => Nat.add_left_cancel (h.1 _ _ p q (lw_ar hp) (lw_ar hq) e), fun k q hk => h.2 _ q (lw_ar hk)⟩
theorem lw_no {A : Nat → Prop} {D : va_G} {w1 w2 : va_W} {H : Heap} (hP : va_P D classes (w1 ++ w2) H) (hD : va_D A (w1 ++ w2)) {i j : Nat} {p q : Nat × va_E} (hp : w1[i]? = some p) (hq : w2[j]? = some q) : p.1 ≠ q.1 := fun e => by
  have h1 := (List.getElem?_eq_some_iff.mp hp).1
  have h2 := hD.1 i (w1.length + j) p q (lw_al hp) (lw_ar hq) e
  omega
theorem lw_nL {A : Nat → Prop} {D : va_G} {w1 w2 : va_W} {H : Heap} (hP : va_P D classes (w1 ++ w2) H) (hD : va_D A (w1 ++ w2)) {j : Nat} {q : Nat × va_E} (hq : w2[j]? = some q) : q.1 < H.size ∧ ¬ va_A w1 H.size q.1 := by
  have hl := (hP _ q (lw_ar hq)).lt
  refine ⟨hl, fun h => ?_⟩
  rcases h with ⟨k, e, h⟩ | h
  · exact lw_no hP hD h hq rfl
  · exact absurd hl (Nat.not_lt.mpr h)
theorem lw_nR {A : Nat → Prop} {D : va_G} {w1 w2 : va_W} {H : Heap} (hP : va_P D classes (w1 ++ w2) H) (hD : va_D A (w1 ++ w2)) {j : Nat} {q : Nat × va_E} (hq : w1[j]? = some q) : q.1 < H.size ∧ ¬ va_A w2 H.size q.1 := by
  have hl := (hP _ q (lw_al hq)).lt
  refine ⟨hl, fun h => ?_⟩
  rcases h with ⟨k, e, h⟩ | h
  · exact lw_no hP hD hq h rfl
  · exact absurd hl (Nat.not_lt.mpr h)
theorem lw_jL {A : Nat → Prop} {D : va_G} {w1 w2 w3 : va_W} {H H1 : Heap} (hP : va_P D classes (w1 ++ w2) H) (hD : va_D A (w1 ++ w2)) (hk : ∀ q : Nat, q < H.size → ¬ va_A w1 H.size q → H1[q]? = H[q]?) (hF : ∀ q, va_A w1 H.size q → A q) (hP1 : va_P D classes w3 H1) (hD1 : va_D (va_A w1 H.size) w3) : va_P D classes (w3 ++ w2) H1 ∧ va_D A (w3 ++ w2) := by
  refine ⟨va_P.app hP1 (fun j q hq => ?_), va_D.app (lx_dj hD1 hF) (lw_DR hD) (fun i j p q hp hq e => ?_)⟩
  · obtain ⟨g1, g2⟩ := lw_nL hP hD hq
    exact (hP _ q (lw_ar hq)).kept (hk q.1 g1 g2)
  · exact (lw_nL hP hD hq).2 (by rw [← e]; exact hD1.2 i p hp)
theorem lw_jR {A : Nat → Prop} {D : va_G} {w1 w2 w3 : va_W} {H H1 : Heap} (hP : va_P D classes (w1 ++ w2) H) (hD : va_D A (w1 ++ w2)) (hk : ∀ q : Nat, q < H.size → ¬ va_A w2 H.size q → H1[q]? = H[q]?) (hF : ∀ q, va_A w2 H.size q → A q) (hP1 : va_P D classes w3 H1) (hD1 : va_D (va_A w2 H.size) w3) : va_P D classes (w1 ++ w3) H1 ∧ va_D A (w1 ++ w3) := by
  refine ⟨va_P.app (fun j q hq => ?_) hP1, va_D.app (lw_DL hD) (lx_dj hD1 hF) (fun i j p q hp hq e => ?_)⟩
  · obtain ⟨g1, g2⟩ := lw_nR hP hD hq
    exact (hP _ q (lw_al hq)).kept (hk q.1 g1 g2)
  · exact (lw_nR hP hD hp).2 (by rw [e]; exact hD1.2 j q hq)
theorem lw_as {D : va_G} {a c : va_W} {b : Nat × va_E} {H : Heap} (h : va_P D classes (a ++ (b :: c)) H) : va_P D classes ((a ++ [b]) ++ c) H := by rw [List.append_assoc]; exact h
theorem lw_sa {D : va_G} {a c : va_W} {b : Nat × va_E} {H : Heap} (h : va_P D classes ((a ++ [b]) ++ c) H) : va_P D classes (a ++ (b :: c)) H := by rw [List.append_assoc] at h; exact h
theorem lw_asD {A : Nat → Prop} {a c : va_W} {b : Nat × va_E} (h : va_D A (a ++ (b :: c))) : va_D A ((a ++ [b]) ++ c) := by rw [List.append_assoc]; exact h
theorem lw_saD {A : Nat → Prop} {a c : va_W} {b : Nat × va_E} (h : va_D A ((a ++ [b]) ++ c)) : va_D A (a ++ (b :: c)) := by rw [List.append_assoc] at h; exact h
theorem lf_01 {P : Prop} {G G' : CG} {S S' : CS} (h : some ((0 : Int32), G, S) = some (1, G', S')) : P := by
  have e : (0 : Int32) = 1 := congrArg (fun z => z.1) (Option.some.inj h)
  exact absurd e (by decide)
theorem lw_c0 {a b c R : Nat} (h1 : b ≤ c) (h2 : a + c ≤ R) : a + b + 0 ≤ R := by omega
theorem lw_c1 {a b c d R : Nat} (h1 : b ≤ c) (h2 : c ≤ d) (h3 : a + d ≤ R) : a + b + (c - b) ≤ R := by omega
theorem lw_c2 {a b c : Nat} (h1 : b ≤ c) : a + b + (c - b) ≤ a + c := by omega
theorem lw_c3 {a R : Nat} {G G' : CG} (e : G = G') (h : a + G'.gc ≤ R) : a + G.gc ≤ R := by rw [e]; exact h
theorem lw_c4 {a R : Nat} {G G' : CG} (e : G = G') (h : a + G'.gs ≤ R) : a + G.gs ≤ R := by rw [e]; exact h
set_option maxHeartbeats 4000000 in
set_option maxRecDepth 100000 in
theorem mo_law_1388 {K L : Nat} {xs : Nat → Int32} {rec_33 : Int32 → CG → CS → MS → (Nat → Int64) → Option (Int32 × CG × CS)} (hm_33 : ∀ (y_4 : Int32) (G : CG) (S : CS) (T : MS) (oo : Nat → Int64) {x : Int32} {G1 : CG} {S1 : CS}, rec_33 y_4 G S T oo = some (x, G1, S1) → CG.le G G1) {y_4 : Int32} {G : CG} {S : CS} {T : MS} {oo : Nat → Int64} {x : Int32} {G' : CG} {S' : CS} (h : f_law_1388 K L xs rec_33 y_4 G S T oo = some (x, G', S')) : CG.le G G' := by
  rw [f_law_1388] at h
  obtain ⟨x_112, ex_112, h⟩ := lf_lX h
  exact hm_33 x_112 G S T oo h
set_option maxHeartbeats 4000000 in
set_option maxRecDepth 100000 in
theorem mo_law_160 {K L : Nat} {xs : Nat → Int32} {rec_33 : Int32 → CG → CS → MS → (Nat → Int64) → Option (Int32 × CG × CS)} (hm_33 : ∀ (y_4 : Int32) (G : CG) (S : CS) (T : MS) (oo : Nat → Int64) {x : Int32} {G1 : CG} {S1 : CS}, rec_33 y_4 G S T oo = some (x, G1, S1) → CG.le G G1) {y_4 : Int32} {G : CG} {S : CS} {T : MS} {oo : Nat → Int64} {x : Int32} {G' : CG} {S' : CS} (h : f_law_160 K L xs rec_33 y_4 G S T oo = some (x, G', S')) : CG.le G G' := by
  rw [f_law_160] at h
  obtain ⟨g_27, h⟩ := lf_gE h
  obtain ⟨g_28, h⟩ := lf_gE h
  obtain ⟨g_29, h⟩ := lf_gE h
  obtain ⟨g_30, h⟩ := lf_gE h
  obtain ⟨g_31, h⟩ := lf_gE h
  obtain ⟨S_32, hc_32, h⟩ := lf_bE h
  obtain ⟨g_33, h⟩ := lf_gE h
  obtain ⟨g_34, h⟩ := lf_gE h
  obtain ⟨g_35, h⟩ := lf_gE h
  obtain ⟨g_36, h⟩ := lf_gE h
  obtain ⟨g_37, h⟩ := lf_gE h
  obtain ⟨T_38, hc_38, h⟩ := lf_bE h
  exact mo_law_1388 hm_33 h
set_option maxHeartbeats 4000000 in
set_option maxRecDepth 100000 in
theorem mo_law_231 {K L : Nat} {xs : Nat → Int32} {rec_33 : Int32 → CG → CS → MS → (Nat → Int64) → Option (Int32 × CG × CS)} (hm_33 : ∀ (y_4 : Int32) (G : CG) (S : CS) (T : MS) (oo : Nat → Int64) {x : Int32} {G1 : CG} {S1 : CS}, rec_33 y_4 G S T oo = some (x, G1, S1) → CG.le G G1) {y_4 : Int32} {G : CG} {S : CS} {T : MS} {oo : Nat → Int64} {x : Int32} {G' : CG} {S' : CS} (h : f_law_231 K L xs rec_33 y_4 G S T oo = some (x, G', S')) : CG.le G G' := by
  rw [f_law_231] at h
  obtain ⟨g_39, h⟩ := lf_gE h
  obtain ⟨r_40, S_40, hc_40, h⟩ := lf_cE h
  obtain ⟨g_41, h⟩ := lf_gE h
  obtain ⟨r_42, T_42, hc_42, h⟩ := lf_cE h
  rcases Classical.em (r_40 = r_42) with c_43 | c_43
  · have h := lf_t h c_43
    exact mo_law_1388 hm_33 h
  · have h := lf_f h c_43
    exact ly_leR h
set_option maxHeartbeats 4000000 in
set_option maxRecDepth 100000 in
theorem mo_law_256 {K L : Nat} {xs : Nat → Int32} {rec_33 : Int32 → CG → CS → MS → (Nat → Int64) → Option (Int32 × CG × CS)} (hm_33 : ∀ (y_4 : Int32) (G : CG) (S : CS) (T : MS) (oo : Nat → Int64) {x : Int32} {G1 : CG} {S1 : CS}, rec_33 y_4 G S T oo = some (x, G1, S1) → CG.le G G1) {y_4 : Int32} {G : CG} {S : CS} {T : MS} {oo : Nat → Int64} {x : Int32} {G' : CG} {S' : CS} (h : f_law_256 K L xs rec_33 y_4 G S T oo = some (x, G', S')) : CG.le G G' := by
  rw [f_law_256] at h
  obtain ⟨S_44, hc_44, h⟩ := lf_bE h
  obtain ⟨T_45, hc_45, h⟩ := lf_bE h
  exact mo_law_1388 hm_33 h
set_option maxHeartbeats 4000000 in
set_option maxRecDepth 100000 in
theorem mo_law_356 {K L : Nat} {xs : Nat → Int32} {rec_33 : Int32 → CG → CS → MS → (Nat → Int64) → Option (Int32 × CG × CS)} (hm_33 : ∀ (y_4 : Int32) (G : CG) (S : CS) (T : MS) (oo : Nat → Int64) {x : Int32} {G1 : CG} {S1 : CS}, rec_33 y_4 G S T oo = some (x, G1, S1) → CG.le G G1) {y_4 : Int32} {G : CG} {S : CS} {T : MS} {oo : Nat → Int64} {x : Int32} {G' : CG} {S' : CS} (h : f_law_356 K L xs rec_33 y_4 G S T oo = some (x, G', S')) : CG.le G G' := by
  rw [f_law_356] at h
  exact mo_law_1388 hm_33 h
set_option maxHeartbeats 4000000 in
set_option maxRecDepth 100000 in
theorem mo_law_296 {K L : Nat} {xs : Nat → Int32} {rec_33 : Int32 → CG → CS → MS → (Nat → Int64) → Option (Int32 × CG × CS)} (hm_33 : ∀ (y_4 : Int32) (G : CG) (S : CS) (T : MS) (oo : Nat → Int64) {x : Int32} {G1 : CG} {S1 : CS}, rec_33 y_4 G S T oo = some (x, G1, S1) → CG.le G G1) {y_4 : Int32} {z_0 : Int32} {G : CG} {S : CS} {T : MS} {oo : Nat → Int64} {x : Int32} {G' : CG} {S' : CS} (h : f_law_296 K L xs rec_33 y_4 z_0 G S T oo = some (x, G', S')) : CG.le G G' := by
  rw [f_law_296] at h
  obtain ⟨g_113, h⟩ := lf_gE h
  obtain ⟨g_114, h⟩ := lf_gE h
  obtain ⟨g_115, h⟩ := lf_gE h
  obtain ⟨g_116, h⟩ := lf_gE h
  obtain ⟨r_117, T_117, hc_117, h⟩ := lf_cE h
  obtain ⟨r_118, T_118, hc_118, h⟩ := lf_cE h
  rcases Classical.em (r_118 = z_0) with c_119 | c_119
  · have h := lf_t h c_119
    rcases (Classical.em (z_0 = 0)).symm with c_120 | c_120
    · have h := lf_f h c_120
      exact mo_law_356 hm_33 h
    · have h := lf_t h c_120
      rcases Classical.em ((lg_cmp (oo (0 : Int32).toNatClampNeg) r_117.toInt64) = 0) with c_121 | c_121
      · have h := lf_t h c_121
        exact mo_law_356 hm_33 h
      · have h := lf_f h c_121
        exact ly_leR h
  · have h := lf_f h c_119
    exact ly_leR h
set_option maxHeartbeats 4000000 in
set_option maxRecDepth 100000 in
theorem mo_law_267 {K L : Nat} {xs : Nat → Int32} {rec_33 : Int32 → CG → CS → MS → (Nat → Int64) → Option (Int32 × CG × CS)} (hm_33 : ∀ (y_4 : Int32) (G : CG) (S : CS) (T : MS) (oo : Nat → Int64) {x : Int32} {G1 : CG} {S1 : CS}, rec_33 y_4 G S T oo = some (x, G1, S1) → CG.le G G1) {y_4 : Int32} {G : CG} {S : CS} {T : MS} {oo : Nat → Int64} {x : Int32} {G' : CG} {S' : CS} (h : f_law_267 K L xs rec_33 y_4 G S T oo = some (x, G', S')) : CG.le G G' := by
  rw [f_law_267] at h
  obtain ⟨g_46, h⟩ := lf_gE h
  obtain ⟨g_47, h⟩ := lf_gE h
  obtain ⟨g_48, h⟩ := lf_gE h
  obtain ⟨g_49, h⟩ := lf_gE h
  rcases lf_hE h with ⟨r_50, G_50, S_50, hc_50, h⟩ | ⟨k_50, G_50, S_50, hc_50, h⟩
  · obtain ⟨oo_50, eo_50, h⟩ := lf_lX h
    have ml_50 := mo_Vt_format hc_50
    exact CG.le_tr ml_50 (mo_law_296 hm_33 h)
  · by_cases c_50_0 : k_50 = 0
    · have h := lf_t h c_50_0
      have ml_50 := mo_Vt_format hc_50
      exact CG.le_tr ml_50 (mo_law_296 hm_33 h)
    · have h := lf_f h c_50_0
      exact lf_no h
set_option maxHeartbeats 4000000 in
set_option maxRecDepth 100000 in
theorem mo_law_359 {K L : Nat} {xs : Nat → Int32} {rec_33 : Int32 → CG → CS → MS → (Nat → Int64) → Option (Int32 × CG × CS)} (hm_33 : ∀ (y_4 : Int32) (G : CG) (S : CS) (T : MS) (oo : Nat → Int64) {x : Int32} {G1 : CG} {S1 : CS}, rec_33 y_4 G S T oo = some (x, G1, S1) → CG.le G G1) {y_4 : Int32} {G : CG} {S : CS} {T : MS} {oo : Nat → Int64} {x : Int32} {G' : CG} {S' : CS} (h : f_law_359 K L xs rec_33 y_4 G S T oo = some (x, G', S')) : CG.le G G' := by
  rw [f_law_359] at h
  obtain ⟨g_51, h⟩ := lf_gE h
  obtain ⟨g_52, h⟩ := lf_gE h
  obtain ⟨g_53, h⟩ := lf_gE h
  obtain ⟨r_54, S_54, hc_54, h⟩ := lf_cE h
  obtain ⟨g_55, h⟩ := lf_gE h
  obtain ⟨g_56, h⟩ := lf_gE h
  obtain ⟨g_57, h⟩ := lf_gE h
  obtain ⟨r_58, T_58, hc_58, h⟩ := lf_cE h
  rcases Classical.em (r_54 = r_58) with c_59 | c_59
  · have h := lf_t h c_59
    exact mo_law_1388 hm_33 h
  · have h := lf_f h c_59
    exact ly_leR h
set_option maxHeartbeats 4000000 in
set_option maxRecDepth 100000 in
theorem mo_law_412 {K L : Nat} {xs : Nat → Int32} {rec_33 : Int32 → CG → CS → MS → (Nat → Int64) → Option (Int32 × CG × CS)} (hm_33 : ∀ (y_4 : Int32) (G : CG) (S : CS) (T : MS) (oo : Nat → Int64) {x : Int32} {G1 : CG} {S1 : CS}, rec_33 y_4 G S T oo = some (x, G1, S1) → CG.le G G1) {y_4 : Int32} {z_0 : Int32} {G : CG} {S : CS} {T : MS} {oo : Nat → Int64} {x : Int32} {G' : CG} {S' : CS} (h : f_law_412 K L xs rec_33 y_4 z_0 G S T oo = some (x, G', S')) : CG.le G G' := by
  rw [f_law_412] at h
  obtain ⟨r_122, T_122, hc_122, h⟩ := lf_cE h
  rcases Classical.em (z_0 = r_122) with c_123 | c_123
  · have h := lf_t h c_123
    exact mo_law_1388 hm_33 h
  · have h := lf_f h c_123
    exact ly_leR h
set_option maxHeartbeats 4000000 in
set_option maxRecDepth 100000 in
theorem mo_law_408 {K L : Nat} {xs : Nat → Int32} {rec_33 : Int32 → CG → CS → MS → (Nat → Int64) → Option (Int32 × CG × CS)} (hm_33 : ∀ (y_4 : Int32) (G : CG) (S : CS) (T : MS) (oo : Nat → Int64) {x : Int32} {G1 : CG} {S1 : CS}, rec_33 y_4 G S T oo = some (x, G1, S1) → CG.le G G1) {y_4 : Int32} {G : CG} {S : CS} {T : MS} {oo : Nat → Int64} {x : Int32} {G' : CG} {S' : CS} (h : f_law_408 K L xs rec_33 y_4 G S T oo = some (x, G', S')) : CG.le G G' := by
  rw [f_law_408] at h
  obtain ⟨r_60, G_60, S_60, hc_60, h⟩ := lf_nE h
  have ml_60 := mo_Vt_kind hc_60
  exact CG.le_tr ml_60 (mo_law_412 hm_33 h)
set_option maxHeartbeats 4000000 in
set_option maxRecDepth 100000 in
theorem mo_law_425 {K L : Nat} {xs : Nat → Int32} {rec_33 : Int32 → CG → CS → MS → (Nat → Int64) → Option (Int32 × CG × CS)} (hm_33 : ∀ (y_4 : Int32) (G : CG) (S : CS) (T : MS) (oo : Nat → Int64) {x : Int32} {G1 : CG} {S1 : CS}, rec_33 y_4 G S T oo = some (x, G1, S1) → CG.le G G1) {y_4 : Int32} {z_0 : Int32} {G : CG} {S : CS} {T : MS} {oo : Nat → Int64} {x : Int32} {G' : CG} {S' : CS} (h : f_law_425 K L xs rec_33 y_4 z_0 G S T oo = some (x, G', S')) : CG.le G G' := by
  rw [f_law_425] at h
  obtain ⟨r_124, T_124, hc_124, h⟩ := lf_cE h
  rcases Classical.em (z_0 = r_124) with c_125 | c_125
  · have h := lf_t h c_125
    exact mo_law_1388 hm_33 h
  · have h := lf_f h c_125
    exact ly_leR h
set_option maxHeartbeats 4000000 in
set_option maxRecDepth 100000 in
theorem mo_law_421 {K L : Nat} {xs : Nat → Int32} {rec_33 : Int32 → CG → CS → MS → (Nat → Int64) → Option (Int32 × CG × CS)} (hm_33 : ∀ (y_4 : Int32) (G : CG) (S : CS) (T : MS) (oo : Nat → Int64) {x : Int32} {G1 : CG} {S1 : CS}, rec_33 y_4 G S T oo = some (x, G1, S1) → CG.le G G1) {y_4 : Int32} {G : CG} {S : CS} {T : MS} {oo : Nat → Int64} {x : Int32} {G' : CG} {S' : CS} (h : f_law_421 K L xs rec_33 y_4 G S T oo = some (x, G', S')) : CG.le G G' := by
  rw [f_law_421] at h
  obtain ⟨r_61, G_61, S_61, hc_61, h⟩ := lf_nE h
  have ml_61 := mo_Vt_fault hc_61
  exact CG.le_tr ml_61 (mo_law_425 hm_33 h)
set_option maxHeartbeats 4000000 in
set_option maxRecDepth 100000 in
theorem mo_law_450 {K L : Nat} {xs : Nat → Int32} {rec_33 : Int32 → CG → CS → MS → (Nat → Int64) → Option (Int32 × CG × CS)} (hm_33 : ∀ (y_4 : Int32) (G : CG) (S : CS) (T : MS) (oo : Nat → Int64) {x : Int32} {G1 : CG} {S1 : CS}, rec_33 y_4 G S T oo = some (x, G1, S1) → CG.le G G1) {y_4 : Int32} {z_0 : Int32} {G : CG} {S : CS} {T : MS} {oo : Nat → Int64} {x : Int32} {G' : CG} {S' : CS} (h : f_law_450 K L xs rec_33 y_4 z_0 G S T oo = some (x, G', S')) : CG.le G G' := by
  rw [f_law_450] at h
  obtain ⟨g_126, h⟩ := lf_gE h
  obtain ⟨g_127, h⟩ := lf_gE h
  obtain ⟨r_128, T_128, hc_128, h⟩ := lf_cE h
  rcases Classical.em (z_0 = r_128) with c_129 | c_129
  · have h := lf_t h c_129
    exact mo_law_1388 hm_33 h
  · have h := lf_f h c_129
    exact ly_leR h
set_option maxHeartbeats 4000000 in
set_option maxRecDepth 100000 in
theorem mo_law_434 {K L : Nat} {xs : Nat → Int32} {rec_33 : Int32 → CG → CS → MS → (Nat → Int64) → Option (Int32 × CG × CS)} (hm_33 : ∀ (y_4 : Int32) (G : CG) (S : CS) (T : MS) (oo : Nat → Int64) {x : Int32} {G1 : CG} {S1 : CS}, rec_33 y_4 G S T oo = some (x, G1, S1) → CG.le G G1) {y_4 : Int32} {G : CG} {S : CS} {T : MS} {oo : Nat → Int64} {x : Int32} {G' : CG} {S' : CS} (h : f_law_434 K L xs rec_33 y_4 G S T oo = some (x, G', S')) : CG.le G G' := by
  rw [f_law_434] at h
  obtain ⟨g_62, h⟩ := lf_gE h
  obtain ⟨g_63, h⟩ := lf_gE h
  obtain ⟨r_64, G_64, S_64, hc_64, h⟩ := lf_nE h
  have ml_64 := mo_Vt_byteAt hc_64
  exact CG.le_tr ml_64 (mo_law_450 hm_33 h)
set_option maxHeartbeats 4000000 in
set_option maxRecDepth 100000 in
theorem mo_law_512 {K L : Nat} {xs : Nat → Int32} {rec_33 : Int32 → CG → CS → MS → (Nat → Int64) → Option (Int32 × CG × CS)} (hm_33 : ∀ (y_4 : Int32) (G : CG) (S : CS) (T : MS) (oo : Nat → Int64) {x : Int32} {G1 : CG} {S1 : CS}, rec_33 y_4 G S T oo = some (x, G1, S1) → CG.le G G1) {y_4 : Int32} {G : CG} {S : CS} {T : MS} {oo : Nat → Int64} {x : Int32} {G' : CG} {S' : CS} (h : f_law_512 K L xs rec_33 y_4 G S T oo = some (x, G', S')) : CG.le G G' := by
  rw [f_law_512] at h
  exact mo_law_1388 hm_33 h
set_option maxHeartbeats 4000000 in
set_option maxRecDepth 100000 in
theorem mo_law_476 {K L : Nat} {xs : Nat → Int32} {rec_33 : Int32 → CG → CS → MS → (Nat → Int64) → Option (Int32 × CG × CS)} (hm_33 : ∀ (y_4 : Int32) (G : CG) (S : CS) (T : MS) (oo : Nat → Int64) {x : Int32} {G1 : CG} {S1 : CS}, rec_33 y_4 G S T oo = some (x, G1, S1) → CG.le G G1) {y_4 : Int32} {z_0 : Int32} {G : CG} {S : CS} {T : MS} {oo : Nat → Int64} {x : Int32} {G' : CG} {S' : CS} (h : f_law_476 K L xs rec_33 y_4 z_0 G S T oo = some (x, G', S')) : CG.le G G' := by
  rw [f_law_476] at h
  obtain ⟨r_130, T_130, hc_130, h⟩ := lf_cE h
  obtain ⟨r_131, T_131, hc_131, h⟩ := lf_cE h
  rcases Classical.em (r_131 = z_0) with c_132 | c_132
  · have h := lf_t h c_132
    rcases (Classical.em (z_0 = 0)).symm with c_133 | c_133
    · have h := lf_f h c_133
      exact mo_law_512 hm_33 h
    · have h := lf_t h c_133
      rcases Classical.em ((lg_cmp (oo (0 : Int32).toNatClampNeg) r_130.toInt64) = 0) with c_134 | c_134
      · have h := lf_t h c_134
        exact mo_law_512 hm_33 h
      · have h := lf_f h c_134
        exact ly_leR h
  · have h := lf_f h c_132
    exact ly_leR h
set_option maxHeartbeats 4000000 in
set_option maxRecDepth 100000 in
theorem mo_law_471 {K L : Nat} {xs : Nat → Int32} {rec_33 : Int32 → CG → CS → MS → (Nat → Int64) → Option (Int32 × CG × CS)} (hm_33 : ∀ (y_4 : Int32) (G : CG) (S : CS) (T : MS) (oo : Nat → Int64) {x : Int32} {G1 : CG} {S1 : CS}, rec_33 y_4 G S T oo = some (x, G1, S1) → CG.le G G1) {y_4 : Int32} {G : CG} {S : CS} {T : MS} {oo : Nat → Int64} {x : Int32} {G' : CG} {S' : CS} (h : f_law_471 K L xs rec_33 y_4 G S T oo = some (x, G', S')) : CG.le G G' := by
  rw [f_law_471] at h
  rcases lf_hE h with ⟨r_65, G_65, S_65, hc_65, h⟩ | ⟨k_65, G_65, S_65, hc_65, h⟩
  · obtain ⟨oo_65, eo_65, h⟩ := lf_lX h
    have ml_65 := mo_Vt_items hc_65
    exact CG.le_tr ml_65 (mo_law_476 hm_33 h)
  · by_cases c_65_1 : k_65 = 1
    · have h := lf_t h c_65_1
      have ml_65 := mo_Vt_items hc_65
      exact CG.le_tr ml_65 (mo_law_476 hm_33 h)
    · have h := lf_f h c_65_1
      exact lf_no h
set_option maxHeartbeats 4000000 in
set_option maxRecDepth 100000 in
theorem mo_law_580 {K L : Nat} {xs : Nat → Int32} {rec_33 : Int32 → CG → CS → MS → (Nat → Int64) → Option (Int32 × CG × CS)} (hm_33 : ∀ (y_4 : Int32) (G : CG) (S : CS) (T : MS) (oo : Nat → Int64) {x : Int32} {G1 : CG} {S1 : CS}, rec_33 y_4 G S T oo = some (x, G1, S1) → CG.le G G1) {y_4 : Int32} {G : CG} {S : CS} {T : MS} {oo : Nat → Int64} {x : Int32} {G' : CG} {S' : CS} (h : f_law_580 K L xs rec_33 y_4 G S T oo = some (x, G', S')) : CG.le G G' := by
  rw [f_law_580] at h
  exact mo_law_1388 hm_33 h
set_option maxHeartbeats 4000000 in
set_option maxRecDepth 100000 in
theorem mo_law_532 {K L : Nat} {xs : Nat → Int32} {rec_33 : Int32 → CG → CS → MS → (Nat → Int64) → Option (Int32 × CG × CS)} (hm_33 : ∀ (y_4 : Int32) (G : CG) (S : CS) (T : MS) (oo : Nat → Int64) {x : Int32} {G1 : CG} {S1 : CS}, rec_33 y_4 G S T oo = some (x, G1, S1) → CG.le G G1) {y_4 : Int32} {z_0 : Int32} {G : CG} {S : CS} {T : MS} {oo : Nat → Int64} {x : Int32} {G' : CG} {S' : CS} (h : f_law_532 K L xs rec_33 y_4 z_0 G S T oo = some (x, G', S')) : CG.le G G' := by
  rw [f_law_532] at h
  obtain ⟨g_135, h⟩ := lf_gE h
  obtain ⟨g_136, h⟩ := lf_gE h
  obtain ⟨r_137, T_137, hc_137, h⟩ := lf_cE h
  obtain ⟨r_138, T_138, hc_138, h⟩ := lf_cE h
  rcases Classical.em (r_138 = z_0) with c_139 | c_139
  · have h := lf_t h c_139
    rcases (Classical.em (z_0 = 0)).symm with c_140 | c_140
    · have h := lf_f h c_140
      exact mo_law_580 hm_33 h
    · have h := lf_t h c_140
      rcases Classical.em ((lg_cmp (oo (0 : Int32).toNatClampNeg) r_137.toInt64) = 0) with c_141 | c_141
      · have h := lf_t h c_141
        exact mo_law_580 hm_33 h
      · have h := lf_f h c_141
        exact ly_leR h
  · have h := lf_f h c_139
    exact ly_leR h
set_option maxHeartbeats 4000000 in
set_option maxRecDepth 100000 in
theorem mo_law_515 {K L : Nat} {xs : Nat → Int32} {rec_33 : Int32 → CG → CS → MS → (Nat → Int64) → Option (Int32 × CG × CS)} (hm_33 : ∀ (y_4 : Int32) (G : CG) (S : CS) (T : MS) (oo : Nat → Int64) {x : Int32} {G1 : CG} {S1 : CS}, rec_33 y_4 G S T oo = some (x, G1, S1) → CG.le G G1) {y_4 : Int32} {G : CG} {S : CS} {T : MS} {oo : Nat → Int64} {x : Int32} {G' : CG} {S' : CS} (h : f_law_515 K L xs rec_33 y_4 G S T oo = some (x, G', S')) : CG.le G G' := by
  rw [f_law_515] at h
  obtain ⟨g_66, h⟩ := lf_gE h
  obtain ⟨g_67, h⟩ := lf_gE h
  rcases lf_hE h with ⟨r_68, G_68, S_68, hc_68, h⟩ | ⟨k_68, G_68, S_68, hc_68, h⟩
  · obtain ⟨oo_68, eo_68, h⟩ := lf_lX h
    have ml_68 := mo_Vt_letter hc_68
    exact CG.le_tr ml_68 (mo_law_532 hm_33 h)
  · by_cases c_68_1 : k_68 = 1
    · have h := lf_t h c_68_1
      have ml_68 := mo_Vt_letter hc_68
      exact CG.le_tr ml_68 (mo_law_532 hm_33 h)
    · have h := lf_f h c_68_1
      by_cases c_68_2 : k_68 = 2
      · have h := lf_t h c_68_2
        have ml_68 := mo_Vt_letter hc_68
        exact CG.le_tr ml_68 (mo_law_532 hm_33 h)
      · have h := lf_f h c_68_2
        exact lf_no h
set_option maxHeartbeats 4000000 in
set_option maxRecDepth 100000 in
theorem mo_law_647 {K L : Nat} {xs : Nat → Int32} {rec_33 : Int32 → CG → CS → MS → (Nat → Int64) → Option (Int32 × CG × CS)} (hm_33 : ∀ (y_4 : Int32) (G : CG) (S : CS) (T : MS) (oo : Nat → Int64) {x : Int32} {G1 : CG} {S1 : CS}, rec_33 y_4 G S T oo = some (x, G1, S1) → CG.le G G1) {y_4 : Int32} {G : CG} {S : CS} {T : MS} {oo : Nat → Int64} {x : Int32} {G' : CG} {S' : CS} (h : f_law_647 K L xs rec_33 y_4 G S T oo = some (x, G', S')) : CG.le G G' := by
  rw [f_law_647] at h
  exact mo_law_1388 hm_33 h
set_option maxHeartbeats 4000000 in
set_option maxRecDepth 100000 in
theorem mo_law_600 {K L : Nat} {xs : Nat → Int32} {rec_33 : Int32 → CG → CS → MS → (Nat → Int64) → Option (Int32 × CG × CS)} (hm_33 : ∀ (y_4 : Int32) (G : CG) (S : CS) (T : MS) (oo : Nat → Int64) {x : Int32} {G1 : CG} {S1 : CS}, rec_33 y_4 G S T oo = some (x, G1, S1) → CG.le G G1) {y_4 : Int32} {z_0 : Int32} {G : CG} {S : CS} {T : MS} {oo : Nat → Int64} {x : Int32} {G' : CG} {S' : CS} (h : f_law_600 K L xs rec_33 y_4 z_0 G S T oo = some (x, G', S')) : CG.le G G' := by
  rw [f_law_600] at h
  obtain ⟨g_142, h⟩ := lf_gE h
  obtain ⟨g_143, h⟩ := lf_gE h
  obtain ⟨r_144, T_144, hc_144, h⟩ := lf_cE h
  obtain ⟨r_145, T_145, hc_145, h⟩ := lf_cE h
  rcases Classical.em (r_145 = z_0) with c_146 | c_146
  · have h := lf_t h c_146
    rcases (Classical.em (z_0 = 0)).symm with c_147 | c_147
    · have h := lf_f h c_147
      exact mo_law_647 hm_33 h
    · have h := lf_t h c_147
      rcases Classical.em ((lg_cmp (oo (0 : Int32).toNatClampNeg) r_144) = 0) with c_148 | c_148
      · have h := lf_t h c_148
        exact mo_law_647 hm_33 h
      · have h := lf_f h c_148
        exact ly_leR h
  · have h := lf_f h c_146
    exact ly_leR h
set_option maxHeartbeats 4000000 in
set_option maxRecDepth 100000 in
theorem mo_law_583 {K L : Nat} {xs : Nat → Int32} {rec_33 : Int32 → CG → CS → MS → (Nat → Int64) → Option (Int32 × CG × CS)} (hm_33 : ∀ (y_4 : Int32) (G : CG) (S : CS) (T : MS) (oo : Nat → Int64) {x : Int32} {G1 : CG} {S1 : CS}, rec_33 y_4 G S T oo = some (x, G1, S1) → CG.le G G1) {y_4 : Int32} {G : CG} {S : CS} {T : MS} {oo : Nat → Int64} {x : Int32} {G' : CG} {S' : CS} (h : f_law_583 K L xs rec_33 y_4 G S T oo = some (x, G', S')) : CG.le G G' := by
  rw [f_law_583] at h
  obtain ⟨g_69, h⟩ := lf_gE h
  obtain ⟨g_70, h⟩ := lf_gE h
  rcases lf_hE h with ⟨r_71, G_71, S_71, hc_71, h⟩ | ⟨k_71, G_71, S_71, hc_71, h⟩
  · obtain ⟨oo_71, eo_71, h⟩ := lf_lX h
    have ml_71 := mo_Vt_about hc_71
    exact CG.le_tr ml_71 (mo_law_600 hm_33 h)
  · by_cases c_71_0 : k_71 = 0
    · have h := lf_t h c_71_0
      have ml_71 := mo_Vt_about hc_71
      exact CG.le_tr ml_71 (mo_law_600 hm_33 h)
    · have h := lf_f h c_71_0
      by_cases c_71_1 : k_71 = 1
      · have h := lf_t h c_71_1
        have ml_71 := mo_Vt_about hc_71
        exact CG.le_tr ml_71 (mo_law_600 hm_33 h)
      · have h := lf_f h c_71_1
        by_cases c_71_2 : k_71 = 2
        · have h := lf_t h c_71_2
          have ml_71 := mo_Vt_about hc_71
          exact CG.le_tr ml_71 (mo_law_600 hm_33 h)
        · have h := lf_f h c_71_2
          exact lf_no h
set_option maxHeartbeats 4000000 in
set_option maxRecDepth 100000 in
theorem mo_law_715 {K L : Nat} {xs : Nat → Int32} {rec_33 : Int32 → CG → CS → MS → (Nat → Int64) → Option (Int32 × CG × CS)} (hm_33 : ∀ (y_4 : Int32) (G : CG) (S : CS) (T : MS) (oo : Nat → Int64) {x : Int32} {G1 : CG} {S1 : CS}, rec_33 y_4 G S T oo = some (x, G1, S1) → CG.le G G1) {y_4 : Int32} {G : CG} {S : CS} {T : MS} {oo : Nat → Int64} {x : Int32} {G' : CG} {S' : CS} (h : f_law_715 K L xs rec_33 y_4 G S T oo = some (x, G', S')) : CG.le G G' := by
  rw [f_law_715] at h
  exact mo_law_1388 hm_33 h
set_option maxHeartbeats 4000000 in
set_option maxRecDepth 100000 in
theorem mo_law_667 {K L : Nat} {xs : Nat → Int32} {rec_33 : Int32 → CG → CS → MS → (Nat → Int64) → Option (Int32 × CG × CS)} (hm_33 : ∀ (y_4 : Int32) (G : CG) (S : CS) (T : MS) (oo : Nat → Int64) {x : Int32} {G1 : CG} {S1 : CS}, rec_33 y_4 G S T oo = some (x, G1, S1) → CG.le G G1) {y_4 : Int32} {z_0 : Int32} {G : CG} {S : CS} {T : MS} {oo : Nat → Int64} {x : Int32} {G' : CG} {S' : CS} (h : f_law_667 K L xs rec_33 y_4 z_0 G S T oo = some (x, G', S')) : CG.le G G' := by
  rw [f_law_667] at h
  obtain ⟨g_149, h⟩ := lf_gE h
  obtain ⟨g_150, h⟩ := lf_gE h
  obtain ⟨r_151, T_151, hc_151, h⟩ := lf_cE h
  obtain ⟨r_152, T_152, hc_152, h⟩ := lf_cE h
  rcases Classical.em (r_152 = z_0) with c_153 | c_153
  · have h := lf_t h c_153
    rcases (Classical.em (z_0 = 0)).symm with c_154 | c_154
    · have h := lf_f h c_154
      exact mo_law_715 hm_33 h
    · have h := lf_t h c_154
      rcases Classical.em ((lg_cmp (oo (0 : Int32).toNatClampNeg) r_151.toInt64) = 0) with c_155 | c_155
      · have h := lf_t h c_155
        exact mo_law_715 hm_33 h
      · have h := lf_f h c_155
        exact ly_leR h
  · have h := lf_f h c_153
    exact ly_leR h
set_option maxHeartbeats 4000000 in
set_option maxRecDepth 100000 in
theorem mo_law_650 {K L : Nat} {xs : Nat → Int32} {rec_33 : Int32 → CG → CS → MS → (Nat → Int64) → Option (Int32 × CG × CS)} (hm_33 : ∀ (y_4 : Int32) (G : CG) (S : CS) (T : MS) (oo : Nat → Int64) {x : Int32} {G1 : CG} {S1 : CS}, rec_33 y_4 G S T oo = some (x, G1, S1) → CG.le G G1) {y_4 : Int32} {G : CG} {S : CS} {T : MS} {oo : Nat → Int64} {x : Int32} {G' : CG} {S' : CS} (h : f_law_650 K L xs rec_33 y_4 G S T oo = some (x, G', S')) : CG.le G G' := by
  rw [f_law_650] at h
  obtain ⟨g_72, h⟩ := lf_gE h
  obtain ⟨g_73, h⟩ := lf_gE h
  rcases lf_hE h with ⟨r_74, G_74, S_74, hc_74, h⟩ | ⟨k_74, G_74, S_74, hc_74, h⟩
  · obtain ⟨oo_74, eo_74, h⟩ := lf_lX h
    have ml_74 := mo_Vt_content hc_74
    exact CG.le_tr ml_74 (mo_law_667 hm_33 h)
  · by_cases c_74_1 : k_74 = 1
    · have h := lf_t h c_74_1
      have ml_74 := mo_Vt_content hc_74
      exact CG.le_tr ml_74 (mo_law_667 hm_33 h)
    · have h := lf_f h c_74_1
      by_cases c_74_2 : k_74 = 2
      · have h := lf_t h c_74_2
        have ml_74 := mo_Vt_content hc_74
        exact CG.le_tr ml_74 (mo_law_667 hm_33 h)
      · have h := lf_f h c_74_2
        exact lf_no h
set_option maxHeartbeats 4000000 in
set_option maxRecDepth 100000 in
theorem mo_law_771 {K L : Nat} {xs : Nat → Int32} {rec_33 : Int32 → CG → CS → MS → (Nat → Int64) → Option (Int32 × CG × CS)} (hm_33 : ∀ (y_4 : Int32) (G : CG) (S : CS) (T : MS) (oo : Nat → Int64) {x : Int32} {G1 : CG} {S1 : CS}, rec_33 y_4 G S T oo = some (x, G1, S1) → CG.le G G1) {y_4 : Int32} {G : CG} {S : CS} {T : MS} {oo : Nat → Int64} {x : Int32} {G' : CG} {S' : CS} (h : f_law_771 K L xs rec_33 y_4 G S T oo = some (x, G', S')) : CG.le G G' := by
  rw [f_law_771] at h
  exact mo_law_1388 hm_33 h
set_option maxHeartbeats 4000000 in
set_option maxRecDepth 100000 in
theorem mo_law_729 {K L : Nat} {xs : Nat → Int32} {rec_33 : Int32 → CG → CS → MS → (Nat → Int64) → Option (Int32 × CG × CS)} (hm_33 : ∀ (y_4 : Int32) (G : CG) (S : CS) (T : MS) (oo : Nat → Int64) {x : Int32} {G1 : CG} {S1 : CS}, rec_33 y_4 G S T oo = some (x, G1, S1) → CG.le G G1) {y_4 : Int32} {z_0 : Int32} {G : CG} {S : CS} {T : MS} {oo : Nat → Int64} {x : Int32} {G' : CG} {S' : CS} (h : f_law_729 K L xs rec_33 y_4 z_0 G S T oo = some (x, G', S')) : CG.le G G' := by
  rw [f_law_729] at h
  obtain ⟨g_156, h⟩ := lf_gE h
  obtain ⟨r_157, T_157, hc_157, h⟩ := lf_cE h
  obtain ⟨r_158, T_158, hc_158, h⟩ := lf_cE h
  rcases Classical.em (r_158 = z_0) with c_159 | c_159
  · have h := lf_t h c_159
    rcases (Classical.em (z_0 = 0)).symm with c_160 | c_160
    · have h := lf_f h c_160
      exact mo_law_771 hm_33 h
    · have h := lf_t h c_160
      rcases Classical.em ((lg_cmp (oo (0 : Int32).toNatClampNeg) r_157.toInt64) = 0) with c_161 | c_161
      · have h := lf_t h c_161
        exact mo_law_771 hm_33 h
      · have h := lf_f h c_161
        exact ly_leR h
  · have h := lf_f h c_159
    exact ly_leR h
set_option maxHeartbeats 4000000 in
set_option maxRecDepth 100000 in
theorem mo_law_718 {K L : Nat} {xs : Nat → Int32} {rec_33 : Int32 → CG → CS → MS → (Nat → Int64) → Option (Int32 × CG × CS)} (hm_33 : ∀ (y_4 : Int32) (G : CG) (S : CS) (T : MS) (oo : Nat → Int64) {x : Int32} {G1 : CG} {S1 : CS}, rec_33 y_4 G S T oo = some (x, G1, S1) → CG.le G G1) {y_4 : Int32} {G : CG} {S : CS} {T : MS} {oo : Nat → Int64} {x : Int32} {G' : CG} {S' : CS} (h : f_law_718 K L xs rec_33 y_4 G S T oo = some (x, G', S')) : CG.le G G' := by
  rw [f_law_718] at h
  obtain ⟨g_75, h⟩ := lf_gE h
  rcases lf_hE h with ⟨r_76, G_76, S_76, hc_76, h⟩ | ⟨k_76, G_76, S_76, hc_76, h⟩
  · obtain ⟨oo_76, eo_76, h⟩ := lf_lX h
    have ml_76 := mo_Vt_enter hc_76
    exact CG.le_tr ml_76 (mo_law_729 hm_33 h)
  · by_cases c_76_0 : k_76 = 0
    · have h := lf_t h c_76_0
      have ml_76 := mo_Vt_enter hc_76
      exact CG.le_tr ml_76 (mo_law_729 hm_33 h)
    · have h := lf_f h c_76_0
      by_cases c_76_1 : k_76 = 1
      · have h := lf_t h c_76_1
        have ml_76 := mo_Vt_enter hc_76
        exact CG.le_tr ml_76 (mo_law_729 hm_33 h)
      · have h := lf_f h c_76_1
        by_cases c_76_2 : k_76 = 2
        · have h := lf_t h c_76_2
          have ml_76 := mo_Vt_enter hc_76
          exact CG.le_tr ml_76 (mo_law_729 hm_33 h)
        · have h := lf_f h c_76_2
          exact lf_no h
set_option maxHeartbeats 4000000 in
set_option maxRecDepth 100000 in
theorem mo_law_822 {K L : Nat} {xs : Nat → Int32} {rec_33 : Int32 → CG → CS → MS → (Nat → Int64) → Option (Int32 × CG × CS)} (hm_33 : ∀ (y_4 : Int32) (G : CG) (S : CS) (T : MS) (oo : Nat → Int64) {x : Int32} {G1 : CG} {S1 : CS}, rec_33 y_4 G S T oo = some (x, G1, S1) → CG.le G G1) {y_4 : Int32} {G : CG} {S : CS} {T : MS} {oo : Nat → Int64} {x : Int32} {G' : CG} {S' : CS} (h : f_law_822 K L xs rec_33 y_4 G S T oo = some (x, G', S')) : CG.le G G' := by
  rw [f_law_822] at h
  exact mo_law_1388 hm_33 h
set_option maxHeartbeats 4000000 in
set_option maxRecDepth 100000 in
theorem mo_law_816 {K L : Nat} {xs : Nat → Int32} {rec_33 : Int32 → CG → CS → MS → (Nat → Int64) → Option (Int32 × CG × CS)} (hm_33 : ∀ (y_4 : Int32) (G : CG) (S : CS) (T : MS) (oo : Nat → Int64) {x : Int32} {G1 : CG} {S1 : CS}, rec_33 y_4 G S T oo = some (x, G1, S1) → CG.le G G1) {y_4 : Int32} {z_0 : Int64} {z_1 : Int64} {G : CG} {S : CS} {T : MS} {oo : Nat → Int64} {x : Int32} {G' : CG} {S' : CS} (h : f_law_816 K L xs rec_33 y_4 z_0 z_1 G S T oo = some (x, G', S')) : CG.le G G' := by
  rw [f_law_816] at h
  rcases Classical.em ((lg_cmp z_0 z_1) = 0) with c_215 | c_215
  · have h := lf_t h c_215
    exact mo_law_822 hm_33 h
  · have h := lf_f h c_215
    exact ly_leR h
set_option maxHeartbeats 4000000 in
set_option maxRecDepth 100000 in
theorem mo_law_779 {K L : Nat} {xs : Nat → Int32} {rec_33 : Int32 → CG → CS → MS → (Nat → Int64) → Option (Int32 × CG × CS)} (hm_33 : ∀ (y_4 : Int32) (G : CG) (S : CS) (T : MS) (oo : Nat → Int64) {x : Int32} {G1 : CG} {S1 : CS}, rec_33 y_4 G S T oo = some (x, G1, S1) → CG.le G G1) {y_4 : Int32} {z_0 : Int32} {G : CG} {S : CS} {T : MS} {oo : Nat → Int64} {x : Int32} {G' : CG} {S' : CS} (h : f_law_779 K L xs rec_33 y_4 z_0 G S T oo = some (x, G', S')) : CG.le G G' := by
  rw [f_law_779] at h
  obtain ⟨r_162, T_162, hc_162, h⟩ := lf_cE h
  obtain ⟨r_163, T_163, hc_163, h⟩ := lf_cE h
  rcases Classical.em (r_163 = z_0) with c_164 | c_164
  · have h := lf_t h c_164
    rcases (Classical.em (z_0 = 0)).symm with c_165 | c_165
    · have h := lf_f h c_165
      exact mo_law_822 hm_33 h
    · have h := lf_t h c_165
      rcases Classical.em (r_162 = 0) with c_166 | c_166
      · have h := lf_t h c_166
        exact mo_law_816 hm_33 h
      · have h := lf_f h c_166
        exact mo_law_816 hm_33 h
  · have h := lf_f h c_164
    exact ly_leR h
set_option maxHeartbeats 4000000 in
set_option maxRecDepth 100000 in
theorem mo_law_774 {K L : Nat} {xs : Nat → Int32} {rec_33 : Int32 → CG → CS → MS → (Nat → Int64) → Option (Int32 × CG × CS)} (hm_33 : ∀ (y_4 : Int32) (G : CG) (S : CS) (T : MS) (oo : Nat → Int64) {x : Int32} {G1 : CG} {S1 : CS}, rec_33 y_4 G S T oo = some (x, G1, S1) → CG.le G G1) {y_4 : Int32} {G : CG} {S : CS} {T : MS} {oo : Nat → Int64} {x : Int32} {G' : CG} {S' : CS} (h : f_law_774 K L xs rec_33 y_4 G S T oo = some (x, G', S')) : CG.le G G' := by
  rw [f_law_774] at h
  rcases lf_hE h with ⟨r_77, G_77, S_77, hc_77, h⟩ | ⟨k_77, G_77, S_77, hc_77, h⟩
  · obtain ⟨oo_77, eo_77, h⟩ := lf_lX h
    have ml_77 := mo_Vt_up hc_77
    exact CG.le_tr ml_77 (mo_law_779 hm_33 h)
  · by_cases c_77_1 : k_77 = 1
    · have h := lf_t h c_77_1
      have ml_77 := mo_Vt_up hc_77
      exact CG.le_tr ml_77 (mo_law_779 hm_33 h)
    · have h := lf_f h c_77_1
      exact lf_no h
set_option maxHeartbeats 4000000 in
set_option maxRecDepth 100000 in
theorem mo_law_894 {K L : Nat} {xs : Nat → Int32} {rec_33 : Int32 → CG → CS → MS → (Nat → Int64) → Option (Int32 × CG × CS)} (hm_33 : ∀ (y_4 : Int32) (G : CG) (S : CS) (T : MS) (oo : Nat → Int64) {x : Int32} {G1 : CG} {S1 : CS}, rec_33 y_4 G S T oo = some (x, G1, S1) → CG.le G G1) {y_4 : Int32} {G : CG} {S : CS} {T : MS} {oo : Nat → Int64} {x : Int32} {G' : CG} {S' : CS} (h : f_law_894 K L xs rec_33 y_4 G S T oo = some (x, G', S')) : CG.le G G' := by
  rw [f_law_894] at h
  exact mo_law_1388 hm_33 h
set_option maxHeartbeats 4000000 in
set_option maxRecDepth 100000 in
theorem mo_law_861 {K L : Nat} {xs : Nat → Int32} {rec_33 : Int32 → CG → CS → MS → (Nat → Int64) → Option (Int32 × CG × CS)} (hm_33 : ∀ (y_4 : Int32) (G : CG) (S : CS) (T : MS) (oo : Nat → Int64) {x : Int32} {G1 : CG} {S1 : CS}, rec_33 y_4 G S T oo = some (x, G1, S1) → CG.le G G1) {y_4 : Int32} {y_5 : Int32} {z_1 : Int32} {G : CG} {S : CS} {T : MS} {oo : Nat → Int64} {x : Int32} {G' : CG} {S' : CS} (h : f_law_861 K L xs rec_33 y_4 y_5 z_1 G S T oo = some (x, G', S')) : CG.le G G' := by
  rw [f_law_861] at h
  obtain ⟨r_218, T_218, hc_218, h⟩ := lf_cE h
  obtain ⟨r_219, T_219, hc_219, h⟩ := lf_cE h
  rcases Classical.em (r_219 = y_5) with c_220 | c_220
  · have h := lf_t h c_220
    rcases (Classical.em (y_5 = 0)).symm with c_221 | c_221
    · have h := lf_f h c_221
      exact mo_law_894 hm_33 h
    · have h := lf_t h c_221
      rcases Classical.em ((lg_cmp (oo (0 : Int32).toNatClampNeg) r_218.toInt64) = 0) with c_222 | c_222
      · have h := lf_t h c_222
        exact mo_law_894 hm_33 h
      · have h := lf_f h c_222
        exact ly_leR h
  · have h := lf_f h c_220
    exact ly_leR h
set_option maxHeartbeats 4000000 in
set_option maxRecDepth 100000 in
theorem mo_law_844 {K L : Nat} {xs : Nat → Int32} {rec_33 : Int32 → CG → CS → MS → (Nat → Int64) → Option (Int32 × CG × CS)} (hm_33 : ∀ (y_4 : Int32) (G : CG) (S : CS) (T : MS) (oo : Nat → Int64) {x : Int32} {G1 : CG} {S1 : CS}, rec_33 y_4 G S T oo = some (x, G1, S1) → CG.le G G1) {y_4 : Int32} {z_0 : Int32} {G : CG} {S : CS} {T : MS} {oo : Nat → Int64} {x : Int32} {G' : CG} {S' : CS} (h : f_law_844 K L xs rec_33 y_4 z_0 G S T oo = some (x, G', S')) : CG.le G G' := by
  rw [f_law_844] at h
  obtain ⟨g_216, h⟩ := lf_gE h
  rcases Classical.em ((xs (y_4 + 1).toNatClampNeg) = 0) with c_217 | c_217
  · have h := lf_t h c_217
    exact mo_law_861 hm_33 h
  · have h := lf_f h c_217
    exact mo_law_861 hm_33 h
set_option maxHeartbeats 4000000 in
set_option maxRecDepth 100000 in
theorem mo_law_840 {K L : Nat} {xs : Nat → Int32} {rec_33 : Int32 → CG → CS → MS → (Nat → Int64) → Option (Int32 × CG × CS)} (hm_33 : ∀ (y_4 : Int32) (G : CG) (S : CS) (T : MS) (oo : Nat → Int64) {x : Int32} {G1 : CG} {S1 : CS}, rec_33 y_4 G S T oo = some (x, G1, S1) → CG.le G G1) {y_4 : Int32} {z_1 : Int32} {G : CG} {S : CS} {T : MS} {oo : Nat → Int64} {x : Int32} {G' : CG} {S' : CS} (h : f_law_840 K L xs rec_33 y_4 z_1 G S T oo = some (x, G', S')) : CG.le G G' := by
  rw [f_law_840] at h
  rcases lf_hE h with ⟨r_167, G_167, S_167, hc_167, h⟩ | ⟨k_167, G_167, S_167, hc_167, h⟩
  · obtain ⟨oo_167, eo_167, h⟩ := lf_lX h
    have ml_167 := mo_Vt_make hc_167
    exact CG.le_tr ml_167 (mo_law_844 hm_33 h)
  · by_cases c_167_0 : k_167 = 0
    · have h := lf_t h c_167_0
      have ml_167 := mo_Vt_make hc_167
      exact CG.le_tr ml_167 (mo_law_844 hm_33 h)
    · have h := lf_f h c_167_0
      by_cases c_167_1 : k_167 = 1
      · have h := lf_t h c_167_1
        have ml_167 := mo_Vt_make hc_167
        exact CG.le_tr ml_167 (mo_law_844 hm_33 h)
      · have h := lf_f h c_167_1
        by_cases c_167_3 : k_167 = 3
        · have h := lf_t h c_167_3
          have ml_167 := mo_Vt_make hc_167
          exact CG.le_tr ml_167 (mo_law_844 hm_33 h)
        · have h := lf_f h c_167_3
          exact lf_no h
set_option maxHeartbeats 4000000 in
set_option maxRecDepth 100000 in
theorem mo_law_825 {K L : Nat} {xs : Nat → Int32} {rec_33 : Int32 → CG → CS → MS → (Nat → Int64) → Option (Int32 × CG × CS)} (hm_33 : ∀ (y_4 : Int32) (G : CG) (S : CS) (T : MS) (oo : Nat → Int64) {x : Int32} {G1 : CG} {S1 : CS}, rec_33 y_4 G S T oo = some (x, G1, S1) → CG.le G G1) {y_4 : Int32} {G : CG} {S : CS} {T : MS} {oo : Nat → Int64} {x : Int32} {G' : CG} {S' : CS} (h : f_law_825 K L xs rec_33 y_4 G S T oo = some (x, G', S')) : CG.le G G' := by
  rw [f_law_825] at h
  obtain ⟨g_78, h⟩ := lf_gE h
  rcases Classical.em ((xs (y_4 + 1).toNatClampNeg) = 0) with c_79 | c_79
  · have h := lf_t h c_79
    exact mo_law_840 hm_33 h
  · have h := lf_f h c_79
    exact mo_law_840 hm_33 h
set_option maxHeartbeats 4000000 in
set_option maxRecDepth 100000 in
theorem mo_law_950 {K L : Nat} {xs : Nat → Int32} {rec_33 : Int32 → CG → CS → MS → (Nat → Int64) → Option (Int32 × CG × CS)} (hm_33 : ∀ (y_4 : Int32) (G : CG) (S : CS) (T : MS) (oo : Nat → Int64) {x : Int32} {G1 : CG} {S1 : CS}, rec_33 y_4 G S T oo = some (x, G1, S1) → CG.le G G1) {y_4 : Int32} {G : CG} {S : CS} {T : MS} {oo : Nat → Int64} {x : Int32} {G' : CG} {S' : CS} (h : f_law_950 K L xs rec_33 y_4 G S T oo = some (x, G', S')) : CG.le G G' := by
  rw [f_law_950] at h
  exact mo_law_1388 hm_33 h
set_option maxHeartbeats 4000000 in
set_option maxRecDepth 100000 in
theorem mo_law_908 {K L : Nat} {xs : Nat → Int32} {rec_33 : Int32 → CG → CS → MS → (Nat → Int64) → Option (Int32 × CG × CS)} (hm_33 : ∀ (y_4 : Int32) (G : CG) (S : CS) (T : MS) (oo : Nat → Int64) {x : Int32} {G1 : CG} {S1 : CS}, rec_33 y_4 G S T oo = some (x, G1, S1) → CG.le G G1) {y_4 : Int32} {z_0 : Int32} {G : CG} {S : CS} {T : MS} {oo : Nat → Int64} {x : Int32} {G' : CG} {S' : CS} (h : f_law_908 K L xs rec_33 y_4 z_0 G S T oo = some (x, G', S')) : CG.le G G' := by
  rw [f_law_908] at h
  obtain ⟨g_168, h⟩ := lf_gE h
  obtain ⟨r_169, T_169, hc_169, h⟩ := lf_cE h
  obtain ⟨r_170, T_170, hc_170, h⟩ := lf_cE h
  rcases Classical.em (r_170 = z_0) with c_171 | c_171
  · have h := lf_t h c_171
    rcases (Classical.em (z_0 = 0)).symm with c_172 | c_172
    · have h := lf_f h c_172
      exact mo_law_950 hm_33 h
    · have h := lf_t h c_172
      rcases Classical.em ((lg_cmp (oo (0 : Int32).toNatClampNeg) r_169.toInt64) = 0) with c_173 | c_173
      · have h := lf_t h c_173
        exact mo_law_950 hm_33 h
      · have h := lf_f h c_173
        exact ly_leR h
  · have h := lf_f h c_171
    exact ly_leR h
set_option maxHeartbeats 4000000 in
set_option maxRecDepth 100000 in
theorem mo_law_897 {K L : Nat} {xs : Nat → Int32} {rec_33 : Int32 → CG → CS → MS → (Nat → Int64) → Option (Int32 × CG × CS)} (hm_33 : ∀ (y_4 : Int32) (G : CG) (S : CS) (T : MS) (oo : Nat → Int64) {x : Int32} {G1 : CG} {S1 : CS}, rec_33 y_4 G S T oo = some (x, G1, S1) → CG.le G G1) {y_4 : Int32} {G : CG} {S : CS} {T : MS} {oo : Nat → Int64} {x : Int32} {G' : CG} {S' : CS} (h : f_law_897 K L xs rec_33 y_4 G S T oo = some (x, G', S')) : CG.le G G' := by
  rw [f_law_897] at h
  obtain ⟨g_80, h⟩ := lf_gE h
  rcases lf_hE h with ⟨r_81, G_81, S_81, hc_81, h⟩ | ⟨k_81, G_81, S_81, hc_81, h⟩
  · obtain ⟨oo_81, eo_81, h⟩ := lf_lX h
    have ml_81 := mo_Vt_write hc_81
    exact CG.le_tr ml_81 (mo_law_908 hm_33 h)
  · by_cases c_81_0 : k_81 = 0
    · have h := lf_t h c_81_0
      have ml_81 := mo_Vt_write hc_81
      exact CG.le_tr ml_81 (mo_law_908 hm_33 h)
    · have h := lf_f h c_81_0
      by_cases c_81_1 : k_81 = 1
      · have h := lf_t h c_81_1
        have ml_81 := mo_Vt_write hc_81
        exact CG.le_tr ml_81 (mo_law_908 hm_33 h)
      · have h := lf_f h c_81_1
        by_cases c_81_2 : k_81 = 2
        · have h := lf_t h c_81_2
          have ml_81 := mo_Vt_write hc_81
          exact CG.le_tr ml_81 (mo_law_908 hm_33 h)
        · have h := lf_f h c_81_2
          by_cases c_81_3 : k_81 = 3
          · have h := lf_t h c_81_3
            have ml_81 := mo_Vt_write hc_81
            exact CG.le_tr ml_81 (mo_law_908 hm_33 h)
          · have h := lf_f h c_81_3
            exact lf_no h
set_option maxHeartbeats 4000000 in
set_option maxRecDepth 100000 in
theorem mo_law_1030 {K L : Nat} {xs : Nat → Int32} {rec_33 : Int32 → CG → CS → MS → (Nat → Int64) → Option (Int32 × CG × CS)} (hm_33 : ∀ (y_4 : Int32) (G : CG) (S : CS) (T : MS) (oo : Nat → Int64) {x : Int32} {G1 : CG} {S1 : CS}, rec_33 y_4 G S T oo = some (x, G1, S1) → CG.le G G1) {y_4 : Int32} {G : CG} {S : CS} {T : MS} {oo : Nat → Int64} {x : Int32} {G' : CG} {S' : CS} (h : f_law_1030 K L xs rec_33 y_4 G S T oo = some (x, G', S')) : CG.le G G' := by
  rw [f_law_1030] at h
  exact mo_law_1388 hm_33 h
set_option maxHeartbeats 4000000 in
set_option maxRecDepth 100000 in
theorem mo_law_976 {K L : Nat} {xs : Nat → Int32} {rec_33 : Int32 → CG → CS → MS → (Nat → Int64) → Option (Int32 × CG × CS)} (hm_33 : ∀ (y_4 : Int32) (G : CG) (S : CS) (T : MS) (oo : Nat → Int64) {x : Int32} {G1 : CG} {S1 : CS}, rec_33 y_4 G S T oo = some (x, G1, S1) → CG.le G G1) {y_4 : Int32} {z_0 : Int32} {G : CG} {S : CS} {T : MS} {oo : Nat → Int64} {x : Int32} {G' : CG} {S' : CS} (h : f_law_976 K L xs rec_33 y_4 z_0 G S T oo = some (x, G', S')) : CG.le G G' := by
  rw [f_law_976] at h
  obtain ⟨g_174, h⟩ := lf_gE h
  obtain ⟨g_175, h⟩ := lf_gE h
  obtain ⟨g_176, h⟩ := lf_gE h
  obtain ⟨r_177, T_177, hc_177, h⟩ := lf_cE h
  obtain ⟨r_178, T_178, hc_178, h⟩ := lf_cE h
  rcases Classical.em (r_178 = z_0) with c_179 | c_179
  · have h := lf_t h c_179
    rcases (Classical.em (z_0 = 0)).symm with c_180 | c_180
    · have h := lf_f h c_180
      exact mo_law_1030 hm_33 h
    · have h := lf_t h c_180
      rcases Classical.em ((lg_cmp (oo (0 : Int32).toNatClampNeg) r_177.toInt64) = 0) with c_181 | c_181
      · have h := lf_t h c_181
        exact mo_law_1030 hm_33 h
      · have h := lf_f h c_181
        exact ly_leR h
  · have h := lf_f h c_179
    exact ly_leR h
set_option maxHeartbeats 4000000 in
set_option maxRecDepth 100000 in
theorem mo_law_953 {K L : Nat} {xs : Nat → Int32} {rec_33 : Int32 → CG → CS → MS → (Nat → Int64) → Option (Int32 × CG × CS)} (hm_33 : ∀ (y_4 : Int32) (G : CG) (S : CS) (T : MS) (oo : Nat → Int64) {x : Int32} {G1 : CG} {S1 : CS}, rec_33 y_4 G S T oo = some (x, G1, S1) → CG.le G G1) {y_4 : Int32} {G : CG} {S : CS} {T : MS} {oo : Nat → Int64} {x : Int32} {G' : CG} {S' : CS} (h : f_law_953 K L xs rec_33 y_4 G S T oo = some (x, G', S')) : CG.le G G' := by
  rw [f_law_953] at h
  obtain ⟨g_82, h⟩ := lf_gE h
  obtain ⟨g_83, h⟩ := lf_gE h
  obtain ⟨g_84, h⟩ := lf_gE h
  rcases lf_hE h with ⟨r_85, G_85, S_85, hc_85, h⟩ | ⟨k_85, G_85, S_85, hc_85, h⟩
  · obtain ⟨oo_85, eo_85, h⟩ := lf_lX h
    have ml_85 := mo_Vt_grow hc_85
    exact CG.le_tr ml_85 (mo_law_976 hm_33 h)
  · by_cases c_85_0 : k_85 = 0
    · have h := lf_t h c_85_0
      have ml_85 := mo_Vt_grow hc_85
      exact CG.le_tr ml_85 (mo_law_976 hm_33 h)
    · have h := lf_f h c_85_0
      by_cases c_85_1 : k_85 = 1
      · have h := lf_t h c_85_1
        have ml_85 := mo_Vt_grow hc_85
        exact CG.le_tr ml_85 (mo_law_976 hm_33 h)
      · have h := lf_f h c_85_1
        by_cases c_85_2 : k_85 = 2
        · have h := lf_t h c_85_2
          have ml_85 := mo_Vt_grow hc_85
          exact CG.le_tr ml_85 (mo_law_976 hm_33 h)
        · have h := lf_f h c_85_2
          by_cases c_85_3 : k_85 = 3
          · have h := lf_t h c_85_3
            have ml_85 := mo_Vt_grow hc_85
            exact CG.le_tr ml_85 (mo_law_976 hm_33 h)
          · have h := lf_f h c_85_3
            exact lf_no h
set_option maxHeartbeats 4000000 in
set_option maxRecDepth 100000 in
theorem mo_law_1098 {K L : Nat} {xs : Nat → Int32} {rec_33 : Int32 → CG → CS → MS → (Nat → Int64) → Option (Int32 × CG × CS)} (hm_33 : ∀ (y_4 : Int32) (G : CG) (S : CS) (T : MS) (oo : Nat → Int64) {x : Int32} {G1 : CG} {S1 : CS}, rec_33 y_4 G S T oo = some (x, G1, S1) → CG.le G G1) {y_4 : Int32} {G : CG} {S : CS} {T : MS} {oo : Nat → Int64} {x : Int32} {G' : CG} {S' : CS} (h : f_law_1098 K L xs rec_33 y_4 G S T oo = some (x, G', S')) : CG.le G G' := by
  rw [f_law_1098] at h
  exact mo_law_1388 hm_33 h
set_option maxHeartbeats 4000000 in
set_option maxRecDepth 100000 in
theorem mo_law_1050 {K L : Nat} {xs : Nat → Int32} {rec_33 : Int32 → CG → CS → MS → (Nat → Int64) → Option (Int32 × CG × CS)} (hm_33 : ∀ (y_4 : Int32) (G : CG) (S : CS) (T : MS) (oo : Nat → Int64) {x : Int32} {G1 : CG} {S1 : CS}, rec_33 y_4 G S T oo = some (x, G1, S1) → CG.le G G1) {y_4 : Int32} {z_0 : Int32} {G : CG} {S : CS} {T : MS} {oo : Nat → Int64} {x : Int32} {G' : CG} {S' : CS} (h : f_law_1050 K L xs rec_33 y_4 z_0 G S T oo = some (x, G', S')) : CG.le G G' := by
  rw [f_law_1050] at h
  obtain ⟨g_182, h⟩ := lf_gE h
  obtain ⟨g_183, h⟩ := lf_gE h
  obtain ⟨r_184, T_184, hc_184, h⟩ := lf_cE h
  obtain ⟨r_185, T_185, hc_185, h⟩ := lf_cE h
  rcases Classical.em (r_185 = z_0) with c_186 | c_186
  · have h := lf_t h c_186
    rcases (Classical.em (z_0 = 0)).symm with c_187 | c_187
    · have h := lf_f h c_187
      exact mo_law_1098 hm_33 h
    · have h := lf_t h c_187
      rcases Classical.em ((lg_cmp (oo (0 : Int32).toNatClampNeg) r_184.toInt64) = 0) with c_188 | c_188
      · have h := lf_t h c_188
        exact mo_law_1098 hm_33 h
      · have h := lf_f h c_188
        exact ly_leR h
  · have h := lf_f h c_186
    exact ly_leR h
set_option maxHeartbeats 4000000 in
set_option maxRecDepth 100000 in
theorem mo_law_1033 {K L : Nat} {xs : Nat → Int32} {rec_33 : Int32 → CG → CS → MS → (Nat → Int64) → Option (Int32 × CG × CS)} (hm_33 : ∀ (y_4 : Int32) (G : CG) (S : CS) (T : MS) (oo : Nat → Int64) {x : Int32} {G1 : CG} {S1 : CS}, rec_33 y_4 G S T oo = some (x, G1, S1) → CG.le G G1) {y_4 : Int32} {G : CG} {S : CS} {T : MS} {oo : Nat → Int64} {x : Int32} {G' : CG} {S' : CS} (h : f_law_1033 K L xs rec_33 y_4 G S T oo = some (x, G', S')) : CG.le G G' := by
  rw [f_law_1033] at h
  obtain ⟨g_86, h⟩ := lf_gE h
  obtain ⟨g_87, h⟩ := lf_gE h
  rcases lf_hE h with ⟨r_88, G_88, S_88, hc_88, h⟩ | ⟨k_88, G_88, S_88, hc_88, h⟩
  · obtain ⟨oo_88, eo_88, h⟩ := lf_lX h
    have ml_88 := mo_Vt_cut hc_88
    exact CG.le_tr ml_88 (mo_law_1050 hm_33 h)
  · by_cases c_88_0 : k_88 = 0
    · have h := lf_t h c_88_0
      have ml_88 := mo_Vt_cut hc_88
      exact CG.le_tr ml_88 (mo_law_1050 hm_33 h)
    · have h := lf_f h c_88_0
      by_cases c_88_1 : k_88 = 1
      · have h := lf_t h c_88_1
        have ml_88 := mo_Vt_cut hc_88
        exact CG.le_tr ml_88 (mo_law_1050 hm_33 h)
      · have h := lf_f h c_88_1
        by_cases c_88_2 : k_88 = 2
        · have h := lf_t h c_88_2
          have ml_88 := mo_Vt_cut hc_88
          exact CG.le_tr ml_88 (mo_law_1050 hm_33 h)
        · have h := lf_f h c_88_2
          exact lf_no h
set_option maxHeartbeats 4000000 in
set_option maxRecDepth 100000 in
theorem mo_law_1111 {K L : Nat} {xs : Nat → Int32} {rec_33 : Int32 → CG → CS → MS → (Nat → Int64) → Option (Int32 × CG × CS)} (hm_33 : ∀ (y_4 : Int32) (G : CG) (S : CS) (T : MS) (oo : Nat → Int64) {x : Int32} {G1 : CG} {S1 : CS}, rec_33 y_4 G S T oo = some (x, G1, S1) → CG.le G G1) {y_4 : Int32} {z_0 : Int32} {G : CG} {S : CS} {T : MS} {oo : Nat → Int64} {x : Int32} {G' : CG} {S' : CS} (h : f_law_1111 K L xs rec_33 y_4 z_0 G S T oo = some (x, G', S')) : CG.le G G' := by
  rw [f_law_1111] at h
  obtain ⟨g_189, h⟩ := lf_gE h
  obtain ⟨T_190, hc_190, h⟩ := lf_bE h
  obtain ⟨r_191, T_191, hc_191, h⟩ := lf_cE h
  rcases Classical.em (r_191 = z_0) with c_192 | c_192
  · have h := lf_t h c_192
    exact mo_law_1388 hm_33 h
  · have h := lf_f h c_192
    exact ly_leR h
set_option maxHeartbeats 4000000 in
set_option maxRecDepth 100000 in
theorem mo_law_1101 {K L : Nat} {xs : Nat → Int32} {rec_33 : Int32 → CG → CS → MS → (Nat → Int64) → Option (Int32 × CG × CS)} (hm_33 : ∀ (y_4 : Int32) (G : CG) (S : CS) (T : MS) (oo : Nat → Int64) {x : Int32} {G1 : CG} {S1 : CS}, rec_33 y_4 G S T oo = some (x, G1, S1) → CG.le G G1) {y_4 : Int32} {G : CG} {S : CS} {T : MS} {oo : Nat → Int64} {x : Int32} {G' : CG} {S' : CS} (h : f_law_1101 K L xs rec_33 y_4 G S T oo = some (x, G', S')) : CG.le G G' := by
  rw [f_law_1101] at h
  obtain ⟨g_89, h⟩ := lf_gE h
  rcases lf_hE h with ⟨r_90, G_90, S_90, hc_90, h⟩ | ⟨k_90, G_90, S_90, hc_90, h⟩
  · have ml_90 := mo_Vt_remove hc_90
    exact CG.le_tr ml_90 (mo_law_1111 hm_33 h)
  · by_cases c_90_0 : k_90 = 0
    · have h := lf_t h c_90_0
      have ml_90 := mo_Vt_remove hc_90
      exact CG.le_tr ml_90 (mo_law_1111 hm_33 h)
    · have h := lf_f h c_90_0
      by_cases c_90_1 : k_90 = 1
      · have h := lf_t h c_90_1
        have ml_90 := mo_Vt_remove hc_90
        exact CG.le_tr ml_90 (mo_law_1111 hm_33 h)
      · have h := lf_f h c_90_1
        by_cases c_90_2 : k_90 = 2
        · have h := lf_t h c_90_2
          have ml_90 := mo_Vt_remove hc_90
          exact CG.le_tr ml_90 (mo_law_1111 hm_33 h)
        · have h := lf_f h c_90_2
          exact lf_no h
set_option maxHeartbeats 4000000 in
set_option maxRecDepth 100000 in
theorem mo_law_1165 {K L : Nat} {xs : Nat → Int32} {rec_33 : Int32 → CG → CS → MS → (Nat → Int64) → Option (Int32 × CG × CS)} (hm_33 : ∀ (y_4 : Int32) (G : CG) (S : CS) (T : MS) (oo : Nat → Int64) {x : Int32} {G1 : CG} {S1 : CS}, rec_33 y_4 G S T oo = some (x, G1, S1) → CG.le G G1) {y_4 : Int32} {z_0 : Int32} {G : CG} {S : CS} {T : MS} {oo : Nat → Int64} {x : Int32} {G' : CG} {S' : CS} (h : f_law_1165 K L xs rec_33 y_4 z_0 G S T oo = some (x, G', S')) : CG.le G G' := by
  rw [f_law_1165] at h
  obtain ⟨g_193, h⟩ := lf_gE h
  obtain ⟨g_194, h⟩ := lf_gE h
  obtain ⟨g_195, h⟩ := lf_gE h
  obtain ⟨g_196, h⟩ := lf_gE h
  obtain ⟨T_197, hc_197, h⟩ := lf_bE h
  obtain ⟨r_198, T_198, hc_198, h⟩ := lf_cE h
  rcases Classical.em (r_198 = z_0) with c_199 | c_199
  · have h := lf_t h c_199
    exact mo_law_1388 hm_33 h
  · have h := lf_f h c_199
    exact ly_leR h
set_option maxHeartbeats 4000000 in
set_option maxRecDepth 100000 in
theorem mo_law_1137 {K L : Nat} {xs : Nat → Int32} {rec_33 : Int32 → CG → CS → MS → (Nat → Int64) → Option (Int32 × CG × CS)} (hm_33 : ∀ (y_4 : Int32) (G : CG) (S : CS) (T : MS) (oo : Nat → Int64) {x : Int32} {G1 : CG} {S1 : CS}, rec_33 y_4 G S T oo = some (x, G1, S1) → CG.le G G1) {y_4 : Int32} {G : CG} {S : CS} {T : MS} {oo : Nat → Int64} {x : Int32} {G' : CG} {S' : CS} (h : f_law_1137 K L xs rec_33 y_4 G S T oo = some (x, G', S')) : CG.le G G' := by
  rw [f_law_1137] at h
  obtain ⟨g_91, h⟩ := lf_gE h
  obtain ⟨g_92, h⟩ := lf_gE h
  obtain ⟨g_93, h⟩ := lf_gE h
  obtain ⟨g_94, h⟩ := lf_gE h
  rcases lf_hE h with ⟨r_95, G_95, S_95, hc_95, h⟩ | ⟨k_95, G_95, S_95, hc_95, h⟩
  · have ml_95 := mo_Vt_stamp hc_95
    exact CG.le_tr ml_95 (mo_law_1165 hm_33 h)
  · by_cases c_95_0 : k_95 = 0
    · have h := lf_t h c_95_0
      have ml_95 := mo_Vt_stamp hc_95
      exact CG.le_tr ml_95 (mo_law_1165 hm_33 h)
    · have h := lf_f h c_95_0
      by_cases c_95_1 : k_95 = 1
      · have h := lf_t h c_95_1
        have ml_95 := mo_Vt_stamp hc_95
        exact CG.le_tr ml_95 (mo_law_1165 hm_33 h)
      · have h := lf_f h c_95_1
        by_cases c_95_2 : k_95 = 2
        · have h := lf_t h c_95_2
          have ml_95 := mo_Vt_stamp hc_95
          exact CG.le_tr ml_95 (mo_law_1165 hm_33 h)
        · have h := lf_f h c_95_2
          exact lf_no h
set_option maxHeartbeats 4000000 in
set_option maxRecDepth 100000 in
theorem mo_law_1225 {K L : Nat} {xs : Nat → Int32} {rec_33 : Int32 → CG → CS → MS → (Nat → Int64) → Option (Int32 × CG × CS)} (hm_33 : ∀ (y_4 : Int32) (G : CG) (S : CS) (T : MS) (oo : Nat → Int64) {x : Int32} {G1 : CG} {S1 : CS}, rec_33 y_4 G S T oo = some (x, G1, S1) → CG.le G G1) {y_4 : Int32} {z_0 : Int32} {G : CG} {S : CS} {T : MS} {oo : Nat → Int64} {x : Int32} {G' : CG} {S' : CS} (h : f_law_1225 K L xs rec_33 y_4 z_0 G S T oo = some (x, G', S')) : CG.le G G' := by
  rw [f_law_1225] at h
  obtain ⟨g_200, h⟩ := lf_gE h
  obtain ⟨g_201, h⟩ := lf_gE h
  obtain ⟨r_202, T_202, hc_202, h⟩ := lf_cE h
  rcases Classical.em (z_0 = r_202) with c_203 | c_203
  · have h := lf_t h c_203
    exact mo_law_1388 hm_33 h
  · have h := lf_f h c_203
    exact ly_leR h
set_option maxHeartbeats 4000000 in
set_option maxRecDepth 100000 in
theorem mo_law_1209 {K L : Nat} {xs : Nat → Int32} {rec_33 : Int32 → CG → CS → MS → (Nat → Int64) → Option (Int32 × CG × CS)} (hm_33 : ∀ (y_4 : Int32) (G : CG) (S : CS) (T : MS) (oo : Nat → Int64) {x : Int32} {G1 : CG} {S1 : CS}, rec_33 y_4 G S T oo = some (x, G1, S1) → CG.le G G1) {y_4 : Int32} {G : CG} {S : CS} {T : MS} {oo : Nat → Int64} {x : Int32} {G' : CG} {S' : CS} (h : f_law_1209 K L xs rec_33 y_4 G S T oo = some (x, G', S')) : CG.le G G' := by
  rw [f_law_1209] at h
  obtain ⟨g_96, h⟩ := lf_gE h
  obtain ⟨g_97, h⟩ := lf_gE h
  obtain ⟨r_98, G_98, S_98, hc_98, h⟩ := lf_nE h
  have ml_98 := mo_Vt_plan hc_98
  exact CG.le_tr ml_98 (mo_law_1225 hm_33 h)
set_option maxHeartbeats 4000000 in
set_option maxRecDepth 100000 in
theorem mo_law_1262 {K L : Nat} {xs : Nat → Int32} {rec_33 : Int32 → CG → CS → MS → (Nat → Int64) → Option (Int32 × CG × CS)} (hm_33 : ∀ (y_4 : Int32) (G : CG) (S : CS) (T : MS) (oo : Nat → Int64) {x : Int32} {G1 : CG} {S1 : CS}, rec_33 y_4 G S T oo = some (x, G1, S1) → CG.le G G1) {y_4 : Int32} {z_0 : Int32} {G : CG} {S : CS} {T : MS} {oo : Nat → Int64} {x : Int32} {G' : CG} {S' : CS} (h : f_law_1262 K L xs rec_33 y_4 z_0 G S T oo = some (x, G', S')) : CG.le G G' := by
  rw [f_law_1262] at h
  obtain ⟨g_204, h⟩ := lf_gE h
  obtain ⟨g_205, h⟩ := lf_gE h
  obtain ⟨r_206, T_206, hc_206, h⟩ := lf_cE h
  rcases Classical.em (z_0 = r_206) with c_207 | c_207
  · have h := lf_t h c_207
    exact mo_law_1388 hm_33 h
  · have h := lf_f h c_207
    exact ly_leR h
set_option maxHeartbeats 4000000 in
set_option maxRecDepth 100000 in
theorem mo_law_1246 {K L : Nat} {xs : Nat → Int32} {rec_33 : Int32 → CG → CS → MS → (Nat → Int64) → Option (Int32 × CG × CS)} (hm_33 : ∀ (y_4 : Int32) (G : CG) (S : CS) (T : MS) (oo : Nat → Int64) {x : Int32} {G1 : CG} {S1 : CS}, rec_33 y_4 G S T oo = some (x, G1, S1) → CG.le G G1) {y_4 : Int32} {G : CG} {S : CS} {T : MS} {oo : Nat → Int64} {x : Int32} {G' : CG} {S' : CS} (h : f_law_1246 K L xs rec_33 y_4 G S T oo = some (x, G', S')) : CG.le G G' := by
  rw [f_law_1246] at h
  obtain ⟨g_99, h⟩ := lf_gE h
  obtain ⟨g_100, h⟩ := lf_gE h
  obtain ⟨r_101, G_101, S_101, hc_101, h⟩ := lf_nE h
  have ml_101 := mo_Vt_target hc_101
  exact CG.le_tr ml_101 (mo_law_1262 hm_33 h)
set_option maxHeartbeats 4000000 in
set_option maxRecDepth 100000 in
theorem mo_law_1283 {K L : Nat} {xs : Nat → Int32} {rec_33 : Int32 → CG → CS → MS → (Nat → Int64) → Option (Int32 × CG × CS)} (hm_33 : ∀ (y_4 : Int32) (G : CG) (S : CS) (T : MS) (oo : Nat → Int64) {x : Int32} {G1 : CG} {S1 : CS}, rec_33 y_4 G S T oo = some (x, G1, S1) → CG.le G G1) {y_4 : Int32} {G : CG} {S : CS} {T : MS} {oo : Nat → Int64} {x : Int32} {G' : CG} {S' : CS} (h : f_law_1283 K L xs rec_33 y_4 G S T oo = some (x, G', S')) : CG.le G G' := by
  rw [f_law_1283] at h
  obtain ⟨g_102, h⟩ := lf_gE h
  obtain ⟨g_103, h⟩ := lf_gE h
  obtain ⟨r_104, S_104, hc_104, h⟩ := lf_cE h
  obtain ⟨g_105, h⟩ := lf_gE h
  obtain ⟨g_106, h⟩ := lf_gE h
  obtain ⟨r_107, T_107, hc_107, h⟩ := lf_cE h
  rcases Classical.em (r_104 = r_107) with c_108 | c_108
  · have h := lf_t h c_108
    exact mo_law_1388 hm_33 h
  · have h := lf_f h c_108
    exact ly_leR h
set_option maxHeartbeats 4000000 in
set_option maxRecDepth 100000 in
theorem mo_law_1385 {K L : Nat} {xs : Nat → Int32} {rec_33 : Int32 → CG → CS → MS → (Nat → Int64) → Option (Int32 × CG × CS)} (hm_33 : ∀ (y_4 : Int32) (G : CG) (S : CS) (T : MS) (oo : Nat → Int64) {x : Int32} {G1 : CG} {S1 : CS}, rec_33 y_4 G S T oo = some (x, G1, S1) → CG.le G G1) {y_4 : Int32} {G : CG} {S : CS} {T : MS} {oo : Nat → Int64} {x : Int32} {G' : CG} {S' : CS} (h : f_law_1385 K L xs rec_33 y_4 G S T oo = some (x, G', S')) : CG.le G G' := by
  rw [f_law_1385] at h
  exact mo_law_1388 hm_33 h
set_option maxHeartbeats 4000000 in
set_option maxRecDepth 100000 in
theorem mo_law_1337 {K L : Nat} {xs : Nat → Int32} {rec_33 : Int32 → CG → CS → MS → (Nat → Int64) → Option (Int32 × CG × CS)} (hm_33 : ∀ (y_4 : Int32) (G : CG) (S : CS) (T : MS) (oo : Nat → Int64) {x : Int32} {G1 : CG} {S1 : CS}, rec_33 y_4 G S T oo = some (x, G1, S1) → CG.le G G1) {y_4 : Int32} {z_0 : Int32} {G : CG} {S : CS} {T : MS} {oo : Nat → Int64} {x : Int32} {G' : CG} {S' : CS} (h : f_law_1337 K L xs rec_33 y_4 z_0 G S T oo = some (x, G', S')) : CG.le G G' := by
  rw [f_law_1337] at h
  obtain ⟨g_208, h⟩ := lf_gE h
  obtain ⟨g_209, h⟩ := lf_gE h
  obtain ⟨r_210, T_210, hc_210, h⟩ := lf_cE h
  obtain ⟨r_211, T_211, hc_211, h⟩ := lf_cE h
  rcases Classical.em (r_211 = z_0) with c_212 | c_212
  · have h := lf_t h c_212
    rcases (Classical.em (z_0 = 0)).symm with c_213 | c_213
    · have h := lf_f h c_213
      exact mo_law_1385 hm_33 h
    · have h := lf_t h c_213
      rcases Classical.em ((lg_cmp (oo (0 : Int32).toNatClampNeg) r_210.toInt64) = 0) with c_214 | c_214
      · have h := lf_t h c_214
        exact mo_law_1385 hm_33 h
      · have h := lf_f h c_214
        exact ly_leR h
  · have h := lf_f h c_212
    exact ly_leR h
set_option maxHeartbeats 4000000 in
set_option maxRecDepth 100000 in
theorem mo_law_1320 {K L : Nat} {xs : Nat → Int32} {rec_33 : Int32 → CG → CS → MS → (Nat → Int64) → Option (Int32 × CG × CS)} (hm_33 : ∀ (y_4 : Int32) (G : CG) (S : CS) (T : MS) (oo : Nat → Int64) {x : Int32} {G1 : CG} {S1 : CS}, rec_33 y_4 G S T oo = some (x, G1, S1) → CG.le G G1) {y_4 : Int32} {G : CG} {S : CS} {T : MS} {oo : Nat → Int64} {x : Int32} {G' : CG} {S' : CS} (h : f_law_1320 K L xs rec_33 y_4 G S T oo = some (x, G', S')) : CG.le G G' := by
  rw [f_law_1320] at h
  obtain ⟨g_109, h⟩ := lf_gE h
  obtain ⟨g_110, h⟩ := lf_gE h
  rcases lf_hE h with ⟨r_111, G_111, S_111, hc_111, h⟩ | ⟨k_111, G_111, S_111, hc_111, h⟩
  · obtain ⟨oo_111, eo_111, h⟩ := lf_lX h
    have ml_111 := mo_Vt_run hc_111
    exact CG.le_tr ml_111 (mo_law_1337 hm_33 h)
  · by_cases c_111_0 : k_111 = 0
    · have h := lf_t h c_111_0
      have ml_111 := mo_Vt_run hc_111
      exact CG.le_tr ml_111 (mo_law_1337 hm_33 h)
    · have h := lf_f h c_111_0
      by_cases c_111_1 : k_111 = 1
      · have h := lf_t h c_111_1
        have ml_111 := mo_Vt_run hc_111
        exact CG.le_tr ml_111 (mo_law_1337 hm_33 h)
      · have h := lf_f h c_111_1
        exact lf_no h
set_option maxHeartbeats 4000000 in
set_option maxRecDepth 100000 in
theorem mo_law_33 {K L : Nat} {xs : Nat → Int32} : ∀ (k : Nat) (y_4 : Int32) (G : CG) (S : CS) (T : MS) (oo : Nat → Int64) {x : Int32} {G' : CG} {S' : CS}, f_law_33 K L xs k y_4 G S T oo = some (x, G', S') → CG.le G G' := by
  intro k
  induction k with
  | zero => intro y_4 G S T oo x G' S' h; exact lf_no h
  | succ k hm_33 =>
    intro y_4 G S T oo x G' S' h
    rw [f_law_33] at h
    rcases Classical.em (((Int32.ofNat L) - 6) < y_4) with c_1 | c_1
    · have h := lf_t h c_1
      exact ly_leR h
    · have h := lf_f h c_1
      obtain ⟨g_2, h⟩ := lf_gE h
      by_cases c_3 : ((xs y_4.toNatClampNeg) &&& 31) = 0
      · have h := lf_t h c_3
        exact mo_law_160 hm_33 h
      · have h := lf_f h c_3
        by_cases c_4 : ((xs y_4.toNatClampNeg) &&& 31) = 1
        · have h := lf_t h c_4
          exact mo_law_231 hm_33 h
        · have h := lf_f h c_4
          by_cases c_5 : ((xs y_4.toNatClampNeg) &&& 31) = 2
          · have h := lf_t h c_5
            exact mo_law_256 hm_33 h
          · have h := lf_f h c_5
            by_cases c_6 : ((xs y_4.toNatClampNeg) &&& 31) = 3
            · have h := lf_t h c_6
              exact mo_law_267 hm_33 h
            · have h := lf_f h c_6
              by_cases c_7 : ((xs y_4.toNatClampNeg) &&& 31) = 4
              · have h := lf_t h c_7
                exact mo_law_359 hm_33 h
              · have h := lf_f h c_7
                by_cases c_8 : ((xs y_4.toNatClampNeg) &&& 31) = 5
                · have h := lf_t h c_8
                  exact mo_law_408 hm_33 h
                · have h := lf_f h c_8
                  by_cases c_9 : ((xs y_4.toNatClampNeg) &&& 31) = 6
                  · have h := lf_t h c_9
                    exact mo_law_421 hm_33 h
                  · have h := lf_f h c_9
                    by_cases c_10 : ((xs y_4.toNatClampNeg) &&& 31) = 7
                    · have h := lf_t h c_10
                      exact mo_law_434 hm_33 h
                    · have h := lf_f h c_10
                      by_cases c_11 : ((xs y_4.toNatClampNeg) &&& 31) = 8
                      · have h := lf_t h c_11
                        exact mo_law_471 hm_33 h
                      · have h := lf_f h c_11
                        by_cases c_12 : ((xs y_4.toNatClampNeg) &&& 31) = 9
                        · have h := lf_t h c_12
                          exact mo_law_515 hm_33 h
                        · have h := lf_f h c_12
                          by_cases c_13 : ((xs y_4.toNatClampNeg) &&& 31) = 10
                          · have h := lf_t h c_13
                            exact mo_law_583 hm_33 h
                          · have h := lf_f h c_13
                            by_cases c_14 : ((xs y_4.toNatClampNeg) &&& 31) = 11
                            · have h := lf_t h c_14
                              exact mo_law_650 hm_33 h
                            · have h := lf_f h c_14
                              by_cases c_15 : ((xs y_4.toNatClampNeg) &&& 31) = 12
                              · have h := lf_t h c_15
                                exact mo_law_718 hm_33 h
                              · have h := lf_f h c_15
                                by_cases c_16 : ((xs y_4.toNatClampNeg) &&& 31) = 13
                                · have h := lf_t h c_16
                                  exact mo_law_774 hm_33 h
                                · have h := lf_f h c_16
                                  by_cases c_17 : ((xs y_4.toNatClampNeg) &&& 31) = 14
                                  · have h := lf_t h c_17
                                    exact mo_law_825 hm_33 h
                                  · have h := lf_f h c_17
                                    by_cases c_18 : ((xs y_4.toNatClampNeg) &&& 31) = 15
                                    · have h := lf_t h c_18
                                      exact mo_law_897 hm_33 h
                                    · have h := lf_f h c_18
                                      by_cases c_19 : ((xs y_4.toNatClampNeg) &&& 31) = 16
                                      · have h := lf_t h c_19
                                        exact mo_law_953 hm_33 h
                                      · have h := lf_f h c_19
                                        by_cases c_20 : ((xs y_4.toNatClampNeg) &&& 31) = 17
                                        · have h := lf_t h c_20
                                          exact mo_law_1033 hm_33 h
                                        · have h := lf_f h c_20
                                          by_cases c_21 : ((xs y_4.toNatClampNeg) &&& 31) = 18
                                          · have h := lf_t h c_21
                                            exact mo_law_1101 hm_33 h
                                          · have h := lf_f h c_21
                                            by_cases c_22 : ((xs y_4.toNatClampNeg) &&& 31) = 19
                                            · have h := lf_t h c_22
                                              exact mo_law_1137 hm_33 h
                                            · have h := lf_f h c_22
                                              by_cases c_23 : ((xs y_4.toNatClampNeg) &&& 31) = 20
                                              · have h := lf_t h c_23
                                                exact mo_law_1209 hm_33 h
                                              · have h := lf_f h c_23
                                                by_cases c_24 : ((xs y_4.toNatClampNeg) &&& 31) = 21
                                                · have h := lf_t h c_24
                                                  exact mo_law_1246 hm_33 h
                                                · have h := lf_f h c_24
                                                  by_cases c_25 : ((xs y_4.toNatClampNeg) &&& 31) = 22
                                                  · have h := lf_t h c_25
                                                    exact mo_law_1283 hm_33 h
                                                  · have h := lf_f h c_25
                                                    by_cases c_26 : ((xs y_4.toNatClampNeg) &&& 31) = 23
                                                    · have h := lf_t h c_26
                                                      exact mo_law_1320 hm_33 h
                                                    · have h := lf_f h c_26
                                                      exact mo_law_1388 hm_33 h
