/-! The bytes of a file put one behind another. -/
def psF (D : Nat → Int32) (ch : List Nat) (f : Nat) : Nat := plC D (ch.getD (f / (512 * hc D)) 0) + f % (512 * hc D)
def wrN (X : Nat → Int32) (po : Nat → Nat) (sv : Nat → Int32) : Nat → Nat → Int32
  | 0 => X
  | n + 1 => upd (wrN X po sv n) (po n) (sv n)
theorem wrN_out {X : Nat → Int32} {po : Nat → Nat} {sv : Nat → Int32} {q : Nat} : ∀ n, (∀ i, i < n → po i ≠ q) → o1 (wrN X po sv n) q = o1 X q := by
  intro n
  induction n with
  | zero => intro _; rfl
  | succ n ih =>
    intro h
    rw [wrN, o1_upd_n (fun e => h n (by omega) e.symm), ih (fun i hi => h i (by omega))]
theorem wrN_ag {X Y : Nat → Int32} {po : Nat → Nat} {s s' : Nat → Int32} {q : Nat} (hq : o1 X q = o1 Y q) : ∀ n, (∀ i, i < n → ub (s i) = ub (s' i)) → o1 (wrN X po s n) q = o1 (wrN Y po s' n) q := by
  intro n
  induction n with
  | zero => intro _; exact hq
  | succ n ih =>
    intro h
    rw [wrN, wrN]
    by_cases w : q = po n
    · rw [w, o1_upd_s, o1_upd_s, h n (by omega)]
    · rw [o1_upd_n w, o1_upd_n w, ih (fun i hi => h i (by omega))]
theorem wrN_at {X : Nat → Int32} {po : Nat → Nat} {sv : Nat → Int32} {i : Nat} : ∀ n, (∀ a b, a < n → b < n → po a = po b → a = b) → i < n → o1 (wrN X po sv n) (po i) = ub (sv i) := by
  intro n
  induction n with
  | zero => intro _ h; exact absurd h (Nat.not_lt_zero _)
  | succ n ih =>
    intro h hi
    rw [wrN]
    by_cases w : i = n
    · rw [w, o1_upd_s]
    · rw [o1_upd_n (fun e => w (h i n hi (by omega) e)), ih (fun a b ha0 hb => h a b (by omega) (by omega)) (by omega)]
theorem wrN_st {X : Nat → Int32} {po : Nat → Nat} {sv : Nat → Int32} {p a n q : Nat} (h : ∀ i, i < n → po i < p ∨ p + 4 ≤ po i) : o1 (wrN (st X p a 4) po sv n) q = o1 (st (wrN X po sv n) p a 4) q := by
  by_cases w : p ≤ q ∧ q < p + 4
  · rw [wrN_out n (fun i hi e => by have := h i hi; omega), st_o1, st_o1, if_pos w, if_pos w]
  · rw [st_out (D := wrN X po sv n) (by omega)]
    exact wrN_ag (st_out (by omega)) n (fun _ _ => rfl)
theorem psF_in {N f : Nat} {D : Nat → Int32} {ch : List Nat} (h : hdOk N D) (hN : N ≤ 1024) (hcl : ∀ x ∈ ch, isCl N D x) (hf : f < ch.length * (512 * hc D)) : f / (512 * hc D) < ch.length ∧ 512 * ha D ≤ psF D ch f ∧ psF D ch f < 512 * N ∧ ch.getD (f / (512 * hc D)) 0 ∈ ch ∧ clOf D (psF D ch f) = ch.getD (f / (512 * hc D)) 0 := by
  have hC := (hd_facts h hN).1
  have hq : f / (512 * hc D) < ch.length := by rw [Nat.div_lt_iff_lt_mul (by omega)]; exact hf
  have hm := getD_mem hq
  have hr : f % (512 * hc D) < 512 * hc D := Nat.mod_lt _ (by omega)
  have hp := plC_lt h hN (hcl _ hm) hr
  exact ⟨hq, hp.1, hp.2, hm, plC_cl hC (hcl _ hm).1 hr⟩
theorem psF_succ {f : Nat} {D : Nat → Int32} {ch : List Nat} (hC : hc D = 2 ∨ hc D = 4 ∨ hc D = 8) (hf : (f + 1) % 512 ≠ 0) : psF D ch (f + 1) = psF D ch f + 1 := by
  have e1 : (f + 1) / (512 * hc D) = f / (512 * hc D) := by rcases hC with e | e | e <;> rw [e] <;> omega
  have e2 : (f + 1) % (512 * hc D) = f % (512 * hc D) + 1 := by rcases hC with e | e | e <;> rw [e] <;> omega
  unfold psF
  rw [e1, e2]
  rfl
theorem psF_slot {f j : Nat} {D : Nat → Int32} {ch : List Nat} (hC : hc D = 2 ∨ hc D = 4 ∨ hc D = 8) (hj : j < 32) : psF D ch (32 * f + j) = psF D ch (32 * f) + j ∧ psF D ch (32 * f) % 32 = 0 := by
  have e1 : (32 * f + j) / (512 * hc D) = 32 * f / (512 * hc D) := by rcases hC with e | e | e <;> rw [e] <;> omega
  have e2 : (32 * f + j) % (512 * hc D) = 32 * f % (512 * hc D) + j := by rcases hC with e | e | e <;> rw [e] <;> omega
  have e3 : 32 * f % (512 * hc D) % 32 = 0 := by rcases hC with e | e | e <;> rw [e] <;> omega
  unfold psF
  rw [e1, e2]
  refine ⟨(Nat.add_assoc _ _ _).symm, ?_⟩
  unfold plC
  generalize ha D + (ch.getD (32 * f / (512 * hc D)) 0 - 2) * hc D = y at *
  generalize 32 * f % (512 * hc D) = x at *
  omega
theorem psF_inj {N f g : Nat} {D : Nat → Int32} {ch : List Nat} (h : hdOk N D) (hN : N ≤ 1024) (hcl : ∀ x ∈ ch, isCl N D x) (hn : ch.Nodup) (hf : f < ch.length * (512 * hc D)) (hg : g < ch.length * (512 * hc D)) (e : psF D ch f = psF D ch g) : f = g := by
  obtain ⟨a1, -, -, -, a5⟩ := psF_in h hN hcl hf
  obtain ⟨b1, -, -, -, b5⟩ := psF_in h hN hcl hg
  have e1 : ch.getD (f / (512 * hc D)) 0 = ch.getD (g / (512 * hc D)) 0 := by rw [← a5, ← b5, e]
  have e2 := nodup_inj hn a1 b1 e1
  unfold psF at e
  rw [e1] at e
  have e3 : f % (512 * hc D) = g % (512 * hc D) := by omega
  rw [← Nat.div_add_mod f (512 * hc D), ← Nat.div_add_mod g (512 * hc D), e2, e3]
/-- the byte that grow puts -/
abbrev gP (y : Int32) (i : Nat) : Int32 := (y + nI i * nI i) + (nI i >>> ((8 : Int32) &&& 31))
theorem qM_bytes {K N p s n : Nat} {D : Nat → Int32} {ch : List Nat} (hK : 100 ≤ K) (h : hdOk N D) (hN : N ≤ 1024) (hcl : ∀ x ∈ ch, isCl N D x) (hl : ch.length ≤ 514) (hsn : s + n ≤ ch.length * (512 * hc D)) (hp : p + 32 ≤ 512 * N) (X sv tp : Nat → Int32) (y3 y4 : Int32) (hsv : (y3 = 0 ∧ ∀ i, i < n → sv i = wb (gP y4 i)) ∨ (¬ y3 = 0 ∧ n ≤ 4096 ∧ ∀ i, i < n → sv i = vp_nar .byte (tp i))) : ∀ (d i k : Nat) (T : MS), i + d = n → d < k → T.v_disk = wrN X (fun i => psF D ch (s + i)) sv i → T.v_c = nI (hc D) → T.v_a = nI (ha D) → T.v_tape = tp → (∀ q, q < ch.length → T.v_chain q = nI (ch.getD q 0)) → f_Mo_append_195 K k (nI n) y3 y4 (nI p) (nI s) (nI (512 * hc D)) (nI i) T = some (nI (s + n), (T.u_v_disk (st (wrN X (fun i => psF D ch (s + i)) sv n) (p + 28) (s + n) 4)).u_v_looked 0) := by
  have hC := (hd_facts h hN).1
  have hle : ch.length * (512 * hc D) ≤ 514 * 4096 := Nat.mul_le_mul hl (by omega)
  intro d
  induction d with
  | zero =>
    intro i k T g1 g2 g3 g4 g5 g6 g7
    obtain ⟨k, rfl⟩ : ∃ m, k = m + 1 := ⟨k - 1, by omega⟩
    obtain rfl : i = n := by omega
    unfold f_Mo_append_195 f_Mo_changed
    rw [if_pos (Int32.le_refl _), show (28 : Int32) = nI 28 from rfl, nI_add, nI_add, qM_setW (by omega) (by omega) (by omega), q_b, q_l, q_b, g3]
  | succ d ih =>
    intro i k T g1 g2 g3 g4 g5 g6 g7
    obtain ⟨k, rfl⟩ : ∃ m, k = m + 1 := ⟨k - 1, by omega⟩
    obtain ⟨a1, a2, a3, a4, -⟩ := psF_in (f := s + i) h hN hcl (by omega)
    have ed : nI (s + i) / nI (512 * hc D) = nI ((s + i) / (512 * hc D)) := pk_div (by omega) (by omega) (by omega)
    have er : nI (s + i) - nI (s + i) / nI (512 * hc D) * nI (512 * hc D) = nI ((s + i) % (512 * hc D)) := pk_rem (by omega) (by omega) (by omega)
    have hne : ¬ nI (512 * hc D) = 0 := nI_ne0 (by omega) (by omega)
    have hP : f_Mo_place K T (nI (ch.getD ((s + i) / (512 * hc D)) 0)) = some (nI (plC D (ch.getD ((s + i) / (512 * hc D)) 0)), T) := by
      unfold f_Mo_place plC
      rw [g5, g4, show (2 : Int32) = nI 2 from rfl, pk_sub (hcl _ a4).1, pk_mul, nI_add, show (512 : Int32) = nI 512 from rfl, pk_mul]
    have hc1 : (nI ((s + i) / (512 * hc D))).toNatClampNeg = (s + i) / (512 * hc D) := nI_clamp (by omega)
    have fin : ∀ z : Int32, vp_nar .byte z = sv i → f_Mo_append_261 K (f_Mo_append_195 K k) (nI n) y3 y4 (nI p) (nI s) (nI (512 * hc D)) (nI i) (nI (psF D ch (s + i))) z T = some (nI (s + n), (T.u_v_disk (st (wrN X (fun i => psF D ch (s + i)) sv n) (p + 28) (s + n) 4)).u_v_looked 0) := by
      intro z hz0
      unfold f_Mo_append_261
      rw [q_g (q_in (by omega) (by decide)), q_l, show (1 : Int32) = nI 1 from rfl, nI_add, q_l, nI_clamp (by omega), hz0, g3]
      rw [ih (i + 1) k (T.u_v_disk (upd (wrN X (fun i => psF D ch (s + i)) sv i) (psF D ch (s + i)) (sv i))) (by omega) (by omega) rfl g4 g5 g6 g7]
      rfl
    rw [f_Mo_append_195, if_neg (nI_ge (by omega) (by omega)), nI_add, q_l, q_g hne, er, ed, q_g (q_in (by omega) (by decide)), hc1, g7 _ a1, hP, q_c, q_g hne, nI_add]
    rcases hsv with ⟨e3, hv0⟩ | ⟨e3, hn4, hv0⟩
    · rw [if_pos e3]
      exact fin _ (hv0 i (by omega)).symm
    · rw [if_neg e3, q_g (q_in (by omega) (by decide)), nI_clamp (by omega), g6]
      exact fin _ (hv0 i (by omega)).symm
theorem qC_onRoad {K N f : Nat} {D : Nat → Int32} {G : CG} {S : CS} {ch : List Nat} (hG : G.n = N) (h : hdOk N D) (hN : N ≤ 1024) (hcl : ∀ x ∈ ch, isCl N D x) (hf : f < ch.length * (512 * hc D)) (hlen : ch.length < N / 2 + 2) (c4 : S.v_Tb_cluster = nI (hc D)) (c5 : S.v_Tb_start = nI (ha D)) (hl : S.v_Ed_roadLength = nI ch.length) (hr : ∀ q, q < ch.length → S.w_Ed_road q = nI (ch.getD q 0)) : f_Ed_placeOnRoad K G S (nI f) = some (nI (psF D ch f), S) := by
  have hC := (hd_facts h hN).1
  have hle : ch.length * (512 * hc D) ≤ 514 * 4096 := Nat.mul_le_mul (by omega) (by omega)
  obtain ⟨a1, a2, a3, a4, -⟩ := psF_in h hN hcl hf
  have ed : nI f / nI (512 * hc D) = nI (f / (512 * hc D)) := pk_div (by omega) (by omega) (by omega)
  have er : nI f - nI f / nI (512 * hc D) * nI (512 * hc D) = nI (f % (512 * hc D)) := pk_rem (by omega) (by omega) (by omega)
  have hne : ¬ nI (512 * hc D) = 0 := nI_ne0 (by omega) (by omega)
  have hP : f_Tb_place K G S (nI (ch.getD (f / (512 * hc D)) 0)) = some (nI (plC D (ch.getD (f / (512 * hc D)) 0)), S) := by
    unfold f_Tb_place plC
    rw [c5, c4, show (2 : Int32) = nI 2 from rfl, pk_sub (hcl _ a4).1, pk_mul, nI_add, show (512 : Int32) = nI 512 from rfl, pk_mul, Nat.mul_comm]
  have e512 : S.v_Tb_cluster * 512 = nI (512 * hc D) := by rw [c4, show (512 : Int32) = nI 512 from rfl, pk_mul, Nat.mul_comm]
  unfold f_Ed_placeOnRoad f_Ed_placeOnRoad_27 f_Tb_clusterBytes
  rw [e512, q_c, if_neg (show ¬ nI (512 * hc D) < 1 from nI_nlt (b := 1) (by omega) (by omega)), if_neg (nI_pos (by omega))]
  simp only [q_g hne]
  rw [er, ed, hl, if_pos (nI_lt a1 (by omega)), hG, q_g (q_in (by omega) (by omega)), nI_clamp (by omega), hr _ a1, hP, q_c, nI_add]
  rfl
theorem qC_onRoadN {K : Nat} {D : Nat → Int32} {G : CG} {S : CS} (hC : hc D = 2 ∨ hc D = 4 ∨ hc D = 8) (c4 : S.v_Tb_cluster = nI (hc D)) : f_Ed_placeOnRoad K G S (nI 0 - 1) = some (-1, S) := by
  have e512 : S.v_Tb_cluster * 512 = nI (512 * hc D) := by rw [c4, show (512 : Int32) = nI 512 from rfl, pk_mul, Nat.mul_comm]
  unfold f_Ed_placeOnRoad f_Ed_placeOnRoad_27 f_Tb_clusterBytes
  rw [e512, q_c, if_neg (show ¬ nI (512 * hc D) < 1 from nI_nlt (b := 1) (by omega) (by omega)), if_pos (by decide)]
/-- what placeBehind wants of the place before -/
abbrev bhd (D : Nat → Int32) (ch : List Nat) (f : Nat) (y : Int32) : Prop := f % 512 = 0 ∨ y + 1 = nI (psF D ch f)
theorem qC_behind {K N f : Nat} {D : Nat → Int32} {G : CG} {S : CS} {ch : List Nat} {y : Int32} (hG : G.n = N) (h : hdOk N D) (hN : N ≤ 1024) (hcl : ∀ x ∈ ch, isCl N D x) (hf : f < ch.length * (512 * hc D)) (hlen : ch.length < N / 2 + 2) (c4 : S.v_Tb_cluster = nI (hc D)) (c5 : S.v_Tb_start = nI (ha D)) (hl : S.v_Ed_roadLength = nI ch.length) (hr : ∀ q, q < ch.length → S.w_Ed_road q = nI (ch.getD q 0)) (hy0 : bhd D ch f y) : f_Ed_placeBehind K G S y (nI f) = some (nI (psF D ch f), S) := by
  have hC := (hd_facts h hN).1
  have hle : ch.length * (512 * hc D) ≤ 514 * 4096 := Nat.mul_le_mul (by omega) (by omega)
  unfold f_Ed_placeBehind
  rw [show (512 : Int32) = nI 512 from rfl, pk_rem (by omega) (by omega) (by omega)]
  by_cases w : f % 512 = 0
  · rw [w, if_pos (show nI 0 = 0 from rfl), qC_onRoad hG h hN hcl hf hlen c4 c5 hl hr, q_c]
  · rw [if_neg (nI_ne0 (by omega) (by omega)), hy0.resolve_left w]
theorem bhd_s {f : Nat} {D : Nat → Int32} {ch : List Nat} (hC : hc D = 2 ∨ hc D = 4 ∨ hc D = 8) : bhd D ch (f + 1) (nI (psF D ch f)) := by
  by_cases w : (f + 1) % 512 = 0
  · exact Or.inl w
  · refine Or.inr ?_
    rw [nI_1, psF_succ hC w]
theorem bhd_0 {K N s : Nat} {D : Nat → Int32} {G : CG} {S : CS} {ch : List Nat} (hG : G.n = N) (h : hdOk N D) (hN : N ≤ 1024) (hcl : ∀ x ∈ ch, isCl N D x) (hf : s ≤ ch.length * (512 * hc D)) (hlen : ch.length < N / 2 + 2) (c4 : S.v_Tb_cluster = nI (hc D)) (c5 : S.v_Tb_start = nI (ha D)) (hl : S.v_Ed_roadLength = nI ch.length) (hr : ∀ q, q < ch.length → S.w_Ed_road q = nI (ch.getD q 0)) : ∃ y, f_Ed_placeOnRoad K G S (nI s - 1) = some (y, S) ∧ bhd D ch s y := by
  have hC := (hd_facts h hN).1
  cases s with
  | zero => exact ⟨-1, qC_onRoadN hC c4, Or.inl rfl⟩
  | succ s =>
    refine ⟨nI (psF D ch s), ?_, bhd_s hC⟩
    rw [show (1 : Int32) = nI 1 from rfl, pk_sub (by omega), Nat.add_sub_cancel]
    exact qC_onRoad hG h hN hcl (by omega) hlen c4 c5 hl hr
theorem qC_put {K N q : Nat} {G : CG} {S : CS} (hG : G.n = N) (hN : N ≤ 1024) (hq : q < 512 * N) (x : Int32) : f_Dk_putOne K G S (nI q) x = some (S.u_w_Dk_bytes (upd S.w_Dk_bytes q (wb x))) := by
  unfold f_Dk_putOne
  rw [if_neg (nI_pos (by omega)), hG, if_neg (nI_ge hq (by omega)), q_g (q_in hq (by omega)), nI_clamp (by omega), q_l]
theorem qC_wbytes {K N s n : Nat} {D : Nat → Int32} {G : CG} {ch : List Nat} (hG : G.n = N) (h : hdOk N D) (hN : N ≤ 1024) (hcl : ∀ x ∈ ch, isCl N D x) (hlen : ch.length < N / 2 + 2) (hsn : s + n ≤ ch.length * (512 * hc D)) (hn4 : n ≤ 4096) (X sv tp : Nat → Int32) (hsv : ∀ i, i < n → sv i = wb (tp i &&& 255)) : ∀ (d i k : Nat) (S : CS) (y : Int32), i + d = n → d < k → S.w_Dk_bytes = wrN X (fun i => psF D ch (s + i)) sv i → S.v_Tb_cluster = nI (hc D) → S.v_Tb_start = nI (ha D) → S.v_Ed_roadLength = nI ch.length → (∀ q, q < ch.length → S.w_Ed_road q = nI (ch.getD q 0)) → S.w_Tp_bytes = tp → bhd D ch (s + i) y → f_Vt_write_46 K k (nI n) (nI s) y (nI i) G S = some (.ok (nI (s + n)), G, S.u_w_Dk_bytes (wrN X (fun i => psF D ch (s + i)) sv n)) := by
  have hC := (hd_facts h hN).1
  have hle : ch.length * (512 * hc D) ≤ 514 * 4096 := Nat.mul_le_mul (by omega) (by omega)
  intro d
  induction d with
  | zero =>
    intro i k S y g1 g2 g3 g4 g5 g6 g7 g8 g9
    obtain ⟨k, rfl⟩ : ∃ m, k = m + 1 := ⟨k - 1, by omega⟩
    obtain rfl : i = n := by omega
    rw [f_Vt_write_46, if_pos (Int32.le_refl _), nI_add, ← g3]
    rfl
  | succ d ih =>
    intro i k S y g1 g2 g3 g4 g5 g6 g7 g8 g9
    obtain ⟨k, rfl⟩ : ∃ m, k = m + 1 := ⟨k - 1, by omega⟩
    obtain ⟨a1, a2, a3, a4, -⟩ := psF_in (f := s + i) h hN hcl (by omega)
    have ht : f_Tp_one K G S (nI i) = some (tp i &&& 255, S) := by
      unfold f_Tp_one
      rw [if_neg (nI_pos (by omega)), if_neg (show ¬ 4096 ≤ nI i from nI_ge (b := 4096) (by omega) (by omega)), q_g (q_in (by omega) (by decide)), nI_clamp (by omega), g8]
    rw [f_Vt_write_46, if_neg (nI_ge (by omega) (by omega)), nI_add, qC_behind hG h hN hcl (by omega) hlen g4 g5 g6 g7 g9, q_c, ht, q_c, qC_put hG hN a3, q_b, show (1 : Int32) = nI 1 from rfl, nI_add, q_l, g3, ← hsv i (by omega)]
    rw [ih (i + 1) k (S.u_w_Dk_bytes (upd (wrN X (fun i => psF D ch (s + i)) sv i) (psF D ch (s + i)) (sv i))) (nI (psF D ch (s + i))) (by omega) (by omega) rfl g4 g5 g6 g7 g8 (bhd_s hC)]
    rfl
theorem qC_gbytes {K N s n : Nat} {D : Nat → Int32} {G : CG} {ch : List Nat} (hG : G.n = N) (h : hdOk N D) (hN : N ≤ 1024) (hcl : ∀ x ∈ ch, isCl N D x) (hlen : ch.length < N / 2 + 2) (hsn : s + n ≤ ch.length * (512 * hc D)) (X sv : Nat → Int32) (y3 : Int32) (hsv : ∀ i, i < n → sv i = wb (gP y3 i)) : ∀ (d i k : Nat) (S : CS) (y : Int32), i + d = n → d < k → S.w_Dk_bytes = wrN X (fun i => psF D ch (s + i)) sv i → S.v_Tb_cluster = nI (hc D) → S.v_Tb_start = nI (ha D) → S.v_Ed_roadLength = nI ch.length → (∀ q, q < ch.length → S.w_Ed_road q = nI (ch.getD q 0)) → bhd D ch (s + i) y → f_Vt_grow_62 K k (nI n) y3 (nI s) y (nI i) G S = some (.ok (nI (s + n)), G, S.u_w_Dk_bytes (wrN X (fun i => psF D ch (s + i)) sv n)) := by
  have hC := (hd_facts h hN).1
  have hle : ch.length * (512 * hc D) ≤ 514 * 4096 := Nat.mul_le_mul (by omega) (by omega)
  intro d
  induction d with
  | zero =>
    intro i k S y g1 g2 g3 g4 g5 g6 g7 g9
    obtain ⟨k, rfl⟩ : ∃ m, k = m + 1 := ⟨k - 1, by omega⟩
    obtain rfl : i = n := by omega
    rw [f_Vt_grow_62, if_pos (Int32.le_refl _), nI_add, ← g3]
    rfl
  | succ d ih =>
    intro i k S y g1 g2 g3 g4 g5 g6 g7 g9
    obtain ⟨k, rfl⟩ : ∃ m, k = m + 1 := ⟨k - 1, by omega⟩
    obtain ⟨a1, a2, a3, a4, -⟩ := psF_in (f := s + i) h hN hcl (by omega)
    rw [f_Vt_grow_62, if_neg (nI_ge (by omega) (by omega)), nI_add, qC_behind hG h hN hcl (by omega) hlen g4 g5 g6 g7 g9, q_c, qC_put hG hN a3, q_b, show (1 : Int32) = nI 1 from rfl, nI_add, q_l, g3, ← hsv i (by omega)]
    rw [ih (i + 1) k (S.u_w_Dk_bytes (upd (wrN X (fun i => psF D ch (s + i)) sv i) (psF D ch (s + i)) (sv i))) (nI (psF D ch (s + i))) (by omega) (by omega) rfl g4 g5 g6 g7 (bhd_s hC)]
    rfl
