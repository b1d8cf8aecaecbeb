/-! Going back. -/
noncomputable def bkL (D : Nat → Int32) (A H k : Nat) (gl : Nat → Nat) : List Wr := [(2, sYs D 2)] ++ (bkF A H gl (sYc D A H) k 2 ++ bkS (sYs D))
abbrev jB (D : Nat → Int32) (A H k P g0 r : Nat) (gl : Nat → Nat) (E : Nat → Int32) : Prop := (∀ c, 2 ≤ c → c < k + 2 → gl c ≠ 0 → ∀ i, i < 2 * H → ∀ j, j < 512 → o1 E (512 * (sc A H (gl c) + i) + j) = o1 (sYc D A H c i) j) ∧ agW E (kpS (rml A H (fxd A P r g0) (ent D) gl k) (sYs D))
theorem jB_ok {D : Nat → Int32} {A H k P g0 r : Nat} {gl : Nat → Nat} : jOk (jB D A H k P g0 r gl) := fun E E' h ⟨a1, a2⟩ => ⟨fun c c1 c2 c3 i hi j hj => by rw [h _]; exact a1 c c1 c2 c3 i hi j hj, fun w hw j hj => by rw [h _]; exact a2 w hw j hj⟩
theorem jB_far {N : Nat} {D : Nat → Int32} {fks : List Nat} {its : List It} {A H k B P g0 r to : Nat} {gl : Nat → Nat} {E Y : Nat → Int32} {s : Nat} (h : pPl N D fks its A H k B P g0 r to gl) (hs : ¬ frQ D A H k s) (hE : jB D A H k P g0 r gl E) : jB D A H k P g0 r gl (wS E s Y 0) := by
  have hfr := pr_free h
  refine ⟨fun c c1 c2 c3 i hi j hj => ?_, fun w hw j hj => ?_⟩
  · have := hfr (sc A H (gl c) + i, sYc D A H c i) (List.mem_append_left _ ((mvF_mem _ _).mpr ⟨c, i, c1, by omega, c3, hi, rfl⟩))
    have : sc A H (gl c) + i ≠ s := fun e => hs (by rw [← e]; exact this)
    rw [wS_o1, if_neg (by omega)]
    exact hE.1 c c1 c2 c3 i hi j hj
  · have := hfr w (List.mem_append_right _ (by unfold prR; exact List.mem_append_left _ hw))
    have : w.1 ≠ s := fun e => hs (by rw [← e]; exact this)
    rw [wS_o1, if_neg (by omega)]
    exact hE.2 w hw j hj
theorem dM_jB {N : Nat} {D : Nat → Int32} {fks : List Nat} {its : List It} {A H k B P g0 r to : Nat} {gl : Nat → Nat} {E : Nat → Int32} (h : pPl N D fks its A H k B P g0 r to gl) (hE : dM N D fks its A H k P g0 r gl E) : jB D A H k P g0 r gl E := by
  obtain ⟨i1, i2, i3, i4, i5, i6⟩ := aimR_inv _ _ _ h.2.2.1.2.2.1
  refine ⟨fun c c1 c2 c3 i hi j hj => ?_, hE.2.2.2.1⟩
  have := hE.2.2.1 c c1 c2 (i3 c c3).2.2.1.1 (512 * i + j) (by omega)
  unfold bOf stnd at this
  rw [if_neg c3] at this
  have e1 : 512 * (sc A H (gl c) + i) + j = 1024 * (A + (gl c - 2) * H) + (512 * i + j) := by
    show 512 * (2 * A + (gl c - 2) * (2 * H) + i) + j = _
    rw [show (gl c - 2) * (2 * H) = 2 * ((gl c - 2) * H) from Nat.mul_left_comm _ _ _]
    omega
  have e2 : 512 * (sc A H c + i) + j = 1024 * (A + (c - 2) * H) + (512 * i + j) := by
    show 512 * (2 * A + (c - 2) * (2 * H) + i) + j = _
    rw [show (c - 2) * (2 * H) = 2 * ((c - 2) * H) from Nat.mul_left_comm _ _ _]
    omega
  rw [e1, this, ← e2]
  rfl
/-- a sector of a cluster that has moved -/
theorem mv_sec {N : Nat} {D : Nat → Int32} {fks : List Nat} {its : List It} {A H k B P g0 r to : Nat} {gl : Nat → Nat} {c i : Nat} (h : pPl N D fks its A H k B P g0 r to gl) (c3 : gl c ≠ 0) (hi : i < 2 * H) : (A + (c - 2) * H ≤ (sc A H c + i) / 2 ∧ (sc A H c + i) / 2 < A + (c - 2) * H + H) ∧ ¬ frQ D A H k (sc A H c + i) ∧ ∀ E Y, dM N D fks its A H k P g0 r gl E → dM N D fks its A H k P g0 r gl (wS E (sc A H c + i) Y 0) := by
  have hh := h
  obtain ⟨-, ⟨hA2, hH2, hk0, hB0⟩, hu, -, -, -, -⟩ := h
  have hA := hu.1.1
  have hH : 1 ≤ H := by rcases hu.1.2.1 with y | y | y <;> omega
  obtain ⟨i1, i2, i3, i4, i5, i6⟩ := aimR_inv _ _ _ hu.2.2.1
  obtain ⟨y1, y2, y3, y4, y5, y6⟩ := i3 c c3
  have e : A + (c - 2) * H ≤ (sc A H c + i) / 2 ∧ (sc A H c + i) / 2 < A + (c - 2) * H + H := by
    show _ ≤ (2 * A + (c - 2) * (2 * H) + i) / 2 ∧ (2 * A + (c - 2) * (2 * H) + i) / 2 < _
    rw [show (c - 2) * (2 * H) = 2 * ((c - 2) * H) from Nat.mul_left_comm _ _ _]
    omega
  have uq : ∀ d, 2 ≤ d → A + (d - 2) * H ≤ (sc A H c + i) / 2 → (sc A H c + i) / 2 < A + (d - 2) * H + H → d = c := fun d d1 d2 d3 => by
    have a1 := cl_sec (p := 1024 * ((sc A H c + i) / 2)) hA2 hH2 hH y1 (by omega) (by omega)
    have a2 := cl_sec (p := 1024 * ((sc A H c + i) / 2)) hA2 hH2 hH d1 (by omega) (by omega)
    omega
  have nfr : ¬ frQ D A H k (sc A H c + i) := fun ⟨d, d1, d2, d3, d4, d5⟩ => y3.1 (by rw [← uq d d1 d4 d5]; exact d3)
  refine ⟨e, nfr, fun E Y hE => dM_far hh (by omega) (by omega) (fun d d1 d2 d3 j hj e2 => ?_) (fun t t1 e2 => ?_) hE⟩
  · have hst := (stnd_f hu.2.2.1).1 d d1 d2 d3
    unfold bOf at e2
    have := uq (stnd gl d) hst.1 (by omega) (by omega)
    unfold stnd at this
    by_cases g : gl d = 0
    · rw [if_pos g] at this
      rw [this] at g
      exact c3 g
    · rw [if_neg g] at this
      have h4 := (i3 d g).2.2.2.1.1
      rw [this] at h4
      exact y3.1 h4
  · obtain ⟨d, d1, d2, ⟨d3, d4⟩, x, j1, j2, -⟩ := (rml_mem k).mp (getD_mem t1)
    have := uq d d1 (by omega) (by omega)
    rw [this] at d3
    exact y3.1 d3
theorem tS_self {S : CS} {p : Option Nat} (h : S.v_Dk_power = pI p) : S = tS S S.w_Dk_bytes p S.w_Tu_block S.w_Pl_list S.v_Pl_listed := by
  unfold tS gSt
  rw [← h]
  rfl
theorem cl_goBack {K N : Nat} {D : Nat → Int32} {fks : List Nat} {its : List It} {A H k B P g0 r to : Nat} {gl : Nat → Nat} {E : Nat → Int32} {G : CG} {S : CS} {p : Option Nat} (hK : 20000 ≤ K) (h : pPl N D fks its A H k B P g0 r to gl) (hE : dM N D fks its A H k P g0 r gl E) (hG : gOk N G) (hS : S.w_Dk_bytes = E) (hs : S.v_Dk_sectors = nI N) (hbl : S.v_Pl_blocks = nI B) (hpw : S.v_Dk_power = pI p) (hp : pOk p) (hb : byt S) : ∃ S1, coR S1 = coR S ∧ tuO S1 (f_Tu_goBack K G S) p (bkL D A H k gl) E := by
  obtain ⟨S1, a1, a2, ⟨a3, a3p, a3b⟩, a4, a5, a6, a7, a8⟩ := cl_recall hK h hE hG hS hs hbl
  have hj := dM_jB h hE
  have hfr := pr_free h
  have hpp := h
  have hmv := fun c i (c3 : gl c ≠ 0) (hi : i < 2 * H) => mv_sec (c := c) (i := i) h c3 hi
  obtain ⟨⟨ho, ⟨hN1, hN⟩, hN2, -⟩, ⟨hA2, hH2, hk0, hB0⟩, hu, hr1, -, -, -⟩ := h
  have hA := hu.1.1
  have hAk := hu.1.2.2.2.2.2.2.2
  have hbd := hu.2.2.2.2.2.2
  rw [bd_sum] at hbd
  have hs1 : S1.v_Dk_sectors = nI N := (congrArg (fun x => x.2.1) a2).trans hs
  have htu : tuC N G S1 := ⟨hG.1, hN1, hN, hs1⟩
  have hrb : ∀ b ∈ rml A H (fxd A P r g0) (ent D) gl k, 2 * b + 1 < N := fun b hb => by have := rml_lt hb; omega
  have e := tS_self (S := S1) (p := p) (a3p.trans hpw)
  have hb1 : byt (tS S1 S1.w_Dk_bytes p S1.w_Tu_block S1.w_Pl_list S1.v_Pl_listed) := by
    rw [← e]
    exact ⟨fun q => by rw [a3, ← hS]; exact hb.1 q, fun q => by rw [a3b]; exact hb.2 q⟩
  refine ⟨S1, a2, ?_⟩
  unfold f_Tu_goBack
  rw [a1, q_c, if_neg (show ¬ (1 : Int32) = 0 by decide)]
  have low : ∀ s, s < 2 * A → ¬ frQ D A H k s := fun s hs0 ⟨d, d1, d2, d3, d4, d5⟩ => by omega
  have key : tuO S1 (lf_c (f_Pl_room K G (tS S1 S1.w_Dk_bytes p S1.w_Tu_block S1.w_Pl_list S1.v_Pl_listed) 0) fun r_3 S_3 => lf_l (2 * r_3) fun x_4 => (f_Tu_copySector K G S_3 x_4 2).bind fun S_5 => f_Tu_goBack_27 K G K x_4 2 S_5) p (bkL D A H k gl) E := by
    have hro := tu_room (K := K) (i := 0) (E := S1.w_Dk_bytes) (B := S1.w_Tu_block) (f := S1.w_Pl_list) (p := p) (x := S1.v_Pl_listed) htu hB0 a6 (by omega)
    have hro : f_Pl_room K G (tS S1 S1.w_Dk_bytes p S1.w_Tu_block S1.w_Pl_list S1.v_Pl_listed) 0 = _ := hro
    rw [hro, q_c, show (2 : Int32) = nI 2 from rfl, pk_mul, q_l]
    unfold bkL
    rw [a3] at hb1 ⊢
    refine tu_seq (tu_copy htu (by have := hrb _ (getD_mem (show 0 < (rml A H (fxd A P r g0) (ent D) gl k).length by omega)); omega) (by omega) hb1 hp (fun j hj0 => hj.2 (2 * (rml A H (fxd A P r g0) (ent D) gl k).getD 0 0, sYs D 2) List.mem_cons_self j hj0)) (fun E' B' f' x' he hb' => ?_)
    have hj' : jB D A H k P g0 r gl E' := jB_ok _ _ he (ApL_J jB_ok _ _ _ (fun w hw E0 h0 => by
      rw [List.mem_singleton.mp hw]
      exact jB_far hpp (low 2 (by omega)) h0) hj)
    refine tu_back27 (J := jB D A H k P g0 r gl) (Y := sYc D A H) (R := bkS (sYs D)) (by omega) htu a4 (by rw [show k * (2 * H) = 2 * (k * H) from Nat.mul_left_comm _ _ _]; omega) jB_ok (fun c c1 c2 c3 E0 h0 i hi j hj0 => h0.1 c c1 c2 c3 i hi j hj0) (fun c c1 c2 c3 E0 i hi h0 => jB_far hpp (hmv c i c3 hi).2.1 h0) (fun E0 B0 f0 p0 x0 h0 hb0 hp0 => ?_) k 2 K E' B' f' _ x' (by omega) (by omega) (by have := hu.1.2.2.1; omega) hj' hb' (pR_ok hp _)
    refine tu_back80 (J := jB D A H k P g0 r gl) (Y := sYs D) htu hB0 a6 (by omega) hrb jB_ok (fun E2 h2 j hj0 => ⟨?_, ?_, ?_, ?_⟩) (fun E2 h2 w hw => ?_) h0 hb0 hp0
    · exact h2.2 (2 * (rml A H (fxd A P r g0) (ent D) gl k).getD 0 0 + 1, sYs D 3) (by unfold kpS; simp) j hj0
    · exact h2.2 (2 * (rml A H (fxd A P r g0) (ent D) gl k).getD 1 0, sYs D 4) (by unfold kpS; simp) j hj0
    · exact h2.2 (2 * (rml A H (fxd A P r g0) (ent D) gl k).getD 1 0 + 1, sYs D 5) (by unfold kpS; simp) j hj0
    · exact h2.2 (2 * (rml A H (fxd A P r g0) (ent D) gl k).getD 2 0, sYs D 7) (by unfold kpS; simp) j hj0
    · unfold bkS at hw
      simp only [List.mem_cons, List.not_mem_nil, or_false] at hw
      rcases hw with y | y | y | y <;> rw [y]
      · exact jB_far hpp (low 3 (by omega)) h2
      · exact jB_far hpp (low 4 (by omega)) h2
      · exact jB_far hpp (low 5 (by omega)) h2
      · exact jB_far hpp (low 7 (by omega)) h2
  rw [← e] at key
  exact key
