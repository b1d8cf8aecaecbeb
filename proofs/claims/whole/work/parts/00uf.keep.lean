/-! Sectors kept, and brought back. -/
def kpS (rm : List Nat) (Y : Nat → Nat → Int32) : List Wr := [(2 * rm.getD 0 0, Y 2), (2 * rm.getD 0 0 + 1, Y 3), (2 * rm.getD 1 0, Y 4), (2 * rm.getD 1 0 + 1, Y 5), (2 * rm.getD 2 0, Y 7), (2 * rm.getD 2 0 + 1, Zd)]
theorem tu_keep {K N B0 : Nat} {rm : List Nat} {G : CG} {S : CS} {J : (Nat → Int32) → Prop} {Y : Nat → Nat → Int32} {M : List Wr} {g : CS → Option CS} (h : tuC N G S) (hBN : B0 = N / 2) (hrm : rmC B0 rm S) (hr3 : 3 ≤ rm.length) (hrb : ∀ b ∈ rm, 2 * b + 1 < N) (hJ : jOk J) (hY : ∀ E, J E → ∀ s, s < 8 → ∀ j, j < 512 → o1 E (512 * s + j) = o1 (Y s) j) (hw : ∀ E, J E → ∀ w ∈ kpS rm Y, J (wS E w.1 w.2 0)) (hg : ∀ (E B f : Nat → Int32) (p : Option Nat) (x : Int32), J E → byt (tS S E p B f x) → pOk p → tuO S (g (tS S E p B f x)) p M E) {E B f : Nat → Int32} {p : Option Nat} {x : Int32} (hE : J E) (hb : byt (tS S E p B f x)) (hp : pOk p) : tuO S ((f_Tu_keepSectors K G (tS S E p B f x)).bind g) p (kpS rm Y ++ M) E := by
  have hN := h.2.2.1
  have hN1 := h.2.1
  have room : ∀ i, i < 3 → ∀ (E B f : Nat → Int32) (p : Option Nat) (x : Int32), f_Pl_room K G (tS S E p B f x) (nI i) = some (nI (rm.getD i 0), tS S E p B f x) := fun i hi E B f p x => qC_room h.1 hBN (by omega) (S := tS S E p B f x) hrm (by omega)
  have rN : ∀ i, i < 3 → 2 * rm.getD i 0 + 1 < N := fun i hi => hrb _ (getD_mem (by omega))
  have st1 : ∀ {E E' : Nat → Int32} {p : Option Nat} {w : Wr}, w ∈ kpS rm Y → J E → eqO E' (ApL p [w] E) → J E' := fun ww h0 he => J_1 hJ h0 he (fun v vv E0 h1 => by rw [List.mem_singleton.mp vv]; exact hw E0 h1 _ ww)
  have r0 := room 0 (by decide)
  have r1 := room 1 (by decide)
  have r2 := room 2 (by decide)
  have n0 := rN 0 (by decide)
  have n1 := rN 1 (by decide)
  have n2 := rN 2 (by decide)
  generalize hk0 : rm.getD 0 0 = b0 at *
  generalize hk1 : rm.getD 1 0 = b1 at *
  generalize hk2 : rm.getD 2 0 = b2 at *
  have hks : kpS rm Y = [(2 * b0, Y 2), (2 * b0 + 1, Y 3), (2 * b1, Y 4), (2 * b1 + 1, Y 5), (2 * b2, Y 7), (2 * b2 + 1, Zd)] := by unfold kpS; rw [hk0, hk1, hk2]
  rw [hks] at st1 ⊢
  unfold f_Tu_keepSectors
  rw [show (0 : Int32) = nI 0 from rfl, show (1 : Int32) = nI 1 from rfl, show (2 : Int32) = nI 2 from rfl, show (3 : Int32) = nI 3 from rfl, show (4 : Int32) = nI 4 from rfl, show (5 : Int32) = nI 5 from rfl, show (7 : Int32) = nI 7 from rfl, r0, q_c, pk_mul, Option.bind_assoc]
  refine tu_seq (L := [(2 * b0, Y 2)]) (M := [(2 * b0 + 1, Y 3), (2 * b1, Y 4), (2 * b1 + 1, Y 5), (2 * b2, Y 7), (2 * b2 + 1, Zd)] ++ M) (tu_copy h (by omega) (by omega) hb hp (fun j hj => hY E hE 2 (by decide) j hj)) (fun E1 B1 f1 x1 a1 a2 => ?_)
  have j1 := st1 (by simp) hE a1
  have o1' := pR_ok hp 1
  rw [r0, q_c, pk_mul, nI_add, Option.bind_assoc]
  refine tu_seq (L := [(2 * b0 + 1, Y 3)]) (M := [(2 * b1, Y 4), (2 * b1 + 1, Y 5), (2 * b2, Y 7), (2 * b2 + 1, Zd)] ++ M) (tu_copy h (by omega) (by omega) a2 o1' (fun j hj => hY E1 j1 3 (by decide) j hj)) (fun E2 B2 f2 x2 a3 a4 => ?_)
  have j2 := st1 (by simp) j1 a3
  have o2' := pR_ok o1' 1
  rw [r1, q_c, pk_mul, Option.bind_assoc]
  refine tu_seq (L := [(2 * b1, Y 4)]) (M := [(2 * b1 + 1, Y 5), (2 * b2, Y 7), (2 * b2 + 1, Zd)] ++ M) (tu_copy h (by omega) (by omega) a4 o2' (fun j hj => hY E2 j2 4 (by decide) j hj)) (fun E3 B3 f3 x3 a5 a6 => ?_)
  have j3 := st1 (by simp) j2 a5
  have o3' := pR_ok o2' 1
  rw [r1, q_c, pk_mul, nI_add, Option.bind_assoc]
  refine tu_seq (L := [(2 * b1 + 1, Y 5)]) (M := [(2 * b2, Y 7), (2 * b2 + 1, Zd)] ++ M) (tu_copy h (by omega) (by omega) a6 o3' (fun j hj => hY E3 j3 5 (by decide) j hj)) (fun E4 B4 f4 x4 a7 a8 => ?_)
  have j4 := st1 (by simp) j3 a7
  have o4' := pR_ok o3' 1
  rw [r2, q_c, pk_mul, Option.bind_assoc]
  refine tu_seq (L := [(2 * b2, Y 7)]) (M := [(2 * b2 + 1, Zd)] ++ M) (tu_copy h (by omega) (by omega) a8 o4' (fun j hj => hY E4 j4 7 (by decide) j hj)) (fun E5 B5 f5 x5 a9 a10 => ?_)
  have j5 := st1 (by simp) j4 a9
  have o5' := pR_ok o4' 1
  have hby : byt (tS S E5 (pR (pR (pR (pR (pR p 1) 1) 1) 1) 1) (zB B5) f5 x5) := b_Tu_empty (K := K) (G := G) a10 _ rfl
  obtain ⟨E6, c1, c2, c3⟩ := tu_store (K := K) (s := 2 * b2 + 1) (a := 0) (Y := Zd) h n2 (by decide) hby o5' (fun j hj => by rw [Nat.zero_add, zB_o1 (by omega)]; rfl)
  rw [qU_empty, q_b]
  show tuO S (Option.bind (lf_c (f_Pl_room K G (tS S E5 (pR (pR (pR (pR (pR p 1) 1) 1) 1) 1) (zB B5) f5 x5) (nI 2)) _) g) _ _ E5
  rw [r2, q_c, pk_mul, nI_add, Option.bind_assoc]
  refine tu_seq (L := [(2 * b2 + 1, Zd)]) (M := M) ⟨E6, zB B5, f5, x5, ?_, c2, ?_⟩ (fun E7 B7 f7 x7 d1 d2 => ?_)
  · rw [List.length_singleton, pR_1]; exact c1
  · rw [List.length_singleton, pR_1]; exact c3
  · rw [q_b]
    exact hg E7 B7 f7 _ x7 (st1 (by simp) j5 d1) d2 (pR_ok o5' 1)
def bkS (Y : Nat → Nat → Int32) : List Wr := [(3, Y 3), (4, Y 4), (5, Y 5), (7, Y 7)]
/-- the clusters that have moved come back, from c on -/
def bkF (A H : Nat) (gl : Nat → Nat) (Y : Nat → Nat → Nat → Int32) : Nat → Nat → List Wr
  | 0, _ => []
  | n + 1, c => (if gl c = 0 then [] else cpF A H (Y c) c (2 * H) 0) ++ bkF A H gl Y n (c + 1)
theorem tu_back80 {K N B0 : Nat} {rm : List Nat} {G : CG} {S : CS} {J : (Nat → Int32) → Prop} {Y : Nat → Nat → Int32} (h : tuC N G S) (hBN : B0 = N / 2) (hrm : rmC B0 rm S) (hr3 : 3 ≤ rm.length) (hrb : ∀ b ∈ rm, 2 * b + 1 < N) (hJ : jOk J) (hY : ∀ E, J E → ∀ j, j < 512 → o1 E (512 * (2 * rm.getD 0 0 + 1) + j) = o1 (Y 3) j ∧ o1 E (512 * (2 * rm.getD 1 0) + j) = o1 (Y 4) j ∧ o1 E (512 * (2 * rm.getD 1 0 + 1) + j) = o1 (Y 5) j ∧ o1 E (512 * (2 * rm.getD 2 0) + j) = o1 (Y 7) j) (hw : ∀ E, J E → ∀ w ∈ bkS Y, J (wS E w.1 w.2 0)) {E B f : Nat → Int32} {p : Option Nat} {x : Int32} (hE : J E) (hb : byt (tS S E p B f x)) (hp : pOk p) : tuO S (f_Tu_goBack_80 K G (nI (2 * rm.getD 0 0)) (tS S E p B f x)) p (bkS Y) E := by
  have hN := h.2.2.1
  have hN1 := h.2.1
  have room : ∀ i, i < 3 → ∀ (E B f : Nat → Int32) (p : Option Nat) (x : Int32), f_Pl_room K G (tS S E p B f x) (nI i) = some (nI (rm.getD i 0), tS S E p B f x) := fun i hi E B f p x => qC_room h.1 hBN (by omega) (S := tS S E p B f x) hrm (by omega)
  have rN : ∀ i, i < 3 → 2 * rm.getD i 0 + 1 < N := fun i hi => hrb _ (getD_mem (by omega))
  have st1 : ∀ {E E' : Nat → Int32} {p : Option Nat} {w : Wr}, w ∈ bkS Y → J E → eqO E' (ApL p [w] E) → J E' := fun ww h0 he => J_1 hJ h0 he (fun v vv E0 h1 => by rw [List.mem_singleton.mp vv]; exact hw E0 h1 _ ww)
  have r1 := room 1 (by decide)
  have r2 := room 2 (by decide)
  have n0 := rN 0 (by decide)
  have n1 := rN 1 (by decide)
  have n2 := rN 2 (by decide)
  generalize rm.getD 0 0 = b0 at *
  generalize rm.getD 1 0 = b1 at *
  generalize rm.getD 2 0 = b2 at *
  unfold f_Tu_goBack_80
  unfold bkS at st1 ⊢
  rw [show (1 : Int32) = nI 1 from rfl, show (2 : Int32) = nI 2 from rfl, show (3 : Int32) = nI 3 from rfl, show (4 : Int32) = nI 4 from rfl, show (5 : Int32) = nI 5 from rfl, show (7 : Int32) = nI 7 from rfl, nI_add]
  refine tu_seq (L := [(3, Y 3)]) (M := [(4, Y 4), (5, Y 5), (7, Y 7)]) (tu_copy h (by omega) (by omega) hb hp (fun j hj => (hY E hE j hj).1)) (fun E1 B1 f1 x1 a1 a2 => ?_)
  have j1 := st1 (by simp) hE a1
  have o1' := pR_ok hp 1
  rw [r1, q_c, pk_mul]
  refine tu_seq (L := [(4, Y 4)]) (M := [(5, Y 5), (7, Y 7)]) (tu_copy h (by omega) (by omega) a2 o1' (fun j hj => (hY E1 j1 j hj).2.1)) (fun E2 B2 f2 x2 a3 a4 => ?_)
  have j2 := st1 (by simp) j1 a3
  have o2' := pR_ok o1' 1
  rw [r1, q_c, pk_mul, nI_add]
  refine tu_seq (L := [(5, Y 5)]) (M := [(7, Y 7)]) (tu_copy h (by omega) (by omega) a4 o2' (fun j hj => (hY E2 j2 j hj).2.2.1)) (fun E3 B3 f3 x3 a5 a6 => ?_)
  have j3 := st1 (by simp) j2 a5
  have o3' := pR_ok o2' 1
  rw [r2, q_c, pk_mul]
  refine tu_seq (L := [(7, Y 7)]) (M := []) (tu_copy h (by omega) (by omega) a6 o3' (fun j hj => (hY E3 j3 j hj).2.2.2)) (fun E4 B4 f4 x4 a7 a8 => ?_)
  exact tu_nil a8
theorem tu_back27 {K N A H k B0 : Nat} {e gl : Nat → Nat} {G : CG} {S : CS} {J : (Nat → Int32) → Prop} {Y : Nat → Nat → Nat → Int32} {R : List Wr} {y : Int32} (hK : 600 ≤ K) (h : tuC N G S) (hl : lsC A H k B0 N e gl G S) (hkN : 2 * A + k * (2 * H) ≤ N) (hJ : jOk J) (hY : ∀ c, 2 ≤ c → c < k + 2 → gl c ≠ 0 → ∀ E, J E → ∀ i, i < 2 * H → ∀ j, j < 512 → o1 E (512 * (sc A H (gl c) + i) + j) = o1 (Y c i) j) (hw : ∀ c, 2 ≤ c → c < k + 2 → gl c ≠ 0 → ∀ E i, i < 2 * H → J E → J (wS E (sc A H c + i) (Y c i) 0)) (hR : ∀ (E B f : Nat → Int32) (p : Option Nat) (x : Int32), J E → byt (tS S E p B f x) → pOk p → tuO S (f_Tu_goBack_80 K G y (tS S E p B f x)) p R E) : ∀ (m c q : Nat) (E B f : Nat → Int32) (p : Option Nat) (x : Int32), c + m = k + 2 → 2 ≤ c → m < q → J E → byt (tS S E p B f x) → pOk p → tuO S (f_Tu_goBack_27 K G q y (nI c) (tS S E p B f x)) p (bkF A H gl Y m c ++ R) E := by
  have hcl : ∀ c, 2 ≤ c → c < k + 2 → sc A H c + 2 * H ≤ N := fun c h2 hc0 => by
    have : (c - 2) * (2 * H) + 2 * H ≤ k * (2 * H) := by
      rw [← Nat.succ_mul]
      exact Nat.mul_le_mul_right _ (by omega)
    unfold sc
    omega
  have hk5 := hl.1.2.2.1
  intro m
  induction m with
  | zero =>
    intro c q E B f p x e1 e2 e3 hE hb hp
    obtain ⟨q, rfl⟩ : ∃ m, q = m + 1 := ⟨q - 1, by omega⟩
    rw [f_Tu_goBack_27, show (tS S E p B f x).v_Tb_clusters = nI k from hl.2.2.1.2.2, show (2 : Int32) = nI 2 from rfl, nI_add, if_pos (nI_le (by omega) (by omega))]
    exact hR E B f p x hE hb hp
  | succ m ih =>
    intro c q E B f p x e1 e2 e3 hE hb hp
    obtain ⟨q, rfl⟩ : ∃ m, q = m + 1 := ⟨q - 1, by omega⟩
    rw [f_Tu_goBack_27, show (tS S E p B f x).v_Tb_clusters = nI k from hl.2.2.1.2.2, show (2 : Int32) = nI 2 from rfl, nI_add, if_neg (nI_ge (by omega) (by omega)), tu_isOn hp, q_c]
    by_cases off : p = some 0
    · rw [b01_f (fun y => y off), if_pos (show nI 0 = 0 from rfl)]
      subst off
      exact tu_off (hR E B f _ x hE hb hp)
    rw [b01_t off, if_neg (show ¬ nI 1 = 0 by decide), tu_goal hl e2 (by omega), q_c]
    have hstep : ∀ (E B f : Nat → Int32) (p : Option Nat) (x : Int32), J E → byt (tS S E p B f x) → pOk p → tuO S (f_Tu_goBack_74 K G (f_Tu_goBack_27 K G q) y (nI c) (tS S E p B f x)) p (bkF A H gl Y m (c + 1) ++ R) E := fun E B f p x hE hb hp => by
      unfold f_Tu_goBack_74
      rw [show (1 : Int32) = nI 1 from rfl, nI_add, q_l]
      exact ih (c + 1) q E B f p x (by omega) (by omega) (by omega) hE hb hp
    rw [bkF, List.append_assoc]
    by_cases g : gl c = 0
    · rw [g, if_pos (show nI 0 = 0 from rfl), if_pos rfl]
      exact hstep E B f p x hE hb hp
    · have hg := (hl.2.2.2.2.2.2 c)
      have hgN := hcl (gl c) (hg.2 g) hg.1
      rw [if_neg (nI_ne0 (by omega) (by omega)), if_neg g, tu_goal hl e2 (by omega), q_c]
      refine tu_seq (tu_cluster h hl.2.2.1.1 hl.2.2.1.2.1 (hg.2 g) e2 hgN (hcl c e2 (by omega)) hJ (hY c e2 (by omega) g) (hw c e2 (by omega) g) (2 * H) 0 K E B f p x (by omega) (by have := hl.1.2.1; omega) hE hb hp) (fun E' B' f' x' a1 a2 => ?_)
      refine hstep E' B' f' _ x' (J_1 hJ hE a1 (fun w ww E0 h0 => ?_)) a2 (pR_ok hp _)
      have key : ∀ n i, w ∈ cpF A H (Y c) c n i → i + n ≤ 2 * H → J (wS E0 w.1 w.2 0) := by
        intro n
        induction n with
        | zero => intro i h; cases h
        | succ n ihn =>
          intro i h hi
          rw [cpF] at h
          rcases List.mem_cons.mp h with y | y
          · rw [y]; exact hw c e2 (by omega) g E0 i (by omega) h0
          · exact ihn (i + 1) y (by omega)
      exact key (2 * H) 0 ww (by omega)
