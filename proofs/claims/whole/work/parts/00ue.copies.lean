/-! Clusters copied. -/
abbrev sc (A H c : Nat) : Nat := 2 * A + (c - 2) * (2 * H)
def cpF (A H : Nat) (Y : Nat → Nat → Int32) (d : Nat) : Nat → Nat → List Wr
  | 0, _ => []
  | n + 1, i => (sc A H d + i, Y i) :: cpF A H Y d n (i + 1)
/-- a property of the disk that does not tell alike disks apart -/
abbrev jOk (J : (Nat → Int32) → Prop) : Prop := ∀ E E', eqO E' E → J E → J E'
theorem J_1 {J : (Nat → Int32) → Prop} {p : Option Nat} {E E' : Nat → Int32} {L : List Wr} (hJ : jOk J) (h : J E) (he : eqO E' (ApL p L E)) (hw : ∀ w ∈ L, ∀ E, J E → J (wS E w.1 w.2 0)) : J E' := hJ _ _ he (ApL_J hJ L p E hw h)
theorem tu_cluster {K N A H c d : Nat} {G : CG} {S : CS} {J : (Nat → Int32) → Prop} {Y : Nat → Nat → Int32} (h : tuC N G S) (h1 : S.v_Tb_start = nI (2 * A)) (h2 : S.v_Tb_cluster = nI (2 * H)) (hc2 : 2 ≤ c) (hd2 : 2 ≤ d) (hcN : sc A H c + 2 * H ≤ N) (hdN : sc A H d + 2 * H ≤ N) (hJ : jOk J) (hY : ∀ E, J E → ∀ i, i < 2 * H → ∀ j, j < 512 → o1 E (512 * (sc A H c + i) + j) = o1 (Y i) j) (hw : ∀ E i, i < 2 * H → J E → J (wS E (sc A H d + i) (Y i) 0)) : ∀ (m i k : Nat) (E B f : Nat → Int32) (p : Option Nat) (x : Int32), i + m = 2 * H → m < k → J E → byt (tS S E p B f x) → pOk p → tuO S (f_Tu_copyCluster_2 K G k (nI c) (nI d) (nI i) (tS S E p B f x)) p (cpF A H Y d m i) E := by
  intro m
  have hN := h.2.2.1
  induction m with
  | zero =>
    intro i k E B f p x e1 e2 hE hb hp
    obtain ⟨k, rfl⟩ : ∃ m, k = m + 1 := ⟨k - 1, by omega⟩
    rw [f_Tu_copyCluster_2, show (tS S E p B f x).v_Tb_cluster = nI (2 * H) from h2, if_pos (nI_le (by omega) (by omega))]
    exact tu_nil hb
  | succ m ih =>
    intro i k E B f p x e1 e2 hE hb hp
    obtain ⟨k, rfl⟩ : ∃ m, k = m + 1 := ⟨k - 1, by omega⟩
    have ea : (nI (2 * A) + ((nI c - 2) * nI (2 * H))) + nI i = nI (sc A H c + i) := by rw [show (2 : Int32) = nI 2 from rfl, pk_sub hc2, pk_mul, nI_add, nI_add]
    have eb : (nI (2 * A) + ((nI d - 2) * nI (2 * H))) + nI i = nI (sc A H d + i) := by rw [show (2 : Int32) = nI 2 from rfl, pk_sub hd2, pk_mul, nI_add, nI_add]
    rw [f_Tu_copyCluster_2, show (tS S E p B f x).v_Tb_cluster = nI (2 * H) from h2, show (tS S E p B f x).v_Tb_start = nI (2 * A) from h1, if_neg (nI_ge (by omega) (by omega)), ea, eb]
    refine tu_seq (L := [(sc A H d + i, Y i)]) (M := cpF A H Y d m (i + 1)) (tu_copy h (by omega) (by omega) hb hp (fun j hj => hY E hE i (by omega) j hj)) (fun E' B' f' x' a1 a2 => ?_)
    rw [show (1 : Int32) = nI 1 from rfl, nI_add, q_l]
    exact ih (i + 1) k E' B' f' _ x' (by omega) (by omega) (J_1 hJ hE a1 (fun w ww E0 h0 => by
      rw [List.mem_singleton.mp ww]
      exact hw E0 i (by omega) h0)) a2 (pR_ok hp _)
theorem tu_isOn {K : Nat} {G : CG} {S : CS} {E B f : Nat → Int32} {p : Option Nat} {x : Int32} (hp : pOk p) : f_Dk_isOn K G (tS S E p B f x) = some (b01 (p ≠ some 0), tS S E p B f x) := by
  unfold f_Dk_isOn
  show (if pI p = 0 then _ else _) = _
  cases p with
  | none => rw [if_neg (show ¬ pI none = 0 by decide), b01_t (fun y => by cases y)]; rfl
  | some w =>
    by_cases g : w = 0
    · rw [g, if_pos (show pI (some 0) = 0 from rfl), b01_f (fun y => y rfl)]; rfl
    · rw [if_neg (show ¬ pI (some w) = 0 from nI_ne0 (by omega) (by have := hp w rfl; omega)), b01_t (fun y => by cases y; exact g rfl)]; rfl
theorem ApL_off : ∀ (L : List Wr) (E : Nat → Int32), ApL (some 0) L E = E := by
  intro L
  induction L with
  | nil => intro E; rfl
  | cons w L ih =>
    intro E
    rw [ApL]
    show ApL (some 0) L _ = E
    rw [ih]
    unfold aW
    rw [cif_t rfl]
theorem pR_off (n : Nat) : pR (some 0) n = some 0 := by
  show some (0 - n) = some 0
  rw [Nat.zero_sub]
theorem tu_off {S : CS} {o : Option CS} {L M : List Wr} {E : Nat → Int32} (h : tuO S o (some 0) M E) : tuO S o (some 0) (L ++ M) E := by
  obtain ⟨E', B, f, x, a1, a2, a3⟩ := h
  rw [pR_off] at a1 a3
  refine ⟨E', B, f, x, by rw [pR_off]; exact a1, ?_, by rw [pR_off]; exact a3⟩
  rw [ApL_off] at a2 ⊢
  exact a2
/-- the clusters that move, from c on -/
def mvF (A H : Nat) (gl : Nat → Nat) (Y : Nat → Nat → Nat → Int32) : Nat → Nat → List Wr
  | 0, _ => []
  | n + 1, c => (if gl c = 0 then [] else cpF A H (Y c) (gl c) (2 * H) 0) ++ mvF A H gl Y n (c + 1)
theorem tu_goal {K A H k B0 N c : Nat} {e gl : Nat → Nat} {G : CG} {S : CS} {E B f : Nat → Int32} {p : Option Nat} {x : Int32} (h : lsC A H k B0 N e gl G S) (h2 : 2 ≤ c) (hc0 : c < k + 2) : f_Tb_goalOf K G (tS S E p B f x) (nI c) = some (nI (gl c), tS S E p B f x) := by
  obtain ⟨-, ⟨g1, g2, g3, g4⟩, -, -, -, g5, -⟩ := h
  unfold f_Tb_goalOf
  rw [g1, if_neg (nI_pos (by omega)), if_neg (nI_ge (by omega) (by omega)), q_g (q_in (by omega) (by omega)), nI_clamp (by omega), show (tS S E p B f x).w_Tb_goal c = nI (gl c) from g5 c h2 hc0]
theorem tu_prep2 {K N A H k B0 : Nat} {e gl : Nat → Nat} {G : CG} {S : CS} {J : (Nat → Int32) → Prop} {Y : Nat → Nat → Nat → Int32} {R : List Wr} (hK : 600 ≤ K) (h : tuC N G S) (hl : lsC A H k B0 N e gl G S) (hkN : 2 * A + k * (2 * H) ≤ N) (hJ : jOk J) (hY : ∀ c, 2 ≤ c → c < k + 2 → gl c ≠ 0 → ∀ E, J E → ∀ i, i < 2 * H → ∀ j, j < 512 → o1 E (512 * (sc A H c + i) + j) = o1 (Y c i) j) (hw : ∀ c, 2 ≤ c → c < k + 2 → gl c ≠ 0 → ∀ E i, i < 2 * H → J E → J (wS E (sc A H (gl c) + i) (Y c i) 0)) (hR : ∀ (E B f : Nat → Int32) (p : Option Nat) (x : Int32), J E → byt (tS S E p B f x) → pOk p → tuO S (f_Tu_prepare_55 K G (tS S E p B f x)) p R E) : ∀ (m c q : Nat) (E B f : Nat → Int32) (p : Option Nat) (x : Int32), c + m = k + 2 → 2 ≤ c → m < q → J E → byt (tS S E p B f x) → pOk p → tuO S (f_Tu_prepare_2 K G q (nI c) (tS S E p B f x)) p (mvF A H gl Y m c ++ R) E := by
  have hcl : ∀ c, 2 ≤ c → c < k + 2 → sc A H c + 2 * H ≤ N := fun c h2 hc0 => by
    have : (c - 2) * (2 * H) + 2 * H ≤ k * (2 * H) := by
      rw [← Nat.succ_mul]
      exact Nat.mul_le_mul_right _ (by omega)
    unfold sc
    omega
  have hk5 := hl.1.2.2.1
  intro m
  induction m with
  | zero =>
    intro c q E B f p x e1 e2 e3 hE hb hp
    obtain ⟨q, rfl⟩ : ∃ m, q = m + 1 := ⟨q - 1, by omega⟩
    rw [f_Tu_prepare_2, show (tS S E p B f x).v_Tb_clusters = nI k from hl.2.2.1.2.2, show (2 : Int32) = nI 2 from rfl, nI_add, if_pos (nI_le (by omega) (by omega))]
    exact hR E B f p x hE hb hp
  | succ m ih =>
    intro c q E B f p x e1 e2 e3 hE hb hp
    obtain ⟨q, rfl⟩ : ∃ m, q = m + 1 := ⟨q - 1, by omega⟩
    rw [f_Tu_prepare_2, show (tS S E p B f x).v_Tb_clusters = nI k from hl.2.2.1.2.2, show (2 : Int32) = nI 2 from rfl, nI_add, if_neg (nI_ge (by omega) (by omega)), tu_isOn hp, q_c]
    by_cases off : p = some 0
    · rw [b01_f (fun y => y off), if_pos (show nI 0 = 0 from rfl)]
      subst off
      exact tu_off (hR E B f _ x hE hb hp)
    rw [b01_t off, if_neg (show ¬ nI 1 = 0 by decide), tu_goal hl e2 (by omega), q_c]
    have hstep : ∀ (E B f : Nat → Int32) (p : Option Nat) (x : Int32), J E → byt (tS S E p B f x) → pOk p → tuO S (f_Tu_prepare_49 K G (f_Tu_prepare_2 K G q) (nI c) (tS S E p B f x)) p (mvF A H gl Y m (c + 1) ++ R) E := fun E B f p x hE hb hp => by
      unfold f_Tu_prepare_49
      rw [show (1 : Int32) = nI 1 from rfl, nI_add, q_l]
      exact ih (c + 1) q E B f p x (by omega) (by omega) (by omega) hE hb hp
    rw [mvF, List.append_assoc]
    by_cases g : gl c = 0
    · rw [g, if_pos (show nI 0 = 0 from rfl), if_pos rfl]
      exact hstep E B f p x hE hb hp
    · have hg := (hl.2.2.2.2.2.2 c)
      have hgN := hcl (gl c) (hg.2 g) hg.1
      rw [if_neg (nI_ne0 (by omega) (by omega)), if_neg g, tu_goal hl e2 (by omega), q_c]
      refine tu_seq (tu_cluster h hl.2.2.1.1 hl.2.2.1.2.1 e2 (hg.2 g) (hcl c e2 (by omega)) hgN hJ (hY c e2 (by omega) g) (hw c e2 (by omega) g) (2 * H) 0 K E B f p x (by omega) (by have := hl.1.2.1; omega) hE hb hp) (fun E' B' f' x' a1 a2 => ?_)
      refine hstep E' B' f' _ x' (J_1 hJ hE a1 (fun w ww E0 h0 => ?_)) a2 (pR_ok hp _)
      have key : ∀ n i, w ∈ cpF A H (Y c) (gl c) n i → i + n ≤ 2 * H → J (wS E0 w.1 w.2 0) := by
        intro n
        induction n with
        | zero => intro i h; cases h
        | succ n ihn =>
          intro i h hi
          rw [cpF] at h
          rcases List.mem_cons.mp h with y | y
          · rw [y]; exact hw c e2 (by omega) g E0 i (by omega) h0
          · exact ihn (i + 1) y (by omega)
      exact key (2 * H) 0 ww (by omega)
