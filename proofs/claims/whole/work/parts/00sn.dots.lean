/-! make: the rest of the entry, the end of the directory, the first two entries of a new one. -/
def emF (X : Nat → Int32) (c : Prop) [Decidable c] (q : Nat) : Nat → Int32 := if c then st X q 0 1 else X
theorem st_zero (X : Nat → Int32) (q : Nat) : upd X q (vp_nar .byte 0) = st X q 0 1 := by
  rw [← st1_upd]
  rfl
theorem qM_548 {K N L L' e b W o pe a : Nat} {P : Nat → Nat} {T : MS} {a1 : Int32} (hK : 1000 ≤ K) (hN : N ≤ 1024) (hT : slM K N L' P T) (hLL : L ≤ L') (hL : L' < 19000) (he : e ≤ L) (hW2 : W ≤ 21) (hb : b ≤ L) (hpe : pe + 32 ≤ 512 * N) (ho : o < 2 ^ 28) (ha : a < 256) : f_Mo_make_548 K a1 (nI W) (nI L) (nI e) (nI b) (nI o) (nI pe) (nI pe + 11) 1 (lN a) T = f_Mo_make_626 K a1 (nI W) (nI b) (nI o) (T.u_v_disk (emF (enA T.v_disk pe a o) (e ≤ b + W ∧ b + W < L) (P (b + W)))) := by
  unfold f_Mo_make_548
  have s2 : ∀ (T : MS) (k x : Nat), k < 31 → x < 2 ^ 28 → f_Mo_set K T (nI pe + nI k) 2 (nI x).toInt64 = some (T.u_v_disk (st T.v_disk (pe + k) x 2)) := fun T k x hk hx => by
    rw [nI_add, l64 (by omega), show (2 : Int32) = nI 2 from rfl]
    exact qM_set (by omega) (by omega) (by omega) (by omega)
  have s1 : f_Mo_set K T (nI pe + 11) 1 (lN a) = some (T.u_v_disk (st T.v_disk (pe + 11) a 1)) := by
    rw [show (11 : Int32) = nI 11 from rfl, nI_add, show (1 : Int32) = nI 1 from rfl]
    exact qM_set (by omega) (by omega) (by omega) (by omega)
  have t33 : ∀ T : MS, f_Mo_set K T (nI pe + 24) 2 33 = some (T.u_v_disk (st T.v_disk (pe + 24) 33 2)) := fun T => s2 T 24 33 (by omega) (by omega)
  rw [s1, q_b, t33, q_b, show (16 : Int32) = nI 16 from rfl, q_shr (by omega) (by decide), show (20 : Int32) = nI 20 from rfl, s2 _ 20 _ (by omega) (by omega), q_b, show (26 : Int32) = nI 26 from rfl, s2 _ 26 _ (by omega) ho, q_b, nI_add, q_l]
  show (if nI (b + W) < nI e then f_Mo_make_626 K a1 (nI W) (nI b) (nI o) (T.u_v_disk (enA T.v_disk pe a o)) else if nI L ≤ nI (b + W) then f_Mo_make_626 K a1 (nI W) (nI b) (nI o) (T.u_v_disk (enA T.v_disk pe a o)) else lf_c (f_Mo_slotAt K (T.u_v_disk (enA T.v_disk pe a o)) (nI (b + W))) fun r_78 S_78 => lf_g (lf_in r_78 524288) (lf_l (S_78.u_v_disk (upd S_78.v_disk r_78.toNatClampNeg (vp_nar .byte 0))) fun S_80 => f_Mo_make_626 K a1 (nI W) (nI b) (nI o) S_80)) = _
  unfold emF
  by_cases c1 : b + W < e
  · rw [if_pos (nI_lt c1 (by omega)), if_neg (by omega)]
  rw [if_neg (nI_nlt (by omega) (by omega))]
  by_cases c2 : L ≤ b + W
  · rw [if_pos (nI_le c2 (by omega)), if_neg (by omega)]
  obtain ⟨e1, e2⟩ := hT (b + W) (enA T.v_disk pe a o) (by omega)
  rw [if_neg (nI_ge (by omega) (by omega)), if_pos (by omega), e1, q_c, q_g (q_in (by omega) (by decide)), q_l, nI_clamp (by omega)]
  show f_Mo_make_626 K a1 (nI W) (nI b) (nI o) (T.u_v_disk (upd (enA T.v_disk pe a o) (P (b + W)) (vp_nar .byte 0))) = _
  rw [st_zero]
def dnm (i q : Nat) : Nat := if q ≤ i then 46 else 32
def dtM (X : Nat → Int32) (p i c : Nat) : Nat → Int32 := st (st (st (nmW X p (dnm i) 11) (p + 11) 16 1) (p + 24) 33 2) (p + 26) c 2
theorem qM_672 {K N p i c : Nat} {T : MS} {a1 a2 a3 a4 : Int32} {rc : Int32 → Int32 → Int32 → Int32 → Int32 → MS → Option (Int32 × MS)} (hK : 1000 ≤ K) (hN : N ≤ 1024) (hp : p + 32 ≤ 512 * N) (hi : i < 2) (hc : c < 2 ^ 28) : ∀ (d j k : Nat) (X : Nat → Int32), j + d = 11 → d < k → f_Mo_make_672 K rc k a1 a2 a3 a4 (nI i) (nI p) (nI c) (nI j) (T.u_v_disk (nmW X p (dnm i) j)) = rc a1 a2 a3 a4 (nI (i + 1)) (T.u_v_disk (dtM X p i c)) := by
  have s2 : ∀ (T : MS) (k x : Nat), k < 31 → x < 2 ^ 28 → f_Mo_set K T (nI p + nI k) 2 (nI x).toInt64 = some (T.u_v_disk (st T.v_disk (p + k) x 2)) := fun T k x hk hx => by
    rw [nI_add, l64 (by omega), show (2 : Int32) = nI 2 from rfl]
    exact qM_set (by omega) (by omega) (by omega) (by omega)
  have s1 : ∀ T : MS, f_Mo_set K T (nI p + 11) 1 16 = some (T.u_v_disk (st T.v_disk (p + 11) 16 1)) := fun T => by
    rw [show (11 : Int32) = nI 11 from rfl, nI_add, show (1 : Int32) = nI 1 from rfl]
    exact qM_set (a := 16) (by omega) (by omega) (by omega) (by omega)
  have t33 : ∀ T : MS, f_Mo_set K T (nI p + 24) 2 33 = some (T.u_v_disk (st T.v_disk (p + 24) 33 2)) := fun T => s2 T 24 33 (by omega) (by omega)
  intro d
  induction d with
  | zero =>
    intro j k X h1 h2
    obtain ⟨k, rfl⟩ : ∃ m, k = m + 1 := ⟨k - 1, by omega⟩
    obtain rfl : j = 11 := by omega
    rw [f_Mo_make_672, if_pos (show (11 : Int32) ≤ nI 11 by decide), s1, q_b, t33, q_b, show (26 : Int32) = nI 26 from rfl, s2 _ 26 _ (by omega) hc, q_b, q_l, nI_1]
    rfl
  | succ d ih =>
    intro j k X h1 h2
    obtain ⟨k, rfl⟩ : ∃ m, k = m + 1 := ⟨k - 1, by omega⟩
    have put : ∀ w : Int32, w = nI (dnm i j) → f_Mo_make_702 K rc (f_Mo_make_672 K rc k) a1 a2 a3 a4 (nI i) (nI p) (nI c) (nI j) (nI p + nI j) w (T.u_v_disk (nmW X p (dnm i) j)) = rc a1 a2 a3 a4 (nI (i + 1)) (T.u_v_disk (dtM X p i c)) := fun w ew => by
      unfold f_Mo_make_702
      rw [nI_add, q_g (q_in (by omega) (by decide)), q_l, q_l, nI_1, nI_clamp (by omega), ew]
      show f_Mo_make_672 K rc k a1 a2 a3 a4 (nI i) (nI p) (nI c) (nI (j + 1)) (T.u_v_disk (upd (nmW X p (dnm i) j) (p + j) (wb (nI (dnm i j))))) = _
      rw [st1_upd]
      exact ih (j + 1) k X (by omega) (by omega)
    rw [f_Mo_make_672, if_neg (show ¬ (11 : Int32) ≤ nI j from nI_ge (show j < 11 by omega) (by decide))]
    by_cases x : i < j
    · rw [if_pos (nI_lt x (by omega))]
      exact put _ (by unfold dnm; rw [if_neg (by omega)]; rfl)
    · rw [if_neg (nI_nlt (by omega) (by omega))]
      exact put _ (by unfold dnm; rw [if_pos (by omega)]; rfl)
theorem qM_dts {K N o h p W b : Nat} {T : MS} {a1 : Int32} (hK : 1000 ≤ K) (hN : N ≤ 1024) (ha1 : ¬ a1 = 0) (hp : p + 64 ≤ 512 * N) (ho : o < 2 ^ 28) (hh : h < 2 ^ 28) (hpl : ∀ f, f_Mo_place K (T.u_v_disk f) (nI o) = some (nI p, T.u_v_disk f)) (hhe : T.v_here = nI h) : f_Mo_make_626 K a1 (nI W) (nI b) (nI o) T = f_Mo_make_755 K (nI W) (nI b) (T.u_v_disk (dtM (dtM T.v_disk p 0 o) (p + 32) 1 h)) := by
  obtain ⟨K', hK'⟩ : ∃ m, K = m + 1 + 1 + 1 := ⟨K - 3, by omega⟩
  unfold f_Mo_make_626
  have step0 : ∀ k X, f_Mo_make_629 K (k + 1) a1 (nI W) (nI b) (nI o) 0 (T.u_v_disk X) = f_Mo_make_629 K k a1 (nI W) (nI b) (nI o) (nI 1) (T.u_v_disk (dtM X p 0 o)) := fun k X => by
    rw [f_Mo_make_629, if_neg (by decide), if_neg ha1, hpl, q_c, show (32 : Int32) * 0 = nI 0 from rfl, nI_add, q_l, if_pos rfl]
    unfold f_Mo_make_667
    exact qM_672 (K := K) (T := T) (rc := f_Mo_make_629 K k) (i := 0) hK hN (by omega) (by omega) ho 11 0 K X rfl (by omega)
  have step1 : ∀ k X, f_Mo_make_629 K (k + 1) a1 (nI W) (nI b) (nI o) (nI 1) (T.u_v_disk X) = f_Mo_make_629 K k a1 (nI W) (nI b) (nI o) (nI 2) (T.u_v_disk (dtM X (p + 32) 1 h)) := fun k X => by
    rw [f_Mo_make_629, if_neg (by decide), if_neg ha1, hpl, q_c, show (32 : Int32) * nI 1 = nI 32 from rfl, nI_add, q_l, if_neg (by decide), show (T.u_v_disk X).v_here = nI h from hhe]
    unfold f_Mo_make_667
    exact qM_672 (K := K) (T := T) (rc := f_Mo_make_629 K k) (i := 1) hK hN (by omega) (by omega) hh 11 0 K X rfl (by omega)
  have fin : ∀ q, q = K → f_Mo_make_629 K q a1 (nI W) (nI b) (nI o) 0 (T.u_v_disk T.v_disk) = f_Mo_make_755 K (nI W) (nI b) (T.u_v_disk (dtM (dtM T.v_disk p 0 o) (p + 32) 1 h)) := fun q hq => by
    rw [hq.trans hK', step0, step1, f_Mo_make_629, if_pos (by decide)]
  exact fin K rfl
theorem qM_nodots {K W b o : Nat} {T : MS} (hK : 1000 ≤ K) : f_Mo_make_626 K 0 (nI W) (nI b) (nI o) T = f_Mo_make_755 K (nI W) (nI b) T := by
  obtain ⟨K', hK'⟩ : ∃ m, K = m + 1 := ⟨K - 1, by omega⟩
  have fin : ∀ q, q = K → f_Mo_make_629 K q 0 (nI W) (nI b) (nI o) 0 T = f_Mo_make_755 K (nI W) (nI b) T := fun q hq => by
    rw [hq.trans hK', f_Mo_make_629, if_neg (by decide), if_pos rfl]
  exact fin K rfl
/-! the class -/
theorem qC_27 {K N p i c o hh : Nat} {G : CG} {S : CS} {rc : Int32 → Int32 → Int32 → CS → Option CS} (hG : G.n = N) (hN1 : 256 ≤ N) (hN : N ≤ 1024) (hp : p + 32 ≤ 512 * N) (hi : i < 2) (hc : c < 2 ^ 28) (hhl : hh < 2 ^ 31) (hcl : (i = 0 ∧ c = o) ∨ (i = 1 ∧ hh = 0 ∧ c = 0) ∨ (i = 1 ∧ hh ≠ 0 ∧ ∀ f, f_Tr_firstOf K G (S.u_w_Dk_bytes f) (nI hh) = some (nI c, S.u_w_Dk_bytes f))) : ∀ (d j k : Nat) (X : Nat → Int32), j + d = 11 → d < k → f_Ed_putDots_27 K G rc k (nI o) (nI hh) (nI (i + 1)) (nI p) (nI j) (S.u_w_Dk_bytes (nmW X p (dnm i) j)) = rc (nI o) (nI hh) (nI (i + 2)) (S.u_w_Dk_bytes (enA (nmW X p (dnm i) 11) p 16 c)) := by
  have fin : ∀ X, f_Ed_putDots_121 K G rc (nI o) (nI hh) (nI (i + 1)) (nI p) (nI c) (S.u_w_Dk_bytes (st (st (nmW X p (dnm i) 11) (p + 11) 16 1) (p + 24) 33 2)) = rc (nI o) (nI hh) (nI (i + 2)) (S.u_w_Dk_bytes (enA (nmW X p (dnm i) 11) p 16 c)) := fun X => by
    unfold f_Ed_putDots_121 f_Ed_putFirstCluster enA
    rw [show (20 : Int32) = nI 20 from rfl, show (26 : Int32) = nI 26 from rfl, nI_add, nI_add, show (16 : Int32) = nI 16 from rfl, q_shr (by omega) (by decide), qC_put2 hG hN1 hN (by omega) (by omega), q_b, qC_put2 hG hN1 hN (by omega) (by omega), q_b, q_b, q_l, nI_1]
    rfl
  intro d
  induction d with
  | zero =>
    intro j k X h1 h2
    obtain ⟨k, rfl⟩ : ∃ m, k = m + 1 := ⟨k - 1, by omega⟩
    obtain rfl : j = 11 := by omega
    rw [f_Ed_putDots_27, if_pos (show (11 : Int32) ≤ nI 11 by decide), show (nI p + (11 : Int32)) = nI (p + 11) from nI_add _ _, show (16 : Int32) = nI 16 from rfl, qC_put1 hG hN1 hN (by omega), q_b, show (nI p + (24 : Int32)) = nI (p + 24) from nI_add _ _, show (33 : Int32) = nI 33 from rfl, qC_put2 hG hN1 hN (by omega) (by omega), q_b]
    rcases hcl with ⟨rfl, rfl⟩ | ⟨rfl, rfl, rfl⟩ | ⟨rfl, w, hf⟩
    · rw [if_pos (show nI (0 + 1) = 1 from rfl)]
      exact fin X
    · rw [if_neg (show ¬ nI (1 + 1) = 1 by decide), if_pos (show nI 0 = 0 from rfl)]
      exact fin X
    · rw [if_neg (show ¬ nI (1 + 1) = 1 by decide), if_neg (nI_ne0 (by omega) hhl)]
      show lf_c (f_Tr_firstOf K G (S.u_w_Dk_bytes (st (st (nmW X p (dnm 1) 11) (p + 11) 16 1) (p + 24) 33 2)) (nI hh)) _ = _
      rw [hf, q_c]
      exact fin X
  | succ d ih =>
    intro j k X h1 h2
    obtain ⟨k, rfl⟩ : ∃ m, k = m + 1 := ⟨k - 1, by omega⟩
    have put : ∀ w : Nat, w = dnm i j → f_Ed_putDots_56 K G rc (f_Ed_putDots_27 K G rc k) (nI o) (nI hh) (nI (i + 1)) (nI p) (nI j) (nI p + nI j) (nI w) (S.u_w_Dk_bytes (nmW X p (dnm i) j)) = rc (nI o) (nI hh) (nI (i + 2)) (S.u_w_Dk_bytes (enA (nmW X p (dnm i) 11) p 16 c)) := fun w ew => by
      unfold f_Ed_putDots_56
      rw [nI_add, qC_put1 hG hN1 hN (by omega), q_b, q_l, nI_1, ew]
      exact ih (j + 1) k X (by omega) (by omega)
    rw [f_Ed_putDots_27, if_neg (show ¬ (11 : Int32) ≤ nI j from nI_ge (show j < 11 by omega) (by decide))]
    by_cases x : i + 1 ≤ j
    · rw [if_pos (nI_le x (by omega))]
      exact put 32 (by unfold dnm; rw [if_neg (by omega)])
    · rw [if_neg (nI_ge (by omega) (by omega))]
      exact put 46 (by unfold dnm; rw [if_pos (by omega)])
theorem qC_dts {K N o h hh p : Nat} {G : CG} {S : CS} (hK : 1000 ≤ K) (hG : G.n = N) (hN1 : 256 ≤ N) (hN : N ≤ 1024) (hp : p + 64 ≤ 512 * N) (ho : o < 2 ^ 28) (hh0 : h < 2 ^ 28) (hhl : hh < 2 ^ 31) (hpl : ∀ f, f_Tb_place K G (S.u_w_Dk_bytes f) (nI o) = some (nI p, S.u_w_Dk_bytes f)) (hcl : (hh = 0 ∧ h = 0) ∨ (hh ≠ 0 ∧ ∀ f, f_Tr_firstOf K G (S.u_w_Dk_bytes f) (nI hh) = some (nI h, S.u_w_Dk_bytes f))) : f_Ed_putDots K G S (nI o) (nI hh) = some (S.u_w_Dk_bytes (enA (nmW (enA (nmW S.w_Dk_bytes p (dnm 0) 11) p 16 o) (p + 32) (dnm 1) 11) (p + 32) 16 h)) := by
  obtain ⟨K', hK'⟩ : ∃ m, K = m + 1 + 1 + 1 := ⟨K - 3, by omega⟩
  unfold f_Ed_putDots
  have step : ∀ k X i, i < 2 → ∀ c, c < 2 ^ 28 → ((i = 0 ∧ c = o) ∨ (i = 1 ∧ hh = 0 ∧ c = 0) ∨ (i = 1 ∧ hh ≠ 0 ∧ ∀ f, f_Tr_firstOf K G (S.u_w_Dk_bytes f) (nI hh) = some (nI c, S.u_w_Dk_bytes f))) → f_Ed_putDots_2 K G (k + 1) (nI o) (nI hh) (nI (i + 1)) (S.u_w_Dk_bytes X) = f_Ed_putDots_2 K G k (nI o) (nI hh) (nI (i + 2)) (S.u_w_Dk_bytes (enA (nmW X (p + i * 32) (dnm i) 11) (p + i * 32) 16 c)) := fun k X i hi c hc w => by
    rw [f_Ed_putDots_2, if_neg (show ¬ (2 : Int32) < nI (i + 1) from nI_nlt (b := i + 1) (a := 2) (by omega) (by omega)), hpl, q_c, show (nI (i + 1) - (1 : Int32)) = nI i from pk_sub (b := 1) (by omega), show (32 : Int32) = nI 32 from rfl, pk_mul, nI_add, q_l]
    exact qC_27 (K := K) (S := S) (rc := f_Ed_putDots_2 K G k) hG hN1 hN (by omega) hi hc hhl w 11 0 K X rfl (by omega)
  have fin : ∀ q, q = K → f_Ed_putDots_2 K G q (nI o) (nI hh) (nI (0 + 1)) (S.u_w_Dk_bytes S.w_Dk_bytes) = some (S.u_w_Dk_bytes (enA (nmW (enA (nmW S.w_Dk_bytes p (dnm 0) 11) p 16 o) (p + 32) (dnm 1) 11) (p + 32) 16 h)) := fun q hq => by
    rw [hq.trans hK', step _ _ 0 (by omega) o ho (Or.inl ⟨rfl, rfl⟩)]
    show f_Ed_putDots_2 K G (K' + 1 + 1) (nI o) (nI hh) (nI (1 + 1)) _ = _
    rw [step _ _ 1 (by omega) h hh0 (by
      rcases hcl with w | w
      · exact Or.inr (Or.inl ⟨rfl, w.1, w.2⟩)
      · exact Or.inr (Or.inr ⟨rfl, w.1, w.2⟩)), f_Ed_putDots_2, if_pos (by decide), Nat.zero_mul, Nat.one_mul, Nat.add_zero]
  exact fin K rfl
