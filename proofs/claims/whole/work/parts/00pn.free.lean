/-! Free clusters counted. -/
def cntF (e : Nat → Nat) : Nat → Nat → Nat
  | 0, _ => 0
  | d + 1, x => (if e x = 0 then 1 else 0) + cntF e d (x + 1)
theorem cntF_le (e : Nat → Nat) : ∀ d x, cntF e d x ≤ d := by
  intro d
  induction d with
  | zero => intro x; exact Nat.le_refl _
  | succ d ih =>
    intro x
    rw [cntF]
    have := ih (x + 1)
    split <;> omega
theorem qM_free {K N : Nat} {D : Nat → Int32} {T : MS} (hK : 1000 ≤ K) (h : hdOk N D) (hN : N ≤ 1024) (hM : mIs N D T) : f_Mo_free K T = some (nI (cntF (ent D) (hk N D) 2), T) := by
  have hf := hd_facts h hN
  have lp : ∀ (d x k acc : Nat), x + d = hk N D + 2 → d < k → 2 ≤ x → f_Mo_free_4 K k (nI acc) (nI x) T = some (nI (acc + cntF (ent D) d x), T) := by
    intro d
    induction d with
    | zero =>
      intro x k acc h1 h2 h3
      obtain ⟨k, rfl⟩ : ∃ m, k = m + 1 := ⟨k - 1, by omega⟩
      rw [f_Mo_free_4, hM.2.2.2.2.2.2.2.2, show (2 : Int32) = nI 2 from rfl, nI_add, if_pos (nI_le (by omega) (by omega)), cntF, Nat.add_zero]
    | succ d ih =>
      intro x k acc h1 h2 h3
      obtain ⟨k, rfl⟩ : ∃ m, k = m + 1 := ⟨k - 1, by omega⟩
      have he := ent_lt D x
      rw [f_Mo_free_4, hM.2.2.2.2.2.2.2.2, show (2 : Int32) = nI 2 from rfl, nI_add, if_neg (nI_ge (by omega) (by omega)), qM_entry hM h hN (by omega), q_c, cntF]
      unfold f_Mo_free_28
      by_cases w : ent D x = 0
      · rw [w, if_pos (show nI 0 = 0 from rfl), if_pos rfl, show (1 : Int32) = nI 1 from rfl, nI_add, nI_add, q_l, q_l, ih (x + 1) k (acc + 1) (by omega) (by omega) (by omega), Nat.add_assoc]
      · rw [if_neg (nI_ne0 (by omega) (by omega)), if_neg w, show (1 : Int32) = nI 1 from rfl, show (0 : Int32) = nI 0 from rfl, nI_add, nI_add, q_l, q_l, ih (x + 1) k (acc + 0) (by omega) (by omega) (by omega), Nat.add_assoc]
  unfold f_Mo_free
  have := lp (hk N D) 2 K 0 (by omega) (by omega) (by omega)
  rw [Nat.zero_add] at this
  exact this
/-- the class's row of entries holds those of X, the numbers those of D -/
abbrev nxR (N : Nat) (D : Nat → Int32) (e : Nat → Nat) (G : CG) (S : CS) : Prop := G.n = N ∧ S.v_Tb_clusters = nI (hk N D) ∧ ∀ x, x < hk N D + 2 → S.w_Tb_next x = nI (e x)
theorem nxR_of {N : Nat} {D E : Nat → Int32} {G : CG} {S : CS} (h : hdOk N D) (hN : N ≤ 1024) (hH : agH D E) (hS : cIs N E G S) : nxR N D (ent D) G S := by
  have hf := hd_facts h hN
  obtain ⟨ec, ev', ey, ez, er, ea, ek⟩ := agH_n hH
  refine ⟨hS.1, by rw [← ek]; exact hS.2.2.2.2.2.2.2.2.2.1, fun x hx => ?_⟩
  rw [hS.2.2.2.2.2.2.2.2.2.2 x (by omega), ek, if_pos hx, agH_ent hH h hN hx]
theorem qC_isFr {K N x : Nat} {D : Nat → Int32} {e : Nat → Nat} {G : CG} {S : CS} (h : hdOk N D) (hN : N ≤ 1024) (hS : nxR N D e G S) (he : ∀ x, e x < 2 ^ 28) (h2 : 2 ≤ x) (hx : x < hk N D + 2) : f_Tb_isFree K G S (nI x) = some (b01 (e x = 0), S) := by
  have hf := hd_facts h hN
  have hex := he x
  obtain ⟨s1, s2, s3⟩ := hS
  unfold f_Tb_isFree f_Tb_isFree_37
  rw [s1, s2, show (2 : Int32) = nI 2 from rfl, nI_add, if_neg (nI_nlt h2 (by omega)), if_neg (nI_ge hx (by omega)), if_neg (nI_ge (by omega) (by omega)), q_g (q_in (by omega) (by omega)), nI_clamp (by omega), s3 x hx]
  by_cases w : e x = 0
  · rw [w, if_pos (show nI 0 = 0 from rfl), b01_t rfl]; rfl
  · rw [if_neg (nI_ne0 (by omega) (by omega)), b01_f w]; rfl
theorem qC_free {K N : Nat} {D : Nat → Int32} {e : Nat → Nat} {G : CG} {S : CS} (hK : 1000 ≤ K) (h : hdOk N D) (hN : N ≤ 1024) (hS : nxR N D e G S) (he : ∀ x, e x < 2 ^ 28) : f_Tb_countFree K G S = some (nI (cntF e (hk N D) 2), S) := by
  have hf := hd_facts h hN
  have lp : ∀ (d x k acc : Nat), x + d = hk N D + 2 → d < k → 2 ≤ x → f_Tb_countFree_4 K G k (nI acc) (nI x) S = some (nI (acc + cntF e d x), S) := by
    intro d
    induction d with
    | zero =>
      intro x k acc h1 h2 h3
      obtain ⟨k, rfl⟩ : ∃ m, k = m + 1 := ⟨k - 1, by omega⟩
      rw [f_Tb_countFree_4, hS.2.1, show (2 : Int32) = nI 2 from rfl, nI_add, if_pos (nI_le (by omega) (by omega)), cntF, Nat.add_zero]
    | succ d ih =>
      intro x k acc h1 h2 h3
      obtain ⟨k, rfl⟩ : ∃ m, k = m + 1 := ⟨k - 1, by omega⟩
      rw [f_Tb_countFree_4, hS.2.1, show (2 : Int32) = nI 2 from rfl, nI_add, if_neg (nI_ge (by omega) (by omega)), qC_isFr h hN hS he h3 (by omega), q_c, cntF]
      unfold f_Tb_countFree_28
      by_cases w : e x = 0
      · rw [b01_t w, if_neg (show ¬ nI 1 = 0 by decide), if_pos w, show (1 : Int32) = nI 1 from rfl, nI_add, nI_add, q_l, q_l, ih (x + 1) k (acc + 1) (by omega) (by omega) (by omega), Nat.add_assoc]
      · rw [b01_f w, if_pos (show nI 0 = 0 from rfl), if_neg w, show (1 : Int32) = nI 1 from rfl, show (0 : Int32) = nI 0 from rfl, nI_add, nI_add, q_l, q_l, ih (x + 1) k (acc + 0) (by omega) (by omega) (by omega), Nat.add_assoc]
  unfold f_Tb_countFree
  have := lp (hk N D) 2 K 0 (by omega) (by omega) (by omega)
  rw [Nat.zero_add] at this
  exact this
