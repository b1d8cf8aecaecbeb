/-! Chains let go. -/
theorem qM_lk {K N x v : Nat} {D : Nat → Int32} {T : MS} (hK : 1000 ≤ K) (h : hdOk N D) (hN : N ≤ 1024) (hx : x < hk N D + 2) (hv0 : v < 2 ^ 28) (h1 : T.v_v = nI (hv D)) (h2 : T.v_y = nI (hy D)) (h3 : T.v_z = nI (hz D)) : f_Mo_setEntry K T (nI x) (nI v) = some (T.u_v_disk (lk D T.v_disk x v)) := by
  have hf := hd_facts h hN
  exact qM_setEntry hK hv0 (fun t ht => by have := lk_hp h hN hx ht; omega) (by omega) h1 h2 h3
theorem qC_lk {K N x v : Nat} {D : Nat → Int32} {G : CG} {S : CS} (hK : 1000 ≤ K) (hG : G.n = N) (hN1 : 256 ≤ N) (h : hdOk N D) (hN : N ≤ 1024) (hx : x < hk N D + 2) (hv0 : v < 2 ^ 28) (h1 : S.v_Tb_before = nI (hv D)) (h2 : S.v_Tb_copies = nI (hy D)) (h3 : S.v_Tb_length = nI (hz D)) (h4 : S.v_Tb_clusters = nI (hk N D)) : f_Tb_link K G S (nI x) (nI v) = some ((S.u_w_Tb_next (upd S.w_Tb_next x (nI v))).u_w_Dk_bytes (lk D S.w_Dk_bytes x v)) := by
  have hf := hd_facts h hN
  exact qC_link hK hG hN1 hN hv0 (fun t ht => by have := lk_hp h hN hx ht; omega) (by omega) h1 h2 h3 h4 (by omega) hx
abbrev frL (l : List Nat) : List (Nat × Nat) := l.map fun x => (x, 0)
theorem drop_get {l : List Nat} {i : Nat} (h : i < l.length) : l.drop i = l.getD i 0 :: l.drop (i + 1) := by
  rw [List.drop_eq_getElem_cons h, List.getD_eq_getElem?_getD, List.getElem?_eq_getElem h]
  rfl
/-- what cut does when all is let go -/
def cutF (K : Nat) (y_2 y_3 y_4 : Int32) (S : MS) : Option (Int32 × MS) := if y_4 ≤ 0 then ((f_Mo_set K S (y_3 + 20) 2 0).bind fun S_18 => (f_Mo_set K S_18 (y_3 + 26) 2 0).bind fun S_19 => f_Mo_cut_170 K y_2 y_3 y_4 S_19) else (if S.v_links ≤ y_4 then (f_Mo_cut_170 K y_2 y_3 y_4 S) else (lf_g (lf_in (y_4 - 1) 560) ((f_Mo_setEntry K S (S.v_chain (y_4 - 1).toNatClampNeg) 268435455).bind fun S_22 => f_Mo_cut_170 K y_2 y_3 y_4 S_22)))
theorem qM_cutL {K N : Nat} {D : Nat → Int32} {ch : List Nat} (hK : 1000 ≤ K) (h : hdOk N D) (hN : N ≤ 1024) (hcl : ∀ x ∈ ch, isCl N D x) (hl : ch.length ≤ 514) (y2 y3 y4 : Int32) : ∀ (d i k : Nat) (T : MS), i + d = ch.length → d < k → T.v_links = nI ch.length → (∀ q, q < ch.length → T.v_chain q = nI (ch.getD q 0)) → T.v_v = nI (hv D) → T.v_y = nI (hy D) → T.v_z = nI (hz D) → f_Mo_cut_91 K k y2 y3 y4 (nI i) T = cutF K y2 y3 y4 (T.u_v_disk (lks D T.v_disk (frL (ch.drop i)))) := by
  intro d
  induction d with
  | zero =>
    intro i k T h1 h2 h3 h4 h5 h6 h7
    obtain ⟨k, rfl⟩ : ∃ m, k = m + 1 := ⟨k - 1, by omega⟩
    rw [f_Mo_cut_91, h3, if_pos (nI_le (by omega) (by omega)), List.drop_of_length_le (by omega), ← h3]
    rfl
  | succ d ih =>
    intro i k T h1 h2 h3 h4 h5 h6 h7
    obtain ⟨k, rfl⟩ : ∃ m, k = m + 1 := ⟨k - 1, by omega⟩
    have hi : i < ch.length := by omega
    have hmem : ch.getD i 0 ∈ ch := by
      rw [List.getD_eq_getElem?_getD, List.getElem?_eq_getElem hi]
      exact List.getElem_mem hi
    rw [f_Mo_cut_91, h3, if_neg (nI_ge hi (by omega)), q_g (q_in (by omega) (by decide)), nI_clamp (by omega), h4 i hi, show (0 : Int32) = nI 0 from rfl, qM_lk hK h hN (by have := (hcl _ hmem).2; omega) (by decide) h5 h6 h7, q_b, show (1 : Int32) = nI 1 from rfl, nI_add, q_l]
    rw [ih (i + 1) k (T.u_v_disk (lk D T.v_disk (ch.getD i 0) 0)) (by omega) (by omega) h3 h4 h5 h6 h7, drop_get hi]
    rfl
def shoF (K : Nat) (G : CG) (y_2 y_3 y_4 : Int32) (S : CS) : Option (Int32 × CS) := (f_Dk_putFour K G S (y_3 + 28) y_2).bind fun S_13 => some (S_13.v_Ed_roadLength - y_4, S_13)
theorem qC_cutL {K N : Nat} {D : Nat → Int32} {ch : List Nat} {G : CG} (hK : 1000 ≤ K) (hG : G.n = N) (hN1 : 256 ≤ N) (h : hdOk N D) (hN : N ≤ 1024) (hcl : ∀ x ∈ ch, isCl N D x) (hl : ch.length < N / 2 + 2) (y2 y3 y4 : Int32) : ∀ (d i k : Nat) (S : CS), i + d = ch.length → d < k → S.v_Ed_roadLength = nI ch.length → (∀ q, q < ch.length → S.w_Ed_road q = nI (ch.getD q 0)) → S.v_Tb_before = nI (hv D) → S.v_Tb_copies = nI (hy D) → S.v_Tb_length = nI (hz D) → S.v_Tb_clusters = nI (hk N D) → ∃ f, f_Ed_shorten_86 K G k y2 y3 y4 (nI i) S = shoF K G y2 y3 y4 ((S.u_w_Tb_next f).u_w_Dk_bytes (lks D S.w_Dk_bytes (frL (ch.drop i)))) := by
  intro d
  induction d with
  | zero =>
    intro i k S h1 h2 h3 h4 h5 h6 h7 h8
    obtain ⟨k, rfl⟩ : ∃ m, k = m + 1 := ⟨k - 1, by omega⟩
    refine ⟨S.w_Tb_next, ?_⟩
    rw [f_Ed_shorten_86, h3, if_pos (nI_le (by omega) (by omega)), List.drop_of_length_le (by omega)]
    rfl
  | succ d ih =>
    intro i k S h1 h2 h3 h4 h5 h6 h7 h8
    obtain ⟨k, rfl⟩ : ∃ m, k = m + 1 := ⟨k - 1, by omega⟩
    have hi : i < ch.length := by omega
    have hmem : ch.getD i 0 ∈ ch := by
      rw [List.getD_eq_getElem?_getD, List.getElem?_eq_getElem hi]
      exact List.getElem_mem hi
    have hlk := qC_lk (K := K) (S := S) (x := ch.getD i 0) (v := 0) hK hG hN1 h hN (by have := (hcl _ hmem).2; omega) (by decide) h5 h6 h7 h8
    obtain ⟨f, e⟩ := ih (i + 1) k ((S.u_w_Tb_next (upd S.w_Tb_next (ch.getD i 0) (nI 0))).u_w_Dk_bytes (lk D S.w_Dk_bytes (ch.getD i 0) 0)) (by omega) (by omega) h3 h4 h5 h6 h7 h8
    refine ⟨f, ?_⟩
    rw [f_Ed_shorten_86, h3, if_neg (nI_ge hi (by omega)), hG, q_g (q_in (by omega) (by omega)), nI_clamp (by omega), h4 i hi, show (0 : Int32) = nI 0 from rfl, hlk, q_b, show (1 : Int32) = nI 1 from rfl, nI_add, q_l, e, drop_get hi]
    rfl
