/-! make: the number of the new item, on both sides. -/
theorem qC_166 {K hh n c b fk : Nat} {sl : Nat → Nat} {G : CG} {S : CS} (hK : 10000 ≤ K) (hn : n < 5000) (hc : c ≤ n) (hb : b < 2 ^ 31) (hcnt : f_Tr_countIn K G S (nI hh) = some (nI n, S)) (hkid : ∀ k, f_Tr_kid K G S (nI hh) (nI k) = some (nI (fk + k), S)) (hsl : ∀ k, k < n → f_Tr_slotOf K G S (nI (fk + k)) = some (nI (sl k), S) ∧ sl k < 2 ^ 31) (hfs : S.v_Ed_firstSlot = nI b) (h1 : ∀ k, k < c → sl k < b) (h2 : ∀ k, c ≤ k → k < n → b ≤ sl k) : f_Ed_addItem_160 K G (nI hh) S = some (nI c, S) := by
  have go : ∀ (d i k : Nat), i + d = n → d < k → f_Ed_addItem_166 K G k (nI hh) (nI (min i c)) (nI i) S = some (nI c, S) := by
    intro d
    induction d with
    | zero =>
      intro i k a1 a2
      obtain ⟨k, rfl⟩ : ∃ m, k = m + 1 := ⟨k - 1, by omega⟩
      obtain rfl : i = n := by omega
      rw [f_Ed_addItem_166, hcnt, q_c, if_pos (Int32.le_refl _), Nat.min_eq_right hc]
    | succ d ih =>
      intro i k a1 a2
      obtain ⟨k, rfl⟩ : ∃ m, k = m + 1 := ⟨k - 1, by omega⟩
      obtain ⟨s1, s2⟩ := hsl i (by omega)
      have nx := ih (i + 1) k (by omega) (by omega)
      rw [f_Ed_addItem_166, hcnt, q_c, if_neg (nI_ge (by omega) (by omega)), hkid, q_c, s1, q_c, hfs]
      unfold f_Ed_addItem_210
      by_cases w : i < c
      · have := h1 i w
        rw [if_neg (nI_ge this (by omega)), nI_1, q_l, nI_1, q_l, show min i c + 1 = min (i + 1) c by omega]
        exact nx
      · have := h2 i (by omega) (by omega)
        rw [if_pos (nI_le this s2), show nI (min i c) + 0 = nI (min i c + 0) from nI_add _ _, q_l, nI_1, q_l, show min i c + 0 = min (i + 1) c by omega]
        exact nx
  unfold f_Ed_addItem_160
  have := go n 0 K (by omega) (by omega)
  rw [Nat.zero_min] at this
  exact this
theorem qM_772 {K hh c fk W b : Nat} {sl : Nat → Nat} {T : MS} (hK : 10000 ≤ K) (hh0 : hh < 4200) (hc : fk + c < 4200) (hW : 1 ≤ W) (hbW : b + W < 2 ^ 31) (hfk : T.v_firstKid hh = nI fk) (hsl : ∀ k, k ≤ c → T.v_slot (fk + k) = nI (sl k) ∧ sl k < 2 ^ 31) (h1 : ∀ k, k < c → sl k < b) (h2 : sl c = b + W - 1) : f_Mo_make_772 K K (nI hh) (nI W) (nI b) 0 T = some (nI c, T) := by
  have go : ∀ (d i k : Nat), i + d = c → d < k → f_Mo_make_772 K k (nI hh) (nI W) (nI b) (nI i) T = some (nI c, T) := by
    intro d
    induction d with
    | zero =>
      intro i k a1 a2
      obtain ⟨k, rfl⟩ : ∃ m, k = m + 1 := ⟨k - 1, by omega⟩
      obtain rfl : i = c := by omega
      obtain ⟨s1, s2⟩ := hsl i (Nat.le_refl _)
      rw [f_Mo_make_772, q_g (q_in hh0 (by decide)), nI_clamp (by omega), hfk, nI_add, q_g (q_in hc (by decide)), nI_clamp (by omega), s1, nI_add, show nI (b + W) - 1 = nI (b + W - 1) from pk_sub (b := 1) (by omega), if_pos (by rw [h2])]
    | succ d ih =>
      intro i k a1 a2
      obtain ⟨k, rfl⟩ : ∃ m, k = m + 1 := ⟨k - 1, by omega⟩
      obtain ⟨s1, s2⟩ := hsl i (by omega)
      have hl := h1 i (by omega)
      rw [f_Mo_make_772, q_g (q_in hh0 (by decide)), nI_clamp (by omega), hfk, nI_add, q_g (q_in (by omega) (by decide)), nI_clamp (by omega), s1, nI_add, show nI (b + W) - 1 = nI (b + W - 1) from pk_sub (b := 1) (by omega), if_neg (fun y => absurd ((nI_eq (by omega) (by omega)).mp y) (by omega)), q_l, nI_1]
      exact ih (i + 1) k (by omega) (by omega)
  exact go c 0 K (by omega) (by omega)
/-! the class's invented name, put together -/
theorem qC_invent {K N l d fk n m : Nat} {G : CG} {D E : Nat → Int32} {mp : Nat → Nat} {its : List It} {us : List Nat} {S : CS} (hK : 20000 ≤ K) (hG : gOk N G) (hN : N ≤ 1024) (hE : S.w_Dk_bytes = E) (hS : rcI D mp its S) (hgl : its.length ≤ G.l_parent) (ho : itsOk N its) (hm : mpOk N D E mp its) (h1 : 1 ≤ fk) (h2 : fk + n ≤ its.length) (hcnt : ∀ g, f_Tr_countIn K G (S.u_w_Ed_shortName g) (nI d) = some (nI n, S.u_w_Ed_shortName g)) (hkid : ∀ g k, f_Tr_kid K G (S.u_w_Ed_shortName g) (nI d) (nI k) = some (nI (fk + k), S.u_w_Ed_shortName g)) (hs : S.v_Ed_unitCount = nI us.length) (hu1 : 1 ≤ us.length) (hl : us.length ≤ 255) (hb : bufR S.w_Ed_units us) (hu : ∀ u ∈ us, u < 65536) (hlp : lpR us l) (hm1 : 1 ≤ m) (hmn : m ≤ n + 1) (hno : ¬ shT D its fk n (cdN (sqA us 0 l) (tlL us l) m)) (hbe : ∀ q, 1 ≤ q → q < m → shT D its fk n (cdN (sqA us 0 l) (tlL us l) q)) : ∃ g, (∀ r, r < 11 → g r = nI (cdN (sqA us 0 l) (tlL us l) m r)) ∧ f_Ed_inventShortName K G S (nI d) = some (S.u_w_Ed_shortName g) := by
  have hlen := ho.2.1
  obtain ⟨l', hl', e⟩ := qC_lastPoint (K := K) (G := G) (S := S) hK hs hu1 hl hb hu
  obtain rfl : l' = l := lp_uniq hl' hlp
  obtain ⟨g, g1, g2⟩ := qC_search (K := K) (S := S) hK hG hN hE hS hgl ho hm h1 h2 hcnt hkid hs hl hb hu hlp hmn hno (m - 1) 1 K 1 S.w_Ed_shortName (by omega) (Nat.le_refl _) (by omega) (Or.inr ⟨by decide, rfl⟩) (by omega) (fun r a b => hbe r a b)
  refine ⟨g, g1, ?_⟩
  have hc0 : f_Tr_countIn K G S (nI d) = some (nI n, S) := hcnt S.w_Ed_shortName
  unfold f_Ed_inventShortName
  rw [e, q_c, hc0, q_c, nI_1, q_l]
  exact g2
