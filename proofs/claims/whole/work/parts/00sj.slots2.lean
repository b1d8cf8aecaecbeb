/-! make: where a new entry is to stand, the class. -/
def unS (L e i : Nat) : Nat := if e < i then e else L
theorem qC_run {K N L W : Nat} {D : Nat → Int32} {ch : List Nat} {G : CG} {S : CS} {y2 per : Int32} {bt : Nat → Nat} (hK : 20000 ≤ K) (hG : G.n = N) (h : hdOk N D) (hN : N ≤ 1024) (hc0 : S.v_Tb_cluster = nI (hc D)) (ha0 : S.v_Tb_start = nI (ha D)) (hcl : ∀ x ∈ ch, isCl N D x) (hl : ch.length < N / 2 + 2) (hr0 : S.v_Ed_roadLength = nI ch.length) (hf : ∀ q, q < ch.length → S.w_Ed_road q = nI (ch.getD q 0)) (hL : L = ch.length * 16 * hc D) (hLK : L < 19000) (hpl : ∀ s, s < L → plS D ch s < 512 * N) (hbt : ∀ s, s < L → o1 S.w_Dk_bytes (plS D ch s) = bt s) (hSl : S.v_Ed_slots = nI W) {e s : Nat} (hW : 1 ≤ W) (hW2 : W ≤ 100) (he : enE bt L e) (hs : stE bt L e W s) (hL1 : 1 ≤ L) : f_Ed_findSlots_85 K G K y2 per (nI L) 0 0 (S.u_v_Ed_unseen (nI L)) = f_Ed_findSlots_183 K G y2 per (nI (s - rnF bt e s)) ((S.u_v_Ed_unseen (nI (unS L e s))).u_v_Ed_firstSlot (nI (rnF bt e s))) := by
  have hsL := hs.1
  have heL := he.1
  have go : ∀ (d i k : Nat) (f : Int32), i + d = s → d + 1 < k → (1 ≤ i → f = nI (rnF bt e i)) → i - rnF bt e i < W ∨ i = L → f_Ed_findSlots_85 K G k y2 per (nI L) (nI (i - rnF bt e i)) (nI i) ((S.u_v_Ed_unseen (nI (unS L e i))).u_v_Ed_firstSlot f) = f_Ed_findSlots_183 K G y2 per (nI (s - rnF bt e s)) ((S.u_v_Ed_unseen (nI (unS L e s))).u_v_Ed_firstSlot (nI (rnF bt e s))) := by
    intro d
    induction d with
    | zero =>
      intro i k f h1 h2 h3 h4
      obtain ⟨k, rfl⟩ : ∃ m, k = m + 1 := ⟨k - 1, by omega⟩
      obtain rfl : i = s := by omega
      have hiL : i = L := by
        rcases hs.2.1 with x | x
        · exact x
        · rcases h4 with y | y
          · omega
          · exact y
      rw [f_Ed_findSlots_85, if_pos (nI_le (by omega) (by omega)), h3 (by omega)]
    | succ d ih =>
      intro i k f h1 h2 h3 h4
      obtain ⟨k, rfl⟩ : ∃ m, k = m + 1 := ⟨k - 1, by omega⟩
      have hi : i < L := by omega
      have hr := rnF_le bt e i
      have hr1 := rnF_le bt e (i + 1)
      have hrun := hs.2.2 i (by omega)
      have hbi := hbt i hi
      have h256 := o1_lt S.w_Dk_bytes (plS D ch i)
      rw [hbi] at h256
      generalize hS0 : (S.u_v_Ed_unseen (nI (unS L e i))).u_v_Ed_firstSlot f = S0
      have e1 : f_Ed_slotPlace K G S0 (nI i) = some (nI (plS D ch i), S0) := by
        rw [← hS0]
        exact qC_slotN hG hc0 ha0 h hN hcl hl hr0 hf (by omega)
      have e2 : f_Dk_one K G S0 (nI (plS D ch i)) = some (nI (bt i), S0) := by
        rw [← hS0]
        have := qV_one (K := K) (G := G) ((S.u_v_Ed_unseen (nI (unS L e i))).u_v_Ed_firstSlot f) (p := plS D ch i) (by rw [hG]; exact hpl i hi) (by rw [hG]; exact hN)
        rw [this]
        show some (nI (o1 S.w_Dk_bytes (plS D ch i)), _) = _
        rw [hbi]
      have hun : S0.v_Ed_unseen = nI (unS L e i) := by rw [← hS0]; rfl
      have hsl0 : S0.v_Ed_slots = nI W := by rw [← hS0]; exact hSl
      -- the state with the end seen
      have hs1 : S0.u_v_Ed_unseen (nI (unS L e (i + 1))) = (S.u_v_Ed_unseen (nI (unS L e (i + 1)))).u_v_Ed_firstSlot f := by rw [← hS0]; rfl
      have fin : f_Ed_findSlots_127 K G (f_Ed_findSlots_85 K G k) y2 per (nI L) (nI (i - rnF bt e i)) (nI i) (nI (bt i)) (S0.u_v_Ed_unseen (nI (unS L e (i + 1)))) = f_Ed_findSlots_183 K G y2 per (nI (s - rnF bt e s)) ((S.u_v_Ed_unseen (nI (unS L e s))).u_v_Ed_firstSlot (nI (rnF bt e s))) := by
        rw [hs1]
        have last : f_Ed_findSlots_152 K G (f_Ed_findSlots_85 K G k) y2 per (nI L) (nI i) (nI (i + 1 - rnF bt e (i + 1))) ((S.u_v_Ed_unseen (nI (unS L e (i + 1)))).u_v_Ed_firstSlot f) = f_Ed_findSlots_183 K G y2 per (nI (s - rnF bt e s)) ((S.u_v_Ed_unseen (nI (unS L e s))).u_v_Ed_firstSlot (nI (rnF bt e s))) := by
          unfold f_Ed_findSlots_152
          rw [nI_1, pk_sub (by omega), show i + 1 - (i + 1 - rnF bt e (i + 1)) = rnF bt e (i + 1) by omega, q_l]
          show (if nI (i + 1 - rnF bt e (i + 1)) = S.v_Ed_slots then f_Ed_findSlots_183 K G y2 per (nI (i + 1 - rnF bt e (i + 1))) ((S.u_v_Ed_unseen (nI (unS L e (i + 1)))).u_v_Ed_firstSlot (nI (rnF bt e (i + 1)))) else lf_l (nI (i + 1)) fun x_25 => f_Ed_findSlots_85 K G k y2 per (nI L) (nI (i + 1 - rnF bt e (i + 1))) x_25 ((S.u_v_Ed_unseen (nI (unS L e (i + 1)))).u_v_Ed_firstSlot (nI (rnF bt e (i + 1))))) = _
          rw [hSl]
          by_cases c : i + 1 - rnF bt e (i + 1) = W
          · have es : s = i + 1 := by
              by_cases x : s = i + 1
              · exact x
              · have := hs.2.2 (i + 1) (by omega)
                omega
            rw [if_pos (by rw [c]), es]
          · rw [if_neg (fun y => c ((nI_eq (by omega) (by omega)).mp y)), q_l]
            refine ih (i + 1) k (nI (rnF bt e (i + 1))) (by omega) (by omega) (fun _ => rfl) ?_
            by_cases x : s = i + 1
            · have hw := stE_W hW hs
              rw [x] at hw
              exact Or.inl (by omega)
            · exact Or.inl (hs.2.2 (i + 1) (by omega))
        unfold f_Ed_findSlots_127 f_Ed_findSlots_144
        have hfree : frS bt e i → nI (i - rnF bt e i) + 1 = nI (i + 1 - rnF bt e (i + 1)) := fun c => by
          rw [nI_1, rnF, if_pos c]
          congr 1
          omega
        by_cases c2 : bt i = 229
        · rw [if_pos (show nI (bt i) = 229 from by rw [c2]; rfl), hfree (Or.inr c2)]
          exact last
        rw [if_neg (show ¬ nI (bt i) = 229 from fun y => c2 ((nI_eq (by omega) (by decide)).mp y))]
        show (if nI i < nI (unS L e (i + 1)) then _ else _) = _
        by_cases c1 : e ≤ i
        · rw [if_neg (show ¬ nI i < nI (unS L e (i + 1)) from by unfold unS; rw [if_pos (by omega)]; exact nI_nlt c1 (by omega)), hfree (Or.inl c1)]
          exact last
        · rw [if_pos (show nI i < nI (unS L e (i + 1)) from by unfold unS; rw [if_neg (by omega)]; exact nI_lt hi (by omega))]
          have : (0 : Int32) = nI (i + 1 - rnF bt e (i + 1)) := by
            rw [rnF, if_neg (fun y => y.elim c1 c2), Nat.sub_self]
            rfl
          rw [this]
          exact last
      have same : unS L e i = unS L e (i + 1) → S0 = S0.u_v_Ed_unseen (nI (unS L e (i + 1))) := fun q => by rw [← hS0, ← q]; rfl
      rw [f_Ed_findSlots_85, if_neg (nI_ge hi (by omega)), e1, q_c, e2, q_c, hun]
      by_cases c0 : bt i = 0
      · rw [if_pos (show nI (bt i) = 0 from by rw [c0]; rfl)]
        have hei : e ≤ i := Nat.le_of_not_lt fun y => he.2.2 i y c0
        by_cases ce : e = i
        · rw [if_pos (show nI (unS L e i) = nI L from by unfold unS; rw [if_neg (by omega)]), q_l]
          have : nI i = nI (unS L e (i + 1)) := by unfold unS; rw [if_pos (by omega), ce]
          rw [show S0.u_v_Ed_unseen (nI i) = S0.u_v_Ed_unseen (nI (unS L e (i + 1))) from by rw [← this]]
          exact fin
        · rw [if_neg (show ¬ nI (unS L e i) = nI L from by unfold unS; rw [if_pos (by omega)]; exact fun y => absurd ((nI_eq (by omega) (by omega)).mp y) (by omega)), same (by unfold unS; rw [if_pos (by omega), if_pos (by omega)])]
          exact fin
      · have hne : e ≠ i := fun y => c0 (by rw [← y]; exact he.2.1 (by omega))
        rw [if_neg (show ¬ nI (bt i) = 0 from nI_ne0 (by omega) (by omega)), same (by
          unfold unS
          by_cases x : e < i
          · rw [if_pos x, if_pos (by omega)]
          · rw [if_neg x, if_neg (by omega)])]
        exact fin
  have := go s 0 K S.v_Ed_firstSlot (by omega) (by omega) (fun y => absurd y (by omega)) (Or.inl (by rw [rnF]; omega))
  rw [rnF] at this
  have u0 : unS L e 0 = L := if_neg (by omega)
  rw [u0] at this
  exact this
theorem qC_183 {K N L W b r dr : Nat} {D : Nat → Int32} {e : Nat → Nat} {G : CG} {S : CS} (hK : 1000 ≤ K) (h : hdOk N D) (hN : N ≤ 1024) (hS : nxR N D e G S) (he : ∀ x, e x < 2 ^ 28) (hSl : S.v_Ed_slots = nI W) (hw0 : S.v_Ed_wanted = 0) (hW1 : 1 ≤ W) (hW : W ≤ 100) (hL : L < 19000) (hb : b + r ≤ L) (hr : W ≤ r ∨ b + r = L) (hrW : r ≤ W) (hdr : dr = 0 ∨ dr = 1) (hh : hc D = 2 ∨ hc D = 4 ∨ hc D = 8) : f_Ed_findSlots_183 K G (nI dr) (nI (16 * hc D)) (nI r) S = some (if cntF e (hk N D) 2 < exX b W L (16 * hc D) + dr then 0 else 1, S.u_v_Ed_wanted (nI (exX b W L (16 * hc D)))) := by
  have hx : exX b W L (16 * hc D) ≤ 300 := by
    unfold exX
    split
    · omega
    · refine Nat.le_trans (Nat.div_le_self _ _) ?_
      omega
  have hfk : cntF e (hk N D) 2 ≤ hk N D := cntF_le e _ _
  have hkk := (hd_facts h hN)
  have hkl : hk N D ≤ 4096 := by omega
  have f218 : ∀ X : Nat, X ≤ 300 → f_Ed_findSlots_218 K G (nI dr) (S.u_v_Ed_wanted (nI X)) = some (if cntF e (hk N D) 2 < X + dr then 0 else 1, S.u_v_Ed_wanted (nI X)) := fun X hX => by
    have fr : f_Tb_countFree K G (S.u_v_Ed_wanted (nI X)) = some (nI (cntF e (hk N D) 2), S.u_v_Ed_wanted (nI X)) := qC_free (S := S.u_v_Ed_wanted (nI X)) hK h hN hS he
    unfold f_Ed_findSlots_218 f_Ed_findSlots_231
    rw [fr]
    rcases hdr with rfl | rfl
    · rw [if_pos (show nI 0 = 0 from rfl), q_c]
      show (if nI (cntF e (hk N D) 2) < nI X + nI 0 then _ else _) = _
      rw [nI_add]
      by_cases c : cntF e (hk N D) 2 < X + 0
      · rw [if_pos (nI_lt c (by omega)), if_pos c]
      · rw [if_neg (nI_nlt (by omega) (by omega)), if_neg c]
    · rw [if_neg (show ¬ nI 1 = 0 by decide), q_c]
      show (if nI (cntF e (hk N D) 2) < nI X + nI 1 then _ else _) = _
      rw [nI_add]
      by_cases c : cntF e (hk N D) 2 < X + 1
      · rw [if_pos (nI_lt c (by omega)), if_pos c]
      · rw [if_neg (nI_nlt (by omega) (by omega)), if_neg c]
  unfold f_Ed_findSlots_183
  rw [hSl]
  by_cases c : W ≤ r
  · have e0 : exX b W L (16 * hc D) = 0 := by unfold exX; rw [if_pos (by omega)]
    have sS : S = S.u_v_Ed_wanted (nI 0) := by rw [show nI 0 = S.v_Ed_wanted from hw0.symm]; rfl
    rw [if_pos (nI_le c (by omega)), e0]
    have := f218 0 (by omega)
    rw [← sS] at this
    rw [this, ← sS]
  · have e1 : exX b W L (16 * hc D) = (W - r + 16 * hc D - 1) / (16 * hc D) := by
      unfold exX
      rw [if_neg (by omega), show b + W - L = W - r by omega]
    rw [if_neg (nI_ge (by omega) (by omega)), if_pos (show (1 : Int32) ≤ nI (16 * hc D) from nI_le (a := 1) (by omega) (by omega)), q_g (nI_ne0 (by omega) (by omega)), pk_sub (by omega), nI_add, show (1 : Int32) = nI 1 from rfl, pk_sub (by omega), pk_div (by omega) (by omega) (by omega), ← e1]
    unfold f_Ed_findSlots_215
    rw [q_l]
    exact f218 _ hx
