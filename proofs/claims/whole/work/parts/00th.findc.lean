/-! make: the search of slots, the class, put together. -/
def fdS (S : CS) (W n L e s b X : Nat) (f : Nat → Int32) : CS := ((((((S.u_v_Ed_slots (nI W)).u_w_Ed_road f).u_v_Ed_roadLength (nI n)).u_v_Ed_wanted 0).u_v_Ed_unseen (nI (unS L e s))).u_v_Ed_firstSlot (nI b)).u_v_Ed_wanted (nI X)
theorem fdS_tv {N m hh : Nat} {D E : Nat → Int32} {fks : List Nat} {z : SS} {G : CG} {S : CS} {T : MS} (v : tv N m D E fks z hh G S T) (W n L e s b X : Nat) (f : Nat → Int32) : tv N m D E fks z hh G (fdS S W n L e s b X f) T := v
theorem qC_find {K N m t hh W dr e s : Nat} {D E : Nat → Int32} {fks : List Nat} {z : SS} {G : CG} {S S0 : CS} {T T0 : MS} (hK : 20000 ≤ K) (h : ivA N t m D E G S0 T0) (v : tv N m D E fks z hh G S T) {us : List Nat} {B : Prop} (hul : us.length ≤ 255) (hpl : S.v_Ed_plain = b01 B) (hct : S.v_Ed_unitCount = nI us.length) (hWB : (B → W = 1) ∧ (¬ B → W = 1 + (us.length + 13 - 1) / 13)) (hW : 1 ≤ W) (hW2 : W ≤ 21) (hdr : dr = 0 ∨ dr = 1) (he : enE (fun s => o1 D (plS D (chI N D (sIt z) hh) s)) ((chI N D (sIt z) hh).length * 16 * hc D) e) (hs : stE (fun s => o1 D (plS D (chI N D (sIt z) hh) s)) ((chI N D (sIt z) hh).length * 16 * hc D) e W s) {b X L : Nat} (hb : b = rnF (fun s => o1 D (plS D (chI N D (sIt z) hh) s)) e s) (hL : L = (chI N D (sIt z) hh).length * 16 * hc D) (hX : X = exX b W L (16 * hc D)) (hroad : f_Tr_firstOf K G (S.u_v_Ed_slots (nI W)) (nI hh) = some (nI (begI D (sIt z) hh), S.u_v_Ed_slots (nI W)) ∧ ∃ f, f_Tb_road_Edroad K G (S.u_v_Ed_slots (nI W)) (nI (begI D (sIt z) hh)) = some (nI (chI N D (sIt z) hh).length, (S.u_v_Ed_slots (nI W)).u_w_Ed_road f) ∧ ∀ q, q < (chI N D (sIt z) hh).length → f q = nI ((chI N D (sIt z) hh).getD q 0)) (hbt : ∀ s, s < L → o1 S.w_Dk_bytes (plS D (chI N D (sIt z) hh) s) = o1 D (plS D (chI N D (sIt z) hh) s)) (hnx : nxR N D (ent D) G S) (hGn : G.n = N) (hcl : S.v_Tb_cluster = nI (hc D)) (hst : S.v_Tb_start = nI (ha D)) : ∃ f, (∀ q, q < (chI N D (sIt z) hh).length → f q = nI ((chI N D (sIt z) hh).getD q 0)) ∧ f_Ed_findSlots K G S (nI hh) (nI dr) = some (if cntF (ent D) (hk N D) 2 < X + dr then 0 else 1, fdS S W (chI N D (sIt z) hh).length L e s b X f) := by
  have hN := h.1.1.2.1
  obtain ⟨g1, g2, g3, g4, g5, g6, g7, g8⟩ := here_geo hN v
  have ho := v.2.2.2.1
  have hff := hd_facts ho hN
  obtain ⟨r1, f, r2, r3⟩ := hroad
  refine ⟨f, r3, ?_⟩
  clear v h
  generalize chI N D (sIt z) hh = ch at *
  have hsL : s ≤ L := by rw [hL]; exact hs.1
  have hbs : b ≤ s := by rw [hb]; exact rnF_le _ _ _
  have hsW := stE_W hW hs
  have e16 : S.v_Tb_cluster * 16 = nI (16 * hc D) := by rw [hcl, show (16 : Int32) = nI 16 from rfl, pk_mul, Nat.mul_comm]
  have run := qC_run (K := K) (N := N) (L := L) (W := W) (D := D) (ch := ch) (G := G) (S := (((S.u_v_Ed_slots (nI W)).u_w_Ed_road f).u_v_Ed_roadLength (nI ch.length)).u_v_Ed_wanted 0) (y2 := nI dr) (per := nI (16 * hc D)) (bt := fun s => o1 D (plS D ch s)) (e := e) (s := s) hK hGn ho hN hcl hst g3 g4 rfl r3 hL (by omega) (fun s hs => by have := (plS_lt ho hN g3 (by rw [← hL]; exact hs)).1; omega) hbt rfl hW (by omega) (by rw [hL]; exact he) (by rw [hL]; exact hs) (by rw [hL]; have : 1 * 16 * hc D ≤ ch.length * 16 * hc D := Nat.mul_le_mul_right _ (Nat.mul_le_mul_right _ g1); omega)
  rw [← hb] at run
  have fin := qC_183 (K := K) (N := N) (L := L) (W := W) (b := b) (r := s - b) (dr := dr) (D := D) (e := ent D) (G := G) (S := ((((((S.u_v_Ed_slots (nI W)).u_w_Ed_road f).u_v_Ed_roadLength (nI ch.length)).u_v_Ed_wanted 0).u_v_Ed_unseen (nI (unS L e s))).u_v_Ed_firstSlot (nI b))) (by omega) ho hN hnx (ent_28 D) rfl rfl hW (by omega) (by omega) (by omega) (by rcases hs.2.1 with w | w <;> omega) (by omega) hdr hff.1
  rw [← hX] at fin
  have f26 : f_Ed_findSlots_26 K G (nI hh) (nI dr) (nI W) S = some (if cntF (ent D) (hk N D) 2 < X + dr then 0 else 1, fdS S W ch.length L e s b X f) := by
    unfold f_Ed_findSlots_26 f_Tb_slotsOfCluster
    rw [q_l, r1, q_c, r2, q_c, q_l]
    show lf_c (some (S.v_Tb_cluster * 16, _)) _ = _
    rw [e16, q_c]
    show lf_l (nI ch.length * nI (16 * hc D)) _ = _
    rw [pk_mul, ← Nat.mul_assoc, ← hL, q_l, q_l, q_l]
    exact run.trans fin
  unfold f_Ed_findSlots
  rw [hpl]
  by_cases c : B
  · rw [b01_t c, if_neg (show ¬ nI 1 = 0 by decide)]
    rw [hWB.1 c] at f26 ⊢
    exact f26
  · rw [b01_f c, if_pos (show nI 0 = 0 from rfl), hct, show (13 : Int32) = nI 13 from rfl, nI_add, show nI (us.length + 13) - 1 = nI (us.length + 13 - 1) from pk_sub (b := 1) (by omega), pk_div (by omega) (by decide) (by decide), nI_1, show (us.length + 13 - 1) / 13 + 1 = W from by rw [hWB.2 c]; omega]
    exact f26
