/-! make: a directory made longer. -/
theorem qM_grF {K N n : Nat} {D : Nat → Int32} (hK : 5000 ≤ K) (h : hdOk N D) (hN : N ≤ 1024) (hT : tabOk N D) (hn : n < 2 ^ 31) (y1 y6 y7 y8 y9 y11 : Int32) : ∀ (xs : List Nat) (i k : Nat) (ch : List Nat) (l : List (Nat × Nat)) (T : MS), i + xs.length = n → xs.length < k → tkn N D xs l ch → lsOk N D l → (∀ q, 512 * hv D ≤ q → q < 512 * ha D → o1 T.v_disk q = o1 (lks D D l) q) → T.v_v = nI (hv D) → T.v_y = nI (hy D) → T.v_z = nI (hz D) → T.v_c = nI (hc D) → T.v_a = nI (ha D) → T.v_folders = nI ch.length → 1 ≤ ch.length → ch.length + xs.length ≤ 514 → (∀ q, q < ch.length → T.v_folder q = nI (ch.getD q 0)) → (∀ y ∈ ch, isCl N D y) → ∃ f, f_Mo_make_310 K k y1 y6 y7 y8 y9 (nI n) y11 (nI i) T = f_Mo_make_374 K K y1 y6 y7 y8 y9 y11 y9 (((T.u_v_disk (grN D (512 * ha D) xs T.v_disk ch)).u_v_folder f).u_v_folders (nI (ch ++ xs).length)) ∧ ∀ q, q < (ch ++ xs).length → f q = nI ((ch ++ xs).getD q 0) := by
  intro xs
  induction xs with
  | nil =>
    intro i k ch l T g1 g2 _ _ _ _ _ _ _ _ hl _ _ hch _
    obtain ⟨k, rfl⟩ : ∃ m, k = m + 1 := ⟨k - 1, by omega⟩
    have g1 : i + 0 = n := g1
    obtain rfl : i = n := by omega
    refine ⟨T.v_folder, ?_, by rw [List.append_nil]; exact hch⟩
    rw [f_Mo_make_310, if_pos (Int32.le_refl _), List.append_nil, ← hl, grN]
    rfl
  | cons x xs ih =>
    intro i k ch l T g1 g2 ⟨⟨hx, hxl⟩, hr⟩ hlo ht t1 t2 t3 t4 t5 hl hc1 hll hch hcl
    obtain ⟨k, rfl⟩ : ∃ m, k = m + 1 := ⟨k - 1, by omega⟩
    rw [List.length_cons] at g1 g2 hll
    have hf := hd_facts h hN
    have hxc : isCl N D x := ⟨hx.1, by omega⟩
    have he : ∀ y, lkV l y (ent D y) < 2 ^ 28 := fun y => lkV_lt (fun a ha1 => (hlo a ha1).2) (ent_28 D y)
    have road : ∀ q, q < (ch ++ [x]).length → upd T.v_folder ch.length (nI x) q = nI ((ch ++ [x]).getD q 0) := fun q hq => by
      rw [List.length_append] at hq
      have hq : q < ch.length + 1 := hq
      by_cases w : q = ch.length
      · rw [w, pk_us, List.getD_eq_getElem?_getD, List.getElem?_append_right (Nat.le_refl _), Nat.sub_self]
        rfl
      · rw [pk_un w, List.getD_eq_getElem?_getD, List.getElem?_append_left (by omega), ← List.getD_eq_getElem?_getD]
        exact hch q (by omega)
    have e1 : f_Mo_make_310 K (k + 1) y1 y6 y7 y8 y9 (nI n) y11 (nI i) T = f_Mo_make_310 K k y1 y6 y7 y8 y9 (nI n) y11 (nI (i + 1)) (((T.u_v_disk (gr D T.v_disk (512 * ha D) ch x)).u_v_folder (upd T.v_folder ch.length (nI x))).u_v_folders (nI (ch.length + 1))) := by
      rw [f_Mo_make_310, if_neg (nI_ge (show i < n by omega) hn), qM_take hK h hN he (fun y hy0 => qM_entryL h hN hT hlo hy0 t1 t3 rfl ht) t1 t2 t3 t4 t5 hx hxl, q_c, hl, q_g (q_in (by omega) (by decide)), nI_clamp (by omega), q_l]
      generalize hX1 : zr (lk D T.v_disk x 268435455) (plC D x) (512 * hc D) = X1
      obtain ⟨T2, e2⟩ : ∃ T2, (T.u_v_disk X1).u_v_folder (upd (T.u_v_disk X1).v_folder ch.length (nI x)) = T2 := ⟨_, rfl⟩
      have a1 : T2.v_folders = nI ch.length := by rw [← e2]; exact hl
      have a2 : T2.v_folder = upd T.v_folder ch.length (nI x) := by rw [← e2]; rfl
      have a3 : T2.v_disk = X1 := by rw [← e2]; rfl
      have hi1 : ch.length - 1 < ch.length := by omega
      have hmem : ch.getD (ch.length - 1) 0 ∈ ch := by
        rw [List.getD_eq_getElem?_getD, List.getElem?_eq_getElem hi1]
        exact List.getElem_mem hi1
      have c1 : T2.v_folder (ch.length - 1) = nI (ch.getD (ch.length - 1) 0) := by rw [a2, pk_un (by omega)]; exact hch _ hi1
      have c2 : T2.v_folder ch.length = nI x := by rw [a2]; exact pk_us
      have hlk := qM_lk (K := K) (T := T2) (x := ch.getD (ch.length - 1) 0) (v := x) (by omega) h hN (by have := (hcl _ hmem).2; omega) (by omega) (by rw [← e2]; exact t1) (by rw [← e2]; exact t2) (by rw [← e2]; exact t3)
      unfold gr
      rw [hX1, e2, a1, show (1 : Int32) = nI 1 from rfl, pk_sub (by omega), q_g (q_in (by omega) (by decide)), q_g (q_in (by omega) (by decide)), nI_clamp (by omega), nI_clamp (by omega), c1, c2, hlk, q_b, if_neg (show ¬ ch.length = 0 by omega), show (T2.u_v_disk (lk D T2.v_disk (ch.getD (ch.length - 1) 0) x)).v_folders = nI ch.length from a1, nI_add, nI_add, q_l, q_l, a3, ← e2]
      rfl
    rw [e1]
    obtain ⟨T2, eT⟩ : ∃ T2, (((T.u_v_disk (gr D T.v_disk (512 * ha D) ch x)).u_v_folder (upd T.v_folder ch.length (nI x))).u_v_folders (nI (ch.length + 1))) = T2 := ⟨_, rfl⟩
    have hd2 : T2.v_disk = gr D T.v_disk (512 * ha D) ch x := by rw [← eT]; rfl
    have hlen : (ch ++ [x]).length = ch.length + 1 := List.length_append
    obtain ⟨f', e3, e4⟩ := ih (i + 1) k (ch ++ [x]) (l ++ grL ch x) T2 (by omega) (by omega) hr (grL_ok h hN hxc hcl hlo) (by rw [hd2, lks_app]; exact gr_tab h hN hxc hcl (Nat.le_refl _) ht) (by rw [← eT]; exact t1) (by rw [← eT]; exact t2) (by rw [← eT]; exact t3) (by rw [← eT]; exact t4) (by rw [← eT]; exact t5) (by rw [← eT, hlen]; rfl) (by omega) (by rw [hlen]; omega) (by rw [← eT]; exact road) (snoc_cl hxc hcl)
    refine ⟨f', ?_, by rw [app_snoc ch x xs]; exact e4⟩
    rw [eT, e3, hd2, app_snoc ch x xs, grN, ← eT]
    rfl
def adC (K : Nat) (G : CG) (y1 y2 y3 : Int32) (S : CS) : Option (Int32 × CS) := lf_c (f_Ed_slotPlace K G S ((S.v_Ed_firstSlot + S.v_Ed_slots) - 1)) fun r_6 S_6 => (f_Ed_putEntry K G S_6 r_6 y3 y2).bind fun S_7 => f_Ed_addItem_74 K G K y1 y2 y3 1 S_7
theorem qC_grA {K N n : Nat} {D : Nat → Int32} {G : CG} (hK : 5000 ≤ K) (hN1 : 256 ≤ N) (h : hdOk N D) (hN : N ≤ 1024) (hn : n < 2 ^ 31) (y1 y2 y3 : Int32) : ∀ (xs : List Nat) (i k : Nat) (ch : List Nat) (l : List (Nat × Nat)) (S : CS), i + xs.length = n → xs.length < k → tkn N D xs l ch → lsOk N D l → nxR N D (fun y => lkV l y (ent D y)) G S → 1 ≤ ch.length → S.v_Ed_wanted = nI n → S.v_Tb_before = nI (hv D) → S.v_Tb_copies = nI (hy D) → S.v_Tb_length = nI (hz D) → S.v_Tb_cluster = nI (hc D) → S.v_Tb_start = nI (ha D) → S.v_Ed_roadLength = nI ch.length → ch.length + xs.length < N / 2 + 2 → (∀ q, q < ch.length → S.w_Ed_road q = nI (ch.getD q 0)) → (∀ y ∈ ch, isCl N D y) → ∃ f g, f_Ed_addItem_31 K G k y1 y2 y3 (nI i) S = adC K G y1 y2 y3 ((((S.u_w_Tb_next g).u_w_Dk_bytes (grN D (512 * ha D) xs S.w_Dk_bytes ch)).u_w_Ed_road f).u_v_Ed_roadLength (nI (ch ++ xs).length)) ∧ ∀ q, q < (ch ++ xs).length → f q = nI ((ch ++ xs).getD q 0) := by
  intro xs
  induction xs with
  | nil =>
    intro i k ch l S g1 g2 _ _ _ _ hw _ _ _ _ _ hl _ hch _
    obtain ⟨k, rfl⟩ : ∃ m, k = m + 1 := ⟨k - 1, by omega⟩
    have g1 : i + 0 = n := g1
    obtain rfl : i = n := by omega
    refine ⟨S.w_Ed_road, S.w_Tb_next, ?_, by rw [List.append_nil]; exact hch⟩
    rw [f_Ed_addItem_31, hw, if_pos (Int32.le_refl _), List.append_nil, ← hl, grN]
    rfl
  | cons x xs ih =>
    intro i k ch l S g1 g2 ⟨⟨hx, hxl⟩, hr⟩ hlo hnx hc1 hw t1 t2 t3 t4 t5 hl hll hch hcl
    obtain ⟨k, rfl⟩ : ∃ m, k = m + 1 := ⟨k - 1, by omega⟩
    rw [List.length_cons] at g1 g2 hll
    have hxc : isCl N D x := ⟨hx.1, by omega⟩
    have he : ∀ y, lkV l y (ent D y) < 2 ^ 28 := fun y => lkV_lt (fun a ha1 => (hlo a ha1).2) (ent_28 D y)
    obtain ⟨f, g, e1, e2, e5⟩ := qC_gr (e := fun y => lkV l y (ent D y)) hK hN1 h hN he hnx t1 t2 t3 t4 t5 hx hxl hl (by omega) hch hcl
    have egr : (if ch.length = 0 then zr (lk D S.w_Dk_bytes x 268435455) (plC D x) (512 * hc D) else lk D (zr (lk D S.w_Dk_bytes x 268435455) (plC D x) (512 * hc D)) (ch.getD (ch.length - 1) 0) x) = gr D S.w_Dk_bytes (512 * ha D) ch x := by
      unfold gr
      rw [if_neg (by omega), if_neg (by omega)]
    rw [egr] at e1
    rw [f_Ed_addItem_31, hw, if_neg (nI_ge (show i < n by omega) hn), e1, q_b, show (1 : Int32) = nI 1 from rfl, nI_add, q_l]
    obtain ⟨S2, eS⟩ : ∃ S2, ((((S.u_w_Tb_next g).u_w_Dk_bytes (gr D S.w_Dk_bytes (512 * ha D) ch x)).u_w_Ed_road f).u_v_Ed_roadLength (nI (ch.length + 1))) = S2 := ⟨_, rfl⟩
    have hd2 : S2.w_Dk_bytes = gr D S.w_Dk_bytes (512 * ha D) ch x := by rw [← eS]; rfl
    have hlen : (ch ++ [x]).length = ch.length + 1 := List.length_append
    have hnx2 : nxR N D (fun y => lkV (l ++ grL ch x) y (ent D y)) G S2 := by
      refine ⟨hnx.1, by rw [← eS]; exact hnx.2.1, fun y hy0 => ?_⟩
      rw [← eS]
      show g y = nI (lkV (l ++ grL ch x) y (ent D y))
      rw [lkV_app (w := 0)]
      exact e5 y hy0
    obtain ⟨f', g', e3, e4⟩ := ih (i + 1) k (ch ++ [x]) (l ++ grL ch x) S2 (by omega) (by omega) hr (grL_ok h hN hxc hcl hlo) hnx2 (by omega) (by rw [← eS]; exact hw) (by rw [← eS]; exact t1) (by rw [← eS]; exact t2) (by rw [← eS]; exact t3) (by rw [← eS]; exact t4) (by rw [← eS]; exact t5) (by rw [← eS, hlen]; rfl) (by rw [hlen]; omega) (by rw [← eS]; exact e2) (snoc_cl hxc hcl)
    refine ⟨f', g', ?_, by rw [app_snoc ch x xs]; exact e4⟩
    rw [eS, e3, hd2, app_snoc ch x xs, grN, ← eS]
    rfl
/-! the class: parts, and the end of the directory -/
theorem qC_74 {K N L b W un : Nat} {P : Nat → Nat} {nm : Nat → Nat} {us : List Nat} {G : CG} {S : CS} {y1 y2 y3 : Int32} (hK : 1000 ≤ K) (hG : G.n = N) (hN1 : 256 ≤ N) (hN : N ≤ 1024) (hT : ∀ s f, s < L → f_Ed_slotPlace K G (S.u_w_Dk_bytes f) (nI s) = some (nI (P s), S.u_w_Dk_bytes f) ∧ P s + 32 ≤ 512 * N) (hTL : ∀ f, f_Ed_slotPlace K G (S.u_w_Dk_bytes f) (nI L) = some (-1, S.u_w_Dk_bytes f)) (hW : 1 ≤ W) (hW2 : W ≤ 21) (hb : b + W ≤ L) (hL : L < 19000) (hf0 : S.v_Ed_firstSlot = nI b) (hSl : S.v_Ed_slots = nI W) (hun : S.v_Ed_unseen = nI un) (hun2 : un < 19000) (hs : S.v_Ed_unitCount = nI us.length) (hbf : bufR S.w_Ed_units us) (hl : us.length ≤ 255) (hu : ∀ u ∈ us, u < 65536) (hd : disP (fun i => P (b + i)) W) (X : Nat → Int32) (hX : ∀ i, i < 11 → o1 X (P (b + W - 1) + i) = nm i) : ∀ (d i k : Nat), i + d + 1 = W → d < k → f_Ed_addItem_74 K G k y1 y2 y3 (nI (i + 1)) (S.u_w_Dk_bytes (ptC (fun i => P (b + i)) W (smN nm 11) us X i)) = f_Ed_addItem_150 K G y1 y2 y3 (S.u_w_Dk_bytes (emF (ptC (fun i => P (b + i)) W (smN nm 11) us X (W - 1)) (un < b + W ∧ b + W < L) (P (b + W)))) := by
  have hpe := (hT (b + W - 1) X (by omega)).2
  intro d
  induction d with
  | zero =>
    intro i k h1 h2
    obtain ⟨k, rfl⟩ : ∃ m, k = m + 1 := ⟨k - 1, by omega⟩
    obtain rfl : W = i + 1 := by omega
    rw [f_Ed_addItem_74]
    show (if S.v_Ed_slots ≤ nI (i + 1) then (if (S.v_Ed_firstSlot + S.v_Ed_slots) ≤ S.v_Ed_unseen then f_Ed_addItem_150 K G y1 y2 y3 (S.u_w_Dk_bytes (ptC (fun i => P (b + i)) (i + 1) (smN nm 11) us X i)) else lf_c (f_Ed_slotPlace K G (S.u_w_Dk_bytes (ptC (fun i => P (b + i)) (i + 1) (smN nm 11) us X i)) (S.v_Ed_firstSlot + S.v_Ed_slots)) fun r_12 S_12 => (f_Dk_putOne K G S_12 r_12 0).bind fun S_13 => f_Ed_addItem_150 K G y1 y2 y3 S_13) else _) = _
    rw [hSl, hf0, hun, nI_add, if_pos (Int32.le_refl _), show i + 1 - 1 = i from rfl]
    unfold emF
    by_cases c : b + (i + 1) ≤ un
    · rw [if_pos (nI_le c (by omega)), if_neg (by omega)]
    · rw [if_neg (nI_ge (by omega) (by omega))]
      by_cases c2 : b + (i + 1) < L
      · obtain ⟨e1, e2⟩ := hT (b + (i + 1)) (ptC (fun i => P (b + i)) (i + 1) (smN nm 11) us X i) c2
        rw [if_pos (by omega), e1, q_c, show (0 : Int32) = nI 0 from rfl, qC_put1 hG hN1 hN (by omega), q_b]
        rfl
      · rw [if_neg (by omega), show b + (i + 1) = L by omega, hTL, q_c]
        unfold f_Dk_putOne
        rw [if_pos (by decide), q_b]
  | succ d ih =>
    intro i k h1 h2
    obtain ⟨k, rfl⟩ : ∃ m, k = m + 1 := ⟨k - 1, by omega⟩
    obtain ⟨e1, e2⟩ := hT (b + W - 1 - (i + 1)) (ptC (fun i => P (b + i)) W (smN nm 11) us X i) (by omega)
    have hj : b + (W - 1 - (i + 1)) = b + W - 1 - (i + 1) := by omega
    have hne := hd (W - 1) (W - 1 - (i + 1)) (by omega) (by omega) (by omega)
    have hne : P (b + (W - 1)) + 32 ≤ P (b + (W - 1 - (i + 1))) ∨ P (b + (W - 1 - (i + 1))) + 32 ≤ P (b + (W - 1)) := hne
    rw [hj, show b + (W - 1) = b + W - 1 by omega] at hne
    have hsm : sm (ptC (fun i => P (b + i)) W (smN nm 11) us X i) (P (b + W - 1)) 11 = smN nm 11 := by
      refine sm_N (nm := nm) (fun j hj => ?_) 11 (Nat.le_refl _)
      rw [ptC_out i (by omega) fun j' h3 h4 h5 => ?_, hX j hj]
      have := hd j' (W - 1) (by omega) (by omega) (by omega)
      have this : P (b + j') + 32 ≤ P (b + (W - 1)) ∨ P (b + (W - 1)) + 32 ≤ P (b + j') := this
      rw [show b + (W - 1) = b + W - 1 by omega] at this
      have h5 : P (b + j') ≤ P (b + W - 1) + j ∧ P (b + W - 1) + j < P (b + j') + 32 := h5
      omega
    have pp := qC_putPart (K := K) (n := i + 1) (p := P (b + W - 1 - (i + 1))) (f0 := b) (W := W) (pe := P (b + W - 1)) (us := us) (G := G) (S := S.u_w_Dk_bytes (ptC (fun i => P (b + i)) W (smN nm 11) us X i)) hK hG hN1 hN hs hbf hl hu (by omega) (by omega) e2 hf0 hSl hW (by omega) (fun f => (hT (b + W - 1) f (by omega)).1) hpe hne
    rw [f_Ed_addItem_74]
    show (if S.v_Ed_slots ≤ nI (i + 1) then _ else lf_c (f_Ed_slotPlace K G (S.u_w_Dk_bytes (ptC (fun i => P (b + i)) W (smN nm 11) us X i)) (((S.v_Ed_firstSlot + S.v_Ed_slots) - 1) - nI (i + 1))) fun r_14 S_14 => (f_Ed_putPart K G S_14 r_14 (nI (i + 1))).bind fun S_15 => lf_l (nI (i + 1) + 1) fun x_16 => f_Ed_addItem_74 K G k y1 y2 y3 x_16 S_15) = _
    rw [hSl, hf0, if_neg (nI_ge (by omega) (by omega)), nI_add, show nI (b + W) - 1 = nI (b + W - 1) from pk_sub (b := 1) (by omega), pk_sub (by omega), e1, q_c, pp, q_b, q_l, nI_1]
    have := ih (i + 1) k (by omega) (by omega)
    rw [ptC] at this
    have ea : ptA W (W - 1 - (i + 1)) = (if i + 1 = W - 1 then i + 1 + 64 else i + 1) := by
      unfold ptA
      by_cases c : i + 1 = W - 1
      · rw [if_pos c, if_pos (by omega), show W - 1 - (W - 1 - (i + 1)) = i + 1 by omega]
      · rw [if_neg c, if_neg (by omega), show W - 1 - (W - 1 - (i + 1)) = i + 1 by omega]
    have ev : ptV us W (W - 1 - (i + 1)) = fun q => unV us (13 * (i + 1 - 1) + q) := by
      funext q
      unfold ptV
      rw [show W - 1 - (W - 1 - (i + 1)) - 1 = i + 1 - 1 by omega]
    rw [ea, ev, hj] at this
    rw [show sm (S.u_w_Dk_bytes (ptC (fun i => P (b + i)) W (smN nm 11) us X i)).w_Dk_bytes (P (b + W - 1)) 11 = smN nm 11 from hsm]
    exact this
