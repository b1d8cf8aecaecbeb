/-! make: both sides from the slots on. -/
theorem lp_ex {us : List Nat} (h1 : 1 ≤ us.length) : ∃ l, lpR us l := by
  by_cases w : ∃ j, 1 ≤ j ∧ j < us.length ∧ us.getD j 0 = 46
  · have key : ∀ d, (∃ j, us.length ≤ j + d ∧ 1 ≤ j ∧ j < us.length ∧ us.getD j 0 = 46) → ∃ l, lpR us l := by
      intro d
      induction d with
      | zero => rintro ⟨j, a, -, b, -⟩; omega
      | succ d ih =>
        rintro ⟨j, a1, a2, a3, a4⟩
        by_cases g : ∃ i, us.length ≤ i + d ∧ 1 ≤ i ∧ i < us.length ∧ us.getD i 0 = 46
        · exact ih g
        · refine ⟨j, by omega, a2, fun _ => a4, fun i i1 i2 i3 i4 => g ⟨i, ?_, i1, i2, i4⟩⟩
          omega
    obtain ⟨j, a⟩ := w
    exact key us.length ⟨j, by omega, a⟩
  · exact ⟨us.length, Nat.le_refl _, h1, fun g => absurd g (Nat.lt_irrefl _), fun j j1 j2 _ j4 => w ⟨j, j1, j2, j4⟩⟩
theorem mk_of {N m hh dr o W e s b X L : Nat} {D E : Nat → Int32} {fks : List Nat} {z : SS} {G : CG} {S : CS} {T : MS} {xs : List Nat} (hN1 : 256 ≤ N) (hN : N ≤ 1024) (v : tv N m D E fks z hh G S T) (hdr : dr = 0 ∨ dr = 1) (hW : 1 ≤ W) (hW2 : W ≤ 21) (he : enE (fun s => o1 D (plS D (chI N D (sIt z) hh) s)) L e) (hs : stE (fun s => o1 D (plS D (chI N D (sIt z) hh) s)) L e W s) (hb : b = rnF (fun s => o1 D (plS D (chI N D (sIt z) hh) s)) e s) (hL : L = (chI N D (sIt z) hh).length * 16 * hc D) (hX : X = exX b W L (16 * hc D)) (hx : xs.length = X) (htk : tkn N D xs (mkY dr o) (chI N D (sIt z) hh)) (hod : dr = 1 → frst (ent D) 2 o ∧ o < hk N D + 2) : mkP N D (chI N D (sIt z) hh) xs dr o b W e L ((chI N D (sIt z) hh ++ xs).length * 16 * hc D) ∧ (¬ ((e ≤ b + W ∧ b + W < L) ↔ (unS L e s < b + W ∧ b + W < (chI N D (sIt z) hh ++ xs).length * 16 * hc D)) → (b + W = e ∧ e < L) ∨ (L ≤ b + W ∧ b + W < (chI N D (sIt z) hh ++ xs).length * 16 * hc D)) := by
  obtain ⟨g1, g2, g3, -, -, -, -, -⟩ := here_geo hN v
  have hcl := chI_cl v.2.2.2.2.2.2.1 v.2.2.1.1
  have ho := v.2.2.2.1
  clear v
  have hC := (hd_facts ho hN).1
  obtain ⟨t1, t2⟩ := tkn_free xs (mkY dr o) _ htk (fun a a1 => by rw [(mkY_mem a1).2]; show (268435455 : Nat) ≠ 0; decide)
  have hnd : (chI N D (sIt z) hh ++ xs).Nodup := List.nodup_append.mpr ⟨g2, t2, fun a a1 b b1 e => (hcl a a1).2 (by rw [e]; exact (t1 b b1).2.1)⟩
  have hbe : b ≤ e := by rw [hb]; exact rnF_e s
  have hbs : b ≤ s := by rw [hb]; exact rnF_le _ _ s
  have hfr := fun j => rnF_fr (bt := fun s => o1 D (plS D (chI N D (sIt z) hh) s)) (e := e) s j
  rw [← hb] at hfr
  have hs2 : s = L ∨ W ≤ s - b := by rw [hb]; exact hs.2.1
  have hs1 := hs.1
  have heL := he.1
  have hLL : (chI N D (sIt z) hh ++ xs).length * 16 * hc D = L + X * (16 * hc D) := by
    rw [List.length_append, hx, hL, Nat.mul_assoc, Nat.add_mul, Nat.mul_assoc]
  have hper : 0 < 16 * hc D := by omega
  have hce := le_ceil (a := b + W - L) hper
  have hX2 : (b + W ≤ L ∧ X * (16 * hc D) = 0) ∨ (L < b + W ∧ b + W - L ≤ X * (16 * hc D)) := by
    unfold exX at hX
    by_cases w : b + W ≤ L
    · rw [if_pos w] at hX
      exact Or.inl ⟨w, by rw [hX, Nat.zero_mul]⟩
    · rw [if_neg w] at hX
      rw [hX]
      exact Or.inr ⟨by omega, hce⟩
  refine ⟨⟨⟨ho, hN1, hN⟩, ⟨hdr, g1, hnd⟩, ⟨hcl, fun y y1 => ⟨(t1 y y1).1, (t1 y y1).2.1⟩, fun q => ?_⟩, ⟨hL, rfl, hW, hW2, ?_⟩, he, hbe, fun j j1 j2 j3 => ?_⟩, ?_⟩
  · obtain ⟨f1, f2⟩ := hod q
    refine ⟨⟨f1.1, by omega⟩, f1.2.1, fun y => ?_⟩
    refine (t1 o y).2.2 (o, 268435455) ?_ rfl
    unfold mkY
    rw [if_neg (by omega)]
    exact List.mem_singleton.mpr rfl
  · rw [hLL]
    clear hfr hLL hX
    generalize X * (16 * hc D) = q at *
    omega
  · rcases hfr j j1 (by omega) with y | y
    · omega
    · exact y
  · rw [hLL]
    unfold unS
    clear hfr hLL hX hL
    generalize X * (16 * hc D) = q at *
    intro w
    by_cases g : e < s
    · rw [if_pos g] at w; omega
    · rw [if_neg g] at w; omega
theorem mk_refA {K N m hh dr W e s b X L : Nat} {D E : Nat → Int32} {fks : List Nat} {z : SS} {G : CG} {S : CS} {T : MS} {us : List Nat} {nm : Nat → Nat} (hK : 20000 ≤ K) (hN1 : 256 ≤ N) (hN : N ≤ 1024) (v : tv N m D E fks z hh G S T) (h0 : T.v_thrown = 0) (hdr : dr = 0 ∨ dr = 1) (hW : 1 ≤ W) (hW2 : W ≤ 21) (he : enE (fun s => o1 D (plS D (chI N D (sIt z) hh) s)) L e) (hs : stE (fun s => o1 D (plS D (chI N D (sIt z) hh) s)) L e W s) (hb : b = rnF (fun s => o1 D (plS D (chI N D (sIt z) hh) s)) e s) (hL : L = (chI N D (sIt z) hh).length * 16 * hc D) (hX : X = exX b W L (16 * hc D)) (hsz : T.v_size = nI us.length) (hbf : bufR T.v_name us) (hul : us.length ≤ 255) (hu : ∀ u ∈ us, u < 65536) (hnm : ∀ q, q < 11 → T.v_brief q = nI (nm q)) (hnl : ∀ q, q < 11 → nm q < 256) : (cntF (ent D) (hk N D) 2 < X + dr → ∃ n f g, f_Mo_make_116 K (nI dr) (nI hh) (nI W) T = some (0, (ldT T n f g).u_v_thrown 3)) ∧ (¬ cntF (ent D) (hk N D) 2 < X + dr → ∀ o xs, (dr = 0 → o = 0) → (dr = 1 → frst (ent D) 2 o ∧ o < hk N D + 2) → xs.length = X → tkn N D xs (mkY dr o) (chI N D (sIt z) hh) → ∃ T', f_Mo_make_116 K (nI dr) (nI hh) (nI W) T = f_Mo_make_755 K (nI W) (nI b) T' ∧ T'.v_disk = mkD D D (chI N D (sIt z) hh) xs b W e L nm us dr o (if hh = 0 then 0 else begI D (sIt z) hh) ∧ coN T' = coN T ∧ T'.v_thrown = 0) := by
  have he' := he
  have hs' := hs
  rw [hL] at he' hs'
  obtain ⟨f, g, a1, a2, a3⟩ := qM_find (K := K) hK hN v h0 hW hW2 hdr he' hs' hb hL hX
  refine ⟨fun w => ⟨_, f, g, a2 w⟩, fun w o xs o1 o2 x1 x2 => ?_⟩
  rw [a3 w]
  obtain ⟨hp, -⟩ := mk_of (o := o) (xs := xs) hN1 hN v hdr hW hW2 he hs hb hL hX x1 x2 o2
  obtain ⟨g1, g2, g3, g4, g5, g6, g7, g8⟩ := here_geo hN v
  have ho := v.2.2.2.1
  have hTb := v.2.2.2.2.1
  have hM : mIs N D T := v.1.1.1
  have hhe : T.v_here = nI (if hh = 0 then 0 else begI D (sIt z) hh) := v.2.2.1.2.2.2
  have hf := hd_facts ho hN
  obtain ⟨c1, c2, c3, c4⟩ := mk_cl hp
  obtain ⟨w1, w2, w3, w4⟩ := mk_own hp
  have h28 : (if hh = 0 then 0 else begI D (sIt z) hh) < 2 ^ 28 := by
    by_cases q : hh = 0
    · rw [if_pos q]; decide
    · rw [if_neg q]; exact g5
  generalize hcE : (if hh = 0 then 0 else begI D (sIt z) hh) = hcl at *
  clear v
  generalize chI N D (sIt z) hh = ch at *
  have ho28 : o < 2 ^ 28 := by
    rcases hdr with q | q
    · rw [o1 q]; decide
    · have := (o2 q).2; omega
  have lay := qM_lay (K := K) (N := N) (L := L) (L' := (ch ++ xs).length * 16 * hc D) (e := e) (b := b) (W := W) (X := X) (o := o) (dr := dr) (hcl := hcl) (D := D) (X0 := mkX D dr o D) (nm := nm) (us := us) (ch := ch) (xs := xs) (l := mkY dr o) (T := ldT T ch.length f g) hK ho hN hTb hdr x1 x2 (fun a a1 => w2 a (List.mem_append_left _ a1)) (mk_tab ho hN (fun y => (c4 y).1) c2 c1 (fun _ _ _ => rfl)).1 hM rfl g1 a1 c3 hp.2.1.2.2 hL rfl hp.2.2.2.2.1.1 (Nat.le_trans hp.2.2.2.2.2.1 hp.2.2.2.2.1.1) hW hW2 hp.2.2.2.1.2.2.2.2 ho28 (fun q => (c4 (by omega)).1) hsz hbf hul hu hnm hnl hhe h28
  obtain ⟨f', lay⟩ := lay
  have eq : (if dr = 0 then f_Mo_make_305 K (nI dr) (nI W) (nI L) (nI e) (nI b) (nI X) 0 (ldT T ch.length f g) else lf_c (f_Mo_take K (ldT T ch.length f g)) fun r_44 S_44 => f_Mo_make_305 K (nI dr) (nI W) (nI L) (nI e) (nI b) (nI X) r_44 S_44) = f_Mo_make_305 K (nI dr) (nI W) (nI L) (nI e) (nI b) (nI X) (nI o) ((ldT T ch.length f g).u_v_disk (mkX D dr o D)) := by
    rcases hdr with q | q
    · rw [if_pos q, o1 q]
      have e1 : mkX D dr 0 D = D := by unfold mkX; rw [if_pos q]
      rw [e1]
      have e2 : (ldT T ch.length f g).u_v_disk D = ldT T ch.length f g := by
        rw [show D = (ldT T ch.length f g).v_disk from hM.1.symm]
        rfl
      rw [e2]
      rfl
    · have q0 : dr ≠ 0 := by omega
      rw [if_neg q0]
      have tk := qM_take (K := K) (x := o) (D := D) (e := ent D) (T := ldT T ch.length f g) (by omega) ho hN (ent_28 D) (fun y hy0 => qM_entry (T := ldT T ch.length f g) hM ho hN hy0) hM.2.2.2.1 hM.2.2.2.2.1 hM.2.2.2.2.2.1 hM.2.2.1 hM.2.2.2.2.2.2.2.1 (o2 q).1 (o2 q).2
      rw [tk, q_c]
      have e1 : mkX D dr o D = zr (lk D (ldT T ch.length f g).v_disk o 268435455) (plC D o) (512 * hc D) := by
        unfold mkX
        rw [if_neg q0, show (ldT T ch.length f g).v_disk = D from hM.1]
      rw [e1]
  rw [eq, lay]
  exact ⟨_, rfl, rfl, rfl, h0⟩
theorem mk_clsA {K N t m hh dr W e s b X L p : Nat} {D E : Nat → Int32} {fks : List Nat} {z : SS} {G : CG} {S : CS} {T : MS} {us : List Nat} {nm : Nat → Nat} {B : Prop} (hK : 20000 ≤ K) (h : ivA N t m D E G S T) (v : tv N m D E fks z hh G S T) (hdr : dr = 0 ∨ dr = 1) (hW : 1 ≤ W) (hW2 : W ≤ 21) (he : enE (fun s => o1 D (plS D (chI N D (sIt z) hh) s)) L e) (hs : stE (fun s => o1 D (plS D (chI N D (sIt z) hh) s)) L e W s) (hb : b = rnF (fun s => o1 D (plS D (chI N D (sIt z) hh) s)) e s) (hL : L = (chI N D (sIt z) hh).length * 16 * hc D) (hX : X = exX b W L (16 * hc D)) (hul : us.length ≤ 255) (hu1 : 1 ≤ us.length) (hpl : S.v_Ed_plain = b01 B) (hct : S.v_Ed_unitCount = nI us.length) (hbf : bufR S.w_Ed_units us) (hu : ∀ u ∈ us, u < 65536) (hWB : (B → W = 1) ∧ (¬ B → W = 1 + (us.length + 13 - 1) / 13)) (hnl : ∀ q, q < 11 → nm q < 256) (hnB : B → ∀ q, q < 11 → S.w_Ed_shortName q = nI (nm q)) (hnC : ¬ B → ∃ l mm, lpR us l ∧ 1 ≤ mm ∧ mm ≤ hn fks z hh + 1 ∧ nm = cdN (sqA us 0 l) (tlL us l) mm ∧ ¬ shT D (sIt z) (fkI fks hh) (hn fks z hh) (cdN (sqA us 0 l) (tlL us l) mm) ∧ ∀ q, 1 ≤ q → q < mm → shT D (sIt z) (fkI fks hh) (hn fks z hh) (cdN (sqA us 0 l) (tlL us l) q)) : (cntF (ent D) (hk N D) 2 < X + dr → ∃ n f, (lf_c (f_Ed_findSlots K G S (nI hh) (nI dr)) fun r_8 S_8 => if r_8 = 0 then (some (.error 3, G.made 1 6, S_8)) else ((f_Vt_changed K G S_8).bind fun S_10 => lf_c (f_Ed_addItem K G S_10 S_10.v_Vt_here (nI dr)) fun r_11 S_11 => some (.ok r_11, G, S_11)) : Option (Except Nat Int32 × CG × CS)) = some (.error 3, G.made 1 6, fdS S W n L e s b X f)) ∧ (¬ cntF (ent D) (hk N D) 2 < X + dr → ∀ o xs, (dr = 0 → o = 0) → (dr = 1 → frst (ent D) 2 o ∧ o < hk N D + 2) → xs.length = X → tkn N D xs (mkY dr o) (chI N D (sIt z) hh) → fkI fks hh ≤ p → p ≤ fks.getD (hh + 1) (sIt z).length → (∀ j, fkI fks hh ≤ j → j < p → isl (itr (sIt z) j) < b) → (∀ j, p ≤ j → j < fks.getD (hh + 1) (sIt z).length → b ≤ isl (itr (sIt z) j)) → ∃ S', (lf_c (f_Ed_findSlots K G S (nI hh) (nI dr)) fun r_8 S_8 => if r_8 = 0 then (some (.error 3, G.made 1 6, S_8)) else ((f_Vt_changed K G S_8).bind fun S_10 => lf_c (f_Ed_addItem K G S_10 S_10.v_Vt_here (nI dr)) fun r_11 S_11 => some (.ok r_11, G, S_11)) : Option (Except Nat Int32 × CG × CS)) = some (.ok (nI (p - fkI fks hh)), G, S') ∧ S'.w_Dk_bytes = mkE D E (chI N D (sIt z) hh) xs b W (unS L e s) ((chI N D (sIt z) hh ++ xs).length * 16 * hc D) nm us dr o (if hh = 0 then 0 else begI D (sIt z) hh) ∧ coE S' = coE S ∧ S'.v_Vt_stale = 1) := by
  have hN1 := h.1.1.1
  have hN := h.1.1.2.1
  have ho := v.2.2.2.1
  have hH := ((agF_A hN1 hN h.1.2.2.2.2.2.2.1.1).2 ho).1
  have hcI := v.2.1.2.1
  obtain ⟨ec, ev', ey, ez, er, ea, ek⟩ := agH_n hH
  have tb : S.v_Tb_before = nI (hv D) := by rw [← ev']; exact hcI.2.2.2.2.1
  have ty : S.v_Tb_copies = nI (hy D) := by rw [← ey]; exact hcI.2.2.2.2.2.1
  have tz : S.v_Tb_length = nI (hz D) := by rw [← ez]; exact hcI.2.2.2.2.2.2.1
  have tc : S.v_Tb_cluster = nI (hc D) := by rw [← ec]; exact hcI.2.2.2.1
  have ta : S.v_Tb_start = nI (ha D) := by rw [← ea]; exact hcI.2.2.2.2.2.2.2.2.1
  have hnx := nxR_of ho hN hH hcI
  have hGn := hcI.1
  have hSE : S.w_Dk_bytes = E := hcI.2.1
  have he' := he
  have hs' := hs
  rw [hL] at he' hs'
  obtain ⟨f, a1, a2⟩ := qC_find (K := K) (W := W) (dr := dr) hK h v hul hpl hct hWB hW hW2 hdr he' hs' hb hL hX (here_road hK (S := S.u_v_Ed_slots (nI W)) (T := T) h v) (fun s' g => by rw [hSE]; exact here_same (s := s') h v (by rw [← hL]; exact g) 0 (by decide)) hnx hGn tc ta
  rw [a2, q_c]
  refine ⟨fun w => ⟨(chI N D (sIt z) hh).length, f, ?_⟩, fun w o xs o1 o2 x1 x2 p1 p2 p3 p4 => ?_⟩
  · rw [if_pos w, if_pos rfl]
  rw [if_neg w, if_neg (show ¬ (1 : Int32) = 0 by decide)]
  obtain ⟨hp, -⟩ := mk_of (o := o) (xs := xs) hN1 hN v hdr hW hW2 he hs hb hL hX x1 x2 o2
  obtain ⟨g1, g2, g3, g4, g5, g6, g7, g8⟩ := here_geo hN v
  have hf := hd_facts ho hN
  obtain ⟨c1, c2, c3, c4⟩ := mk_cl hp
  obtain ⟨w1, w2, w3, w4⟩ := mk_own hp
  have htr := (br_tree hN1 hN v hH).2.1
  have hhl := v.2.2.1.1
  have hhd := v.2.2.1.2.1
  have hhe : S.v_Vt_here = nI hh := v.2.2.1.2.2.1
  have hlen := v.2.2.2.2.2.1.1.2.1
  have hfl : hh < fks.length := by rw [v.1.1.2.2.2.2.2.1]; exact hhl
  have hkd := v.2.2.2.2.2.2.2.1 hh hfl
  obtain ⟨tt, cS⟩ := v.2.1.2.2.1
  have hgo := cS.2.2.2.2.1
  have hmp := cS.2.2.2.2.2.2.2.1
  have hits := v.2.2.2.2.2.1.1
  have hnle : fkI fks hh + hn fks z hh ≤ (sIt z).length := hn_le v.2.2.2.2.2.2.2.1 hfl
  unfold f_Vt_changed
  rw [q_l, q_b]
  have hh2 : ((fdS S W (chI N D (sIt z) hh).length L e s b X f).u_v_Vt_stale 1).v_Vt_here = nI hh := hhe
  rw [hh2]
  obtain ⟨g, gn, ga⟩ : ∃ g : Nat → Int32, (∀ q, q < 11 → g q = nI (nm q)) ∧ f_Ed_addItem K G ((fdS S W (chI N D (sIt z) hh).length L e s b X f).u_v_Vt_stale 1) (nI hh) (nI dr) = f_Ed_addItem_12 K G (nI hh) (nI dr) (((fdS S W (chI N D (sIt z) hh).length L e s b X f).u_v_Vt_stale 1).u_w_Ed_shortName g) := by
    unfold f_Ed_addItem
    rw [show ((fdS S W (chI N D (sIt z) hh).length L e s b X f).u_v_Vt_stale 1).v_Ed_plain = b01 B from hpl]
    by_cases c : B
    · refine ⟨S.w_Ed_shortName, hnB c, ?_⟩
      rw [b01_t c, if_neg (show ¬ nI 1 = 0 by decide)]
      rfl
    · obtain ⟨l, mm, l1, l2, l3, l4, l5, l6⟩ := hnC c
      rw [b01_f c, if_pos (show nI 0 = 0 from rfl)]
      obtain ⟨g, i1, i2⟩ := qC_invent (K := K) (N := N) (l := l) (d := hh) (fk := fkI fks hh) (n := hn fks z hh) (m := mm) (G := G) (D := D) (E := E) (mp := mp0 D) (its := sIt z) (us := us) (S := (fdS S W (chI N D (sIt z) hh).length L e s b X f).u_v_Vt_stale 1) hK hgo.1 hN hSE cS.1 hgo.2.2.1 hits hmp hkd.1 hnle (fun g => qC_cnt (S := ((fdS S W (chI N D (sIt z) hh).length L e s b X f).u_v_Vt_stale 1).u_w_Ed_shortName g) htr hhl) (fun g k => qC_kd (S := ((fdS S W (chI N D (sIt z) hh).length L e s b X f).u_v_Vt_stale 1).u_w_Ed_shortName g) htr hhl hhd) hct hu1 hul hbf hu l1 l2 l3 l5 l6
      exact ⟨g, by rw [l4]; exact i1, by rw [i2, q_b]⟩
  rw [ga]
  generalize hS0 : ((fdS S W (chI N D (sIt z) hh).length L e s b X f).u_v_Vt_stale 1).u_w_Ed_shortName g = S0
  have hE0 : S0.w_Dk_bytes = E := by rw [← hS0]; exact hSE
  have hnx0 : nxR N D (ent D) G S0 := by rw [← hS0]; exact hnx
  obtain ⟨nx, n1, n2⟩ : ∃ nx : Nat → Int32, nxR N D (fun y => lkV (mkY dr o) y (ent D y)) G ((S0.u_w_Tb_next nx).u_w_Dk_bytes (mkX D dr o E)) ∧ f_Ed_addItem_12 K G (nI hh) (nI dr) S0 = f_Ed_addItem_27 K G (nI hh) (nI dr) (nI o) ((S0.u_w_Tb_next nx).u_w_Dk_bytes (mkX D dr o E)) := by
    unfold f_Ed_addItem_12 mkX mkY
    rcases hdr with q | q
    · refine ⟨S0.w_Tb_next, ?_, ?_⟩
      · rw [if_pos q]
        exact hnx0
      · rw [if_pos q, q, if_pos (show nI 0 = 0 from rfl), o1 q, ← hE0]
        rfl
    · have q0 : dr ≠ 0 := by omega
      have tk := qC_take (K := K) (x := o) (D := D) (e := ent D) (G := G) (S := S0) (by omega) hN1 ho hN (ent_28 D) hnx0 (by rw [← hS0]; exact tb) (by rw [← hS0]; exact ty) (by rw [← hS0]; exact tz) (by rw [← hS0]; exact tc) (by rw [← hS0]; exact ta) (o2 q).1 (o2 q).2
      refine ⟨upd S0.w_Tb_next o (nI 268435455), ⟨hnx0.1, hnx0.2.1, fun y hy0 => ?_⟩, ?_⟩
      · show upd S0.w_Tb_next o (nI 268435455) y = nI (lkV (if dr = 0 then [] else [(o, 268435455)]) y (ent D y))
        rw [if_neg q0, lkV, lkV]
        by_cases c : y = o
        · rw [c, pk_us, if_pos rfl]
        · rw [pk_un c, if_neg c]
          exact hnx0.2.2 y hy0
      · rw [if_neg q0, if_neg (show ¬ nI dr = 0 by rw [q]; decide), tk, q_c, hE0]
  rw [n2]
  have hlt : (chI N D (sIt z) hh ++ xs).length < N / 2 + 2 := by have := nd_cl hp.2.1.2.2 c3; omega
  have ho28 : o < 2 ^ 28 := by
    rcases hdr with q | q
    · rw [o1 q]; decide
    · have := (o2 q).2; omega
  have h28 : (if hh = 0 then 0 else begI D (sIt z) hh) < 2 ^ 28 := by
    by_cases q : hh = 0
    · rw [if_pos q]; decide
    · rw [if_neg q]; exact g5
  have hun : unS L e s < 19000 := by
    unfold unS
    have := he.1
    split <;> omega
  obtain ⟨f2, g', lay⟩ := qC_lay (K := K) (N := N) (L' := (chI N D (sIt z) hh ++ xs).length * 16 * hc D) (b := b) (W := W) (X := X) (o := o) (dr := dr) (hh := hh) (hcl := if hh = 0 then 0 else begI D (sIt z) hh) (un := unS L e s) (D := D) (nm := nm) (us := us) (ch := chI N D (sIt z) hh) (xs := xs) (l := mkY dr o) (G := G) (S := (S0.u_w_Tb_next nx).u_w_Dk_bytes (mkX D dr o E)) hK hN1 ho hN hGn hdr x1 x2 (fun a a1 => w2 a (List.mem_append_left _ a1)) n1 (by rw [← hS0]; rfl) (by rw [← hS0]; exact tb) (by rw [← hS0]; exact ty) (by rw [← hS0]; exact tz) (by rw [← hS0]; exact tc) (by rw [← hS0]; exact ta) (by rw [← hS0]; rfl) g1 (by rw [← hS0]; exact a1) c3 hp.2.1.2.2 hlt rfl hW hW2 hp.2.2.2.1.2.2.2.2 ho28 (fun q => (c4 (by omega)).1) (by rw [← hS0]; rfl) (by rw [← hS0]; rfl) (by rw [← hS0]; rfl) hun (by rw [← hS0]; exact hct) (by rw [← hS0]; exact hbf) hul hu (by rw [← hS0]; exact gn) hnl h28 (by omega) (by
    by_cases q : hh = 0
    · exact Or.inl ⟨q, if_pos q⟩
    · refine Or.inr ⟨q, fun g2 f3 n w => ?_⟩
      rw [if_neg q]
      exact qC_first hgo.1 (by rw [← hS0]; exact cS.1) hgo.2.2.1 hhl)
  rw [lay]
  have hkc : hn fks z hh = fks.getD (hh + 1) (sIt z).length - fkI fks hh := rfl
  have hbL : b ≤ L := Nat.le_trans hp.2.2.2.2.2.1 hp.2.2.2.2.1.1
  generalize hS3 : ((((S0.u_w_Tb_next nx).u_w_Dk_bytes (mkX D dr o E)).u_w_Tb_next g').u_w_Ed_road f2).u_v_Ed_roadLength (nI (chI N D (sIt z) hh ++ xs).length) = S3
  have htr3 : ∀ w, trC N D (mp0 D) fks (sIt z) (hk N D) (ent D) G (S3.u_w_Dk_bytes w) := fun w => by rw [← hS3, ← hS0]; exact htr
  have fin := fun w => qC_166 (K := K) (hh := hh) (n := hn fks z hh) (c := p - fkI fks hh) (b := b) (fk := fkI fks hh) (sl := fun k => isl (itr (sIt z) (fkI fks hh + k))) (G := G) (S := S3.u_w_Dk_bytes w) (by omega) (by omega) (by omega) (by omega) (qC_cnt (htr3 w) hhl) (fun k => qC_kd (htr3 w) hhl hhd) (fun k hk0 => ⟨qC_slot hgo.1 (htr3 w).2.1 hgo.2.2.1 (by omega), by
    have := (hits.2.2.2.2 (fkI fks hh + k) (by omega) (by omega)).2.1
    omega⟩) (by rw [← hS3, ← hS0]; rfl) (fun k hk0 => p3 _ (by omega) (by omega)) (fun k k1 k2 => p4 _ (by omega) (by omega))
  rw [fin, q_c]
  refine ⟨_, rfl, ?_, ?_, ?_⟩
  · rfl
  · rw [← hS3, ← hS0]; rfl
  · rw [← hS3, ← hS0]; rfl
