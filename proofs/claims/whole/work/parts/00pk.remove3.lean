theorem mk_in {q : Nat} : ∀ (l : List Nat) (X : Nat → Int32), q ∈ l → o1 (mk X l) q = 229 := by
  intro l
  induction l with
  | nil => intro X h; cases h
  | cons a l ih =>
    intro X h
    rw [mk]
    by_cases w : q ∈ l
    · exact ih _ w
    · rw [mk_out l _ w]
      rcases List.mem_cons.mp h with h | h
      · rw [h, st_o1, if_pos (by omega), Nat.sub_self]
      · exact absurd h w
/-- a slot that is marked counts no more than before -/
theorem mk_cp {l : List Nat} {D : Nat → Int32} {v : Nat} (hl : ∀ q ∈ l, q % 32 = 0) (h : cpP (mk D l) (32 * v)) : cpP D (32 * v) := by
  have hj : ∀ j, 1 ≤ j → j < 32 → o1 (mk D l) (32 * v + j) = o1 D (32 * v + j) := fun j g1 g2 => mk_out l D fun w => by have := hl _ w; omega
  by_cases w : 32 * v ∈ l
  · rcases h with ⟨h1, h2⟩ | ⟨-, -, h3, -⟩
    · refine Or.inl ?_
      unfold ptW at *
      have e2 : o2 (mk D l) (32 * v + 26) = o2 D (32 * v + 26) := by
        unfold o2
        rw [hj 26 (by decide) (by decide), show 32 * v + 26 + 1 = 32 * v + 27 from rfl, hj 27 (by decide) (by decide)]
      have e3 : o2 (mk D l) (32 * v + 1) = o2 D (32 * v + 1) := by
        unfold o2
        rw [hj 1 (by decide) (by decide), show 32 * v + 1 + 1 = 32 * v + 2 from rfl, hj 2 (by decide) (by decide)]
      rw [hj 11 (by decide) (by decide), hj 12 (by decide) (by decide), e2] at h1
      rw [e3] at h2
      exact ⟨h1, h2⟩
    · exfalso
      have := (h3.2 0 (by decide)).1
      rw [Nat.add_zero, mk_in l D w] at this
      rcases this with y | y
      · omega
      · unfold sgP at y
        omega
  · refine (cpP_slq fun j hj1 => ?_).mp h
    by_cases g : j = 0
    · rw [g, Nat.add_zero]; exact mk_out l D w
    · exact hj j (by omega) hj1
theorem cIs_data {N : Nat} {E Em : Nat → Int32} {G : CG} {S : CS} (hN : N ≤ 1024) (ho : hdOk N E) (hH : agH E Em) (h : cIs N E G S) : cIs N Em G (S.u_w_Dk_bytes Em) := by
  obtain ⟨e1, e2, e3, e4, e5, e6, e7⟩ := agH_n hH
  obtain ⟨h1, h2, h3, h4, h5, h6, h7, h8, h9, h10, h11⟩ := h
  refine ⟨h1, rfl, h3, by rw [e1]; exact h4, by rw [e2]; exact h5, by rw [e3]; exact h6, by rw [e4]; exact h7, by rw [e5]; exact h8, by rw [e6]; exact h9, by rw [e7]; exact h10, fun x hx => ?_⟩
  rw [e7]
  show S.w_Tb_next x = _
  rw [h11 x hx]
  by_cases w : x < hk N E + 2
  · rw [if_pos w, if_pos w, agH_ent hH ho hN w]
  · rw [if_neg w, if_neg w]
/-- the chain of an item in a sound tree -/
theorem item_ch {N m hh j : Nat} {D E : Nat → Int32} {fks : List Nat} {z : SS} {G : CG} {S : CS} {T : MS} (hN : N ≤ 1024) (v : tv N m D E fks z hh G S T) (hj : j < (sIt z).length) : (chI N D (sIt z) j).length ≤ 514 ∧ (chI N D (sIt z) j).length < N / 2 + 2 ∧ begI D (sIt z) j < 2 ^ 28 ∧ lnk N D (begI D (sIt z) j) (chI N D (sIt z) j) := by
  by_cases d : isDr D (sIt z) j
  · have hfo := (v.2.2.2.2.2.2.1.2.2.1 j hj (Or.inr hj)).1 d
    obtain ⟨l1, l2, l3, l4, l5, l6⟩ := fo_all v.2.2.2.1 hN hfo
    exact ⟨l3, l2, l4, l5⟩
  · have h1 : 1 ≤ j := Nat.one_le_iff_ne_zero.mpr fun y => d (Or.inl y)
    obtain ⟨s1, s2, s3, s4, s5, s6, s7⟩ := file_ch hN v h1 hj (fun y => d (Or.inr y))
    have hbg : begI D (sIt z) j = fc D (isp (itr (sIt z) j)) := if_neg (show ¬ j = 0 from Nat.one_le_iff_ne_zero.mp h1)
    rw [hbg]
    exact ⟨s2, s3, s4, s5⟩
/-- a file has no kids -/
theorem file_kids {N m hh j : Nat} {D E : Nat → Int32} {fks : List Nat} {z : SS} {G : CG} {S : CS} {T : MS} (v : tv N m D E fks z hh G S T) (hj : j < (sIt z).length) (d : ¬ isDr D (sIt z) j) : kcI fks (sIt z).length j = 0 := by
  have hl := v.1.1.2.2.2.2.2.1
  obtain ⟨k1, k2, k3, k4, k5⟩ := v.2.2.2.2.2.2.2.1 j (by rw [hl]; exact hj)
  have hSI := v.2.2.2.2.2.2.1
  clear v
  unfold kcI
  refine Classical.byContradiction fun w => ?_
  have hlt : fkI fks j < fks.getD (j + 1) (sIt z).length := by unfold fkI at *; omega
  have := (k5 (fkI fks j) k1 (by omega)).mpr ⟨Nat.le_refl _, hlt⟩
  have hd := (hSI.2.1 (fkI fks j) k1 (by omega)).2.2.1
  rw [this] at hd
  exact d hd
theorem qC_drop {K N j hh p sl pt : Nat} {D E : Nat → Int32} {mp : Nat → Nat} {its : List It} {G : CG} {S : CS} {chh ch : List Nat} (hK : 1000 ≤ K) (hK2 : pt + 1 < K) (hN1 : 256 ≤ N) (hN : N ≤ 1024) (ho : hdOk N D) (hH : agH D E) (hcI : cIs N E G S) (hG : gOk N G) (hS : rcI D mp its S) (hl : its.length ≤ G.l_parent) (hj : j < its.length) (hh0 : hh < its.length) (hsl : isl (itr its j) = sl) (hpt : ipt (itr its j) = pt) (hps : pt ≤ sl) (b1 : begI D its hh < 2 ^ 28) (cl1 : ∀ y ∈ chh, isCl N D y) (lk1 : lnk N D (begI D its hh) chh) (le1 : chh.length < N / 2 + 2) (hs : sl < chh.length * 16 * hc D) (b2 : begI D its j < 2 ^ 28) (cl2 : ∀ y ∈ ch, isCl N D y) (lk2 : lnk N D (begI D its j) ch) (le2 : ch.length < N / 2 + 2) : ∃ S', f_Ed_dropItem K G S (nI hh) (nI j) = some S' ∧ S'.w_Dk_bytes = lks D (mk E (slR D chh (sl - pt) (pt + 1))) (frL ch) ∧ coE S' = coE S ∧ S'.v_Vt_stale = S.v_Vt_stale := by
  have hf := hd_facts ho hN
  obtain ⟨ec, ev', ey, ez, er, ea, ek⟩ := agH_n hH
  obtain ⟨f, r1, r2⟩ := qC_road (K := K) hK ho hN hH hcI le1 b1 lk1
  have hmk : ∀ q, q < 512 * ha D → o1 (mk E (slR D chh (sl - pt) (pt + 1))) q = o1 E q := fun q hq => mk_out _ _ fun w => by
    obtain ⟨r, w1, w2, w3⟩ := slR_mem _ _ w
    obtain ⟨p1, p2, p3⟩ := plS_in (k := 0) ho hN cl1 (show r < chh.length * 16 * hc D by omega) (by decide)
    omega
  have hvha : hv D ≤ ha D := by rw [hf.2.2.2.2.2.2.1]; exact Nat.le_add_right _ _
  have hH2 : agH E (mk E (slR D chh (sl - pt) (pt + 1))) := ⟨fun q hq => hmk q (by omega), fun q _ hq => hmk q (by rw [← ea]; exact hq)⟩
  have hH3 : agH D (mk E (slR D chh (sl - pt) (pt + 1))) := ⟨fun q hq => (hmk q (by omega)).trans (hH.1 q hq), fun q g1 g2 => (hmk q g2).trans (hH.2 q g1 g2)⟩
  have hoE : hdOk N E := (agH_ok hH).mpr ho
  unfold f_Ed_dropItem
  rw [qC_first hG hS hl hh0, q_c, r1, q_c, q_l]
  have es : f_Tr_slotOf K G ((S.u_w_Ed_road f).u_v_Ed_roadLength (nI chh.length)) (nI j) = some (nI (isl (itr its j)), (S.u_w_Ed_road f).u_v_Ed_roadLength (nI chh.length)) := qC_slot (S := (S.u_w_Ed_road f).u_v_Ed_roadLength (nI chh.length)) hG hS hl hj
  have ep : f_Tr_partsOf K G ((S.u_w_Ed_road f).u_v_Ed_roadLength (nI chh.length)) (nI j) = some (nI (ipt (itr its j)), (S.u_w_Ed_road f).u_v_Ed_roadLength (nI chh.length)) := qC_parts (S := (S.u_w_Ed_road f).u_v_Ed_roadLength (nI chh.length)) hG hS hl hj
  rw [es, q_c, ep, q_c, hsl, hpt, pk_sub hps, q_l]
  rw [qC_mark (S := (S.u_w_Ed_road f).u_v_Ed_roadLength (nI chh.length)) hG.1 hN1 ho hN cl1 le1 hs (nI j) (pt + 1) (sl - pt) K (by omega) hK2 (by rw [← ec]; exact hcI.2.2.2.1) (by rw [← ea]; exact hcI.2.2.2.2.2.2.2.2.1) rfl r2]
  obtain ⟨S3, e3⟩ : ∃ S3, ((S.u_w_Ed_road f).u_v_Ed_roadLength (nI chh.length)).u_w_Dk_bytes (mk E (slR D chh (sl - pt) (pt + 1))) = S3 := ⟨_, rfl⟩
  have e3' : ((S.u_w_Ed_road f).u_v_Ed_roadLength (nI chh.length)).u_w_Dk_bytes (mk ((S.u_w_Ed_road f).u_v_Ed_roadLength (nI chh.length)).w_Dk_bytes (slR D chh (sl - pt) (pt + 1))) = S3 := by
    rw [show ((S.u_w_Ed_road f).u_v_Ed_roadLength (nI chh.length)).w_Dk_bytes = E from hcI.2.1]; exact e3
  have hcI3 : cIs N (mk E (slR D chh (sl - pt) (pt + 1))) G S3 := by
    rw [← e3]
    exact cIs_data (S := (S.u_w_Ed_road f).u_v_Ed_roadLength (nI chh.length)) hN hoE hH2 hcI
  have hS3 : rcI D mp its S3 := by rw [← e3]; exact hS
  have hc3 : coE S3 = coE S := by rw [← e3]; rfl
  have hs3 : S3.v_Vt_stale = S.v_Vt_stale := by rw [← e3]; rfl
  rw [e3']
  clear e3 e3' es ep r1 r2
  obtain ⟨ec3, ev3, ey3, ez3, er3, ea3, ek3⟩ := agH_n hH3
  obtain ⟨g, t1, t2⟩ := qC_road (K := K) hK ho hN hH3 hcI3 le2 b2 lk2
  unfold drpF
  rw [qC_first hG hS3 hl hj, q_c, t1, q_c, q_l]
  obtain ⟨f', e⟩ := qC_dropL (K := K) hK hG.1 hN1 ho hN cl2 le2 ch.length 0 K ((S3.u_w_Ed_road g).u_v_Ed_roadLength (nI ch.length)) (by omega) (by omega) rfl t2 (by rw [← ev3]; exact hcI3.2.2.2.2.1) (by rw [← ey3]; exact hcI3.2.2.2.2.2.1) (by rw [← ez3]; exact hcI3.2.2.2.2.2.2.1) (by rw [← ek3]; exact hcI3.2.2.2.2.2.2.2.2.2.1)
  refine ⟨_, e, ?_, hc3, hs3⟩
  show lks D S3.w_Dk_bytes (frL (ch.drop 0)) = _
  rw [List.drop_zero, hcI3.2.1]
