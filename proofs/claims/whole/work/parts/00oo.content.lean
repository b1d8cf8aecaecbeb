/-! The bytes of a file. -/
theorem entF_file {N p : Nat} {D : Nat → Int32} {ch : List Nat} (h : entF N D p [] = some ch) (hd : ¬ o1 D (p + 11) / 16 % 2 = 1) (h0 : o4 D (p + 28) ≠ 0) : o4 D (p + 28) < 2 ^ 31 ∧ fo N D (fc D p) [] = some ch ∧ ch.length = (o4 D (p + 28) + 512 * hc D - 1) / (512 * hc D) := by
  unfold entF at h
  rw [if_neg hd, if_neg h0] at h
  by_cases w : o4 D (p + 28) < 2 ^ 31
  · rw [if_pos w] at h
    cases g : fo N D (fc D p) [] with
    | none => rw [g] at h; cases h
    | some c =>
      rw [g] at h
      have h : (if c.length = (o4 D (p + 28) + 512 * hc D - 1) / (512 * hc D) then some c else none) = some ch := h
      by_cases y : c.length = (o4 D (p + 28) + 512 * hc D - 1) / (512 * hc D)
      · rw [if_pos y] at h
        cases h
        exact ⟨w, rfl, y⟩
      · rw [if_neg y] at h; cases h
  · rw [if_neg w] at h; cases h
theorem lt_ceil {x s b : Nat} (hb : 0 < b) (h : x < s) : x / b < (s + b - 1) / b := by
  rw [Nat.div_lt_iff_lt_mul hb]
  have h1 := Nat.div_add_mod (s + b - 1) b
  have h2 := Nat.mod_lt (s + b - 1) hb
  rw [Nat.mul_comm] at h1
  omega
theorem fo_all {N x : Nat} {D : Nat → Int32} {ch : List Nat} (h : hdOk N D) (hN : N ≤ 1024) (hf : fo N D x [] = some ch) : ch.length ≤ hk N D ∧ ch.length < N / 2 + 2 ∧ ch.length ≤ 514 ∧ x < 2 ^ 28 ∧ lnk N D x ch ∧ (∀ y ∈ ch, isCl N D y ∧ ent D y ≠ 0) := by
  obtain ⟨s1, s2, s3, s4, s5, -⟩ := fol_spec _ _ _ _ hf
  have hff := hd_facts h hN
  have hl := fol_lnk _ _ _ _ hf
  have hnd := nd_cl (k := hk N D) s4 (fun y hy => (s5 y hy).1)
  have hx : isCl N D x := by
    cases ch with
    | nil => exact absurd s2 (by decide)
    | cons y l => obtain ⟨rfl, a, -⟩ := hl; exact a
  exact ⟨hnd, by omega, by omega, by have := hx.2; omega, hl, fun y hy => ⟨(s5 y hy).1, (s5 y hy).2.2⟩⟩
/-- the byte x of file j, both sides -/
theorem file_byte {K N m hh j x : Nat} {D E : Nat → Int32} {fks : List Nat} {z : SS} {G : CG} {S : CS} {T : MS} (hK : 20000 ≤ K) (hN : N ≤ 1024) (hag : agA N 0 D E (fun _ => 0)) (v : tv N m D E fks z hh G S T) (h1 : 1 ≤ j) (hj : j < (sIt z).length) (hd : ¬ o1 D (isp (itr (sIt z) j) + 11) / 16 % 2 = 1) (hx : x < o4 D (isp (itr (sIt z) j) + 28)) : o4 D (isp (itr (sIt z) j) + 28) < 2 ^ 31 ∧ ∃ f g b q, f_Ed_placeOf K G S (nI j) (nI x) = some (nI q, (S.u_w_Ed_road f).u_v_Ed_roadLength b) ∧ q < 512 * N ∧ o1 E q = o1 D q ∧ f_Mo_walk K T (nI (begI D (sIt z) j)) = some ((T.u_v_chain g).u_v_links b) ∧ x / (512 * hc D) < 514 ∧ f_Mo_place K ((T.u_v_chain g).u_v_links b) (g (x / (512 * hc D))) = some (nI (q - x % (512 * hc D)), (T.u_v_chain g).u_v_links b) ∧ x % (512 * hc D) ≤ q := by
  obtain ⟨tt, cS⟩ := v.2.1.2.2.1
  have hG := cS.2.2.2.2.1.1
  have hl := cS.2.2.2.2.1.2.2.1
  have hcI := v.2.1.2.1
  have hM := v.1.1.1
  have ho := v.2.2.2.1
  have hSI := v.2.2.2.2.2.2.1
  have hnd : ¬ isDr D (sIt z) j := fun y => y.elim (by omega) hd
  have hE := (hSI.2.2.1 j hj (Or.inl hnd)).2 hnd
  obtain ⟨hs, hfo, hlen⟩ := entF_file hE hd (by omega)
  obtain ⟨l1, l2, l3, l4, l5, l6⟩ := fo_all ho hN hfo
  obtain ⟨hH, hCc⟩ := hag.2 ho
  have hb : begI D (sIt z) j = fc D (isp (itr (sIt z) j)) := if_neg (by omega)
  have hff := hd_facts ho hN
  have hC := hff.1
  clear v hSI
  refine ⟨hs, ?_⟩
  have hq : x / (512 * hc D) < (chI N D (sIt z) j).length := by rw [hlen]; exact lt_ceil (by omega) hx
  obtain ⟨f, r1, r2⟩ := qC_road (K := K) (by omega) ho hN hH hcI l2 l4 l5
  obtain ⟨g, w1, w2⟩ := qM_walk (K := K) (by omega) ho hN hM l3 l4 l5
  have hmem : (chI N D (sIt z) j).getD (x / (512 * hc D)) 0 ∈ chI N D (sIt z) j := by
    rw [List.getD_eq_getElem?_getD, List.getElem?_eq_getElem hq]
    exact List.getElem_mem hq
  obtain ⟨c1, c2⟩ := l6 _ hmem
  have hr : x % (512 * hc D) < 512 * hc D := Nat.mod_lt _ (by omega)
  obtain ⟨a1, a2⟩ := hCc _ c1 c2
  rw [gF_0] at a1 a2
  have a2 := a2 _ hr
  have hpl := plC_lt ho hN c1 hr
  refine ⟨f, g, nI (chI N D (sIt z) j).length, plC D ((chI N D (sIt z) j).getD (x / (512 * hc D)) 0) + x % (512 * hc D), ?_, hpl.2, a2, ?_, by omega, ?_, Nat.le_add_left _ _⟩
  · unfold f_Ed_placeOf f_Ed_placeOnRoad f_Ed_placeOnRoad_27 f_Tb_clusterBytes
    have e512 : S.v_Tb_cluster * 512 = nI (512 * hc D) := by rw [hcI.2.2.2.1, (agH_n hH).1, show (512 : Int32) = nI 512 from rfl, pk_mul, Nat.mul_comm]
    have ed : nI x / nI (512 * hc D) = nI (x / (512 * hc D)) := pk_div (by omega) (by omega) (by omega)
    have hne : ¬ nI (512 * hc D) = 0 := nI_ne0 (by omega) (by omega)
    have hxl : x / (512 * hc D) < N / 2 + 2 := Nat.lt_trans hq l2
    have hpc := qC_place (K := K) (S := (S.u_w_Ed_road f).u_v_Ed_roadLength (nI (chI N D (sIt z) j).length)) (x := (chI N D (sIt z) j).getD (x / (512 * hc D)) 0) hcI hH c1.1
    rw [qC_first hG cS.1 hl hj, q_c, hb, r1, q_c, q_l, show ((S.u_w_Ed_road f).u_v_Ed_roadLength (nI (chI N D (sIt z) j).length)).v_Tb_cluster * 512 = nI (512 * hc D) from e512, q_c, if_neg (show ¬ nI (512 * hc D) < 1 from nI_nlt (b := 1) (by omega) (by omega)), if_neg (nI_pos (by omega))]
    simp only [q_g hne]
    rw [ed, show ((S.u_w_Ed_road f).u_v_Ed_roadLength (nI (chI N D (sIt z) j).length)).v_Ed_roadLength = nI (chI N D (sIt z) j).length from rfl, if_pos (nI_lt hq (by omega)), hcI.1, q_g (q_in hxl (by omega)), nI_clamp (by omega), show ((S.u_w_Ed_road f).u_v_Ed_roadLength (nI (chI N D (sIt z) j).length)).w_Ed_road (x / (512 * hc D)) = _ from r2 _ hq, hpc, q_c, ← ed, pk_rem (by omega) (by omega) (by omega), nI_add, q_c]
  · rw [hb, w1]
  · rw [w2 _ hq, Nat.add_sub_cancel]
    exact qM_place (K := K) (T := (T.u_v_chain g).u_v_links (nI (chI N D (sIt z) j).length)) hM c1.1
