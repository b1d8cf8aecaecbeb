/-! content of a turned volume. -/
theorem cl_fileByte {K i e x N : Nat} {D : Nat → Int32} {fks : List Nat} {z : SS} {A H B P g0 r to : Nat} {gl : Nat → Nat} {E F : Nat → Int32} {G : CG} {S : CS} {mode size links fi : Nat} {hasT : Bool} {tm : Nat → Nat} {l rm : List Nat} (h : tB N D fks z A H B P g0 r to gl E F) (hG : G.n = N) (hS : S.w_Dk_bytes = E) (hi : i < (sIt z).length) (hd : isDr D (sIt z) i) (he : e < eNo fks (sIt z) i) (hn : 1 ≤ eNu fks (sIt z) i e ∧ eNu fks (sIt z) i e ≤ g0 * (8 * r)) (nd : nodA E (inPos A P (8 * r) (eNu fks (sIt z) i e)) mode size hasT tm links l rm fi) (hk1 : eKd D fks (sIt z) i e ≠ 2) (hsz : size < 2 ^ 31) (hll : l.length ≤ 1000) (hl : ∀ b ∈ l, b < B) (hr : ∀ t, t < indN l.length → 1024 * rm.getD (fi + t) 0 + 1024 ≤ 512 * N) (hx : x < 2 ^ 31) (hle : size ≤ 1024 * l.length) : f_In_fileByte K G S (nI (enP N D fks (sIt z) A H (rml A H (fxd A P r g0) (ent D) gl (hk N D)) i e)) (nI x) = some (if x < size then nI (o1 E (1024 * l.getD (x / 1024) 0 + x % 1024)) else -1, S) := by
  have hm := tB_num h
  have hN := hm.2.2.2.2.2.2.2.2.2.2.2.1
  obtain ⟨i1, i2⟩ := cl_isDir (K := K) h hG hS hi hd he
  have hp := cl_place (K := K) h hG hS hn
  have hpos := (tB_eq h hn).2
  unfold f_In_fileByte f_In_fileByte_36
  rw [i2, q_c, hp, q_c, i1, q_c, if_neg hk1, if_pos rfl, if_neg (nI_pos hx), show (4 : Int32) = nI 4 from rfl, nI_add, rV4 E hG hS hN (by omega), q_c, nod_4 nd (by decide), in_size (by omega)]
  by_cases c : x < size
  · have hb := hl _ (getD_mem (show x / 1024 < l.length by omega))
    rw [if_pos (nI_lt c (by omega)), if_pos c, show (1024 : Int32) = nI 1024 from rfl, pk_rem hx (by decide) (by decide), pk_div hx (by decide) (by decide), cl_blockOf hG hS hN nd hpos (fun b hb => by have := hl b hb; omega) hr (show x / 1024 < l.length by omega) hll, q_c, pk_mul, nI_add, Nat.mul_comm (l.getD (x / 1024) 0), rV1 E hG hS hN (by omega), q_c]
  · rw [if_neg (nI_nlt (by omega) hx), if_neg c]
theorem opB_content {K N t m : Nat} {D E : Nat → Int32} {G : CG} {S : CS} {T : MS} (hK : 100000 ≤ K) (h : ivB K N t m D E G S T) (a b : Int32) : rsl (fun e => e) (fun e => e = 1 ∨ e = 2) (f_Vt_content K G S a b) (f_Mo_content K T a b) (fun G' S' T' => ivB K N (t + 1) m D E G' S' T' ∧ S'.v_Tp_used = S.v_Tp_used) := by
  obtain ⟨fks, z, A, H, B, P, g0, r, to, gl, hh, o⟩ := ivB_open h
  have hm := tB_num o.1
  have hN := hm.2.2.2.2.2.2.2.2.2.2.2.1
  have hK2 : 20000 ≤ K := Nat.le_trans (by decide) hK
  obtain ⟨E0, G0, S0, v, -⟩ := o.2.2.1
  obtain ⟨l1, l2⟩ := lookB (K := K) o
  have hj := v.2.2.1.1
  have hd := v.2.2.1.2.1
  have hlen := o.1.2.1.2.1.2.1
  unfold f_Vt_content f_Vt_content_5 f_Vt_content_8 f_Vt_content_20 f_Mo_content f_Mo_content_100 f_Mo_content_37
  rw [lkn l1, reads2, a_ok, if_neg (show ¬ (1 : Int32) = 0 by decide)]
  rcases entB hK o a with ⟨q, hq, rfl, e1, e2, e3⟩ | ⟨S', e1, ⟨x, rfl⟩, e2⟩
  rotate_left
  · rw [e1, a_er, e2, q_c, if_neg (by decide)]
    exact Or.inr ⟨2, _, _, _, _, rfl, rfl, Or.inr rfl, rfl, ivB_made (ivB_seen (ivB_thr h 2) x), rfl⟩
  have he : q + 2 < eNo fks (sIt z) hh := by clear h o v; omega
  rw [e1, a_ok, e2, q_c, if_pos rfl, e3, q_c]
  have hI : ivB K N (t + 1) m D E G (S.u_v_In_seen (nI (q + 2))) (T.u_v_thrown 0) ∧ (S.u_v_In_seen (nI (q + 2))).v_Tp_used = S.v_Tp_used := ⟨ivB_t (ivB_seen (ivB_thr h 0) _), rfl⟩
  have htrM : trM N D fks (sIt z) (T.u_v_thrown 0) := o.2.2.2.2.1.1.1
  have hpM : plM A H (hk N D) B P g0 r (T.u_v_thrown 0) := o.2.2.2.2.1.1.2.1.2.1
  by_cases c : q < kcI fks (sIt z).length hh
  · obtain ⟨k1, k2, -⟩ := kid_in o.1.2.1.2.2.1.1 o.1.2.1.2.2.1.2 hj c
    have hen := eNu_kid (fks := fks) (its := sIt z) (i := hh) c
    have hek := eKd_kid (D := D) (fks := fks) (its := sIt z) (i := hh) c
    have hnod := tB_item o.1 k2
    obtain ⟨o1', o2', o3', o4'⟩ := tB_own o.1 k2
    have hnok := nmr_ok (i := fkI fks hh + q) k2 hm.2.2.2.2.2.2.2.2.2.2.2.2.1
    have hszf := o.1.2.1.2.2.2.2.1
    have hfb := o.1.1.2.2.1.2.2.2.2.2.1
    have hcl := o.1.1.2.2.1.2.2.2.1
    have hac := o.1.1.2.1
    have hfo := qM_isFolder (K := K) (T := T.u_v_thrown 0) v.1.1.1.1 hN v.1.1.2.1 v.2.2.2.2.2.1.1 k2
    have hbg : f_Mo_beginOf K (T.u_v_thrown 0) (nI (fkI fks hh + q)) = some (nI (begI D (sIt z) (fkI fks hh + q)), T.u_v_thrown 0) := qM_beginOf v.1.1.1.1 v.1.1.1.2.2.2.2.2.2.1 hN v.1.1.2.1 v.2.2.2.2.2.1.1 k2
    have hat : (T.u_v_thrown 0).v_at (fkI fks hh + q) = nI (isp (itr (sIt z) (fkI fks hh + q))) := (v.1.1.2.1.2.2.1 _ k1 k2).1
    have hsp := (v.2.2.2.2.2.1.1.2.2.2.2 _ k1 k2).1
    have hM : mIs N D (T.u_v_thrown 0) := v.1.1.1
    have hD : (T.u_v_thrown 0).v_disk = D := v.1.1.1.1
    have hho := v.2.2.2.1
    have hchn := fun s hs x hx => tB_chn (s := s) o.1 k2 hs x hx
    have hrm := fun t ht => (tB_room o.1 (o4' t ht)).2
    have i1 := (cl_isDir (K := K) (S := S.u_v_In_seen (nI (q + 2))) o.1 o.2.1.2.1 o.2.1.2.2.1 hj hd he)
    have hp := cl_place (K := K) (S := S.u_v_In_seen (nI (q + 2))) (n := nmr (fkI fks hh + q)) o.1 o.2.1.2.1 o.2.1.2.2.1 hnok
    have hfbC := fun x hk1 hsz hx hle => cl_fileByte (K := K) (x := x) (S := S.u_v_In_seen (nI (q + 2))) o.1 o.2.1.2.1 o.2.1.2.2.1 hj hd he (by rw [hen]; exact hnok) (by rw [hen]; exact hnod) hk1 hsz (by rw [o1']; exact Nat.le_trans o2' (by decide)) o3' (fun t ht => by rw [o1'] at ht; exact hrm t ht) hx hle
    clear v h o
    rw [if_pos c]
    generalize hjj : fkI fks hh + q = j at *
    have hl4 : j < 4200 := by clear htrM hpM; omega
    have hne : ¬ nI j = -1 := nI_nm1 (by clear htrM hpM; omega)
    have hinj : lf_in (nI j) 4200 := q_in hl4 (by decide)
    have hclj : (nI j).toNatClampNeg = j := nI_clamp (by clear htrM hpM; omega)
    rw [if_neg hne, hfo, q_c]
    by_cases d : o1 D (isp (itr (sIt z) j) + 11) / 16 % 2 = 1
    · have d2 : isDr D (sIt z) j := Or.inr d
      have eC : f_In_fileByte K G (S.u_v_In_seen (nI (q + 2))) (nI (enP N D fks (sIt z) A H (rml A H (fxd A P r g0) (ent D) gl (hk N D)) hh (q + 2))) b = some (-1, S.u_v_In_seen (nI (q + 2))) := by
        unfold f_In_fileByte f_In_fileByte_36
        rw [i1.2, q_c, hen, hp, q_c, i1.1, q_c, hek, cif_t d2, if_pos rfl, if_neg (by decide)]
      rw [eC, q_c, b01_t d2, if_neg (show ¬ nI 1 = 0 by decide)]
      exact Or.inl ⟨_, _, _, _, rfl, rfl, rfl, hI⟩
    have d2 : ¬ isDr D (sIt z) j := fun y => y.elim (by clear htrM hpM; omega) d
    rw [cif_f d2] at hek o1' o2'
    rw [b01_f d2, if_pos (show nI 0 = 0 from rfl)]
    by_cases b0 : b < 0
    · have eC : f_In_fileByte K G (S.u_v_In_seen (nI (q + 2))) (nI (enP N D fks (sIt z) A H (rml A H (fxd A P r g0) (ent D) gl (hk N D)) hh (q + 2))) b = some (-1, S.u_v_In_seen (nI (q + 2))) := by
        unfold f_In_fileByte f_In_fileByte_36
        rw [i1.2, q_c, hen, hp, q_c, i1.1, q_c, hek, if_neg (show ¬ (1 : Nat) = 2 by decide), if_pos rfl, if_pos b0]
      rw [eC, q_c, if_pos b0]
      exact Or.inl ⟨_, _, _, _, rfl, rfl, rfl, hI⟩
    obtain ⟨x, x1, rfl⟩ := nI_of b0
    have hs2 : szI D (sIt z) j = o4 D (isp (itr (sIt z) j) + 28) := (if_neg (by clear htrM hpM; omega)).trans (if_neg d)
    have hs3 := hszf j k2 d2
    have hszN : szN N D (sIt z) (ownL N D fks (sIt z) A H (3 + indN (rcB N D (sIt z) A H)) gl (rml A H (fxd A P r g0) (ent D) gl (hk N D)) j) j = szI D (sIt z) j := cif_f d2
    have hfbe : fbN D (sIt z) j = (szI D (sIt z) j + 1023) / 1024 := rfl
    have eC := hfbC x (by rw [hek]; decide) (by rw [hszN]; clear htrM hpM; omega) x1 (by rw [hszN, o1', hfbe]; clear htrM hpM; omega)
    rw [hszN] at eC
    rw [if_neg b0, q_g hinj, hclj, hat, show (28 : Int32) = nI 28 from rfl, nI_add, rM4 D hD (by clear htrM hpM; omega), q_c, ← hs2, eC, q_c]
    by_cases y : x < szI D (sIt z) j
    rotate_left
    · rw [if_neg y, if_neg (nI_nlt (by clear htrM hpM; omega) x1)]
      exact Or.inl ⟨_, _, _, _, rfl, rfl, rfl, hI⟩
    have hH : 1 ≤ H := by clear htrM hpM; omega
    have hf := hfb j k2 d2
    have hxf : x / 1024 < fbN D (sIt z) j := by rw [hfbe]; clear htrM hpM; omega
    have hxl : x / 1024 < (chI N D (sIt z) j).length * H := Nat.lt_of_lt_of_le hxf hf
    have hdd : x / (1024 * H) = x / 1024 / H := (Nat.div_div_eq_div_mul x 1024 H).symm
    have hql : x / (1024 * H) < (chI N D (sIt z) j).length := by rw [hdd]; exact (Nat.div_lt_iff_lt_mul hH).mpr hxl
    have hmod : x % (1024 * H) = x % 1024 + 1024 * (x / 1024 % H) := Nat.mod_mul
    obtain ⟨w1, w2, w3⟩ := htrM.2.2.2.2.2.2.2.1 j k2
    obtain ⟨g, g1, g2⟩ := qM_walk (K := K) (T := T.u_v_thrown 0) (Nat.le_trans (by decide) hK) hho hN hM w1 w2 w3
    have hc2 := (hcl j k2).2 _ (getD_mem hql)
    have hplc := qM_place (K := K) (N := N) (D := D) (T := ((T.u_v_thrown 0).u_v_chain g).u_v_links (nI (chI N D (sIt z) j).length)) (x := (chI N D (sIt z) j).getD (x / (1024 * H)) 0) hM hc2.1.1
    have hownd : (ownL N D fks (sIt z) A H (3 + indN (rcB N D (sIt z) A H)) gl (rml A H (fxd A P r g0) (ent D) gl (hk N D)) j).getD (x / 1024) 0 = (chL A H gl (chI N D (sIt z) j)).getD (x / 1024) 0 := by
      unfold ownL
      rw [cif_f d2, List.getD_eq_getElem?_getD, List.getElem?_take, if_pos hxf, ← List.getD_eq_getElem?_getD]
    have hbyte := hchn (x / 1024) hxl (x % 1024) (Nat.mod_lt _ (by decide))
    have hcH : (((T.u_v_thrown 0).u_v_chain g).u_v_links (nI (chI N D (sIt z) j).length)).v_c = nI (2 * H) := hpM.2.1
    have hff := hd_facts hho hN
    have hcl3 := hc2.1
    have hmu : ((chI N D (sIt z) j).getD (x / (1024 * H)) 0 - 2) * H + H ≤ hk N D * H := by rw [← Nat.succ_mul]; exact Nat.mul_le_mul_right H (by clear htrM hpM; omega)
    have hm512 : x / 1024 % H < H := Nat.mod_lt _ hH
    rw [if_pos y, if_pos (nI_lt y (by clear htrM hpM; omega)), hbg, q_c, g1, q_b, hcH, show (512 : Int32) = nI 512 from rfl, pk_mul, show 512 * (2 * H) = 1024 * H by omega, q_g (nI_ne0 (by clear htrM hpM; omega) (by clear htrM hpM; omega)), pk_div (a := x) (d := 1024 * H) x1 (by clear htrM hpM; omega) (by clear htrM hpM; omega), q_g (q_in (by clear htrM hpM; omega) (by decide)), nI_clamp (by clear htrM hpM; omega), show (((T.u_v_thrown 0).u_v_chain g).u_v_links (nI (chI N D (sIt z) j).length)).v_chain (x / (1024 * H)) = nI ((chI N D (sIt z) j).getD (x / (1024 * H)) 0) from g2 _ hql, hplc, q_c, hcH, pk_mul, show 512 * (2 * H) = 1024 * H by omega, q_g (nI_ne0 (by clear htrM hpM; omega) (by clear htrM hpM; omega)), pk_rem (a := x) (d := 1024 * H) x1 (by clear htrM hpM; omega) (by clear htrM hpM; omega), nI_add, hac.1, hac.2.1, show 512 * (2 * A + ((chI N D (sIt z) j).getD (x / (1024 * H)) 0 - 2) * (2 * H)) + x % (1024 * H) = 1024 * srB A H (chI N D (sIt z) j) (x / 1024) + x % 1024 from by
      unfold srB
      rw [hmod, ← hdd, show ((chI N D (sIt z) j).getD (x / (1024 * H)) 0 - 2) * (2 * H) = 2 * (((chI N D (sIt z) j).getD (x / (1024 * H)) 0 - 2) * H) from Nat.mul_left_comm _ _ _]
      clear htrM hpM
      omega, rM1 D (T := ((T.u_v_thrown 0).u_v_chain g).u_v_links (nI (chI N D (sIt z) j).length)) hD (by
      unfold srB
      rw [← hdd]
      clear htrM hpM
      omega), q_c, hownd, hbyte]
    exact Or.inl ⟨_, _, _, _, rfl, rfl, rfl, ivB_chain hI.1 g _, rfl⟩
  · have hen := eNu_rec (fks := fks) (its := sIt z) (i := hh) c
    have hek := eKd_rec (D := D) (fks := fks) (its := sIt z) (i := hh) c
    have hnod := tB_rec o.1
    obtain ⟨o1', o2', o3', o4'⟩ := tB_recl o.1
    have h1 := o.1.2.1.2.1.1
    have hn11 : 1 ≤ 11 ∧ 11 ≤ g0 * (8 * r) := by clear o h v htrM hpM hI; omega
    have hrm := fun t ht => (tB_room o.1 (t := t) ht).2
    have i1 := (cl_isDir (K := K) (S := S.u_v_In_seen (nI (q + 2))) o.1 o.2.1.2.1 o.2.1.2.2.1 hj hd he)
    have hp := cl_place (K := K) (S := S.u_v_In_seen (nI (q + 2))) (n := 11) o.1 o.2.1.2.1 o.2.1.2.2.1 hn11
    have hfbC := fun x hx => cl_fileByte (K := K) (x := x) (S := S.u_v_In_seen (nI (q + 2))) o.1 o.2.1.2.1 o.2.1.2.2.1 hj hd he (by rw [hen]; exact hn11) (by rw [hen]; exact hnod) (by rw [hek]; decide) (by rw [o1']; clear o h v htrM hpM hI; omega) (by rw [o1']; exact Nat.le_trans o2' (by decide)) (fun b hb => (o3' b hb).1) (fun t ht => by rw [o1'] at ht; exact hrm (3 + t) (Nat.lt_of_lt_of_le (Nat.add_lt_add_left ht 3) o4')) hx (by rw [Nat.mul_comm]; exact Nat.le_refl _)
    have hrec := o.2.2.2.2.2
    have hus := fun b hb => tB_us o.1 (o3' b hb).2
    obtain ⟨f, y, hrb⟩ := qM_recordBlocks (K := K) (A := A) (H := H) hK2 htrM hpM.1 hpM.2.1 hm.2.2.2.2.2.2.1 (by clear o h v htrM hpM hI; omega)
    clear v h o
    rw [if_neg c, if_pos rfl]
    by_cases b0 : b < 0
    · have eC : f_In_fileByte K G (S.u_v_In_seen (nI (q + 2))) (nI (enP N D fks (sIt z) A H (rml A H (fxd A P r g0) (ent D) gl (hk N D)) hh (q + 2))) b = some (-1, S.u_v_In_seen (nI (q + 2))) := by
        unfold f_In_fileByte f_In_fileByte_36
        rw [i1.2, q_c, hen, hp, q_c, i1.1, q_c, hek, if_neg (show ¬ (1 : Nat) = 2 by decide), if_pos rfl, if_pos b0]
      rw [eC, q_c, if_pos b0]
      exact Or.inl ⟨_, _, _, _, rfl, rfl, rfl, hI⟩
    obtain ⟨x, x1, rfl⟩ := nI_of b0
    rw [if_neg b0, hrb, q_c, show (1024 : Int32) = nI 1024 from rfl, pk_mul, hfbC x x1, q_c, o1']
    by_cases w : x < rcB N D (sIt z) A H * 1024
    rotate_left
    · rw [if_neg w, if_neg (nI_nlt (by clear htrM hpM; omega) x1)]
      exact Or.inl ⟨_, _, _, _, rfl, rfl, rfl, ivB_chain hI.1 f y, rfl⟩
    have hxl : x / 1024 < (recL N D (sIt z) A H gl (rml A H (fxd A P r g0) (ent D) gl (hk N D))).length := by rw [o1']; clear htrM hpM; omega
    have hb2 := o3' _ (getD_mem hxl)
    have hbE := hus _ (getD_mem hxl) (x % 1024) (Nat.mod_lt _ (by decide))
    have hrq : (lSt (T.u_v_thrown 0) f y).v_record (x / 1024) = nI ((recL N D (sIt z) A H gl (rml A H (fxd A P r g0) (ent D) gl (hk N D))).getD (x / 1024) 0) := hrec _ hxl
    rw [if_pos w, if_pos (nI_lt (by clear htrM hpM; omega) (by clear htrM hpM; omega)), pk_rem x1 (by decide) (by decide), pk_div x1 (by decide) (by decide), q_g (q_in (by clear htrM hpM; omega) (by decide)), show (nI (x / 1024)).toNatClampNeg = x / 1024 from nI_clamp (by clear htrM hpM; omega), hrq, pk_mul, nI_add, q_g (q_in (by clear htrM hpM; omega) (by decide)), nI_clamp (by clear htrM hpM; omega), show (lSt (T.u_v_thrown 0) f y).v_fresh = T.v_fresh from rfl, hbE]
    refine Or.inl ⟨_, _, _, _, rfl, ?_, rfl, ivB_chain hI.1 f y, rfl⟩
    rw [ub_and]
    rfl
