/-! about and content of a turned volume. -/
theorem msk_b32 : ∀ i : Fin 64, (4294967295 : Int64).toBitVec.getLsbD i.val = decide (i.val < 32) := by decide
theorem msk_nI {x : Nat} (hx : x < 2 ^ 32) : (nI x).toInt64 &&& 4294967295 = lN x := by
  apply Int64.toBitVec_inj.mp
  rw [Int64.toBitVec_and, Int32.toBitVec_toInt64, q_bv, l_bv]
  apply BitVec.eq_of_getLsbD_eq
  intro i hi
  rw [BitVec.getLsbD_and, BitVec.getLsbD_signExtend, msk_b32 ⟨i, hi⟩]
  by_cases c : i < 32
  · rw [if_pos c, BitVec.getLsbD_ofNat, BitVec.getLsbD_ofNat, show decide ((⟨i, hi⟩ : Fin 64).val < 32) = true from decide_eq_true c, decide_eq_true hi]
    simp
  · rw [show decide ((⟨i, hi⟩ : Fin 64).val < 32) = false from decide_eq_false c, Bool.and_false, BitVec.getLsbD_ofNat]
    have : x.testBit i = false := Nat.testBit_lt_two_pow (Nat.lt_of_lt_of_le hx (Nat.pow_le_pow_right (by decide) (by omega)))
    rw [this, Bool.and_false]
theorem msk_lN {x : Nat} (hx : x < 2 ^ 32) : lN x &&& 4294967295 = lN x := by
  apply Int64.toBitVec_inj.mp
  rw [Int64.toBitVec_and, l_bv]
  apply BitVec.eq_of_getLsbD_eq
  intro i hi
  rw [BitVec.getLsbD_and, msk_b32 ⟨i, hi⟩, BitVec.getLsbD_ofNat]
  by_cases c : i < 32
  · rw [show decide ((⟨i, hi⟩ : Fin 64).val < 32) = true from decide_eq_true c, Bool.and_true]
  · have : x.testBit i = false := Nat.testBit_lt_two_pow (Nat.lt_of_lt_of_le hx (Nat.pow_le_pow_right (by decide) (by omega)))
    rw [this, Bool.and_false, Bool.false_and]
theorem cl_tell {K i e N : Nat} {D : Nat → Int32} {fks : List Nat} {z : SS} {A H B P g0 r to : Nat} {gl : Nat → Nat} {E F : Nat → Int32} {G : CG} {S : CS} {mode size links fi : Nat} {hasT : Bool} {tm : Nat → Nat} {l rm : List Nat} (h : tB N D fks z A H B P g0 r to gl E F) (hG : G.n = N) (hS : S.w_Dk_bytes = E) (hi : i < (sIt z).length) (hd : isDr D (sIt z) i) (he : e < eNo fks (sIt z) i) (hn : 1 ≤ eNu fks (sIt z) i e ∧ eNu fks (sIt z) i e ≤ g0 * (8 * r)) (nd : nodA E (inPos A P (8 * r) (eNu fks (sIt z) i e)) mode size hasT tm links l rm fi) (hmo : mode < 65536) (hsz : size < 2 ^ 32) : f_In_tell K G S (nI (enP N D fks (sIt z) A H (rml A H (fxd A P r g0) (ent D) gl (hk N D)) i e)) (nI 0) = some (if eKd D fks (sIt z) i e = 2 then 1 else 0, S) ∧ f_In_tell K G S (nI (enP N D fks (sIt z) A H (rml A H (fxd A P r g0) (ent D) gl (hk N D)) i e)) (nI 1) = some (if nI mode &&& 128 = 0 then 1 else 0, S) ∧ f_In_tell K G S (nI (enP N D fks (sIt z) A H (rml A H (fxd A P r g0) (ent D) gl (hk N D)) i e)) (nI 5) = some (lN size, S) ∧ ∀ x, 2 ≤ x → x ≤ 4 → f_In_tell K G S (nI (enP N D fks (sIt z) A H (rml A H (fxd A P r g0) (ent D) gl (hk N D)) i e)) (nI x) = some (lN (o4 (inX Zd 0 mode size hasT tm links l rm fi) (4 * x)), S) := by
  have hm := tB_num h
  have hN := hm.2.2.2.2.2.2.2.2.2.2.2.1
  obtain ⟨i1, i2⟩ := cl_isDir (K := K) h hG hS hi hd he
  have hp := cl_place (K := K) h hG hS hn
  have hpos := (tB_eq h hn).2
  unfold f_In_tell
  rw [i2]
  refine ⟨?_, ?_, ?_, fun x x1 x2 => ?_⟩
  · rw [q_c, hp, q_c, if_pos (show nI 0 = 0 from rfl), i1, q_c]
    by_cases c : eKd D fks (sIt z) i e = 2
    · rw [if_pos c, if_pos c, if_neg (by decide)]
    · rw [if_neg c, if_neg c, if_pos rfl]
  · have e2 : o2 E (inPos A P (8 * r) (eNu fks (sIt z) i e)) = mode := by
      rw [← in_mode (mode := mode) (size := size) (links := links) (fi := fi) (hasT := hasT) (tm := tm) (l := l) (rm := rm) hmo]
      exact o2_sh fun k hk0 => by rw [Nat.zero_add]; exact nd.1 k (by omega)
    rw [q_c, hp, q_c, if_neg (show ¬ nI 1 = 0 by decide), if_pos (show nI 1 = 1 from rfl), rV2 E hG hS hN (by omega), q_c, e2]
    by_cases c : nI mode &&& 128 = 0
    · rw [if_pos c, if_pos c]
    · rw [if_neg c, if_neg c]
  · rw [q_c, hp, q_c, if_neg (show ¬ nI 5 = 0 by decide), if_neg (show ¬ nI 5 = 1 by decide), if_pos (show nI 5 = 5 from rfl), show (4 : Int32) = nI 4 from rfl, nI_add, rV4 E hG hS hN (by omega), q_c, nod_4 nd (by decide), in_size hsz, msk_nI hsz]
  · have hno : ∀ c : Nat, c < 100 → x ≠ c → ¬ nI x = nI c := fun c hc y y' => y ((nI_eq (by omega) (by omega)).mp y')
    rw [q_c, hp, q_c, if_neg (show ¬ nI x = 0 from hno 0 (by omega) (by omega)), if_neg (show ¬ nI x = 1 from hno 1 (by omega) (by omega)), if_neg (show ¬ nI x = 5 from hno 5 (by omega) (by omega)), show (4 : Int32) = nI 4 from rfl, pk_mul, nI_add, rV4 E hG hS hN (by omega), q_c, nod_4 nd (by omega), msk_nI (o4_lt _ _)]
theorem md_ro (D : Nat → Int32) (its : List It) (i : Nat) : moN D its i < 65536 ∧ (nI (moN D its i) &&& 128 = 0 ↔ btI D its i % 2 = 1) := by
  unfold moN
  by_cases c : btI D its i % 2 = 1
  · rw [if_pos c]
    by_cases d : isDr D its i
    · rw [cif_t d]; exact ⟨by decide, fun _ => c, fun _ => by decide⟩
    · rw [cif_f d]; exact ⟨by decide, fun _ => c, fun _ => by decide⟩
  · rw [if_neg c]
    by_cases d : isDr D its i
    · rw [cif_t d]; exact ⟨by decide, fun y => absurd y (by decide), fun y => absurd y c⟩
    · rw [cif_f d]; exact ⟨by decide, fun y => absurd y (by decide), fun y => absurd y c⟩
theorem opB_about {K N t m : Nat} {D E : Nat → Int32} {G : CG} {S : CS} {T : MS} (hK : 100000 ≤ K) (h : ivB K N t m D E G S T) (a b : Int32) : rslL (fun e => if e = 0 then 3 else e) (fun e => e = 0 ∨ e = 1 ∨ e = 2) (f_Vt_about K G S a b) (f_Mo_about K T a b) (fun G' S' T' => ivB K N (t + 1) m D E G' S' T' ∧ S'.v_Tp_used = S.v_Tp_used) := by
  obtain ⟨fks, z, A, H, B, P, g0, r, to, gl, hh, o⟩ := ivB_open h
  have hm := tB_num o.1
  have hN := hm.2.2.2.2.2.2.2.2.2.2.2.1
  have hK2 : 20000 ≤ K := Nat.le_trans (by decide) hK
  obtain ⟨E0, G0, S0, v, -⟩ := o.2.2.1
  obtain ⟨l1, l2⟩ := lookB (K := K) o
  have hj := v.2.2.1.1
  have hd := v.2.2.1.2.1
  have hlen := o.1.2.1.2.1.2.1
  have f1 := qM_fails (K := K) (T.u_v_thrown 0) True 3 rfl (by decide)
  have f0 := qM_fails (K := K) (T.u_v_thrown 0) False 3 rfl (by decide)
  rw [b01_t trivial, cif_t trivial] at f1
  rw [b01_f (fun y => y), cif_f (fun y => y)] at f0
  have f1 : f_Mo_fails K (T.u_v_thrown 0) 1 3 = some (1, T.u_v_thrown 3) := f1
  have f0 : f_Mo_fails K (T.u_v_thrown 0) 0 3 = some (0, T.u_v_thrown 0) := f0
  unfold f_Vt_about f_Vt_about_5 f_Vt_about_8 f_Vt_about_18 f_Mo_about f_Mo_about_18 f_Mo_about_23 f_Mo_about_30
  rw [lkn l1, reads2, a_ok, if_neg (show ¬ (1 : Int32) = 0 by decide)]
  rcases entB hK o a with ⟨q, hq, rfl, e1, e2, e3⟩ | ⟨S', e1, ⟨x, rfl⟩, e2⟩
  rotate_left
  · rw [e1, a_er, e2, q_c, if_neg (by decide)]
    exact Or.inr ⟨2, _, _, _, _, rfl, rfl, Or.inr (Or.inr rfl), rfl, ivB_made (ivB_seen (ivB_thr h 2) x), rfl⟩
  have he : q + 2 < eNo fks (sIt z) hh := by clear h o v; omega
  rw [e1, a_ok, e2, q_c, if_pos rfl]
  unfold f_Vt_about_26 f_Vt_about_37
  by_cases b0 : b < 0
  · rw [if_pos b0, if_pos b0, f1, q_c, if_neg (by decide)]
    exact Or.inr ⟨0, _, _, _, _, rfl, rfl, Or.inl rfl, rfl, ivB_made (ivB_seen (ivB_thr h 3) _), rfl⟩
  rw [if_neg b0, if_neg b0]
  by_cases b5 : b ≤ 5
  rotate_left
  · rw [if_neg b5, if_neg b5, f1, q_c, if_neg (by decide)]
    exact Or.inr ⟨0, _, _, _, _, rfl, rfl, Or.inl rfl, rfl, ivB_made (ivB_seen (ivB_thr h 3) _), rfl⟩
  obtain ⟨x, x1, rfl⟩ := nI_of b0
  have hx : x ≤ 5 := Nat.le_of_not_lt fun y => nI_ge (a := 5) y x1 b5
  have hno : ∀ c : Nat, c < 100 → x ≠ c → ¬ nI x = nI c := fun c hc y y' => y ((nI_eq x1 (Nat.lt_trans hc (by decide))).mp y')
  rw [if_pos b5, if_pos b5, if_neg (show ¬ (1 : Int32) = 0 by decide), f0, q_c, if_pos rfl, e3, q_c]
  have hI : ivB K N (t + 1) m D E G (S.u_v_In_seen (nI (q + 2))) (T.u_v_thrown 0) ∧ (S.u_v_In_seen (nI (q + 2))).v_Tp_used = S.v_Tp_used := ⟨ivB_t (ivB_seen (ivB_thr h 0) _), rfl⟩
  have htrM : trM N D fks (sIt z) (T.u_v_thrown 0) := o.2.2.2.2.1.1.1
  have hpM : plM A H (hk N D) B P g0 r (T.u_v_thrown 0) := o.2.2.2.2.1.1.2.1.2.1
  have hx4 : x = 0 ∨ x = 1 ∨ x = 5 ∨ (2 ≤ x ∧ x ≤ 4) := by clear h o v htrM hpM hI; omega
  by_cases c : q < kcI fks (sIt z).length hh
  · obtain ⟨k1, k2, -⟩ := kid_in o.1.2.1.2.2.1.1 o.1.2.1.2.2.1.2 hj c
    have hen := eNu_kid (fks := fks) (its := sIt z) (i := hh) c
    have hek := eKd_kid (D := D) (fks := fks) (its := sIt z) (i := hh) c
    have hnod := tB_item o.1 k2
    obtain ⟨o1', o2', -, -⟩ := tB_own o.1 k2
    have hnok := nmr_ok (i := fkI fks hh + q) k2 hm.2.2.2.2.2.2.2.2.2.2.2.2.1
    have htmo := o.1.2.1.2.2.2.2.2.2.2.2.1
    have hszf := o.1.2.1.2.2.2.2.1
    have hfo := qM_isFolder (K := K) (T := T.u_v_thrown 0) v.1.1.1.1 hN v.1.1.2.1 v.2.2.2.2.2.1.1 k2
    have hat : (T.u_v_thrown 0).v_at (fkI fks hh + q) = nI (isp (itr (sIt z) (fkI fks hh + q))) := (v.1.1.2.1.2.2.1 _ k1 k2).1
    have hsp := (v.2.2.2.2.2.1.1.2.2.2.2 _ k1 k2).1
    have hday := (v.2.2.2.2.2.2.1.2.1 _ k1 k2).2.2.2.1
    have hD : (T.u_v_thrown 0).v_disk = D := v.1.1.1.1
    have htell := fun hsz => cl_tell (K := K) (S := S.u_v_In_seen (nI (q + 2))) o.1 o.2.1.2.1 o.2.1.2.2.1 hj hd he (by rw [hen]; exact hnok) (by rw [hen]; exact hnod) (md_ro _ _ _).1 hsz
    have htu : (T.u_v_thrown 0).v_turned = 1 := o.2.1.2.2.2.2.1
    rw [if_pos c]
    clear v h o
    generalize hjj : fkI fks hh + q = j at *
    have hl4 : j < 4200 := by clear htrM hpM; omega
    have hne : ¬ nI j = -1 := nI_nm1 (by clear htrM hpM; omega)
    have hinj : lf_in (nI j) 4200 := q_in hl4 (by decide)
    have hclj : (nI j).toNatClampNeg = j := nI_clamp (by clear htrM hpM; omega)
    have hsz : szN N D (sIt z) (ownL N D fks (sIt z) A H (3 + indN (rcB N D (sIt z) A H)) gl (rml A H (fxd A P r g0) (ent D) gl (hk N D)) j) j < 2 ^ 32 := by
      unfold szN
      by_cases d : isDr D (sIt z) j
      · rw [cif_t d, o1', cif_t d]
        rw [cif_t d] at o2'
        clear htrM hpM
        omega
      · rw [cif_f d]
        have := hszf j k2 d
        clear htrM hpM
        omega
    obtain ⟨t0, t1, t5, t2⟩ := htell hsz
    rw [if_neg hne]
    rcases hx4 with rfl | rfl | rfl | ⟨g1, g2⟩
    · rw [t0, q_c, if_pos (show nI 0 = 0 from rfl), hfo, q_c, hek]
      by_cases d : isDr D (sIt z) j
      · rw [cif_t d, if_pos rfl, b01_t d, if_neg (show ¬ nI 1 = 0 by decide)]
        exact Or.inl ⟨_, _, _, _, rfl, rfl, rfl, hI⟩
      · rw [cif_f d, if_neg (show ¬ (1 : Nat) = 2 by decide), b01_f d, if_pos (show nI 0 = 0 from rfl)]
        exact Or.inl ⟨_, _, _, _, rfl, rfl, rfl, hI⟩
    · have hl1 := o1_lt D (isp (itr (sIt z) j) + 11)
      have e5 : nI (o1 D (isp (itr (sIt z) j) + 11)) &&& 1 = nI (o1 D (isp (itr (sIt z) j) + 11) % 2) := pk_andN (by clear htrM hpM; omega) 1 rfl
      have hbt : btI D (sIt z) j = o1 D (isp (itr (sIt z) j) + 11) := if_neg (by clear htrM hpM; omega)
      rw [t1, q_c, if_neg (show ¬ nI 1 = 0 by decide), if_pos (show nI 1 = 1 from rfl), q_g hinj, hclj, hat, show (11 : Int32) = nI 11 from rfl, nI_add, rM1 D hD (by clear htrM hpM; omega), q_c, e5, ← hbt]
      by_cases w : btI D (sIt z) j % 2 = 1
      · rw [if_pos ((md_ro D (sIt z) j).2.mpr w), w]
        exact Or.inl ⟨_, _, _, _, rfl, rfl, rfl, hI⟩
      · rw [if_neg (fun y => w ((md_ro D (sIt z) j).2.mp y)), show btI D (sIt z) j % 2 = 0 by clear htrM hpM; omega]
        exact Or.inl ⟨_, _, _, _, rfl, rfl, rfl, hI⟩
    · rw [t5, q_c, if_neg (show ¬ nI 5 = 0 by decide), if_neg (show ¬ nI 5 = 1 by decide), if_pos (show 5 ≤ nI 5 by decide), hfo, q_c]
      unfold szN
      by_cases d : o1 D (isp (itr (sIt z) j) + 11) / 16 % 2 = 1
      · have d2 : isDr D (sIt z) j := Or.inr d
        rw [cif_t d2] at o1' o2'
        rw [cif_t d2, o1', b01_t d2, if_neg (show ¬ nI 1 = 0 by decide), htu, if_neg (show ¬ (1 : Int32) = 0 by decide), qM_folderBlocks hK2 htrM k2, q_c, nI_l (by clear htrM hpM; omega), show (1024 : Int64) = lN 1024 from rfl, lN_mul, Nat.mul_comm 1024]
        exact Or.inl ⟨_, _, _, _, rfl, rfl, rfl, hI⟩
      · have d2 : ¬ isDr D (sIt z) j := fun y => y.elim (by clear htrM hpM; omega) d
        have hs2 : szI D (sIt z) j = o4 D (isp (itr (sIt z) j) + 28) := (if_neg (by clear htrM hpM; omega)).trans (if_neg d)
        have hs3 := hszf j k2 d2
        rw [cif_f d2, b01_f d2, if_pos (show nI 0 = 0 from rfl), q_g hinj, hclj, hat, show (28 : Int32) = nI 28 from rfl, nI_add, rM4 D hD (by clear htrM hpM; omega), q_c, ← hs2, nI_l (by clear htrM hpM; omega)]
        exact Or.inl ⟨_, _, _, _, rfl, rfl, rfl, hI⟩
    · have hw : x = 2 ∨ x = 3 ∨ x = 4 := by clear htrM hpM; omega
      have htm := htmo j k1 k2 x g1 g2
      rw [t2 x g1 g2, q_c, show decide (1 ≤ j) = true from decide_eq_true k1, in_time hw (by clear htrM hpM; omega), if_neg (show ¬ nI x = 0 from hno 0 (by decide) (by clear htrM hpM; omega)), if_neg (show ¬ nI x = 1 from hno 1 (by decide) (by clear htrM hpM; omega)), if_neg (show ¬ 5 ≤ nI x from nI_ge (b := 5) (by clear htrM hpM; omega) (by decide)), show (2 : Int32) = nI 2 from rfl, pk_sub g1, qM_timeOf (Nat.le_trans (by decide) hK) hN hD hl4 hat hsp hday.2.2.1 g1 g2, q_c, msk_lN (by clear htrM hpM; omega)]
      exact Or.inl ⟨_, _, _, _, rfl, rfl, rfl, hI⟩
  · have hen := eNu_rec (fks := fks) (its := sIt z) (i := hh) c
    have hek := eKd_rec (D := D) (fks := fks) (its := sIt z) (i := hh) c
    have hnod := tB_rec o.1
    obtain ⟨o1', o2', -, -⟩ := tB_recl o.1
    have h1 := o.1.2.1.2.1.1
    obtain ⟨t0, t1, t5, t2⟩ := cl_tell (K := K) (S := S.u_v_In_seen (nI (q + 2))) o.1 o.2.1.2.1 o.2.1.2.2.1 hj hd he (by rw [hen]; clear o h v htrM hpM hI; omega) (by rw [hen]; exact hnod) (by decide) (by rw [o1']; clear o h v htrM hpM hI; omega)
    rw [if_neg c, if_pos rfl]
    rcases hx4 with rfl | rfl | rfl | ⟨g1, g2⟩
    · rw [t0, q_c, hek, if_neg (show ¬ (1 : Nat) = 2 by decide), if_neg (show ¬ nI 0 = 1 by decide), if_neg (show ¬ nI 0 = 5 by decide)]
      exact Or.inl ⟨_, _, _, _, rfl, rfl, rfl, hI⟩
    · rw [t1, q_c, if_pos (show nI 33024 &&& 128 = 0 by decide), if_pos (show nI 1 = 1 from rfl)]
      exact Or.inl ⟨_, _, _, _, rfl, rfl, rfl, hI⟩
    · obtain ⟨f, y, hrb⟩ := qM_recordBlocks (K := K) (A := A) (H := H) hK2 htrM hpM.1 hpM.2.1 hm.2.2.2.2.2.2.1 (by clear o h v htrM hpM hI; omega)
      rw [t5, q_c, if_neg (show ¬ nI 5 = 1 by decide), if_pos (show nI 5 = 5 from rfl), hrb, q_c, o1', nI_l (by clear o h v htrM hpM hI; omega), show (1024 : Int64) = lN 1024 from rfl, lN_mul, Nat.mul_comm 1024]
      exact Or.inl ⟨_, _, _, _, rfl, rfl, rfl, ivB_chain hI.1 f y, rfl⟩
    · have hw : x = 2 ∨ x = 3 ∨ x = 4 := by clear o h v htrM hpM hI; omega
      rw [t2 x g1 g2, q_c, in_time0 hw, if_neg (show ¬ nI x = 1 from hno 1 (by decide) (by clear o h v htrM hpM hI; omega)), if_neg (show ¬ nI x = 5 from hno 5 (by decide) (by clear o h v htrM hpM hI; omega))]
      exact Or.inl ⟨_, _, _, _, rfl, rfl, rfl, hI⟩
