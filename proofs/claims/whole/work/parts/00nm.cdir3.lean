/-! A directory, whole, and the scan, in the class. -/
def ksU (ks : Nat → Nat) (i v : Nat) : Nat → Nat := fun j => if j = i then v else ks j
abbrev dcI (N t : Nat) (D E : Nat → Int32) (mp ks kcs : Nat → Nat) (z : SS) (G : CG) (S : CS) : Prop := rcI D mp (sIt z) S ∧ tkR N S.w_Rd_taken (sTk z) ∧ S.v_Tr_label = lbC mp (sLb z) ∧ (∀ j, j < (sIt z).length → S.w_Tr_kids j = nI (ks j) ∧ S.w_Tr_kidCount j = nI (kcs j)) ∧ gC N t z G ∧ zOk N z ∧ cinD N D z ∧ mpZ N D E mp z
theorem qC_readDir {K N t m i mv : Nat} {G : CG} {D E : Nat → Int32} {gl ks kcs : Nat → Nat} {z : SS} {S : CS} (hK : 20000 ≤ K) (hS : cIs N E G S) (hH : agH D E) (hA : agC N D E (gF mv gl)) (h : hdOk N D) (hN : N ≤ 1024) (hcp : capOk N D m) (hm : m ≤ 4000) (hmv : mv = 0 ∨ mv = 1) (hg : mv = 1 → ∀ c, c < N / 2 + 2 → S.w_Tb_goal c = nI (gl c)) (hgl : ∀ c, gl c < 2 ^ 31) (hI : dcI N t D E (mpP D (gF mv gl)) ks kcs z G S) (hii : i < (sIt z).length) (hks : ∀ j, i ≤ j → ks j = 0 ∧ kcs j = 0) : stC (dirS N D i z) (f_Rd_readDirectory K G S (nI i) (nI mv)) (fun z' G' S' => coC S' = coC S ∧ dcI N t D E (mpP D (gF mv gl)) (ksU ks i (sIt z).length) (ksU kcs i ((sIt z').length - (sIt z).length)) z' G' S' ∧ ext z z') (fun G' S' => coC S' = coC S ∧ gOk N G' ∧ gLim t G') := by
  obtain ⟨v1, v3, v4, v5, hgc, hz, hci, hmz⟩ := hI
  have hC := (hd_facts h hN).1
  have hk5 := hd_facts h hN
  obtain ⟨f1, f2⟩ := qC_followW (K := K) (x := begI D (sIt z) i) (by omega) hS hH h hN v3 (begI_lt D _ i)
  unfold f_Rd_readDirectory dirS
  rw [qC_first hgc.1 v1 hgc.2.2.1 hii, q_c]
  cases hfo : fo N D (begI D (sIt z) i) (sTk z) with
  | none =>
    obtain ⟨a, b, f3⟩ := f2 hfo
    rw [f3, q_c, if_pos (show -nI 1 = -1 from rfl)]
    exact stC_e rfl ⟨rfl, hgc.1, hgc.2.1⟩
  | some ch =>
    obtain ⟨a1, a2, a3, a4, a5, -, -⟩ := fol_spec _ _ _ _ hfo
    have c4 : ∀ y ∈ ch, isCl N D y := fun y hy => (a5 y hy).1
    have c5 : ∀ y ∈ ch, y ∉ sTk z := fun y hy => (a5 y hy).2.1
    have c6 : ∀ y ∈ ch, isCl N D y ∧ ent D y ≠ 0 := fun y hy => ⟨(a5 y hy).1, (a5 y hy).2.2⟩
    have hne : ¬ nI ch.length = -1 := by
      intro w
      have w := congrArg Int32.toInt w
      rw [nI_toInt (by omega), show (-1 : Int32).toInt = -1 from by decide] at w
      omega
    rw [f1 ch hfo, q_c, if_neg hne]
    have hgoal : ∃ f, f_Rd_readDirectory_27 K K (nI i) (nI mv) (nI ch.length) 0 G (chC_road S ch) = f_Rd_readDirectory_91 K (nI i) (nI ch.length) G ((chC_road S ch).u_w_Rd_road f) ∧ ∀ q, q < ch.length → f q = nI ((ch.map (gF mv gl)).getD q 0) := by
      rcases hmv with e | e
      · subst e
        obtain ⟨k, rfl⟩ : ∃ m, K = m + 1 := ⟨K - 1, by omega⟩
        refine ⟨(chC_road S ch).w_Rd_road, ?_, fun q hq => ?_⟩
        · rw [f_Rd_readDirectory_27, if_pos (show nI 0 = 0 from rfl)]
          rfl
        · show mkL S.w_Rd_road ch q = _
          rw [mkL_get hq, List.getD_eq_getElem?_getD, List.getD_eq_getElem?_getD, List.getElem?_map, List.getElem?_eq_getElem hq]
          show nI ch[q] = nI (gF 0 gl ch[q])
          unfold gF
          rw [if_neg (fun w => by have := w.1; omega)]
      · exact qC_road27 (S := chC_road S ch) (by omega) hS.1 hN (Or.inr e) (hg e) hgl (fun x hx => by have := c4 x hx; omega) a1 (fun q hq => mkL_get hq)
    obtain ⟨f, g1, g2⟩ := hgoal
    rw [g1]
    show stC (dirC N D i ch z) _ _ _
    -- the state at the first slot
    have hbk : f_Tr_beginKids K G ((chC_road S ch).u_w_Rd_road f) (nI i) = some (((chC_road S ch).u_w_Rd_road f).u_w_Tr_kids (upd S.w_Tr_kids i S.v_Tr_count)) := by
      unfold f_Tr_beginKids
      rw [qC_has (S := (chC_road S ch).u_w_Rd_road f) (n := (sIt z).length) v1.1 (by have := hz.1.2.1; omega) (by have := hz.1.2.1; omega), b01_t hii, q_c, if_neg (by decide), q_g (q_in (by have := hgc.1.2.1; have := hgc.2.2.1; omega) (by have := hgc.1.2.1; have := hgc.1.2.2; omega)), q_l, nI_clamp (by have := hz.1.2.1; omega)]
      rfl
    unfold f_Rd_readDirectory_91 f_Tb_slotsOfCluster
    rw [hbk, q_b, q_l, q_c, q_l]
    generalize hS1 : (((chC_road S ch).u_w_Rd_road f).u_w_Tr_kids (upd S.w_Tr_kids i S.v_Tr_count)).u_v_Rd_parts 0 = S1
    have b1 : coC S1 = coC S := by rw [← hS1]; rfl
    have bS : cIs N E G S1 := cIs_co b1 rfl hS
    have bI : rcI D (mpP D (gF mv gl)) (sIt z) S1 := by rw [← hS1]; exact v1
    have bt : tkR N S1.w_Rd_taken (ch ++ sTk z) := by rw [← hS1]; exact tkR_app v3
    have bl : S1.v_Tr_label = lbC (mpP D (gF mv gl)) (sLb z) := by rw [← hS1]; exact v4
    have br : S1.w_Rd_road = f := by rw [← hS1]; rfl
    have bp : S1.v_Rd_parts = 0 := by rw [← hS1]; rfl
    have bk : ∀ j, j < (sIt z).length → S1.w_Tr_kids j = nI (ksU ks i (sIt z).length j) ∧ S1.w_Tr_kidCount j = nI (kcs j) := by
      intro j hj
      rw [← hS1]
      show upd S.w_Tr_kids i S.v_Tr_count j = _ ∧ S.w_Tr_kidCount j = _
      unfold ksU
      by_cases w : j = i
      · rw [w, pk_us, if_pos rfl, v1.1]
        exact ⟨rfl, (v5 i hii).2⟩
      · rw [pk_un w, if_neg w]
        exact v5 j hj
    have e16 : nI ch.length * (S1.v_Tb_cluster * 16) = nI (ch.length * 16 * hc D) := by
      rw [bS.2.2.2.1, (agH_n hH).1, show (16 : Int32) = nI 16 from rfl, pk_mul, pk_mul, Nat.mul_comm (hc D) 16, Nat.mul_assoc]
    rw [e16]
    have hz1 : zOk N ((sIt z, sLb z), ch ++ sTk z, pe0) := ⟨hz.1, pe0_ok, hz.2.2⟩
    have htot : ch.length * 16 * hc D < 2 ^ 20 ∧ ch.length * 16 * hc D + 2 < K := by
      have k3 := (hd_facts h hN).2.2.2.2.2.2.2.2.2.2.2.2.2.1
      have hnd := nd_cl (k := hk N D) a4 c4
      have := Nat.mul_le_mul_right (hc D) hnd
      rw [show ch.length * 16 * hc D = 16 * (ch.length * hc D) by rw [Nat.mul_comm ch.length 16, Nat.mul_assoc]]
      omega
    obtain ⟨q1, q2⟩ := qC_dirL (K := K) (t := t) (m := m) (i := i) (fk := (sIt z).length) (g := gF mv gl) (ks := ksU ks i (sIt z).length) (kcs := kcs) (tk0 := sTk z) (ch := ch) (S0 := S1) (by omega) bS hH hA h hN hcp hm c6 a4 a1 c5 hz.1.1 (by unfold ksU; rw [if_pos rfl]) (fun j hj => by unfold ksU; rw [if_neg (by omega)]; exact hks j (by omega)) (fun q hq => by rw [br]; exact g2 q hq) (ch.length * 16 * hc D) 0 K ((sIt z, sLb z), ch ++ sTk z, pe0) G S1 (by omega) (by omega) ⟨⟨rfl, rfl⟩, ⟨bI, ⟨bp, fun w => absurd rfl w⟩, bt, bl, bk⟩, hgc, hz1, cinD_in hci, hmz, hii, Nat.le_refl _⟩
    unfold dirC
    cases hdl : dirL N D i (sIt z).length ch (ch.length * 16 * hc D) 0 ((sIt z, sLb z), ch ++ sTk z, pe0) with
    | error e1 =>
      obtain ⟨G2, S2, r1, r2, r3⟩ := q2 e1 hdl
      rw [exb_e, show (0 : Int32) = nI 0 from rfl, r1]
      exact stC_e rfl ⟨r2.trans b1, r3⟩
    | ok x =>
      obtain ⟨s1, z1⟩ := x
      obtain ⟨G2, S2, r1, r2, r3, r4, r5, r6, r7, r8, r9⟩ := q1 s1 z1 hdl
      obtain ⟨j1, j2, j3, j4, j5, j6⟩ := dirL_ok h hN c4 a4 (by omega) c5 hcp hm _ _ _ _ _ (by omega) hz1 (cinD_in hci) hii hdl
      rw [exb_o, show (0 : Int32) = nI 0 from rfl, r1]
      have hext : ext z z1 := ext_tr (b := ((sIt z, sLb z), ch ++ sTk z, pe0)) ⟨⟨[], (List.append_nil _).symm⟩, ⟨ch, rfl⟩⟩ j3
      have hl1 := j1.1.2.1
      have hki := (r3.2.2.2.2 i r8).1
      have hek : f_Tr_endKids K G2 S2 (nI i) = some (S2.u_w_Tr_kidCount (upd S2.w_Tr_kidCount i (nI ((sIt z1).length - (sIt z).length)))) := by
        unfold f_Tr_endKids
        have hin : ∀ n, n = G2.l_parent → lf_in (nI i) n := fun n hn => by
          have := r4.2.2.1
          have := r4.1.2.2
          rw [hn]; exact q_in (by omega) (by omega)
        rw [qC_has r3.1.1 (by omega) (by omega), b01_t r8, q_c, if_neg (by decide), q_g (hin _ r4.1.2.1.2.2.2.2.2.2.1), q_g (hin _ r4.1.2.1.2.2.2.2.2.2.2.1), q_l, nI_clamp (by omega), r3.1.1, hki]
        unfold ksU
        rw [if_pos rfl, pk_sub r9]
      unfold f_Rd_readDirectory_288 f_Rd_readDirectory_313 f_Rd_readDirectory_317 dirE
      rw [hek, q_b]
      generalize hS3 : S2.u_w_Tr_kidCount (upd S2.w_Tr_kidCount i (nI ((sIt z1).length - (sIt z).length))) = S3
      have d1 : coC S3 = coC S := by rw [← hS3]; exact r2.1.trans b1
      have d2 : S3.v_Rd_parts = S2.v_Rd_parts := by rw [← hS3]; rfl
      have bad : stC (.error 4) (some ((4 : Int32), G2, S3)) (fun z' G' S' => coC S' = coC S ∧ dcI N t D E (mpP D (gF mv gl)) (ksU ks i (sIt z).length) (ksU kcs i ((sIt z').length - (sIt z).length)) z' G' S' ∧ ext z z') (fun G' S' => coC S' = coC S ∧ gOk N G' ∧ gLim t G') := stC_e rfl ⟨d1, r4.1, r4.2.1⟩
      have good : stC (.ok z1) (some ((0 : Int32), G2, S3)) (fun z' G' S' => coC S' = coC S ∧ dcI N t D E (mpP D (gF mv gl)) (ksU ks i (sIt z).length) (ksU kcs i ((sIt z').length - (sIt z).length)) z' G' S' ∧ ext z z') (fun G' S' => coC S' = coC S ∧ gOk N G' ∧ gLim t G') := by
        refine stC_o rfl ⟨d1, ⟨by rw [← hS3]; exact r3.1, by rw [← hS3]; exact r3.2.2.1, by rw [← hS3]; exact r3.2.2.2.1, fun j hj => ?_, r4, j1, cinD_out h hN c4 j5 j2 j3, r7⟩, hext⟩
        rw [← hS3]
        show S2.w_Tr_kids j = _ ∧ upd S2.w_Tr_kidCount i _ j = _
        refine ⟨(r3.2.2.2.2 j hj).1, ?_⟩
        unfold ksU
        by_cases w : j = i
        · rw [w, pk_us, if_pos rfl]
        · rw [pk_un w, if_neg w]
          exact (r3.2.2.2.2 j hj).2
      rw [d2, r3.2.1.1]
      have e3 := j1.2.1.1
      by_cases w1 : pM (sPe z1) = 0
      · rw [if_pos w1, if_pos (show nI 0 = 0 from rfl)]
        by_cases w2 : i = 0
        · rw [if_pos (show nI i = 0 by rw [w2]; rfl), cif_t ⟨w1, Or.inl w2⟩]
          exact good
        · rw [if_neg (show ¬ nI i = 0 from nI_ne0 (by omega) (by omega))]
          by_cases w3 : 2 ≤ s1
          · rw [if_pos (show 2 ≤ nI s1 from nI_le (a := 2) w3 (by omega)), cif_t ⟨w1, Or.inr w3⟩]
            exact good
          · rw [if_neg (show ¬ 2 ≤ nI s1 from nI_ge (b := 2) (by omega) (by decide)), cif_f (fun y => by omega)]
            exact bad
      · rw [if_neg w1, if_neg (show ¬ nI (pM (sPe z1) + pL (sPe z1)) = 0 from nI_ne0 (by omega) (by omega)), cif_f (fun y => w1 y.1)]
        exact bad
