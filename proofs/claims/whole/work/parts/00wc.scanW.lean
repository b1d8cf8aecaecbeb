/-! Reading a tree whose clusters have moved: only goals of clusters that are there count. -/
theorem qC_goalW {K N c : Nat} {G : CG} {S : CS} {gl : Nat → Nat} (hG : G.n = N) (hN : N ≤ 1024) (hg : S.w_Tb_goal c = nI (gl c)) (hc : c < N / 2 + 2) : f_Tb_goalOf K G S (nI c) = some (nI (gl c), S) := by
  unfold f_Tb_goalOf
  rw [if_neg (nI_pos (by omega)), hG, if_neg (nI_ge hc (by omega)), q_g (q_in hc (by omega)), nI_clamp (by omega), hg]
theorem qC_road27W {K N i mv k0 : Nat} {G : CG} {S : CS} {gl : Nat → Nat} {ch : List Nat} (hK : 1000 ≤ K) (hG : G.n = N) (hN : N ≤ 1024) (hmv : mv = 0 ∨ mv = 1) (hg : ∀ c, 2 ≤ c → c < k0 + 2 → S.w_Tb_goal c = nI (gl c)) (hgl : ∀ c, gl c < 2 ^ 31) (hcl : ∀ x ∈ ch, x < N / 2 + 2 ∧ 2 ≤ x ∧ x < k0 + 2) (hl : ch.length ≤ N / 2 + 2) (hr : ∀ q, q < ch.length → S.w_Rd_road q = nI (ch.getD q 0)) : ∃ f, f_Rd_readDirectory_27 K K (nI i) (nI mv) (nI ch.length) 0 G S = f_Rd_readDirectory_91 K (nI i) (nI ch.length) G (S.u_w_Rd_road f) ∧ ∀ q, q < ch.length → f q = nI ((ch.map (gF mv gl)).getD q 0) := by
  have hmap : ∀ q, q < ch.length → (ch.map (gF mv gl)).getD q 0 = gF mv gl (ch.getD q 0) := fun q hq => by
    rw [List.getD_eq_getElem?_getD, List.getD_eq_getElem?_getD, List.getElem?_map, List.getElem?_eq_getElem hq]
    rfl
  rcases hmv with e | e
  · subst e
    obtain ⟨k, rfl⟩ : ∃ m, K = m + 1 := ⟨K - 1, by omega⟩
    refine ⟨S.w_Rd_road, ?_, fun q hq => ?_⟩
    · rw [f_Rd_readDirectory_27, if_pos (show nI 0 = 0 from rfl)]
      rfl
    · rw [hr q hq, hmap q hq]
      unfold gF
      rw [if_neg (fun w => by have := w.1; omega)]
  · subst e
    have key := lp (F := fun k q T => f_Rd_readDirectory_27 K k (nI i) (nI 1) (nI ch.length) (nI q) G T) (Inv := fun q T => ∃ f, T = S.u_w_Rd_road f ∧ ∀ r, r < ch.length → f r = nI (if r < q then (ch.map (gF 1 gl)).getD r 0 else ch.getD r 0)) (Post := fun r => ∃ f, r = f_Rd_readDirectory_91 K (nI i) (nI ch.length) G (S.u_w_Rd_road f) ∧ ∀ q, q < ch.length → f q = nI ((ch.map (gF 1 gl)).getD q 0)) (n := ch.length) ?_ ?_ ch.length 0 K S (by omega) (by omega) ?_
    · exact key
    · intro q T k hq hI
      left
      obtain ⟨f, rfl, hf⟩ := hI
      have hx : ch.getD q 0 < N / 2 + 2 := (hcl _ (getD_mem hq)).1
      have hfq := hf q hq
      rw [if_neg (Nat.lt_irrefl _)] at hfq
      have hin : lf_in (nI q) (G.n / 2 + 2) := by rw [hG]; exact q_in (by omega) (by omega)
      have hgo : f_Tb_goalOf K G (S.u_w_Rd_road f) (nI (ch.getD q 0)) = some (nI (gl (ch.getD q 0)), S.u_w_Rd_road f) := qC_goalW (S := S.u_w_Rd_road f) hG hN (hg _ (hcl _ (getD_mem hq)).2.1 (hcl _ (getD_mem hq)).2.2) hx
      have hcl' : (nI q).toNatClampNeg = q := nI_clamp (by omega)
      refine ⟨S.u_w_Rd_road (upd f q (nI (gF 1 gl (ch.getD q 0)))), ⟨_, rfl, fun r hr' => ?_⟩, ?_⟩
      · by_cases w : r = q
        · rw [w, pk_us, if_pos (by omega), hmap q hq]
        · rw [pk_un w, hf r hr']
          by_cases y : r < q
          · rw [if_pos y, if_pos (by omega)]
          · rw [if_neg y, if_neg (by omega)]
      · show f_Rd_readDirectory_27 K (k + 1) (nI i) (nI 1) (nI ch.length) (nI q) G (S.u_w_Rd_road f) = f_Rd_readDirectory_27 K k (nI i) (nI 1) (nI ch.length) (nI (q + 1)) G _
        rw [f_Rd_readDirectory_27, if_neg (show ¬ nI 1 = 0 by decide), if_neg (nI_ge hq (by omega))]
        unfold f_Rd_readDirectory_84
        have e1 : (S.u_w_Rd_road f).w_Rd_road = f := rfl
        simp only [q_g hin]
        rw [hcl', e1, hfq, hgo, q_c]
        unfold gF
        by_cases w : gl (ch.getD q 0) = 0
        · rw [w, if_pos (show nI 0 = 0 from rfl), q_l, q_l, nI_1, e1, hfq, if_neg (fun y => y.2 rfl)]
          rfl
        · have := hgl (ch.getD q 0)
          rw [if_neg (nI_ne0 (by omega) (by omega)), e1, hfq, hgo, q_c, q_l, q_l, nI_1, if_pos ⟨rfl, w⟩]
          rfl
    · intro T k hI
      obtain ⟨f, rfl, hf⟩ := hI
      refine ⟨f, ?_, fun q hq => ?_⟩
      · show f_Rd_readDirectory_27 K (k + 1) (nI i) (nI 1) (nI ch.length) (nI ch.length) G (S.u_w_Rd_road f) = _
        rw [f_Rd_readDirectory_27, if_neg (show ¬ nI 1 = 0 by decide), if_pos (Int32.le_refl _)]
      · rw [hf q hq, if_pos hq]
    · exact ⟨S.w_Rd_road, rfl, fun r hr' => by rw [if_neg (Nat.not_lt_zero _)]; exact hr r hr'⟩
theorem qC_readDirW {K N t m i mv : Nat} {G : CG} {D E : Nat → Int32} {gl ks kcs : Nat → Nat} {z : SS} {S : CS} (hK : 20000 ≤ K) (hS : cIs N E G S) (hH : agH D E) (hA : agC N D E (gF mv gl)) (h : hdOk N D) (hN : N ≤ 1024) (hcp : capOk N D m) (hm : m ≤ 4000) (hmv : mv = 0 ∨ mv = 1) (hg : mv = 1 → ∀ c, 2 ≤ c → c < hk N D + 2 → S.w_Tb_goal c = nI (gl c)) (hgl : ∀ c, gl c < 2 ^ 31) (hI : dcI N t D E (mpP D (gF mv gl)) ks kcs z G S) (hii : i < (sIt z).length) (hks : ∀ j, i ≤ j → ks j = 0 ∧ kcs j = 0) : stC (dirS N D i z) (f_Rd_readDirectory K G S (nI i) (nI mv)) (fun z' G' S' => coC S' = coC S ∧ dcI N t D E (mpP D (gF mv gl)) (ksU ks i (sIt z).length) (ksU kcs i ((sIt z').length - (sIt z).length)) z' G' S' ∧ ext z z') (fun G' S' => coC S' = coC S ∧ gOk N G' ∧ gLim t G') := by
  obtain ⟨v1, v3, v4, v5, hgc, hz, hci, hmz⟩ := hI
  have hC := (hd_facts h hN).1
  have hk5 := hd_facts h hN
  obtain ⟨f1, f2⟩ := qC_followW (K := K) (x := begI D (sIt z) i) (by omega) hS hH h hN v3 (begI_lt D _ i)
  unfold f_Rd_readDirectory dirS
  rw [qC_first hgc.1 v1 hgc.2.2.1 hii, q_c]
  cases hfo : fo N D (begI D (sIt z) i) (sTk z) with
  | none =>
    obtain ⟨a, b, f3⟩ := f2 hfo
    rw [f3, q_c, if_pos (show -nI 1 = -1 from rfl)]
    exact stC_e rfl ⟨rfl, hgc.1, hgc.2.1⟩
  | some ch =>
    obtain ⟨a1, a2, a3, a4, a5, -, -⟩ := fol_spec _ _ _ _ hfo
    have c4 : ∀ y ∈ ch, isCl N D y := fun y hy => (a5 y hy).1
    have c5 : ∀ y ∈ ch, y ∉ sTk z := fun y hy => (a5 y hy).2.1
    have c6 : ∀ y ∈ ch, isCl N D y ∧ ent D y ≠ 0 := fun y hy => ⟨(a5 y hy).1, (a5 y hy).2.2⟩
    have hne : ¬ nI ch.length = -1 := by
      intro w
      have w := congrArg Int32.toInt w
      rw [nI_toInt (by omega), show (-1 : Int32).toInt = -1 from by decide] at w
      omega
    rw [f1 ch hfo, q_c, if_neg hne]
    have hgoal : ∃ f, f_Rd_readDirectory_27 K K (nI i) (nI mv) (nI ch.length) 0 G (chC_road S ch) = f_Rd_readDirectory_91 K (nI i) (nI ch.length) G ((chC_road S ch).u_w_Rd_road f) ∧ ∀ q, q < ch.length → f q = nI ((ch.map (gF mv gl)).getD q 0) := by
      rcases hmv with e | e
      · subst e
        obtain ⟨k, rfl⟩ : ∃ m, K = m + 1 := ⟨K - 1, by omega⟩
        refine ⟨(chC_road S ch).w_Rd_road, ?_, fun q hq => ?_⟩
        · rw [f_Rd_readDirectory_27, if_pos (show nI 0 = 0 from rfl)]
          rfl
        · show mkL S.w_Rd_road ch q = _
          rw [mkL_get hq, List.getD_eq_getElem?_getD, List.getD_eq_getElem?_getD, List.getElem?_map, List.getElem?_eq_getElem hq]
          show nI ch[q] = nI (gF 0 gl ch[q])
          unfold gF
          rw [if_neg (fun w => by have := w.1; omega)]
      · exact qC_road27W (k0 := hk N D) (S := chC_road S ch) (by omega) hS.1 hN (Or.inr e) (hg e) hgl (fun x hx => by have := c4 x hx; omega) a1 (fun q hq => mkL_get hq)
    obtain ⟨f, g1, g2⟩ := hgoal
    rw [g1]
    show stC (dirC N D i ch z) _ _ _
    -- the state at the first slot
    have hbk : f_Tr_beginKids K G ((chC_road S ch).u_w_Rd_road f) (nI i) = some (((chC_road S ch).u_w_Rd_road f).u_w_Tr_kids (upd S.w_Tr_kids i S.v_Tr_count)) := by
      unfold f_Tr_beginKids
      rw [qC_has (S := (chC_road S ch).u_w_Rd_road f) (n := (sIt z).length) v1.1 (by have := hz.1.2.1; omega) (by have := hz.1.2.1; omega), b01_t hii, q_c, if_neg (by decide), q_g (q_in (by have := hgc.1.2.1; have := hgc.2.2.1; omega) (by have := hgc.1.2.1; have := hgc.1.2.2; omega)), q_l, nI_clamp (by have := hz.1.2.1; omega)]
      rfl
    unfold f_Rd_readDirectory_91 f_Tb_slotsOfCluster
    rw [hbk, q_b, q_l, q_c, q_l]
    generalize hS1 : (((chC_road S ch).u_w_Rd_road f).u_w_Tr_kids (upd S.w_Tr_kids i S.v_Tr_count)).u_v_Rd_parts 0 = S1
    have b1 : coC S1 = coC S := by rw [← hS1]; rfl
    have bS : cIs N E G S1 := cIs_co b1 rfl hS
    have bI : rcI D (mpP D (gF mv gl)) (sIt z) S1 := by rw [← hS1]; exact v1
    have bt : tkR N S1.w_Rd_taken (ch ++ sTk z) := by rw [← hS1]; exact tkR_app v3
    have bl : S1.v_Tr_label = lbC (mpP D (gF mv gl)) (sLb z) := by rw [← hS1]; exact v4
    have br : S1.w_Rd_road = f := by rw [← hS1]; rfl
    have bp : S1.v_Rd_parts = 0 := by rw [← hS1]; rfl
    have bk : ∀ j, j < (sIt z).length → S1.w_Tr_kids j = nI (ksU ks i (sIt z).length j) ∧ S1.w_Tr_kidCount j = nI (kcs j) := by
      intro j hj
      rw [← hS1]
      show upd S.w_Tr_kids i S.v_Tr_count j = _ ∧ S.w_Tr_kidCount j = _
      unfold ksU
      by_cases w : j = i
      · rw [w, pk_us, if_pos rfl, v1.1]
        exact ⟨rfl, (v5 i hii).2⟩
      · rw [pk_un w, if_neg w]
        exact v5 j hj
    have e16 : nI ch.length * (S1.v_Tb_cluster * 16) = nI (ch.length * 16 * hc D) := by
      rw [bS.2.2.2.1, (agH_n hH).1, show (16 : Int32) = nI 16 from rfl, pk_mul, pk_mul, Nat.mul_comm (hc D) 16, Nat.mul_assoc]
    rw [e16]
    have hz1 : zOk N ((sIt z, sLb z), ch ++ sTk z, pe0) := ⟨hz.1, pe0_ok, hz.2.2⟩
    have htot : ch.length * 16 * hc D < 2 ^ 20 ∧ ch.length * 16 * hc D + 2 < K := by
      have k3 := (hd_facts h hN).2.2.2.2.2.2.2.2.2.2.2.2.2.1
      have hnd := nd_cl (k := hk N D) a4 c4
      have := Nat.mul_le_mul_right (hc D) hnd
      rw [show ch.length * 16 * hc D = 16 * (ch.length * hc D) by rw [Nat.mul_comm ch.length 16, Nat.mul_assoc]]
      omega
    obtain ⟨q1, q2⟩ := qC_dirL (K := K) (t := t) (m := m) (i := i) (fk := (sIt z).length) (g := gF mv gl) (ks := ksU ks i (sIt z).length) (kcs := kcs) (tk0 := sTk z) (ch := ch) (S0 := S1) (by omega) bS hH hA h hN hcp hm c6 a4 a1 c5 hz.1.1 (by unfold ksU; rw [if_pos rfl]) (fun j hj => by unfold ksU; rw [if_neg (by omega)]; exact hks j (by omega)) (fun q hq => by rw [br]; exact g2 q hq) (ch.length * 16 * hc D) 0 K ((sIt z, sLb z), ch ++ sTk z, pe0) G S1 (by omega) (by omega) ⟨⟨rfl, rfl⟩, ⟨bI, ⟨bp, fun w => absurd rfl w⟩, bt, bl, bk⟩, hgc, hz1, cinD_in hci, hmz, hii, Nat.le_refl _⟩
    unfold dirC
    cases hdl : dirL N D i (sIt z).length ch (ch.length * 16 * hc D) 0 ((sIt z, sLb z), ch ++ sTk z, pe0) with
    | error e1 =>
      obtain ⟨G2, S2, r1, r2, r3⟩ := q2 e1 hdl
      rw [exb_e, show (0 : Int32) = nI 0 from rfl, r1]
      exact stC_e rfl ⟨r2.trans b1, r3⟩
    | ok x =>
      obtain ⟨s1, z1⟩ := x
      obtain ⟨G2, S2, r1, r2, r3, r4, r5, r6, r7, r8, r9⟩ := q1 s1 z1 hdl
      obtain ⟨j1, j2, j3, j4, j5, j6⟩ := dirL_ok h hN c4 a4 (by omega) c5 hcp hm _ _ _ _ _ (by omega) hz1 (cinD_in hci) hii hdl
      rw [exb_o, show (0 : Int32) = nI 0 from rfl, r1]
      have hext : ext z z1 := ext_tr (b := ((sIt z, sLb z), ch ++ sTk z, pe0)) ⟨⟨[], (List.append_nil _).symm⟩, ⟨ch, rfl⟩⟩ j3
      have hl1 := j1.1.2.1
      have hki := (r3.2.2.2.2 i r8).1
      have hek : f_Tr_endKids K G2 S2 (nI i) = some (S2.u_w_Tr_kidCount (upd S2.w_Tr_kidCount i (nI ((sIt z1).length - (sIt z).length)))) := by
        unfold f_Tr_endKids
        have hin : ∀ n, n = G2.l_parent → lf_in (nI i) n := fun n hn => by
          have := r4.2.2.1
          have := r4.1.2.2
          rw [hn]; exact q_in (by omega) (by omega)
        rw [qC_has r3.1.1 (by omega) (by omega), b01_t r8, q_c, if_neg (by decide), q_g (hin _ r4.1.2.1.2.2.2.2.2.2.1), q_g (hin _ r4.1.2.1.2.2.2.2.2.2.2.1), q_l, nI_clamp (by omega), r3.1.1, hki]
        unfold ksU
        rw [if_pos rfl, pk_sub r9]
      unfold f_Rd_readDirectory_288 f_Rd_readDirectory_313 f_Rd_readDirectory_317 dirE
      rw [hek, q_b]
      generalize hS3 : S2.u_w_Tr_kidCount (upd S2.w_Tr_kidCount i (nI ((sIt z1).length - (sIt z).length))) = S3
      have d1 : coC S3 = coC S := by rw [← hS3]; exact r2.1.trans b1
      have d2 : S3.v_Rd_parts = S2.v_Rd_parts := by rw [← hS3]; rfl
      have bad : stC (.error 4) (some ((4 : Int32), G2, S3)) (fun z' G' S' => coC S' = coC S ∧ dcI N t D E (mpP D (gF mv gl)) (ksU ks i (sIt z).length) (ksU kcs i ((sIt z').length - (sIt z).length)) z' G' S' ∧ ext z z') (fun G' S' => coC S' = coC S ∧ gOk N G' ∧ gLim t G') := stC_e rfl ⟨d1, r4.1, r4.2.1⟩
      have good : stC (.ok z1) (some ((0 : Int32), G2, S3)) (fun z' G' S' => coC S' = coC S ∧ dcI N t D E (mpP D (gF mv gl)) (ksU ks i (sIt z).length) (ksU kcs i ((sIt z').length - (sIt z).length)) z' G' S' ∧ ext z z') (fun G' S' => coC S' = coC S ∧ gOk N G' ∧ gLim t G') := by
        refine stC_o rfl ⟨d1, ⟨by rw [← hS3]; exact r3.1, by rw [← hS3]; exact r3.2.2.1, by rw [← hS3]; exact r3.2.2.2.1, fun j hj => ?_, r4, j1, cinD_out h hN c4 j5 j2 j3, r7⟩, hext⟩
        rw [← hS3]
        show S2.w_Tr_kids j = _ ∧ upd S2.w_Tr_kidCount i _ j = _
        refine ⟨(r3.2.2.2.2 j hj).1, ?_⟩
        unfold ksU
        by_cases w : j = i
        · rw [w, pk_us, if_pos rfl]
        · rw [pk_un w, if_neg w]
          exact (r3.2.2.2.2 j hj).2
      rw [d2, r3.2.1.1]
      have e3 := j1.2.1.1
      by_cases w1 : pM (sPe z1) = 0
      · rw [if_pos w1, if_pos (show nI 0 = 0 from rfl)]
        by_cases w2 : i = 0
        · rw [if_pos (show nI i = 0 by rw [w2]; rfl), cif_t ⟨w1, Or.inl w2⟩]
          exact good
        · rw [if_neg (show ¬ nI i = 0 from nI_ne0 (by omega) (by omega))]
          by_cases w3 : 2 ≤ s1
          · rw [if_pos (show 2 ≤ nI s1 from nI_le (a := 2) w3 (by omega)), cif_t ⟨w1, Or.inr w3⟩]
            exact good
          · rw [if_neg (show ¬ 2 ≤ nI s1 from nI_ge (b := 2) (by omega) (by decide)), cif_f (fun y => by omega)]
            exact bad
      · rw [if_neg w1, if_neg (show ¬ nI (pM (sPe z1) + pL (sPe z1)) = 0 from nI_ne0 (by omega) (by omega)), cif_f (fun y => w1 y.1)]
        exact bad
theorem qC_scan64W {K N t m mv : Nat} {G0 : CG} {D E : Nat → Int32} {gl : Nat → Nat} {S0 : CS} (hK : 20000 ≤ K) (hS0 : cIs N E G0 S0) (hH : agH D E) (hA : agC N D E (gF mv gl)) (h : hdOk N D) (hN : N ≤ 1024) (hcp : capOk N D m) (hm : m ≤ 4000) (hmv : mv = 0 ∨ mv = 1) (hg : mv = 1 → ∀ c, 2 ≤ c → c < hk N D + 2 → S0.w_Tb_goal c = nI (gl c)) (hgl : ∀ c, gl c < 2 ^ 31) : ∀ (d k : Nat) (fks : List Nat) (z : SS) (G : CG) (S : CS), fks.length + d = 5000 → d < k → fks.length ≤ (sIt z).length → coC S = coC S0 → cSc N t D E (mpP D (gF mv gl)) fks z G S → (∀ f' z', scL N D d fks.length fks z = .ok (f', z') → ∃ G' S', f_Rd_scan_64 K k (nI mv) (nI fks.length) G S = f_Rd_scan_115 K G' S' ∧ coC S' = coC S0 ∧ f'.length = (sIt z').length ∧ cSc N t D E (mpP D (gF mv gl)) f' z' G' S') ∧ (∀ e, scL N D d fks.length fks z = .error e → ∃ G' S', f_Rd_scan_64 K k (nI mv) (nI fks.length) G S = some (nI e, G', S') ∧ coC S' = coC S0 ∧ gOk N G' ∧ gLim t G') := by
  intro d
  induction d with
  | zero =>
    intro k fks z G S h1 h2 h3 hco hI
    have := cinD_bnd hI.2.2.2.2.2.2.1 hcp
    omega
  | succ d ih =>
    intro k fks z G S h1 h2 h3 hco hI
    obtain ⟨k, rfl⟩ : ∃ q, k = q + 1 := ⟨k - 1, by omega⟩
    have hb := cinD_bnd hI.2.2.2.2.2.2.1 hcp
    have hgc := hI.2.2.2.2.1
    have hS : cIs N E G S := cIs_co hco (hgc.1.1.trans hS0.1.symm) hS0
    rw [scL, f_Rd_scan_64, if_neg (show ¬ 1000000 ≤ nI fks.length from nI_ge (b := 1000000) (by omega) (by decide)), hI.1.1]
    by_cases g : fks.length < (sIt z).length
    rotate_left
    · rw [if_neg g, if_pos (nI_le (by omega) (by omega))]
      refine ⟨fun f' z' e => ?_, fun e he => (by cases he)⟩
      cases e
      exact ⟨G, S, rfl, hco, by omega, hI⟩
    rw [if_pos g, if_neg (nI_ge g (by omega)), qC_isDir hgc.1 hI.1 hgc.2.2.1 g, q_c]
    unfold f_Rd_scan_98 f_Rd_scan_102
    have hl1 : (fks ++ [(sIt z).length]).length = fks.length + 1 := by rw [List.length_append]; rfl
    by_cases w : isDr D (sIt z) fks.length
    · rw [b01_t w, if_neg (by decide), cif_t w]
      obtain ⟨q1, q2⟩ := qC_readDirW (K := K) (i := fks.length) hK hS hH hA h hN hcp hm hmv (fun e c hc hc2 => by rw [coC_w_Tb_goal hco]; exact hg e c hc hc2) hgl hI g (fun j hj => ksD_0 hj)
      cases hd : dirS N D fks.length z with
      | error e1 =>
        obtain ⟨G2, S2, r1, r2, r3⟩ := q2 e1 hd
        rw [r1, exb_e]
        have he1 : ¬ nI e1 = 0 := by
          have hfo : 3 ≤ e1 ∧ e1 ≤ 5 := by
            unfold dirS at hd
            split at hd
            · cases hd; omega
            · unfold dirC at hd
              cases hx : dirL N D fks.length (sIt z).length _ _ 0 _ with
              | error e2 => rw [hx] at hd; cases hd; exact dirL_err _ _ _ _ hx
              | ok x =>
                rw [hx, exb_o] at hd
                unfold dirE at hd
                by_cases y : pM (sPe x.2) = 0 ∧ (fks.length = 0 ∨ 2 ≤ x.1)
                · rw [cif_t y] at hd; cases hd
                · rw [cif_f y] at hd; cases hd; omega
          exact nI_ne0 (by omega) (by omega)
        refine ⟨fun f' z' e => (by cases e), fun e he => ?_⟩
        cases he
        show ∃ G' S', (if nI e1 = 0 then _ else some (nI e1, G2, S2)) = _ ∧ _
        rw [if_neg he1]
        exact ⟨G2, S2, rfl, r2.trans hco, r3⟩
      | ok z1 =>
        obtain ⟨G2, S2, r1, r2, r3, r4⟩ := q1 z1 hd
        rw [r1, exb_o]
        show (∀ f' z', _ → ∃ G' S', (if nI 0 = 0 then (lf_l (nI fks.length + 1) fun x_18 => f_Rd_scan_64 K k (nI mv) x_18 G2 S2) else some (nI 0, G2, S2)) = _ ∧ _) ∧ (∀ e, _ → ∃ G' S', (if nI 0 = 0 then (lf_l (nI fks.length + 1) fun x_18 => f_Rd_scan_64 K k (nI mv) x_18 G2 S2) else some (nI 0, G2, S2)) = _ ∧ _)
        rw [if_pos (show nI 0 = 0 from rfl), q_l, nI_1]
        have hl := ext_len r4
        have := ih k (fks ++ [(sIt z).length]) z1 G2 S2 (by rw [hl1]; omega) (by omega) (by rw [hl1]; omega) (r2.trans hco) ⟨r3.1, r3.2.1, r3.2.2.1, fun j hj => by rw [← (ksD_step r4 g w j).1, ← (ksD_step r4 g w j).2]; exact r3.2.2.2.1 j hj, r3.2.2.2.2⟩
        rw [hl1] at this
        exact this
    · rw [b01_f w, if_pos (by decide), cif_f w, exb_o, if_pos rfl, q_l, nI_1]
      have := ih k (fks ++ [(sIt z).length]) z G S (by rw [hl1]; omega) (by omega) (by rw [hl1]; omega) hco ⟨hI.1, hI.2.1, hI.2.2.1, fun j hj => by rw [← (ksD_skip w j).1, ← (ksD_skip w j).2]; exact hI.2.2.2.1 j hj, hI.2.2.2.2⟩
      rw [hl1] at this
      exact this
theorem qC_scanW {K N t m mv : Nat} {G : CG} {D E : Nat → Int32} {gl : Nat → Nat} {S : CS} (hK : 20000 ≤ K) (hN1 : 256 ≤ N) (hN : N ≤ 1024) (hcp : capOk N D m) (hm : m ≤ 4000) (hG : gOk N G) (hlim : gLim t G) (hE : S.w_Dk_bytes = E) (hs : S.v_Dk_sectors = nI N) (hag : agA N mv D E gl) (hmv : mv = 0 ∨ mv = 1) (hg : mv = 1 → ∀ c, 2 ≤ c → c < hk N D + 2 → S.w_Tb_goal c = nI (gl c)) (hgl : ∀ c, gl c < 2 ^ 31) : ∃ r G' S', f_Rd_scan K G S (nI mv) = some (nI r, G', S') ∧ coK S' = coK S ∧ gOk N G' ∧ gLim t G' ∧ (∀ fks z, trE N D = .ok (fks, z) → r = 0 ∧ cIs N E G' S' ∧ cSc N t D E (mpP D (gF mv gl)) fks z G' S' ∧ fks.length = (sIt z).length) ∧ (∀ e, trE N D = .error e → r = e ∧ (e ≠ 1 → cIs N E G' S')) := by
  obtain ⟨rd1, rd2⟩ := qV_read (K := K) (N := N) (G := G) (D := E) (S := S) (by omega) hG.1 hE hN1 hN hs
  unfold f_Rd_scan trE
  by_cases g1 : hdOk N D
  rotate_left
  · have g1' : ¬ hdOk N E := fun w => g1 ((ag0_ok hag.1).mp w)
    rw [rd2 g1', q_c, if_pos rfl, cif_f g1]
    refine ⟨1, G, S, rfl, rfl, hG, hlim, fun fks z e => (by cases e), fun e he => ?_⟩
    cases he
    exact ⟨rfl, fun w => absurd rfl w⟩
  obtain ⟨hH, hA⟩ := hag.2 g1
  have g1' : hdOk N E := (agH_ok hH).mpr g1
  rw [rd1 g1', q_c, if_neg (show ¬ (1 : Int32) = 0 by decide), cif_t g1]
  generalize hS1 : cT N E S = S1
  have a1 : coK S1 = coK S := by rw [← hS1]; rfl
  have aS : cIs N E G S1 := by rw [← hS1]; exact cT_is hG.1 hE hs
  obtain ⟨ef1, ef2⟩ := qV_fit (K := K) (by omega) aS g1' hN
  by_cases g2 : tabOk N D
  rotate_left
  · have g2' : ¬ tabOk N E := fun w => g2 ((agH_tab hH g1 hN).mp w)
    rw [ef2 g2', q_c, if_pos (show nI 0 = 0 from rfl), cif_f g2]
    refine ⟨2, G, S1, rfl, a1, hG, hlim, fun fks z e => (by cases e), fun e he => ?_⟩
    cases he
    exact ⟨rfl, fun _ => aS⟩
  have g2' : tabOk N E := (agH_tab hH g1 hN).mpr g2
  rw [ef1 g2', q_c, if_neg (show ¬ nI 1 = 0 by decide), cif_t g2]
  -- no cluster is taken
  have h26 : f_Rd_scan_26 K K (nI mv) 0 G S1 = lf_n (f_Tr_startWith K G (S1.u_w_Rd_taken (foF S1.w_Rd_taken (fun _ => nI 0) (N / 2 + 2))) S1.v_Tb_root) fun _ G_6 S_6 => f_Rd_scan_62 K (nI mv) G_6 S_6 := by
    have key := lp (F := fun k q T => f_Rd_scan_26 K k (nI mv) (nI q) G T) (Inv := fun q s => s = S1.u_w_Rd_taken (foF S1.w_Rd_taken (fun _ => nI 0) q)) (Post := fun r => r = lf_n (f_Tr_startWith K G (S1.u_w_Rd_taken (foF S1.w_Rd_taken (fun _ => nI 0) (N / 2 + 2))) S1.v_Tb_root) fun _ G_6 S_6 => f_Rd_scan_62 K (nI mv) G_6 S_6) (n := N / 2 + 2) ?_ ?_ (N / 2 + 2) 0 K S1 (by omega) (by omega) ?_
    · exact key
    · intro q s k hq hI
      left
      refine ⟨_, rfl, ?_⟩
      have e2 : s.w_Rd_taken = foF S1.w_Rd_taken (fun _ => nI 0) q := by rw [hI]; rfl
      rw [f_Rd_scan_26, hG.1, if_neg (nI_ge hq (by omega)), q_g (q_in hq (by omega)), q_l, q_l, nI_1, nI_clamp (by omega), e2, show vp_nar .boolean 0 = (fun _ => nI 0) q from rfl, foF_add, hI]
      rfl
    · intro s k hI
      rw [f_Rd_scan_26, hG.1, if_pos (Int32.le_refl _), hI]
      rfl
    · rw [foF_0]
      rfl
  rw [h26]
  generalize hS2 : S1.u_w_Rd_taken (foF S1.w_Rd_taken (fun _ => nI 0) (N / 2 + 2)) = S2
  have b1 : coC S2 = coC S1 := by rw [← hS2]; rfl
  have bS : cIs N E G S2 := cIs_co b1 rfl aS
  have br : S1.v_Tb_root = S2.v_Tb_root := (coC_v_Tb_root b1).symm
  have bt : tkR N S2.w_Rd_taken [] := by
    intro x hx
    rw [← hS2]
    show foF S1.w_Rd_taken (fun _ => nI 0) (N / 2 + 2) x = _
    unfold foF
    rw [if_pos hx, if_neg (fun w => by cases w)]
  obtain ⟨G3, S3, c1, c2, c3⟩ := qC_start (K := K) (t := t) (m := m) (mv := mv) (gl := gl) bS hH hN1 hG hlim bt
  rw [br, c1]
  show ∃ r G' S', f_Rd_scan_62 K (nI mv) G3 S3 = _ ∧ _
  have hgc := c3.2.2.2.2.1
  have cS : cIs N E G3 S3 := cIs_co c2 (hgc.1.1.trans hG.1.symm) bS
  have cK : coK S3 = coK S := (coC_K (c2.trans b1)).trans a1
  obtain ⟨q1, q2⟩ := qC_scan64W (K := K) (t := t) (S0 := S3) hK cS hH hA g1 hN hcp hm hmv (fun e c hc hc2 => by rw [coK_w_Tb_goal cK]; exact hg e c hc hc2) hgl 5000 K [] z0 G3 S3 rfl (by omega) (by decide) rfl c3
  unfold f_Rd_scan_62 trS
  cases hsc : scL N D 5000 0 [] z0 with
  | error e1 =>
    obtain ⟨G4, S4, r1, r2, r3, r4⟩ := q2 e1 hsc
    rw [show (0 : Int32) = nI ([] : List Nat).length from rfl, r1, exb_e]
    refine ⟨e1, G4, S4, rfl, (coC_K r2).trans cK, r3, r4, fun fks z e => (by cases e), fun e he => ?_⟩
    cases he
    exact ⟨rfl, fun _ => cIs_co r2 (r3.1.trans hgc.1.1.symm) cS⟩
  | ok x =>
    obtain ⟨fks, z⟩ := x
    obtain ⟨G4, S4, r1, r2, r3, r4⟩ := q1 fks z hsc
    have dS := cIs_co r2 (r4.2.2.2.2.1.1.1.trans hgc.1.1.symm) cS
    rw [show (0 : Int32) = nI ([] : List Nat).length from rfl, r1, exb_o]
    unfold f_Rd_scan_115
    rw [qC_strays hK dS hH g1 hN r4.2.1, q_c]
    by_cases w : stray N D (sTk z)
    · rw [b01_t w, if_neg (by decide), cif_t w]
      refine ⟨6, G4, S4, rfl, (coC_K r2).trans cK, r4.2.2.2.2.1.1, r4.2.2.2.2.1.2.1, fun fks z e => (by cases e), fun e he => ?_⟩
      cases he
      exact ⟨rfl, fun _ => dS⟩
    · rw [b01_f w, if_pos (by decide), cif_f w]
      refine ⟨0, G4, S4, rfl, (coC_K r2).trans cK, r4.2.2.2.2.1.1, r4.2.2.2.2.1.2.1, fun fks' z' e => ?_, fun e he => (by cases he)⟩
      cases e
      exact ⟨rfl, dS, r4, r3⟩
