/-! An entry, whole, in the class. -/
def lbC (mp : Nat → Nat) (o : Option Nat) : Int32 := match o with
  | some p => nI (mp p)
  | none => -1
abbrev vC (N : Nat) (D : Nat → Int32) (mp ks kcs : Nat → Nat) (z : SS) (S : CS) : Prop := rcI D mp (sIt z) S ∧ rcP (sPe z) S ∧ tkR N S.w_Rd_taken (sTk z) ∧ S.v_Tr_label = lbC mp (sLb z) ∧ (∀ j, j < (sIt z).length → S.w_Tr_kids j = nI (ks j) ∧ S.w_Tr_kidCount j = nI (kcs j))
abbrev gC (N t : Nat) (z : SS) (G : CG) : Prop := gOk N G ∧ gLim t G ∧ (sIt z).length ≤ G.l_parent ∧ (uns (sIt z)).length ≤ G.l_pool
abbrev frC (S S' : CS) : Prop := coC S' = coC S ∧ S'.w_Rd_road = S.w_Rd_road
abbrev stC (X : Except Nat SS) (f : Option (Int32 × CG × CS)) (A : SS → CG → CS → Prop) (B : CG → CS → Prop) : Prop := (∀ z', X = .ok z' → ∃ G' S', f = some (nI 0, G', S') ∧ A z' G' S') ∧ (∀ e, X = .error e → ∃ G' S', f = some (nI e, G', S') ∧ B G' S')
theorem stC_e {e : Nat} {f : Option (Int32 × CG × CS)} {A : SS → CG → CS → Prop} {B : CG → CS → Prop} {G' : CG} {S' : CS} (h : f = some (nI e, G', S')) (b : B G' S') : stC (.error e) f A B := ⟨fun z' hz' => (by cases hz'), fun e' he => ⟨G', S', by cases he; exact h, b⟩⟩
theorem stC_o {z : SS} {f : Option (Int32 × CG × CS)} {A : SS → CG → CS → Prop} {B : CG → CS → Prop} {G' : CG} {S' : CS} (h : f = some (nI 0, G', S')) (a : A z G' S') : stC (.ok z) f A B := ⟨fun z' hz' => ⟨G', S', h, by cases hz'; exact a⟩, fun e he => (by cases he)⟩
theorem rcI_add {D : Nat → Int32} {mp : Nat → Nat} {its : List It} {S S' : CS} {i p s m : Nat} {nm : List Nat} (h : rcI D mp its S) (h1 : 1 ≤ its.length) (c1 : S'.v_Tr_count = nI (its.length + 1)) (c2 : S'.v_Tr_pooled = nI ((uns its).length + nm.length)) (c3 : ∀ j, j < its.length → S'.w_Tr_parent j = S.w_Tr_parent j ∧ S'.w_Tr_first j = S.w_Tr_first j ∧ S'.w_Tr_bits j = S.w_Tr_bits j ∧ S'.w_Tr_spot j = S.w_Tr_spot j ∧ S'.w_Tr_slot j = S.w_Tr_slot j ∧ S'.w_Tr_parts j = S.w_Tr_parts j ∧ S'.w_Tr_nameAt j = S.w_Tr_nameAt j ∧ S'.w_Tr_nameLength j = S.w_Tr_nameLength j ∧ S'.w_Tr_nameBytes j = S.w_Tr_nameBytes j ∧ S'.w_Tr_size j = S.w_Tr_size j) (c4 : S'.w_Tr_parent its.length = nI i ∧ S'.w_Tr_first its.length = nI (fc D p) ∧ S'.w_Tr_bits its.length = nI (o1 D (p + 11)) ∧ S'.w_Tr_spot its.length = nI (mp p) ∧ S'.w_Tr_slot its.length = nI s ∧ S'.w_Tr_parts its.length = nI m ∧ S'.w_Tr_nameAt its.length = nI (uns its).length ∧ S'.w_Tr_nameLength its.length = nI nm.length ∧ S'.w_Tr_nameBytes its.length = nI (tsz nm) ∧ S'.w_Tr_size its.length = nI (if o1 D (p + 11) / 16 % 2 = 1 then 0 else o4 D (p + 28))) (c5 : ∀ u, u < (uns its).length → S'.w_Tr_pool u = S.w_Tr_pool u) (c6 : ∀ q, q < nm.length → S'.w_Tr_pool ((uns its).length + q) = nI (nm.getD q 0)) : rcI D mp (its ++ [((i, p), (s, m), nm)]) S' := by
  obtain ⟨d1, d2, d3, d4⟩ := h
  have hU : uns (its ++ [((i, p), (s, m), nm)]) = uns its ++ nm := uns_snoc its _
  have hL : (its ++ [((i, p), (s, m), nm)]).length = its.length + 1 := by rw [List.length_append]; rfl
  refine ⟨by rw [hL]; exact c1, by rw [hU, List.length_append]; exact c2, fun j hj => ?_, fun u hu => ?_⟩
  · rw [hL] at hj
    by_cases e : j = its.length
    · subst e
      obtain ⟨e1, e2, e3, e4, e5, e6, e7, e8, e9, e10⟩ := c4
      unfold rcJ begI btI spI szI
      rw [itr_last, List.take_append_of_le_length (Nat.le_refl _), List.take_length, if_neg (by omega), if_neg (by omega), if_neg (by omega), if_neg (by omega)]
      exact ⟨e1, e2, e3, e4, e5, e6, e7, e8, e9, e10⟩
    · obtain ⟨e1, e2, e3, e4, e5, e6, e7, e8, e9, e10⟩ := c3 j (by omega)
      obtain ⟨f1, f2, f3, f4, f5, f6, f7, f8, f9, f10⟩ := d3 j (by omega)
      unfold rcJ begI btI spI szI
      rw [itr_app (by omega), List.take_append_of_le_length (by omega)]
      exact ⟨e1.trans f1, e2.trans f2, e3.trans f3, e4.trans f4, e5.trans f5, e6.trans f6, e7.trans f7, e8.trans f8, e9.trans f9, e10.trans f10⟩
  · rw [hU, List.length_append] at hu
    rw [hU, List.getD_eq_getElem?_getD]
    by_cases g : u < (uns its).length
    · rw [List.getElem?_append_left g, c5 u g, d4 u g, List.getD_eq_getElem?_getD]
    · obtain ⟨q, rfl⟩ : ∃ q, u = (uns its).length + q := ⟨u - (uns its).length, by omega⟩
      rw [List.getElem?_append_right (by omega), c6 q (by omega), Nat.add_sub_cancel_left, List.getD_eq_getElem?_getD]
theorem cIs_co {N : Nat} {E : Nat → Int32} {G G' : CG} {S S' : CS} (h : coC S' = coC S) (hg : G'.n = G.n) (c : cIs N E G S) : cIs N E G' S' := by
  obtain ⟨c1, c2, c3, c4, c5, c6, c7, c8, c9, c10, c11⟩ := c
  exact ⟨hg.trans c1, (coC_w_Dk_bytes h).trans c2, (coC_v_Dk_sectors h).trans c3, (coC_v_Tb_cluster h).trans c4, (coC_v_Tb_before h).trans c5, (coC_v_Tb_copies h).trans c6, (coC_v_Tb_length h).trans c7, (coC_v_Tb_root h).trans c8, (coC_v_Tb_start h).trans c9, (coC_v_Tb_clusters h).trans c10, fun x hx => by rw [coC_w_Tb_next h]; exact c11 x hx⟩
/-- the item comes to the tree -/
theorem qC_ent137 {K N t i s p p' fk : Nat} {G : CG} {D E : Nat → Int32} {g : Nat → Nat} {ks kcs : Nat → Nat} {z : SS} {S : CS} {mp : Nat → Nat} (hmp : mp p = p') (hK : 10000 ≤ K) (hS : cIs N E G S) (hH : agH D E) (h : hdOk N D) (hN : N ≤ 1024) (hV : vC N D mp ks kcs z S) (hG : gC N t z G) (hz : itsOk N (sIt z)) (hpe : peOk (sPe z)) (hm : mpOk N D E mp (sIt z)) (h1 : 1 ≤ fk) (h2 : fk ≤ (sIt z).length) (hi : i < (sIt z).length) (hki : ks i = fk) (hks : ∀ j, i < j → ks j = 0 ∧ kcs j = 0) (hn : (sIt z).length ≤ 4001) (hu : (uns (sIt z)).length + 260 ≤ 90000) (hq : slq E p' D p) (hp' : p' + 32 ≤ 512 * N) (hus : bufR S.w_Rd_units (nmN D p (sPe z))) (hnl : 1 ≤ (nmN D p (sPe z)).length) (hpt : S.v_Rd_parts = nI (pM (sPe z))) : stC (cif (enTw D (sIt z) fk p (nmN D p (sPe z))) (.error 5) (entR N D i s p z)) (f_Rd_readEntry_137 K (nI i) (nI s) (nI p') (nI (o1 D (p + 11))) (nI (nmN D p (sPe z)).length) G S) (fun z' G' S' => frC S S' ∧ vC N D mp ks kcs z' S' ∧ gC N t z' G') (fun G' S' => coC S' = coC S ∧ gOk N G' ∧ gLim t G') := by
  obtain ⟨v1, v2, v3, v4, v5⟩ := hV
  obtain ⟨k1, k2, k3, k4⟩ := hG
  have lenN := nmN_len (D := D) (p := p) hpe
  have ltN := nmN_lt (D := D) (p := p) hpe
  have b11 := o1_lt D (p + 11)
  have b28 := o4_lt D (p + 28)
  have hEd := hS.2.1
  unfold f_Rd_readEntry_137
  rw [if_neg (nI_ne0 (by omega) (by omega)), qC_twin hK k1 hN hEd v1 k3 k4 hz hm hi (by rw [(v5 i hi).1, hki]) h1 h2 hq hp' lenN hus ltN, q_c]
  obtain ⟨G1, S1, q1, q2, q3, q4, q5, r1, r2, r3, r4, r5, r6, r7, r8, r9, r10, -⟩ := qC_addItem (K := K) (t := t) (a := nI i) (b := nI (o1 D (p + 11))) k1 v1.1 k3 (by omega) k2
  rw [q1]
  show stC _ (f_Rd_readEntry_166 K (nI s) (nI p') (nI (nmN D p (sPe z)).length) (b01 (enTw D (sIt z) fk p (nmN D p (sPe z)))) (nI (sIt z).length) G1 S1) _ _
  obtain ⟨G2, S2, m1, m2, m3, m4, m5, n1, n2, n3, n4, n5, n6, n7, n8, n9⟩ := qC_nameLast (K := K) (t := t) (n := (sIt z).length) (b := (uns (sIt z)).length) (us := nmN D p (sPe z)) (S := S1) (by omega) q2 q3 r4 (r2.2.1.trans v1.2.1) (by omega) (by rw [q4]; exact k4) lenN (by rw [r3.2.2.2.1]; exact hus) ltN q5
  unfold f_Rd_readEntry_166
  rw [m1]
  show stC _ (f_Rd_readEntry_181 K (nI s) (nI p') (b01 (enTw D (sIt z) fk p (nmN D p (sPe z)))) (nI (sIt z).length) G2 S2) _ _
  have hco2 : coC S2 = coC S := n1.trans r1
  have hcI2 : cIs N E G2 S2 := cIs_co hco2 (m2.1.trans k1.1.symm) hS
  have hct2 : S2.v_Tr_count = nI ((sIt z).length + 1) := n2.2.1.trans r4
  have hlp : (sIt z).length < G2.l_parent := by rw [m3]; exact q3
  have hGG := m2
  obtain ⟨g0, ⟨g1, g2, g3, g4, g5, g6, -⟩, ga, gb, -⟩ := hGG
  have hin : ∀ m, m = G2.l_parent → lf_in (nI (sIt z).length) m := fun m hm => by rw [hm]; exact q_in hlp (by omega)
  have hcl : (nI (sIt z).length).toNatClampNeg = (sIt z).length := nI_clamp (by omega)
  unfold f_Rd_readEntry_181
  rw [qV_first hcI2.1 hcI2.2.1 hN (by omega), q_c, slq_fc hq]
  have hplace : f_Tr_place K G2 S2 (nI (sIt z).length) (nI (fc D p)) (nI p') (nI s) S2.v_Rd_parts = some ((((S2.u_w_Tr_first (upd S2.w_Tr_first (sIt z).length (nI (fc D p)))).u_w_Tr_spot (upd S2.w_Tr_spot (sIt z).length (nI p'))).u_w_Tr_slot (upd S2.w_Tr_slot (sIt z).length (nI s))).u_w_Tr_parts (upd S2.w_Tr_parts (sIt z).length S2.v_Rd_parts)) := by
    unfold f_Tr_place
    rw [qC_has hct2 (by omega) (by omega), b01_t (by omega), q_c, if_neg (by decide), q_g (hin _ g1), q_l, q_g (hin _ g4), q_l, q_g (hin _ g5), q_l, q_g (hin _ g6), q_l, hcl]
    rfl
  rw [hplace, q_b, q_l]
  generalize hS3 : ((((S2.u_w_Tr_first (upd S2.w_Tr_first (sIt z).length (nI (fc D p)))).u_w_Tr_spot (upd S2.w_Tr_spot (sIt z).length (nI p'))).u_w_Tr_slot (upd S2.w_Tr_slot (sIt z).length (nI s))).u_w_Tr_parts (upd S2.w_Tr_parts (sIt z).length S2.v_Rd_parts)).u_v_Rd_parts 0 = S3
  have hco3 : coC S3 = coC S := by rw [← hS3]; exact hco2
  have hcI3 : cIs N E G2 S3 := cIs_co (S := S) hco3 (m2.1.trans k1.1.symm) hS
  by_cases w : enTw D (sIt z) fk p (nmN D p (sPe z))
  · rw [b01_t w, if_neg (by decide), cif_t w]
    exact stC_e rfl ⟨hco3, m2, m5⟩
  rw [b01_f w, if_pos (by decide), cif_f w, show (28 : Int32) = nI 28 from rfl, nI_add, rV4 E hcI3.1 hcI3.2.1 hN (by omega), q_c, slq_4 hq (by decide), q_u64 b28]
  have ht3 : S3.w_Rd_taken = S.w_Rd_taken := by rw [← hS3]; exact n3.1.trans r3.1
  have hc3 : S3.v_Tr_count = nI ((sIt z).length + 1) := by rw [← hS3]; exact hct2
  have hb3 : S3.w_Tr_bits = S1.w_Tr_bits := by rw [← hS3]; exact n4.2.2.2.1
  have hf3 : S3.w_Tr_first = upd S1.w_Tr_first (sIt z).length (nI (fc D p)) := by rw [← hS3]; show upd S2.w_Tr_first _ _ = _; rw [n4.2.1]
  obtain ⟨o1', o2'⟩ := qC_file (K := K) (n := (sIt z).length) (p := p) (tk := sTk z) (its := sIt z) (by omega) m2 hcI3 hH h hN (by rw [ht3]; exact v3) hc3 hlp (by rw [hb3]; exact r7) (by rw [hf3]; exact pk_us)
  cases hE : entF N D p (sTk z) with
  | none =>
    obtain ⟨a, f, o3⟩ := o2' hE
    rw [o3, q_c, if_pos (by decide), entR_n hE]
    exact stC_e rfl ⟨hco3, m2, m5⟩
  | some ch =>
    obtain ⟨f, o3⟩ := o1' ch hE
    rw [o3, q_c, if_neg (by decide), entR_s hE]
    refine stC_o rfl ⟨⟨hco3, ?_⟩, ⟨?_, ⟨?_, fun w => absurd rfl w⟩, ?_, ?_, ?_⟩, m2, m5, ?_, ?_⟩
    · show S3.w_Rd_road = _
      rw [← hS3]; exact n3.2.1.trans r3.2.1
    · -- the items
      have hsz : S3.w_Tr_size = S1.w_Tr_size := by rw [← hS3]; exact n4.2.2.1
      refine rcI_add v1 hz.1 hc3 (by show S3.v_Tr_pooled = _; rw [← hS3]; exact n2.2.2) (fun j hj => ?_) ?_ (fun u hu => ?_) (fun q hq' => ?_)
      · have ne : j ≠ (sIt z).length := by omega
        obtain ⟨x1, x2, x3, x4, x5, x6, x7, x8, x9, x10, x11, x12⟩ := r5 j hj
        refine ⟨?_, ?_, ?_, ?_, ?_, ?_, ?_, ?_, ?_, ?_⟩
        · show S3.w_Tr_parent j = _
          rw [← hS3]; show S2.w_Tr_parent j = _; rw [n4.1]; exact x1
        · show S3.w_Tr_first j = _
          rw [hf3, pk_un ne]; exact x2
        · show S3.w_Tr_bits j = _
          rw [hb3]; exact x4
        · show S3.w_Tr_spot j = _
          rw [← hS3]; show upd S2.w_Tr_spot _ _ j = _; rw [pk_un ne, n4.2.2.2.2.1]; exact x5
        · show S3.w_Tr_slot j = _
          rw [← hS3]; show upd S2.w_Tr_slot _ _ j = _; rw [pk_un ne, n4.2.2.2.2.2.1]; exact x6
        · show S3.w_Tr_parts j = _
          rw [← hS3]; show upd S2.w_Tr_parts _ _ j = _; rw [pk_un ne, n4.2.2.2.2.2.2.1]; exact x7
        · show S3.w_Tr_nameAt j = _
          rw [← hS3]; show S2.w_Tr_nameAt j = _; rw [n5, pk_un ne]; exact x10
        · show S3.w_Tr_nameLength j = _
          rw [← hS3]; show S2.w_Tr_nameLength j = _; rw [n6, pk_un ne]; exact x11
        · show S3.w_Tr_nameBytes j = _
          rw [← hS3]; show S2.w_Tr_nameBytes j = _; rw [n7, pk_un ne]; exact x12
        · show (if o1 D (p + 11) / 16 % 2 = 1 then S3.w_Tr_size else if o4 D (p + 28) = 0 then S3.w_Tr_size else upd S3.w_Tr_size (sIt z).length (nI (o4 D (p + 28)))) j = _
          rw [hsz]
          split
          · exact x3
          · split
            · exact x3
            · rw [pk_un ne]; exact x3
      · refine ⟨?_, ?_, ?_, ?_, ?_, ?_, ?_, ?_, ?_, ?_⟩
        · show S3.w_Tr_parent _ = _
          rw [← hS3]; show S2.w_Tr_parent _ = _; rw [n4.1]; exact r6
        · show S3.w_Tr_first _ = _
          rw [hf3, pk_us]
        · show S3.w_Tr_bits _ = _
          rw [hb3]; exact r7
        · show S3.w_Tr_spot _ = _
          rw [← hS3]; show upd S2.w_Tr_spot _ _ _ = _; rw [pk_us, hmp]
        · show S3.w_Tr_slot _ = _
          rw [← hS3]; show upd S2.w_Tr_slot _ _ _ = _; rw [pk_us]
        · show S3.w_Tr_parts _ = _
          rw [← hS3]; show upd S2.w_Tr_parts _ _ _ = _; rw [pk_us, n3.2.2.2.2.1, r3.2.2.2.2.1]; exact hpt
        · show S3.w_Tr_nameAt _ = _
          rw [← hS3]; show S2.w_Tr_nameAt _ = _; rw [n5, pk_us]
        · show S3.w_Tr_nameLength _ = _
          rw [← hS3]; show S2.w_Tr_nameLength _ = _; rw [n6, pk_us]
        · show S3.w_Tr_nameBytes _ = _
          rw [← hS3]; show S2.w_Tr_nameBytes _ = _; rw [n7, pk_us]
        · show (if o1 D (p + 11) / 16 % 2 = 1 then S3.w_Tr_size else if o4 D (p + 28) = 0 then S3.w_Tr_size else upd S3.w_Tr_size (sIt z).length (nI (o4 D (p + 28)))) _ = _
          rw [hsz]
          by_cases y1 : o1 D (p + 11) / 16 % 2 = 1
          · rw [if_pos y1, if_pos y1]; exact r8
          · rw [if_neg y1, if_neg y1]
            by_cases y2 : o4 D (p + 28) = 0
            · rw [if_pos y2, y2]; exact r8
            · rw [if_neg y2, pk_us]
      · show S3.w_Tr_pool u = _
        rw [← hS3]; show S2.w_Tr_pool u = _; rw [n8 u hu, r2.2.2]
      · show S3.w_Tr_pool _ = _
        rw [← hS3]; show S2.w_Tr_pool _ = _; exact n9 q hq'
    · show S3.v_Rd_parts = _
      rw [← hS3]; rfl
    · show tkR N (mk1 S3.w_Rd_taken ch) (ch ++ sTk z)
      rw [ht3]; exact tkR_app v3
    · show S3.v_Tr_label = _
      rw [← hS3]; exact (n2.1.trans r2.1).trans v4
    · intro j hj
      have hj : j < (sIt z ++ [_]).length := hj
      rw [List.length_append] at hj
      have hj : j < (sIt z).length + 1 := hj
      show S3.w_Tr_kids j = _ ∧ S3.w_Tr_kidCount j = _
      rw [← hS3]
      show S2.w_Tr_kids j = _ ∧ S2.w_Tr_kidCount j = _
      rw [n4.2.2.2.2.2.2.2.1, n4.2.2.2.2.2.2.2.2]
      by_cases e : j = (sIt z).length
      · subst e
        rw [r9, r10, (hks _ hi).1, (hks _ hi).2]
        exact ⟨rfl, rfl⟩
      · obtain ⟨x1, x2, x3, x4, x5, x6, x7, x8, x9, -⟩ := r5 j (by omega)
        rw [x8, x9]
        exact v5 j (by omega)
    · show (sIt z ++ [_]).length ≤ _
      rw [List.length_append]
      exact hlp
    · show (uns (sIt z ++ [_])).length ≤ _
      rw [uns_snoc, List.length_append]
      exact m4
