/-- the entries from i on are as told, and alike in the tables -/
def tb_entF (n : Nat) (f : Nat → Int32) (nl : Nat) (nx : Nat → Int32) (ks be ot : Int32) : Nat → Nat → Int32
  | 0, _ => 1
  | k + 1, i => if nI nl ≤ nI i then 1 else if nx (nI i).toNatClampNeg = 1 then 0 else if nx (nI i).toNatClampNeg ≤ ks + 1 then (if dk_four n f (be * 512 + 4 * nI i) = dk_four n f (be * 512 + 4 * nI i + ot) then tb_entF n f nl nx ks be ot k (i + 1) else 0) else if 268435448 ≤ nx (nI i).toNatClampNeg then (if dk_four n f (be * 512 + 4 * nI i) = dk_four n f (be * 512 + 4 * nI i + ot) then tb_entF n f nl nx ks be ot k (i + 1) else 0) else 0
def tb_ent (n : Nat) (f : Nat → Int32) (nl : Nat) (nx : Nat → Int32) (kN : Nat) (be co le : Int32) : Int32 := if nx (0 : Int32).toNatClampNeg = 268435448 then (if nx (1 : Int32).toNatClampNeg = 268435455 then tb_entF n f nl nx (nI kN) be ((co - 1) * le * 512) (kN + 2) 0 else 0) else 0
set_option maxHeartbeats 4000000 in
set_option maxRecDepth 100000 in
theorem c_Tb_entriesFit (l : Launch) (dC : Nat → ClassId) (dI : Nat → Nat → Nat) (b0 b1 b2 h0 sz : Nat) (cl be co le ro sa : Int32) (kN : Nat) (hkN : kN ≤ 600) (c1 : ClassId) (nl : Nat) (nx : Nat → Int32) (hnl : nl < 2 ^ 31) (hnl2 : 2 ≤ nl) (h1 : Nat) (cB : ClassId) (sec pw : Int32) (n : Nat) (f : Nat → Int32) (h4 : 4 ≤ n) (hn : n < 2 ^ 31) : Met l y_Tb_entriesFit (.code y_Tb_entriesFit b_Tb_entriesFit 5 (some .boolean) :: V_Tb) ({ frames := 1, cells := 0, slots := 0, locals := 21 }) (va_Pc [.ref b0] (fun U => U.heap.size = sz ∧ at_ (dC, dI) (fun _ => True) [(b0, .inr (4, [.ref h0, .int cl, .int be, .int co, .int le, .int ro, .int sa, .int (nI kN), .ref b1, .ref b2])), (b1, .inl (c1, nl, .inl nx)), (h0, .inr (0, [.int sec, .ref h1, .int pw])), (h1, .inl (cB, n, .inl f))] [(c1, .int), (cB, .byte)] U)) (va_Qi (fun (r : Int32) (u : Unit) => r = tb_ent n f nl nx kN be co le) (fun (u : Unit) t => at_ (dC, dI) (va_A [(b0, .inr (4, [.ref h0, .int cl, .int be, .int co, .int le, .int ro, .int sa, .int (nI kN), .ref b1, .ref b2])), (b1, .inl (c1, nl, .inl nx)), (h0, .inr (0, [.int sec, .ref h1, .int pw])), (h1, .inl (cB, n, .inl f))] sz) [(b0, .inr (4, [.ref h0, .int cl, .int be, .int co, .int le, .int ro, .int sa, .int (nI kN), .ref b1, .ref b2])), (b1, .inl (c1, nl, .inl nx)), (h0, .inr (0, [.int sec, .ref h1, .int pw])), (h1, .inl (cB, n, .inl f))] [(c1, .int), (cB, .byte)] t) (va_A [(b0, .inr (4, [.ref h0, .int cl, .int be, .int co, .int le, .int ro, .int sa, .int (nI kN), .ref b1, .ref b2])), (b1, .inl (c1, nl, .inl nx)), (h0, .inr (0, [.int sec, .ref h1, .int pw])), (h1, .inl (cB, n, .inl f))] sz)) 0 0 (va_A [(b0, .inr (4, [.ref h0, .int cl, .int be, .int co, .int le, .int ro, .int sa, .int (nI kN), .ref b1, .ref b2])), (b1, .inl (c1, nl, .inl nx)), (h0, .inr (0, [.int sec, .ref h1, .int pw])), (h1, .inl (cB, n, .inl f))] sz) := by
  refine Met.ofW (cc := b_Tb_entriesFit) (maxL := 5) (ret := (some .boolean)) (by decide) rfl ?_
  intro p e s m args below meth c s₁ B hml hv
  obtain ⟨rfl, hsz, hP, hK, hD0⟩ := hv
  have hx := B.exec
  have hb := B.bytes
  have hr := B.returns
  have hts0 := atoms_spec (ws := .code y_Tb_entriesFit b_Tb_entriesFit 5 (some .boolean) :: V_Tb) B.pre
  have hts : ∀ w ∈ V_Tb, w.before ([.ref b0] : List Value).toArray s = true := fun w h => hts0 w (List.mem_cons_of_mem _ h)
  have hown : s.vm.findClass R_Tb = some m.cls := findClass_of_methodNamed B.named
  have hlocks := B.notSynchronized
  subst hsz
  have hD := hD0.self (sz := s.heap.size)
  generalize hAe : va_A [(b0, .inr (4, [.ref h0, .int cl, .int be, .int co, .int le, .int ro, .int sa, .int (nI kN), .ref b1, .ref b2])), (b1, .inl (c1, nl, .inl nx)), (h0, .inr (0, [.int sec, .ref h1, .int pw])), (h1, .inl (cB, n, .inl f))] s.heap.size = A at hD ⊢
  have hA : ∀ q : Nat, s.heap.size ≤ q → A q := fun q h => by rw [← hAe]; exact Or.inr h
  have hS : va_S A s.heap s.heap [] := va_S.rf
  have hP : va_P (dC, dI) classes [(b0, .inr (4, [.ref h0, .int cl, .int be, .int co, .int le, .int ro, .int sa, .int (nI kN), .ref b1, .ref b2])), (b1, .inl (c1, nl, .inl nx)), (h0, .inr (0, [.int sec, .ref h1, .int pw])), (h1, .inl (cB, n, .inl f))] s.heap := hP
  have hK : va_K (dC, dI) classes [(c1, .int), (cB, .byte)] s := hK
  have hl := lv_entry ([.ref b0]) (n := 5) (Nat.le_of_ble_eq_true rfl)
  rw [lg_entry_eq]
  generalize (lg_sl ([.ref b0]) ++ List.replicate (5 - (lg_sl ([.ref b0])).length) Slot.unset).toArray = ls at hl ⊢
  have hl : lv_has ls 5 [(0, .ref b0)] := hl
  refine qabs (fun Q hQ => ?_)
  have hL42 : ∀ (k_ : Nat) (i : Nat) (ot : Int32) (H : Heap) (locs : List Loc) (ls : Array Slot), kN + 2 - i < k_ → (i ≤ kN + 2) → (tb_entF n f nl nx (nI kN) be ot (kN + 2 - i) i = tb_ent n f nl nx kN be co le) → va_P (dC, dI) classes [(b0, .inr (4, [.ref h0, .int cl, .int be, .int co, .int le, .int ro, .int sa, .int (nI kN), .ref b1, .ref b2])), (b1, .inl (c1, nl, .inl nx)), (h0, .inr (0, [.int sec, .ref h1, .int pw])), (h1, .inl (cB, n, .inl f))] H → va_D A [(b0, .inr (4, [.ref h0, .int cl, .int be, .int co, .int le, .int ro, .int sa, .int (nI kN), .ref b1, .ref b2])), (b1, .inl (c1, nl, .inl nx)), (h0, .inr (0, [.int sec, .ref h1, .int pw])), (h1, .inl (cB, n, .inl f))] → va_S A s.heap H locs → lv_has ls 5 [(0, .ref b0), (1, .int ot), (2, .int (nI i))] → W p l e ({ frames := 1, cells := 0, slots := 0, locals := 21 }) s m ([.ref b0] : List Value).toArray below meth c H locs 0 0 Q (F0 m 42 ls []) := by
    intro k_
    induction k_ with
    | zero => intro i ot H locs ls hk_; exact absurd hk_ (Nat.not_lt_zero _)
    | succ k_ ih =>
      intro i ot H locs ls hk_ hi he hP hD hS hl
      refine lv_iload_n hx hb d_Tb_entriesFit_42 rfl (lv_at hl 2 rfl) ?_
      refine lv_aload_n hx hb d_Tb_entriesFit_43 rfl (lv_at hl 0 rfl) ?_
      refine va_get (D := (dC, dI)) (ci := 4) (v := .int (nI kN)) (C := R_Tb) (T := F_Tb) (N := 10) hx hb hts i_Tb hown hK hP 0 rfl rfl 7 (by decide) (hts _ (k_Tb_13)) (fun _ h9 => h9) rfl d_Tb_entriesFit_44 ?_
      refine lv_iconst (v := 2) hx hb d_Tb_entriesFit_47 (by decide) ?_
      refine lv_iadd hx hb d_Tb_entriesFit_48 ?_
      refine lv_icmp_ge (tgt := 151) hx hb d_Tb_entriesFit_49 (by decide) (fun c_1 => ?_) (fun c_1 => ?_)
      · have hi9 : kN + 2 ≤ i := by have q := c_1; rw [show nI kN + 2 = nI (kN + 2) from nI_add kN 2] at q; exact (nI_leI (by omega) (by omega)).mp q
        refine lv_iconst (v := 1) hx hb d_Tb_entriesFit_151 (by decide) ?_
        rw [hQ]
        exact W.zret (v := 1) hx hb hr rfl (fun t ht hW => ⟨⟨1, (), rfl, by rw [← he, show kN + 2 - i = 0 by omega]; rfl, by rw [ht]; exact hP, va_K.moved hW.alike hK, hD⟩, hS.F ht⟩) hS.2.2 d_Tb_entriesFit_152
      · have hlt : i < kN + 2 := by have q := c_1; rw [show nI kN + 2 = nI (kN + 2) from nI_add kN 2] at q; exact Nat.lt_of_not_le (fun h => q ((nI_leI (by omega) (by omega)).mpr h))
        refine lv_iload_n hx hb d_Tb_entriesFit_52 rfl (lv_at hl 2 rfl) ?_
        refine lv_aload_n hx hb d_Tb_entriesFit_53 rfl (lv_at hl 0 rfl) ?_
        refine va_get (D := (dC, dI)) (ci := 4) (v := .ref b1) (C := R_Tb) (T := F_Tb) (N := 10) hx hb hts i_Tb hown hK hP 0 rfl rfl 8 (by decide) (hts _ (k_Tb_14)) (fun _ h9 => h9) rfl d_Tb_entriesFit_54 ?_
        refine va_alen (v := nI nl) hx hb hK hP 1 0 rfl rfl rfl d_Tb_entriesFit_57 ?_
        refine lv_icmp_ge (tgt := 151) hx hb d_Tb_entriesFit_58 (by decide) (fun c_2 => ?_) (fun c_2 => ?_)
        · refine lv_iconst (v := 1) hx hb d_Tb_entriesFit_151 (by decide) ?_
          rw [hQ]
          exact W.zret (v := 1) hx hb hr rfl (fun t ht hW => ⟨⟨1, (), rfl, by obtain ⟨k9, hk9⟩ : ∃ k, kN + 2 - i = k + 1 := ⟨kN + 2 - i - 1, by omega⟩; rw [← he, hk9, tb_entF]; (try rw [if_neg c_1]); (try rw [if_pos c_2]); try rfl, by rw [ht]; exact hP, va_K.moved hW.alike hK, hD⟩, hS.F ht⟩) hS.2.2 d_Tb_entriesFit_152
        · have hnlt : i < nl := Nat.lt_of_not_le (fun h => c_2 ((nI_leI (by omega) (by omega)).mpr h))
          refine lv_aload_n hx hb d_Tb_entriesFit_61 rfl (lv_at hl 0 rfl) ?_
          refine va_get (D := (dC, dI)) (ci := 4) (v := .int be) (C := R_Tb) (T := F_Tb) (N := 10) hx hb hts i_Tb hown hK hP 0 rfl rfl 2 (by decide) (hts _ (k_Tb_8)) (fun _ h9 => h9) rfl d_Tb_entriesFit_62 ?_
          refine lv_sipush (v := 512) hx hb d_Tb_entriesFit_65 (by decide) ?_
          refine lv_imul hx hb d_Tb_entriesFit_68 ?_
          refine lv_iconst (v := 4) hx hb d_Tb_entriesFit_69 (by decide) ?_
          refine lv_iload_n hx hb d_Tb_entriesFit_70 rfl (lv_at hl 2 rfl) ?_
          refine lv_imul hx hb d_Tb_entriesFit_71 ?_
          refine lv_iadd hx hb d_Tb_entriesFit_72 ?_
          refine lv_topi (fun x_3 ex_3 => ?_)
          refine lv_istore_n (lv' := [(3, .int x_3), (0, .ref b0), (1, .int ot), (2, .int (nI i))]) hx hb d_Tb_entriesFit_73 rfl hl (by decide) rfl (fun ls hl => ?_)
          refine lv_aload_n hx hb d_Tb_entriesFit_74 rfl (lv_at hl 1 rfl) ?_
          refine va_get (D := (dC, dI)) (ci := 4) (v := .ref b1) (C := R_Tb) (T := F_Tb) (N := 10) hx hb hts i_Tb hown hK hP 0 rfl rfl 8 (by decide) (hts _ (k_Tb_14)) (fun _ h9 => h9) rfl d_Tb_entriesFit_75 ?_
          refine lv_iload_n hx hb d_Tb_entriesFit_78 rfl (lv_at hl 3 rfl) ?_
          refine va_iald hx hb hK hP 1 0 rfl rfl (vp_in_nI hnlt hnl) d_Tb_entriesFit_79 ?_
          refine lv_iconst (v := 1) hx hb d_Tb_entriesFit_80 (by decide) ?_
          refine lv_icmp_eq (tgt := 110) hx hb d_Tb_entriesFit_81 (by decide) (fun c_4 => ?_) (fun c_4 => ?_)
          · refine lv_iconst (v := 1) hx hb d_Tb_entriesFit_110 (by decide) ?_
            refine lv_goto (tgt := 115) hx hb d_Tb_entriesFit_111 (by decide) ?_
            refine lv_istore (lv' := [(4, .int 1), (3, .int x_3), (0, .ref b0), (1, .int ot), (2, .int (nI i))]) hx hb d_Tb_entriesFit_115 hl (by decide) rfl (fun ls hl => ?_)
            refine lv_iload hx hb d_Tb_entriesFit_117 (lv_at hl 0 rfl) ?_
            refine lv_if_ne (tgt := 143) hx hb d_Tb_entriesFit_119 (by decide) (fun c_5 => ?_) (fun c_5 => ?_)
            · refine lv_iconst (v := 0) hx hb d_Tb_entriesFit_143 (by decide) ?_
              rw [hQ]
              exact W.zret (v := 0) hx hb hr rfl (fun t ht hW => ⟨⟨0, (), rfl, by obtain ⟨k9, hk9⟩ : ∃ k, kN + 2 - i = k + 1 := ⟨kN + 2 - i - 1, by omega⟩; rw [← he, hk9, tb_entF]; (try rw [if_neg c_1]); (try rw [if_neg c_2]); (try rw [← ex_3]); (try rw [if_pos c_4]); try rfl, by rw [ht]; exact hP, va_K.moved hW.alike hK, hD⟩, hS.F ht⟩) hS.2.2 d_Tb_entriesFit_144
            · exact absurd c_5 (by decide)
          · refine lv_aload_n hx hb d_Tb_entriesFit_84 rfl (lv_at hl 1 rfl) ?_
            refine va_get (D := (dC, dI)) (ci := 4) (v := .ref b1) (C := R_Tb) (T := F_Tb) (N := 10) hx hb hts i_Tb hown hK hP 0 rfl rfl 8 (by decide) (hts _ (k_Tb_14)) (fun _ h9 => h9) rfl d_Tb_entriesFit_85 ?_
            refine lv_iload_n hx hb d_Tb_entriesFit_88 rfl (lv_at hl 3 rfl) ?_
            refine va_iald hx hb hK hP 1 0 rfl rfl (vp_in_nI hnlt hnl) d_Tb_entriesFit_89 ?_
            refine lv_aload_n hx hb d_Tb_entriesFit_90 rfl (lv_at hl 1 rfl) ?_
            refine va_get (D := (dC, dI)) (ci := 4) (v := .int (nI kN)) (C := R_Tb) (T := F_Tb) (N := 10) hx hb hts i_Tb hown hK hP 0 rfl rfl 7 (by decide) (hts _ (k_Tb_13)) (fun _ h9 => h9) rfl d_Tb_entriesFit_91 ?_
            refine lv_iconst (v := 1) hx hb d_Tb_entriesFit_94 (by decide) ?_
            refine lv_iadd hx hb d_Tb_entriesFit_95 ?_
            refine lv_icmp_le (tgt := 114) hx hb d_Tb_entriesFit_96 (by decide) (fun c_6 => ?_) (fun c_6 => ?_)
            · refine lv_iconst (v := 0) hx hb d_Tb_entriesFit_114 (by decide) ?_
              refine lv_istore (lv' := [(4, .int 0), (3, .int x_3), (0, .ref b0), (1, .int ot), (2, .int (nI i))]) hx hb d_Tb_entriesFit_115 hl (by decide) rfl (fun ls hl => ?_)
              refine lv_iload hx hb d_Tb_entriesFit_117 (lv_at hl 0 rfl) ?_
              refine lv_if_ne (tgt := 143) hx hb d_Tb_entriesFit_119 (by decide) (fun c_7 => ?_) (fun c_7 => ?_)
              · exact absurd c_7 (by decide)
              · refine lv_aload_n hx hb d_Tb_entriesFit_122 rfl (lv_at hl 2 rfl) ?_
                refine va_get (D := (dC, dI)) (ci := 4) (v := .ref h0) (C := R_Tb) (T := F_Tb) (N := 10) hx hb hts i_Tb hown hK hP 0 rfl rfl 0 (by decide) (hts _ (k_Tb_6)) (fun _ h9 => h9) rfl d_Tb_entriesFit_123 ?_
                refine lv_iload_n hx hb d_Tb_entriesFit_126 rfl (lv_at hl 1 rfl) ?_
                have hPc := hP.sub (ws' := [(h0, .inr (0, [.int sec, .ref h1, .int pw])), (h1, .inl (cB, n, .inl f))]) [2, 3] rfl
                have hDc := hD.sub (ws' := [(h0, .inr (0, [.int sec, .ref h1, .int pw])), (h1, .inl (cB, n, .inl f))]) [2, 3] (by decide) rfl
                have hKc := hK.sub (tys' := [(cB, .byte)]) [1] rfl
                have hFc := va_free (wc := [(h0, .inr (0, [.int sec, .ref h1, .int pw])), (h1, .inl (cB, n, .inl f))]) hD hS hA [2, 3] rfl
                refine va_calli (va_runV (As := [.int x_3]) (rest := []) ⟨hx, hb, hml, hown, hts⟩ (c_Dk_four l dC dI h0 h1 H.size cB sec pw n f h4 hn x_3) (cwV 1 hts (gwV good_Tb (k_Tb_24) (u_Tb_Dk _ k_Dk_14) (u_Tb_Dk _ k_Dk_15) (u_Tb_Dk _ k_Dk_0) (wcs (u_Tb_Dk _ k_Dk_16) u_Tb_Dk)) rfl rfl rfl (by decide +kernel) ⟨Nat.le_of_ble_eq_true rfl, Nat.le_of_ble_eq_true rfl⟩) (pv_of hPc hKc hDc (va_recv hKc hPc (ci := 0) (q0 := 0) rfl rfl)) rfl rfl hl.1 rfl (lv_room (Nat.le_of_ble_eq_true rfl)) d_Tb_entriesFit_127 ⟨by decide, by decide⟩) hS (fun q _ h => hFc q h) hFc (fun r_8 u t H1 locs ht hvm hw hB hz1 hk1 hS => ?_)
                obtain ⟨er_8, rfl⟩ := hw
                obtain ⟨hP1, hK1, hD1⟩ := hB
                rw [ht] at hP1
                have hP1 : va_P (dC, dI) classes [(h0, .inr (0, [.int sec, .ref h1, .int pw])), (h1, .inl (cB, n, .inl f))] H1 := hP1
                have hD1 : va_D _ [(h0, .inr (0, [.int sec, .ref h1, .int pw])), (h1, .inl (cB, n, .inl f))] := hD1
                obtain ⟨hP, hD⟩ := va_join (wr := [(b0, .inr (4, [.ref h0, .int cl, .int be, .int co, .int le, .int ro, .int sa, .int (nI kN), .ref b1, .ref b2])), (b1, .inl (c1, nl, .inl nx))]) (w1 := [(h0, .inr (0, [.int sec, .ref h1, .int pw])), (h1, .inl (cB, n, .inl f))]) hP hD [2, 3] [0, 1] rfl rfl (by decide) (by decide) hk1 hFc hP1 hD1
                generalize H1 = H at hP hS ⊢
                have hP : va_P (dC, dI) classes [(b0, .inr (4, [.ref h0, .int cl, .int be, .int co, .int le, .int ro, .int sa, .int (nI kN), .ref b1, .ref b2])), (b1, .inl (c1, nl, .inl nx)), (h0, .inr (0, [.int sec, .ref h1, .int pw])), (h1, .inl (cB, n, .inl f))] H := hP
                have hD : va_D A [(b0, .inr (4, [.ref h0, .int cl, .int be, .int co, .int le, .int ro, .int sa, .int (nI kN), .ref b1, .ref b2])), (b1, .inl (c1, nl, .inl nx)), (h0, .inr (0, [.int sec, .ref h1, .int pw])), (h1, .inl (cB, n, .inl f))] := hD
                refine lv_aload_n hx hb d_Tb_entriesFit_130 rfl (lv_at hl 2 rfl) ?_
                refine va_get (D := (dC, dI)) (ci := 4) (v := .ref h0) (C := R_Tb) (T := F_Tb) (N := 10) hx hb hts i_Tb hown hK hP 0 rfl rfl 0 (by decide) (hts _ (k_Tb_6)) (fun _ h9 => h9) rfl d_Tb_entriesFit_131 ?_
                refine lv_iload_n hx hb d_Tb_entriesFit_134 rfl (lv_at hl 1 rfl) ?_
                refine lv_iload_n hx hb d_Tb_entriesFit_135 rfl (lv_at hl 3 rfl) ?_
                refine lv_iadd hx hb d_Tb_entriesFit_136 ?_
                have hPc := hP.sub (ws' := [(h0, .inr (0, [.int sec, .ref h1, .int pw])), (h1, .inl (cB, n, .inl f))]) [2, 3] rfl
                have hDc := hD.sub (ws' := [(h0, .inr (0, [.int sec, .ref h1, .int pw])), (h1, .inl (cB, n, .inl f))]) [2, 3] (by decide) rfl
                have hKc := hK.sub (tys' := [(cB, .byte)]) [1] rfl
                have hFc := va_free (wc := [(h0, .inr (0, [.int sec, .ref h1, .int pw])), (h1, .inl (cB, n, .inl f))]) hD hS hA [2, 3] rfl
                refine va_calli (va_runV (As := [.int (x_3 + ot)]) (rest := [.int r_8]) ⟨hx, hb, hml, hown, hts⟩ (c_Dk_four l dC dI h0 h1 H.size cB sec pw n f h4 hn (x_3 + ot)) (cwV 1 hts (gwV good_Tb (k_Tb_24) (u_Tb_Dk _ k_Dk_14) (u_Tb_Dk _ k_Dk_15) (u_Tb_Dk _ k_Dk_0) (wcs (u_Tb_Dk _ k_Dk_16) u_Tb_Dk)) rfl rfl rfl (by decide +kernel) ⟨Nat.le_of_ble_eq_true rfl, Nat.le_of_ble_eq_true rfl⟩) (pv_of hPc hKc hDc (va_recv hKc hPc (ci := 0) (q0 := 0) rfl rfl)) rfl rfl hl.1 rfl (lv_room (Nat.le_of_ble_eq_true rfl)) d_Tb_entriesFit_137 ⟨by decide, by decide⟩) hS (fun q _ h => hFc q h) hFc (fun r_9 u t H1 locs ht hvm hw hB hz1 hk1 hS => ?_)
                obtain ⟨er_9, rfl⟩ := hw
                obtain ⟨hP1, hK1, hD1⟩ := hB
                rw [ht] at hP1
                have hP1 : va_P (dC, dI) classes [(h0, .inr (0, [.int sec, .ref h1, .int pw])), (h1, .inl (cB, n, .inl f))] H1 := hP1
                have hD1 : va_D _ [(h0, .inr (0, [.int sec, .ref h1, .int pw])), (h1, .inl (cB, n, .inl f))] := hD1
                obtain ⟨hP, hD⟩ := va_join (wr := [(b0, .inr (4, [.ref h0, .int cl, .int be, .int co, .int le, .int ro, .int sa, .int (nI kN), .ref b1, .ref b2])), (b1, .inl (c1, nl, .inl nx))]) (w1 := [(h0, .inr (0, [.int sec, .ref h1, .int pw])), (h1, .inl (cB, n, .inl f))]) hP hD [2, 3] [0, 1] rfl rfl (by decide) (by decide) hk1 hFc hP1 hD1
                generalize H1 = H at hP hS ⊢
                have hP : va_P (dC, dI) classes [(b0, .inr (4, [.ref h0, .int cl, .int be, .int co, .int le, .int ro, .int sa, .int (nI kN), .ref b1, .ref b2])), (b1, .inl (c1, nl, .inl nx)), (h0, .inr (0, [.int sec, .ref h1, .int pw])), (h1, .inl (cB, n, .inl f))] H := hP
                have hD : va_D A [(b0, .inr (4, [.ref h0, .int cl, .int be, .int co, .int le, .int ro, .int sa, .int (nI kN), .ref b1, .ref b2])), (b1, .inl (c1, nl, .inl nx)), (h0, .inr (0, [.int sec, .ref h1, .int pw])), (h1, .inl (cB, n, .inl f))] := hD
                refine lv_icmp_eq (tgt := 145) hx hb d_Tb_entriesFit_140 (by decide) (fun c_10 => ?_) (fun c_10 => ?_)
                · refine lv_iinc (v := nI (i + 1)) (lv' := [(2, .int (nI (i + 1))), (4, .int 0), (3, .int x_3), (0, .ref b0), (1, .int ot)]) hx hb d_Tb_entriesFit_145 hl (k := 4) rfl (by exact nI_1 i) (by decide) rfl (fun ls hl => ?_)
                  refine lv_goto (tgt := 42) hx hb d_Tb_entriesFit_148 (by decide) ?_
                  obtain ⟨k9, hk9⟩ : ∃ k, kN + 2 - i = k + 1 := ⟨kN + 2 - i - 1, by omega⟩
                  have he9 : tb_entF n f nl nx (nI kN) be ot (kN + 2 - (i + 1)) (i + 1) = tb_ent n f nl nx kN be co le := by rw [← he, hk9, show kN + 2 - (i + 1) = k9 by omega, tb_entF]; (try rw [if_neg c_1]); (try rw [if_neg c_2]); (try rw [← ex_3]); (try rw [if_neg c_4]); (try rw [if_pos c_6]); (try rw [← er_8]); (try rw [← er_9]); (try rw [if_pos c_10])
                  exact ih (i + 1) ot _ _ _ (by omega) hlt he9 hP hD hS (lv_sub hl [3, 4, 0] rfl)
                · refine lv_iconst (v := 0) hx hb d_Tb_entriesFit_143 (by decide) ?_
                  rw [hQ]
                  exact W.zret (v := 0) hx hb hr rfl (fun t ht hW => ⟨⟨0, (), rfl, by obtain ⟨k9, hk9⟩ : ∃ k, kN + 2 - i = k + 1 := ⟨kN + 2 - i - 1, by omega⟩; rw [← he, hk9, tb_entF]; (try rw [if_neg c_1]); (try rw [if_neg c_2]); (try rw [← ex_3]); (try rw [if_neg c_4]); (try rw [if_pos c_6]); (try rw [← er_8]); (try rw [← er_9]); (try rw [if_neg c_10]); try rfl, by rw [ht]; exact hP, va_K.moved hW.alike hK, hD⟩, hS.F ht⟩) hS.2.2 d_Tb_entriesFit_144
            · refine lv_aload_n hx hb d_Tb_entriesFit_99 rfl (lv_at hl 1 rfl) ?_
              refine va_get (D := (dC, dI)) (ci := 4) (v := .ref b1) (C := R_Tb) (T := F_Tb) (N := 10) hx hb hts i_Tb hown hK hP 0 rfl rfl 8 (by decide) (hts _ (k_Tb_14)) (fun _ h9 => h9) rfl d_Tb_entriesFit_100 ?_
              refine lv_iload_n hx hb d_Tb_entriesFit_103 rfl (lv_at hl 3 rfl) ?_
              refine va_iald hx hb hK hP 1 0 rfl rfl (vp_in_nI hnlt hnl) d_Tb_entriesFit_104 ?_
              refine lv_ldc (v := 268435448) hx hb hown (hts _ (k_Tb_42)) d_Tb_entriesFit_105 ?_
              refine lv_icmp_ge (tgt := 114) hx hb d_Tb_entriesFit_107 (by decide) (fun c_11 => ?_) (fun c_11 => ?_)
              · refine lv_iconst (v := 0) hx hb d_Tb_entriesFit_114 (by decide) ?_
                refine lv_istore (lv' := [(4, .int 0), (3, .int x_3), (0, .ref b0), (1, .int ot), (2, .int (nI i))]) hx hb d_Tb_entriesFit_115 hl (by decide) rfl (fun ls hl => ?_)
                refine lv_iload hx hb d_Tb_entriesFit_117 (lv_at hl 0 rfl) ?_
                refine lv_if_ne (tgt := 143) hx hb d_Tb_entriesFit_119 (by decide) (fun c_12 => ?_) (fun c_12 => ?_)
                · exact absurd c_12 (by decide)
                · refine lv_aload_n hx hb d_Tb_entriesFit_122 rfl (lv_at hl 2 rfl) ?_
                  refine va_get (D := (dC, dI)) (ci := 4) (v := .ref h0) (C := R_Tb) (T := F_Tb) (N := 10) hx hb hts i_Tb hown hK hP 0 rfl rfl 0 (by decide) (hts _ (k_Tb_6)) (fun _ h9 => h9) rfl d_Tb_entriesFit_123 ?_
                  refine lv_iload_n hx hb d_Tb_entriesFit_126 rfl (lv_at hl 1 rfl) ?_
                  have hPc := hP.sub (ws' := [(h0, .inr (0, [.int sec, .ref h1, .int pw])), (h1, .inl (cB, n, .inl f))]) [2, 3] rfl
                  have hDc := hD.sub (ws' := [(h0, .inr (0, [.int sec, .ref h1, .int pw])), (h1, .inl (cB, n, .inl f))]) [2, 3] (by decide) rfl
                  have hKc := hK.sub (tys' := [(cB, .byte)]) [1] rfl
                  have hFc := va_free (wc := [(h0, .inr (0, [.int sec, .ref h1, .int pw])), (h1, .inl (cB, n, .inl f))]) hD hS hA [2, 3] rfl
                  refine va_calli (va_runV (As := [.int x_3]) (rest := []) ⟨hx, hb, hml, hown, hts⟩ (c_Dk_four l dC dI h0 h1 H.size cB sec pw n f h4 hn x_3) (cwV 1 hts (gwV good_Tb (k_Tb_24) (u_Tb_Dk _ k_Dk_14) (u_Tb_Dk _ k_Dk_15) (u_Tb_Dk _ k_Dk_0) (wcs (u_Tb_Dk _ k_Dk_16) u_Tb_Dk)) rfl rfl rfl (by decide +kernel) ⟨Nat.le_of_ble_eq_true rfl, Nat.le_of_ble_eq_true rfl⟩) (pv_of hPc hKc hDc (va_recv hKc hPc (ci := 0) (q0 := 0) rfl rfl)) rfl rfl hl.1 rfl (lv_room (Nat.le_of_ble_eq_true rfl)) d_Tb_entriesFit_127 ⟨by decide, by decide⟩) hS (fun q _ h => hFc q h) hFc (fun r_13 u t H1 locs ht hvm hw hB hz1 hk1 hS => ?_)
                  obtain ⟨er_13, rfl⟩ := hw
                  obtain ⟨hP1, hK1, hD1⟩ := hB
                  rw [ht] at hP1
                  have hP1 : va_P (dC, dI) classes [(h0, .inr (0, [.int sec, .ref h1, .int pw])), (h1, .inl (cB, n, .inl f))] H1 := hP1
                  have hD1 : va_D _ [(h0, .inr (0, [.int sec, .ref h1, .int pw])), (h1, .inl (cB, n, .inl f))] := hD1
                  obtain ⟨hP, hD⟩ := va_join (wr := [(b0, .inr (4, [.ref h0, .int cl, .int be, .int co, .int le, .int ro, .int sa, .int (nI kN), .ref b1, .ref b2])), (b1, .inl (c1, nl, .inl nx))]) (w1 := [(h0, .inr (0, [.int sec, .ref h1, .int pw])), (h1, .inl (cB, n, .inl f))]) hP hD [2, 3] [0, 1] rfl rfl (by decide) (by decide) hk1 hFc hP1 hD1
                  generalize H1 = H at hP hS ⊢
                  have hP : va_P (dC, dI) classes [(b0, .inr (4, [.ref h0, .int cl, .int be, .int co, .int le, .int ro, .int sa, .int (nI kN), .ref b1, .ref b2])), (b1, .inl (c1, nl, .inl nx)), (h0, .inr (0, [.int sec, .ref h1, .int pw])), (h1, .inl (cB, n, .inl f))] H := hP
                  have hD : va_D A [(b0, .inr (4, [.ref h0, .int cl, .int be, .int co, .int le, .int ro, .int sa, .int (nI kN), .ref b1, .ref b2])), (b1, .inl (c1, nl, .inl nx)), (h0, .inr (0, [.int sec, .ref h1, .int pw])), (h1, .inl (cB, n, .inl f))] := hD
                  refine lv_aload_n hx hb d_Tb_entriesFit_130 rfl (lv_at hl 2 rfl) ?_
                  refine va_get (D := (dC, dI)) (ci := 4) (v := .ref h0) (C := R_Tb) (T := F_Tb) (N := 10) hx hb hts i_Tb hown hK hP 0 rfl rfl 0 (by decide) (hts _ (k_Tb_6)) (fun _ h9 => h9) rfl d_Tb_entriesFit_131 ?_
                  refine lv_iload_n hx hb d_Tb_entriesFit_134 rfl (lv_at hl 1 rfl) ?_
                  refine lv_iload_n hx hb d_Tb_entriesFit_135 rfl (lv_at hl 3 rfl) ?_
                  refine lv_iadd hx hb d_Tb_entriesFit_136 ?_
                  have hPc := hP.sub (ws' := [(h0, .inr (0, [.int sec, .ref h1, .int pw])), (h1, .inl (cB, n, .inl f))]) [2, 3] rfl
                  have hDc := hD.sub (ws' := [(h0, .inr (0, [.int sec, .ref h1, .int pw])), (h1, .inl (cB, n, .inl f))]) [2, 3] (by decide) rfl
                  have hKc := hK.sub (tys' := [(cB, .byte)]) [1] rfl
                  have hFc := va_free (wc := [(h0, .inr (0, [.int sec, .ref h1, .int pw])), (h1, .inl (cB, n, .inl f))]) hD hS hA [2, 3] rfl
                  refine va_calli (va_runV (As := [.int (x_3 + ot)]) (rest := [.int r_13]) ⟨hx, hb, hml, hown, hts⟩ (c_Dk_four l dC dI h0 h1 H.size cB sec pw n f h4 hn (x_3 + ot)) (cwV 1 hts (gwV good_Tb (k_Tb_24) (u_Tb_Dk _ k_Dk_14) (u_Tb_Dk _ k_Dk_15) (u_Tb_Dk _ k_Dk_0) (wcs (u_Tb_Dk _ k_Dk_16) u_Tb_Dk)) rfl rfl rfl (by decide +kernel) ⟨Nat.le_of_ble_eq_true rfl, Nat.le_of_ble_eq_true rfl⟩) (pv_of hPc hKc hDc (va_recv hKc hPc (ci := 0) (q0 := 0) rfl rfl)) rfl rfl hl.1 rfl (lv_room (Nat.le_of_ble_eq_true rfl)) d_Tb_entriesFit_137 ⟨by decide, by decide⟩) hS (fun q _ h => hFc q h) hFc (fun r_14 u t H1 locs ht hvm hw hB hz1 hk1 hS => ?_)
                  obtain ⟨er_14, rfl⟩ := hw
                  obtain ⟨hP1, hK1, hD1⟩ := hB
                  rw [ht] at hP1
                  have hP1 : va_P (dC, dI) classes [(h0, .inr (0, [.int sec, .ref h1, .int pw])), (h1, .inl (cB, n, .inl f))] H1 := hP1
                  have hD1 : va_D _ [(h0, .inr (0, [.int sec, .ref h1, .int pw])), (h1, .inl (cB, n, .inl f))] := hD1
                  obtain ⟨hP, hD⟩ := va_join (wr := [(b0, .inr (4, [.ref h0, .int cl, .int be, .int co, .int le, .int ro, .int sa, .int (nI kN), .ref b1, .ref b2])), (b1, .inl (c1, nl, .inl nx))]) (w1 := [(h0, .inr (0, [.int sec, .ref h1, .int pw])), (h1, .inl (cB, n, .inl f))]) hP hD [2, 3] [0, 1] rfl rfl (by decide) (by decide) hk1 hFc hP1 hD1
                  generalize H1 = H at hP hS ⊢
                  have hP : va_P (dC, dI) classes [(b0, .inr (4, [.ref h0, .int cl, .int be, .int co, .int le, .int ro, .int sa, .int (nI kN), .ref b1, .ref b2])), (b1, .inl (c1, nl, .inl nx)), (h0, .inr (0, [.int sec, .ref h1, .int pw])), (h1, .inl (cB, n, .inl f))] H := hP
                  have hD : va_D A [(b0, .inr (4, [.ref h0, .int cl, .int be, .int co, .int le, .int ro, .int sa, .int (nI kN), .ref b1, .ref b2])), (b1, .inl (c1, nl, .inl nx)), (h0, .inr (0, [.int sec, .ref h1, .int pw])), (h1, .inl (cB, n, .inl f))] := hD
                  refine lv_icmp_eq (tgt := 145) hx hb d_Tb_entriesFit_140 (by decide) (fun c_15 => ?_) (fun c_15 => ?_)
                  · refine lv_iinc (v := nI (i + 1)) (lv' := [(2, .int (nI (i + 1))), (4, .int 0), (3, .int x_3), (0, .ref b0), (1, .int ot)]) hx hb d_Tb_entriesFit_145 hl (k := 4) rfl (by exact nI_1 i) (by decide) rfl (fun ls hl => ?_)
                    refine lv_goto (tgt := 42) hx hb d_Tb_entriesFit_148 (by decide) ?_
                    obtain ⟨k9, hk9⟩ : ∃ k, kN + 2 - i = k + 1 := ⟨kN + 2 - i - 1, by omega⟩
                    have he9 : tb_entF n f nl nx (nI kN) be ot (kN + 2 - (i + 1)) (i + 1) = tb_ent n f nl nx kN be co le := by rw [← he, hk9, show kN + 2 - (i + 1) = k9 by omega, tb_entF]; (try rw [if_neg c_1]); (try rw [if_neg c_2]); (try rw [← ex_3]); (try rw [if_neg c_4]); (try rw [if_neg c_6]); (try rw [if_pos c_11]); (try rw [← er_13]); (try rw [← er_14]); (try rw [if_pos c_15])
                    exact ih (i + 1) ot _ _ _ (by omega) hlt he9 hP hD hS (lv_sub hl [3, 4, 0] rfl)
                  · refine lv_iconst (v := 0) hx hb d_Tb_entriesFit_143 (by decide) ?_
                    rw [hQ]
                    exact W.zret (v := 0) hx hb hr rfl (fun t ht hW => ⟨⟨0, (), rfl, by obtain ⟨k9, hk9⟩ : ∃ k, kN + 2 - i = k + 1 := ⟨kN + 2 - i - 1, by omega⟩; rw [← he, hk9, tb_entF]; (try rw [if_neg c_1]); (try rw [if_neg c_2]); (try rw [← ex_3]); (try rw [if_neg c_4]); (try rw [if_neg c_6]); (try rw [if_pos c_11]); (try rw [← er_13]); (try rw [← er_14]); (try rw [if_neg c_15]); try rfl, by rw [ht]; exact hP, va_K.moved hW.alike hK, hD⟩, hS.F ht⟩) hS.2.2 d_Tb_entriesFit_144
              · refine lv_iconst (v := 1) hx hb d_Tb_entriesFit_110 (by decide) ?_
                refine lv_goto (tgt := 115) hx hb d_Tb_entriesFit_111 (by decide) ?_
                refine lv_istore (lv' := [(4, .int 1), (3, .int x_3), (0, .ref b0), (1, .int ot), (2, .int (nI i))]) hx hb d_Tb_entriesFit_115 hl (by decide) rfl (fun ls hl => ?_)
                refine lv_iload hx hb d_Tb_entriesFit_117 (lv_at hl 0 rfl) ?_
                refine lv_if_ne (tgt := 143) hx hb d_Tb_entriesFit_119 (by decide) (fun c_16 => ?_) (fun c_16 => ?_)
                · refine lv_iconst (v := 0) hx hb d_Tb_entriesFit_143 (by decide) ?_
                  rw [hQ]
                  exact W.zret (v := 0) hx hb hr rfl (fun t ht hW => ⟨⟨0, (), rfl, by obtain ⟨k9, hk9⟩ : ∃ k, kN + 2 - i = k + 1 := ⟨kN + 2 - i - 1, by omega⟩; rw [← he, hk9, tb_entF]; (try rw [if_neg c_1]); (try rw [if_neg c_2]); (try rw [← ex_3]); (try rw [if_neg c_4]); (try rw [if_neg c_6]); (try rw [if_neg c_11]); try rfl, by rw [ht]; exact hP, va_K.moved hW.alike hK, hD⟩, hS.F ht⟩) hS.2.2 d_Tb_entriesFit_144
                · exact absurd c_16 (by decide)
  refine lv_aload_n hx hb d_Tb_entriesFit_0 rfl (lv_at hl 0 rfl) ?_
  refine va_get (D := (dC, dI)) (ci := 4) (v := .ref b1) (C := R_Tb) (T := F_Tb) (N := 10) hx hb hts i_Tb hown hK hP 0 rfl rfl 8 (by decide) (hts _ (k_Tb_14)) (fun _ h9 => h9) rfl d_Tb_entriesFit_1 ?_
  refine lv_iconst (v := 0) hx hb d_Tb_entriesFit_4 (by decide) ?_
  refine va_iald hx hb hK hP 1 0 rfl rfl (by exact vp_in_nI (n := 0) (by omega) hnl) d_Tb_entriesFit_5 ?_
  refine lv_ldc (v := 268435448) hx hb hown (hts _ (k_Tb_42)) d_Tb_entriesFit_6 ?_
  refine lv_icmp_ne (tgt := 22) hx hb d_Tb_entriesFit_8 (by decide) (fun c_17 => ?_) (fun c_17 => ?_)
  · refine lv_iconst (v := 0) hx hb d_Tb_entriesFit_22 (by decide) ?_
    rw [hQ]
    exact W.zret (v := 0) hx hb hr rfl (fun t ht hW => ⟨⟨0, (), rfl, by rw [tb_ent]; (try rw [if_neg c_17]); try rfl, by rw [ht]; exact hP, va_K.moved hW.alike hK, hD⟩, hS.F ht⟩) hS.2.2 d_Tb_entriesFit_23
  · refine lv_aload_n hx hb d_Tb_entriesFit_11 rfl (lv_at hl 0 rfl) ?_
    refine va_get (D := (dC, dI)) (ci := 4) (v := .ref b1) (C := R_Tb) (T := F_Tb) (N := 10) hx hb hts i_Tb hown hK hP 0 rfl rfl 8 (by decide) (hts _ (k_Tb_14)) (fun _ h9 => h9) rfl d_Tb_entriesFit_12 ?_
    refine lv_iconst (v := 1) hx hb d_Tb_entriesFit_15 (by decide) ?_
    refine va_iald hx hb hK hP 1 0 rfl rfl (by exact vp_in_nI (n := 1) (by omega) hnl) d_Tb_entriesFit_16 ?_
    refine lv_ldc (v := 268435455) hx hb hown (hts _ (k_Tb_38)) d_Tb_entriesFit_17 ?_
    refine lv_icmp_eq (tgt := 24) hx hb d_Tb_entriesFit_19 (by decide) (fun c_18 => ?_) (fun c_18 => ?_)
    · refine lv_aload_n hx hb d_Tb_entriesFit_24 rfl (lv_at hl 0 rfl) ?_
      refine va_get (D := (dC, dI)) (ci := 4) (v := .int co) (C := R_Tb) (T := F_Tb) (N := 10) hx hb hts i_Tb hown hK hP 0 rfl rfl 3 (by decide) (hts _ (k_Tb_9)) (fun _ h9 => h9) rfl d_Tb_entriesFit_25 ?_
      refine lv_iconst (v := 1) hx hb d_Tb_entriesFit_28 (by decide) ?_
      refine lv_isub hx hb d_Tb_entriesFit_29 ?_
      refine lv_aload_n hx hb d_Tb_entriesFit_30 rfl (lv_at hl 0 rfl) ?_
      refine va_get (D := (dC, dI)) (ci := 4) (v := .int le) (C := R_Tb) (T := F_Tb) (N := 10) hx hb hts i_Tb hown hK hP 0 rfl rfl 4 (by decide) (hts _ (k_Tb_10)) (fun _ h9 => h9) rfl d_Tb_entriesFit_31 ?_
      refine lv_imul hx hb d_Tb_entriesFit_34 ?_
      refine lv_sipush (v := 512) hx hb d_Tb_entriesFit_35 (by decide) ?_
      refine lv_imul hx hb d_Tb_entriesFit_38 ?_
      refine lv_topi (fun x_19 ex_19 => ?_)
      refine lv_istore_n (lv' := [(1, .int x_19), (0, .ref b0)]) hx hb d_Tb_entriesFit_39 rfl hl (by decide) rfl (fun ls hl => ?_)
      refine lv_iconst (v := 0) hx hb d_Tb_entriesFit_40 (by decide) ?_
      refine lv_istore_n (lv' := [(2, .int 0), (1, .int x_19), (0, .ref b0)]) hx hb d_Tb_entriesFit_41 rfl hl (by decide) rfl (fun ls hl => ?_)
      exact hL42 (kN + 3) 0 _ _ _ _ (by omega) (Nat.zero_le _) (by rw [tb_ent]; (try rw [if_pos c_17]); (try rw [if_pos c_18]); (try rw [← ex_19]); rfl) hP hD hS (lv_sub hl [2, 1, 0] rfl)
    · refine lv_iconst (v := 0) hx hb d_Tb_entriesFit_22 (by decide) ?_
      rw [hQ]
      exact W.zret (v := 0) hx hb hr rfl (fun t ht hW => ⟨⟨0, (), rfl, by rw [tb_ent]; (try rw [if_pos c_17]); (try rw [if_neg c_18]); try rfl, by rw [ht]; exact hP, va_K.moved hW.alike hK, hD⟩, hS.F ht⟩) hS.2.2 d_Tb_entriesFit_23
