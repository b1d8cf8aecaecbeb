theorem tb_has_in {ks c : Int32} {nl : Nat} (h : ¬ tb_has ks nl c = 0) (hn : nl < 2 ^ 31) : vp_in c nl := by
  unfold tb_has at h
  by_cases h0 : c < 2
  · rw [if_pos h0] at h; exact absurd rfl h
  · rw [if_neg h0] at h
    by_cases h1 : ks + 2 ≤ c
    · rw [if_pos h1] at h; exact absurd rfl h
    · rw [if_neg h1] at h
      by_cases h2 : nI nl ≤ c
      · rw [if_pos h2] at h; exact absurd rfl h
      · exact in_of3 h0 h2 hn
/-- a chain's clusters come to a row: how many, and the row -/
def tb_roadF (ks : Int32) (nl : Nat) (nx : Nat → Int32) : Nat → Int32 → Nat → (Nat → Int32) → Int32 × (Nat → Int32)
  | 0, _, i, ra => (nI i, ra)
  | k + 1, c, i, ra => if tb_has ks nl c = 0 then (nI i, ra) else tb_roadF ks nl nx k (nx c.toNatClampNeg) (i + 1) (upd ra (nI i).toNatClampNeg c)
set_option maxHeartbeats 4000000 in
set_option maxRecDepth 100000 in
/-- a chain comes to a row -/
theorem c_Tb_road (l : Launch) (dC : Nat → ClassId) (dI : Nat → Nat → Nat) (b0 b1 b2 h0 sz : Nat) (cl be co le ro sa ks : Int32) (rd : Nat) (c1 c3 : ClassId) (nl : Nat) (nx : Nat → Int32) (hnl : nl < 2 ^ 31) (rl : Nat) (ra : Nat → Int32) (hrl : rl < 2 ^ 31) (p1 : Int32) : Met l y_Tb_road (.code y_Tb_road b_Tb_road 5 (some .int) :: V_Tb) ({ frames := 1, cells := 0, slots := 0, locals := 21 }) (va_Pc [.ref b0, .int p1, .ref rd] (fun U => U.heap.size = sz ∧ at_ (dC, dI) (fun _ => True) [(b0, .inr (4, [.ref h0, .int cl, .int be, .int co, .int le, .int ro, .int sa, .int ks, .ref b1, .ref b2])), (b1, .inl (c1, nl, .inl nx)), (rd, .inl (c3, rl, .inl ra))] [(c1, .int), (c3, .int)] U)) (va_Qi (fun (r : Int32) (u : Nat → Int32) => (r, u) = tb_roadF ks nl nx rl p1 0 ra) (fun (u : Nat → Int32) t => at_ (dC, dI) (va_A [(b0, .inr (4, [.ref h0, .int cl, .int be, .int co, .int le, .int ro, .int sa, .int ks, .ref b1, .ref b2])), (b1, .inl (c1, nl, .inl nx)), (rd, .inl (c3, rl, .inl ra))] sz) [(b0, .inr (4, [.ref h0, .int cl, .int be, .int co, .int le, .int ro, .int sa, .int ks, .ref b1, .ref b2])), (b1, .inl (c1, nl, .inl nx)), (rd, .inl (c3, rl, .inl u))] [(c1, .int), (c3, .int)] t) (va_A [(b0, .inr (4, [.ref h0, .int cl, .int be, .int co, .int le, .int ro, .int sa, .int ks, .ref b1, .ref b2])), (b1, .inl (c1, nl, .inl nx)), (rd, .inl (c3, rl, .inl ra))] sz)) 0 0 (va_A [(b0, .inr (4, [.ref h0, .int cl, .int be, .int co, .int le, .int ro, .int sa, .int ks, .ref b1, .ref b2])), (b1, .inl (c1, nl, .inl nx)), (rd, .inl (c3, rl, .inl ra))] sz) := by
  refine Met.ofW (cc := b_Tb_road) (maxL := 5) (ret := (some .int)) (by decide) rfl ?_
  intro p e s m args below meth c s₁ B hml hv
  obtain ⟨rfl, hsz, hP, hK, hD0⟩ := hv
  have hx := B.exec
  have hb := B.bytes
  have hr := B.returns
  have hts0 := atoms_spec (ws := .code y_Tb_road b_Tb_road 5 (some .int) :: V_Tb) B.pre
  have hts : ∀ w ∈ V_Tb, w.before ([.ref b0, .int p1, .ref rd] : List Value).toArray s = true := fun w h => hts0 w (List.mem_cons_of_mem _ h)
  have hown : s.vm.findClass R_Tb = some m.cls := findClass_of_methodNamed B.named
  have hlocks := B.notSynchronized
  subst hsz
  have hD := hD0.self (sz := s.heap.size)
  generalize hAe : va_A [(b0, .inr (4, [.ref h0, .int cl, .int be, .int co, .int le, .int ro, .int sa, .int ks, .ref b1, .ref b2])), (b1, .inl (c1, nl, .inl nx)), (rd, .inl (c3, rl, .inl ra))] s.heap.size = A at hD ⊢
  have hA : ∀ q : Nat, s.heap.size ≤ q → A q := fun q h => by rw [← hAe]; exact Or.inr h
  have hS : va_S A s.heap s.heap [] := va_S.rf
  have hP : va_P (dC, dI) classes [(b0, .inr (4, [.ref h0, .int cl, .int be, .int co, .int le, .int ro, .int sa, .int ks, .ref b1, .ref b2])), (b1, .inl (c1, nl, .inl nx)), (rd, .inl (c3, rl, .inl ra))] s.heap := hP
  have hK : va_K (dC, dI) classes [(c1, .int), (c3, .int)] s := hK
  have hl := lv_entry ([.ref b0, .int p1, .ref rd]) (n := 5) (Nat.le_of_ble_eq_true rfl)
  rw [lg_entry_eq]
  generalize (lg_sl ([.ref b0, .int p1, .ref rd]) ++ List.replicate (5 - (lg_sl ([.ref b0, .int p1, .ref rd])).length) Slot.unset).toArray = ls at hl ⊢
  have hl : lv_has ls 5 [(0, .ref b0), (1, .int p1), (2, .ref rd)] := hl
  refine qabs (fun Q hQ => ?_)
  have hL5 : ∀ (k_ : Nat) (i : Nat) (cv : Int32) (rv : Nat → Int32) (H : Heap) (locs : List Loc) (ls : Array Slot), rl - i < k_ → (i ≤ rl) → (tb_roadF ks nl nx (rl - i) cv i rv = tb_roadF ks nl nx rl p1 0 ra) → va_P (dC, dI) classes [(b0, .inr (4, [.ref h0, .int cl, .int be, .int co, .int le, .int ro, .int sa, .int ks, .ref b1, .ref b2])), (b1, .inl (c1, nl, .inl nx)), (rd, .inl (c3, rl, .inl rv))] H → va_D A [(b0, .inr (4, [.ref h0, .int cl, .int be, .int co, .int le, .int ro, .int sa, .int ks, .ref b1, .ref b2])), (b1, .inl (c1, nl, .inl nx)), (rd, .inl (c3, rl, .inl rv))] → va_S A s.heap H locs → lv_has ls 5 [(0, .ref b0), (1, .int p1), (2, .ref rd), (3, .int cv), (4, .int (nI i))] → W p l e ({ frames := 1, cells := 0, slots := 0, locals := 21 }) s m ([.ref b0, .int p1, .ref rd] : List Value).toArray below meth c H locs 0 0 Q (F0 m 5 ls []) := by
    intro k_
    induction k_ with
    | zero => intro i cv rv H locs ls hk_; exact absurd hk_ (Nat.not_lt_zero _)
    | succ k_ ih =>
      intro i cv rv H locs ls hk_ hi he hP hD hS hl
      refine lv_iload hx hb d_Tb_road_5 (lv_at hl 4 rfl) ?_
      refine lv_aload_n hx hb d_Tb_road_7 rfl (lv_at hl 2 rfl) ?_
      refine va_alen (v := nI rl) hx hb hK hP 2 1 rfl rfl rfl d_Tb_road_8 ?_
      refine lv_icmp_ge (tgt := 38) hx hb d_Tb_road_9 (by decide) (fun c_1 => ?_) (fun c_1 => ?_)
      · have hi9 : rl ≤ i := (nI_leI (by omega) (by omega)).mp c_1
        refine lv_iload hx hb d_Tb_road_38 (lv_at hl 4 rfl) ?_
        rw [hQ]
        exact W.iret (v := (nI i)) hx hb hr (fun t ht hW => ⟨⟨(nI i), rv, rfl, by rw [← he, show rl - i = 0 by omega]; rfl, by rw [ht]; exact hP, va_K.moved hW.alike hK, hD⟩, hS.F ht⟩) hS.2.2 d_Tb_road_40
      · have hlt : i < rl := Nat.lt_of_not_le (fun h => c_1 ((nI_leI (by omega) (by omega)).mpr h))
        refine lv_aload_n hx hb d_Tb_road_12 rfl (lv_at hl 0 rfl) ?_
        refine lv_iload_n hx hb d_Tb_road_13 rfl (lv_at hl 3 rfl) ?_
        have hPc := hP.sub (ws' := [(b0, .inr (4, [.ref h0, .int cl, .int be, .int co, .int le, .int ro, .int sa, .int ks, .ref b1, .ref b2])), (b1, .inl (c1, nl, .inl nx))]) [0, 1] rfl
        have hDc := hD.sub (ws' := [(b0, .inr (4, [.ref h0, .int cl, .int be, .int co, .int le, .int ro, .int sa, .int ks, .ref b1, .ref b2])), (b1, .inl (c1, nl, .inl nx))]) [0, 1] (by decide) rfl
        have hKc := hK.sub (tys' := [(c1, .int)]) [0] rfl
        have hFc := va_free (wc := [(b0, .inr (4, [.ref h0, .int cl, .int be, .int co, .int le, .int ro, .int sa, .int ks, .ref b1, .ref b2])), (b1, .inl (c1, nl, .inl nx))]) hD hS hA [0, 1] rfl
        refine va_calli (va_runV (As := [.int cv]) (rest := []) ⟨hx, hb, hml, hown, hts⟩ (c_Tb_hasCluster l dC dI b0 b1 b2 h0 H.size cl be co le ro sa ks c1 nl nx hnl cv) (cwV 1 hts (gwV good_Tb (k_Tb_99) (k_Tb_73) (k_Tb_74) (k_Tb_0) (wcs (k_Tb_75) (fun _ h => h))) rfl rfl rfl (by decide +kernel) ⟨Nat.le_of_ble_eq_true rfl, Nat.le_of_ble_eq_true rfl⟩) (pv_of hPc hKc hDc (va_recv hKc hPc (ci := 4) (q0 := 0) rfl rfl)) rfl rfl hl.1 rfl (lv_room (Nat.le_of_ble_eq_true rfl)) d_Tb_road_14 ⟨by decide, by decide⟩) hS (fun q _ h => hFc q h) hFc (fun r_2 u t H1 locs ht hvm hw hB hz1 hk1 hS => ?_)
        have er_2 := hw
        obtain ⟨hP1, hK1, hD1⟩ := hB
        rw [ht] at hP1
        have hP1 : va_P (dC, dI) classes [(b0, .inr (4, [.ref h0, .int cl, .int be, .int co, .int le, .int ro, .int sa, .int ks, .ref b1, .ref b2])), (b1, .inl (c1, nl, .inl nx))] H1 := hP1
        have hD1 : va_D _ [(b0, .inr (4, [.ref h0, .int cl, .int be, .int co, .int le, .int ro, .int sa, .int ks, .ref b1, .ref b2])), (b1, .inl (c1, nl, .inl nx))] := hD1
        obtain ⟨hP, hD⟩ := va_join (wr := [(rd, .inl (c3, rl, .inl rv))]) (w1 := [(b0, .inr (4, [.ref h0, .int cl, .int be, .int co, .int le, .int ro, .int sa, .int ks, .ref b1, .ref b2])), (b1, .inl (c1, nl, .inl nx))]) hP hD [0, 1] [2] rfl rfl (by decide) (by decide) hk1 hFc hP1 hD1
        generalize H1 = H at hP hS ⊢
        have hP : va_P (dC, dI) classes [(rd, .inl (c3, rl, .inl rv)), (b0, .inr (4, [.ref h0, .int cl, .int be, .int co, .int le, .int ro, .int sa, .int ks, .ref b1, .ref b2])), (b1, .inl (c1, nl, .inl nx))] H := hP
        have hD : va_D A [(rd, .inl (c3, rl, .inl rv)), (b0, .inr (4, [.ref h0, .int cl, .int be, .int co, .int le, .int ro, .int sa, .int ks, .ref b1, .ref b2])), (b1, .inl (c1, nl, .inl nx))] := hD
        refine lv_if_eq (tgt := 38) hx hb d_Tb_road_17 (by decide) (fun c_3 => ?_) (fun c_3 => ?_)
        · refine lv_iload hx hb d_Tb_road_38 (lv_at hl 4 rfl) ?_
          have hP := hP.sub (ws' := [(b0, .inr (4, [.ref h0, .int cl, .int be, .int co, .int le, .int ro, .int sa, .int ks, .ref b1, .ref b2])), (b1, .inl (c1, nl, .inl nx)), (rd, .inl (c3, rl, .inl rv))]) [1, 2, 0] rfl
          have hD := hD.sub (ws' := [(b0, .inr (4, [.ref h0, .int cl, .int be, .int co, .int le, .int ro, .int sa, .int ks, .ref b1, .ref b2])), (b1, .inl (c1, nl, .inl nx)), (rd, .inl (c3, rl, .inl rv))]) [1, 2, 0] (by decide) rfl
          rw [hQ]
          exact W.iret (v := (nI i)) hx hb hr (fun t ht hW => ⟨⟨(nI i), rv, rfl, by obtain ⟨k9, hk9⟩ : ∃ k, rl - i = k + 1 := ⟨rl - i - 1, by omega⟩; rw [← he, hk9, tb_roadF, ← er_2, if_pos c_3], by rw [ht]; exact hP, va_K.moved hW.alike hK, hD⟩, hS.F ht⟩) hS.2.2 d_Tb_road_40
        · refine lv_aload_n hx hb d_Tb_road_20 rfl (lv_at hl 2 rfl) ?_
          refine lv_iload hx hb d_Tb_road_21 (lv_at hl 4 rfl) ?_
          refine lv_iload_n hx hb d_Tb_road_23 rfl (lv_at hl 3 rfl) ?_
          refine va_iast hx hb hK hP hD hS 0 1 rfl rfl (vp_in_nI hlt hrl) d_Tb_road_24 (fun H locs hP hD hS => ?_)
          have hP : va_P (dC, dI) classes [(rd, .inl (c3, rl, .inl (upd rv (nI i).toNatClampNeg cv))), (b0, .inr (4, [.ref h0, .int cl, .int be, .int co, .int le, .int ro, .int sa, .int ks, .ref b1, .ref b2])), (b1, .inl (c1, nl, .inl nx))] H := hP
          have hD : va_D A [(rd, .inl (c3, rl, .inl (upd rv (nI i).toNatClampNeg cv))), (b0, .inr (4, [.ref h0, .int cl, .int be, .int co, .int le, .int ro, .int sa, .int ks, .ref b1, .ref b2])), (b1, .inl (c1, nl, .inl nx))] := hD
          refine lv_iinc (v := nI (i + 1)) (lv' := [(4, .int (nI (i + 1))), (0, .ref b0), (1, .int p1), (2, .ref rd), (3, .int cv)]) hx hb d_Tb_road_25 hl (k := 4) rfl (by exact nI_1 i) (by decide) rfl (fun ls hl => ?_)
          refine lv_aload_n hx hb d_Tb_road_28 rfl (lv_at hl 1 rfl) ?_
          refine va_get (D := (dC, dI)) (ci := 4) (v := .ref b1) (C := R_Tb) (T := F_Tb) (N := 10) hx hb hts i_Tb hown hK hP 1 rfl rfl 8 (by decide) (hts _ (k_Tb_14)) (fun _ h9 => h9) rfl d_Tb_road_29 ?_
          refine lv_iload_n hx hb d_Tb_road_32 rfl (lv_at hl 4 rfl) ?_
          refine va_iald hx hb hK hP 2 0 rfl rfl (tb_has_in (by rw [← er_2]; exact c_3) hnl) d_Tb_road_33 ?_
          refine lv_topi (fun x_4 ex_4 => ?_)
          refine lv_istore_n (lv' := [(3, .int x_4), (4, .int (nI (i + 1))), (0, .ref b0), (1, .int p1), (2, .ref rd)]) hx hb d_Tb_road_34 rfl hl (by decide) rfl (fun ls hl => ?_)
          refine lv_goto (tgt := 5) hx hb d_Tb_road_35 (by decide) ?_
          obtain ⟨k9, hk9⟩ : ∃ k, rl - i = k + 1 := ⟨rl - i - 1, by omega⟩
          have he9 : tb_roadF ks nl nx (rl - (i + 1)) (nx cv.toNatClampNeg) (i + 1) (upd rv (nI i).toNatClampNeg cv) = tb_roadF ks nl nx rl p1 0 ra := by rw [← he, hk9, show rl - (i + 1) = k9 by omega, tb_roadF, ← er_2, if_neg c_3]
          subst ex_4
          exact ih (i + 1) _ _ _ _ _ (by omega) hlt he9 (hP.sub [1, 2, 0] rfl) (hD.sub [1, 2, 0] (by decide) rfl) hS (lv_sub hl [2, 3, 4, 0, 1] rfl)
  refine lv_iload_n hx hb d_Tb_road_0 rfl (lv_at hl 1 rfl) ?_
  refine lv_istore_n (lv' := [(3, .int p1), (0, .ref b0), (1, .int p1), (2, .ref rd)]) hx hb d_Tb_road_1 rfl hl (by decide) rfl (fun ls hl => ?_)
  refine lv_iconst (v := 0) hx hb d_Tb_road_2 (by decide) ?_
  refine lv_istore (lv' := [(4, .int 0), (3, .int p1), (0, .ref b0), (1, .int p1), (2, .ref rd)]) hx hb d_Tb_road_3 hl (by decide) rfl (fun ls hl => ?_)
  exact hL5 (rl + 1) 0 _ _ _ _ _ (by omega) (Nat.zero_le _) rfl hP hD hS (lv_sub hl [2, 3, 4, 1, 0] rfl)
/-- the lowest free cluster from the place j on becomes a chain's end, full of 0 -/
def tb_takeF (n : Nat) (f : Nat → Int32) (nl : Nat) (nx : Nat → Int32) (ks cl be co le sa : Int32) : Nat → Nat → Int32 × ((Nat → Int32) × (Nat → Int32))
  | 0, _ => (0, (nx, f))
  | k + 1, j => if tb_free ks nl nx (nI (j + 2)) = 0 then tb_takeF n f nl nx ks cl be co le sa k (j + 1) else (nI (j + 2), ((tb_link n f nl nx ks be co le (nI (j + 2)) 268435455).1, dk_zero n (tb_link n f nl nx ks be co le (nI (j + 2)) 268435455).2 (tb_pl cl sa (nI (j + 2))) (tb_cb cl)))
set_option maxHeartbeats 4000000 in
set_option maxRecDepth 100000 in
theorem c_Tb_takeFree (l : Launch) (dC : Nat → ClassId) (dI : Nat → Nat → Nat) (b0 b1 b2 h0 sz : Nat) (cl be co le ro sa : Int32) (kN : Nat) (hkN : kN ≤ 600) (c1 : ClassId) (nl : Nat) (nx : Nat → Int32) (hnl : nl < 2 ^ 31) (h1 : Nat) (cB : ClassId) (sec pw : Int32) (n : Nat) (f : Nat → Int32) (h4 : 4 ≤ n) (hn30 : n < 2 ^ 30) (hn : n < 2 ^ 31) (hco : co ≤ 2) : Met l y_Tb_takeFree (.code y_Tb_takeFree b_Tb_takeFree 2 (some .int) :: V_Tb) ({ frames := 3, cells := 0, slots := 0, locals := 69 }) (va_Pc [.ref b0] (fun U => U.heap.size = sz ∧ at_ (dC, dI) (fun _ => True) [(b0, .inr (4, [.ref h0, .int cl, .int be, .int co, .int le, .int ro, .int sa, .int (nI kN), .ref b1, .ref b2])), (b1, .inl (c1, nl, .inl nx)), (h0, .inr (0, [.int sec, .ref h1, .int pw])), (h1, .inl (cB, n, .inl f))] [(c1, .int), (cB, .byte)] U)) (va_Qi (fun (r : Int32) (u : (Nat → Int32) × (Nat → Int32)) => (r, u) = tb_takeF n f nl nx (nI kN) cl be co le sa kN 0) (fun (u : (Nat → Int32) × (Nat → Int32)) t => at_ (dC, dI) (va_A [(b0, .inr (4, [.ref h0, .int cl, .int be, .int co, .int le, .int ro, .int sa, .int (nI kN), .ref b1, .ref b2])), (b1, .inl (c1, nl, .inl nx)), (h0, .inr (0, [.int sec, .ref h1, .int pw])), (h1, .inl (cB, n, .inl f))] sz) [(b0, .inr (4, [.ref h0, .int cl, .int be, .int co, .int le, .int ro, .int sa, .int (nI kN), .ref b1, .ref b2])), (b1, .inl (c1, nl, .inl u.1)), (h0, .inr (0, [.int sec, .ref h1, .int pw])), (h1, .inl (cB, n, .inl u.2))] [(c1, .int), (cB, .byte)] t) (va_A [(b0, .inr (4, [.ref h0, .int cl, .int be, .int co, .int le, .int ro, .int sa, .int (nI kN), .ref b1, .ref b2])), (b1, .inl (c1, nl, .inl nx)), (h0, .inr (0, [.int sec, .ref h1, .int pw])), (h1, .inl (cB, n, .inl f))] sz)) 0 0 (va_A [(b0, .inr (4, [.ref h0, .int cl, .int be, .int co, .int le, .int ro, .int sa, .int (nI kN), .ref b1, .ref b2])), (b1, .inl (c1, nl, .inl nx)), (h0, .inr (0, [.int sec, .ref h1, .int pw])), (h1, .inl (cB, n, .inl f))] sz) := by
  refine Met.ofW (cc := b_Tb_takeFree) (maxL := 2) (ret := (some .int)) (by decide) rfl ?_
  intro p e s m args below meth c s₁ B hml hv
  obtain ⟨rfl, hsz, hP, hK, hD0⟩ := hv
  have hx := B.exec
  have hb := B.bytes
  have hr := B.returns
  have hts0 := atoms_spec (ws := .code y_Tb_takeFree b_Tb_takeFree 2 (some .int) :: V_Tb) B.pre
  have hts : ∀ w ∈ V_Tb, w.before ([.ref b0] : List Value).toArray s = true := fun w h => hts0 w (List.mem_cons_of_mem _ h)
  have hown : s.vm.findClass R_Tb = some m.cls := findClass_of_methodNamed B.named
  have hlocks := B.notSynchronized
  subst hsz
  have hD := hD0.self (sz := s.heap.size)
  generalize hAe : va_A [(b0, .inr (4, [.ref h0, .int cl, .int be, .int co, .int le, .int ro, .int sa, .int (nI kN), .ref b1, .ref b2])), (b1, .inl (c1, nl, .inl nx)), (h0, .inr (0, [.int sec, .ref h1, .int pw])), (h1, .inl (cB, n, .inl f))] s.heap.size = A at hD ⊢
  have hA : ∀ q : Nat, s.heap.size ≤ q → A q := fun q h => by rw [← hAe]; exact Or.inr h
  have hS : va_S A s.heap s.heap [] := va_S.rf
  have hP : va_P (dC, dI) classes [(b0, .inr (4, [.ref h0, .int cl, .int be, .int co, .int le, .int ro, .int sa, .int (nI kN), .ref b1, .ref b2])), (b1, .inl (c1, nl, .inl nx)), (h0, .inr (0, [.int sec, .ref h1, .int pw])), (h1, .inl (cB, n, .inl f))] s.heap := hP
  have hK : va_K (dC, dI) classes [(c1, .int), (cB, .byte)] s := hK
  have hl := lv_entry ([.ref b0]) (n := 2) (Nat.le_of_ble_eq_true rfl)
  rw [lg_entry_eq]
  generalize (lg_sl ([.ref b0]) ++ List.replicate (2 - (lg_sl ([.ref b0])).length) Slot.unset).toArray = ls at hl ⊢
  have hl : lv_has ls 2 [(0, .ref b0)] := hl
  refine qabs (fun Q hQ => ?_)
  have hL2 : ∀ (k_ : Nat) (j : Nat) (H : Heap) (locs : List Loc) (ls : Array Slot), kN - j < k_ → (j ≤ kN) → (tb_takeF n f nl nx (nI kN) cl be co le sa (kN - j) j = tb_takeF n f nl nx (nI kN) cl be co le sa kN 0) → va_P (dC, dI) classes [(b0, .inr (4, [.ref h0, .int cl, .int be, .int co, .int le, .int ro, .int sa, .int (nI kN), .ref b1, .ref b2])), (b1, .inl (c1, nl, .inl nx)), (h0, .inr (0, [.int sec, .ref h1, .int pw])), (h1, .inl (cB, n, .inl f))] H → va_D A [(b0, .inr (4, [.ref h0, .int cl, .int be, .int co, .int le, .int ro, .int sa, .int (nI kN), .ref b1, .ref b2])), (b1, .inl (c1, nl, .inl nx)), (h0, .inr (0, [.int sec, .ref h1, .int pw])), (h1, .inl (cB, n, .inl f))] → va_S A s.heap H locs → lv_has ls 2 [(0, .ref b0), (1, .int (nI (j + 2)))] → W p l e ({ frames := 3, cells := 0, slots := 0, locals := 69 }) s m ([.ref b0] : List Value).toArray below meth c H locs 0 0 Q (F0 m 2 ls []) := by
    intro k_
    induction k_ with
    | zero => intro j H locs ls hk_; exact absurd hk_ (Nat.not_lt_zero _)
    | succ k_ ih =>
      intro j H locs ls hk_ hj he hP hD hS hl
      refine lv_iload_n hx hb d_Tb_takeFree_2 rfl (lv_at hl 1 rfl) ?_
      refine lv_aload_n hx hb d_Tb_takeFree_3 rfl (lv_at hl 0 rfl) ?_
      refine va_get (D := (dC, dI)) (ci := 4) (v := .int (nI kN)) (C := R_Tb) (T := F_Tb) (N := 10) hx hb hts i_Tb hown hK hP 0 rfl rfl 7 (by decide) (hts _ (k_Tb_13)) (fun _ h9 => h9) rfl d_Tb_takeFree_4 ?_
      refine lv_iconst (v := 2) hx hb d_Tb_takeFree_7 (by decide) ?_
      refine lv_iadd hx hb d_Tb_takeFree_8 ?_
      refine lv_icmp_ge (tgt := 51) hx hb d_Tb_takeFree_9 (by decide) (fun c_1 => ?_) (fun c_1 => ?_)
      · have hj9 : kN ≤ j := by have q := c_1; rw [show nI kN + 2 = nI (kN + 2) from nI_add kN 2] at q; have := (nI_leI (by omega) (by omega)).mp q; omega
        refine lv_iconst (v := 0) hx hb d_Tb_takeFree_51 (by decide) ?_
        rw [hQ]
        exact W.iret (v := 0) hx hb hr (fun t ht hW => ⟨⟨0, (nx, f), rfl, by rw [← he, show kN - j = 0 by omega]; rfl, by rw [ht]; exact hP, va_K.moved hW.alike hK, hD⟩, hS.F ht⟩) hS.2.2 d_Tb_takeFree_52
      · have hlt : j < kN := by have q := c_1; rw [show nI kN + 2 = nI (kN + 2) from nI_add kN 2] at q; have := Nat.lt_of_not_le (fun h => q ((nI_leI (by omega) (by omega)).mpr h)); omega
        refine lv_aload_n hx hb d_Tb_takeFree_12 rfl (lv_at hl 0 rfl) ?_
        refine lv_iload_n hx hb d_Tb_takeFree_13 rfl (lv_at hl 1 rfl) ?_
        have hPc := hP.sub (ws' := [(b0, .inr (4, [.ref h0, .int cl, .int be, .int co, .int le, .int ro, .int sa, .int (nI kN), .ref b1, .ref b2])), (b1, .inl (c1, nl, .inl nx))]) [0, 1] rfl
        have hDc := hD.sub (ws' := [(b0, .inr (4, [.ref h0, .int cl, .int be, .int co, .int le, .int ro, .int sa, .int (nI kN), .ref b1, .ref b2])), (b1, .inl (c1, nl, .inl nx))]) [0, 1] (by decide) rfl
        have hKc := hK.sub (tys' := [(c1, .int)]) [0] rfl
        have hFc := va_free (wc := [(b0, .inr (4, [.ref h0, .int cl, .int be, .int co, .int le, .int ro, .int sa, .int (nI kN), .ref b1, .ref b2])), (b1, .inl (c1, nl, .inl nx))]) hD hS hA [0, 1] rfl
        refine va_calli (va_runV (As := [.int (nI (j + 2))]) (rest := []) ⟨hx, hb, hml, hown, hts⟩ (c_Tb_isFree l dC dI b0 b1 b2 h0 H.size cl be co le ro sa (nI kN) c1 nl nx hnl (nI (j + 2))) (cwV 1 hts (gwV good_Tb (k_Tb_103) (k_Tb_63) (k_Tb_64) (k_Tb_0) (wcs (k_Tb_65) (fun _ h => h))) rfl rfl rfl (by decide +kernel) ⟨Nat.le_of_ble_eq_true rfl, Nat.le_of_ble_eq_true rfl⟩) (pv_of hPc hKc hDc (va_recv hKc hPc (ci := 4) (q0 := 0) rfl rfl)) rfl rfl hl.1 rfl (lv_room (Nat.le_of_ble_eq_true rfl)) d_Tb_takeFree_14 ⟨by decide, by decide⟩) hS (fun q _ h => hFc q h) hFc (fun r_2 u t H1 locs ht hvm hw hB hz1 hk1 hS => ?_)
        have er_2 := hw
        obtain ⟨hP1, hK1, hD1⟩ := hB
        rw [ht] at hP1
        have hP1 : va_P (dC, dI) classes [(b0, .inr (4, [.ref h0, .int cl, .int be, .int co, .int le, .int ro, .int sa, .int (nI kN), .ref b1, .ref b2])), (b1, .inl (c1, nl, .inl nx))] H1 := hP1
        have hD1 : va_D _ [(b0, .inr (4, [.ref h0, .int cl, .int be, .int co, .int le, .int ro, .int sa, .int (nI kN), .ref b1, .ref b2])), (b1, .inl (c1, nl, .inl nx))] := hD1
        obtain ⟨hP, hD⟩ := va_join (wr := [(h0, .inr (0, [.int sec, .ref h1, .int pw])), (h1, .inl (cB, n, .inl f))]) (w1 := [(b0, .inr (4, [.ref h0, .int cl, .int be, .int co, .int le, .int ro, .int sa, .int (nI kN), .ref b1, .ref b2])), (b1, .inl (c1, nl, .inl nx))]) hP hD [0, 1] [2, 3] rfl rfl (by decide) (by decide) hk1 hFc hP1 hD1
        generalize H1 = H at hP hS ⊢
        have hP : va_P (dC, dI) classes [(h0, .inr (0, [.int sec, .ref h1, .int pw])), (h1, .inl (cB, n, .inl f)), (b0, .inr (4, [.ref h0, .int cl, .int be, .int co, .int le, .int ro, .int sa, .int (nI kN), .ref b1, .ref b2])), (b1, .inl (c1, nl, .inl nx))] H := hP
        have hD : va_D A [(h0, .inr (0, [.int sec, .ref h1, .int pw])), (h1, .inl (cB, n, .inl f)), (b0, .inr (4, [.ref h0, .int cl, .int be, .int co, .int le, .int ro, .int sa, .int (nI kN), .ref b1, .ref b2])), (b1, .inl (c1, nl, .inl nx))] := hD
        refine lv_if_eq (tgt := 45) hx hb d_Tb_takeFree_17 (by decide) (fun c_3 => ?_) (fun c_3 => ?_)
        · refine lv_iinc (v := nI (j + 1 + 2)) (lv' := [(1, .int (nI (j + 1 + 2))), (0, .ref b0)]) hx hb d_Tb_takeFree_45 hl (k := 1) rfl (by exact nI_1 (j + 2)) (by decide) rfl (fun ls hl => ?_)
          refine lv_goto (tgt := 2) hx hb d_Tb_takeFree_48 (by decide) ?_
          obtain ⟨k9, hk9⟩ : ∃ k, kN - j = k + 1 := ⟨kN - j - 1, by omega⟩
          have he9 : tb_takeF n f nl nx (nI kN) cl be co le sa (kN - (j + 1)) (j + 1) = tb_takeF n f nl nx (nI kN) cl be co le sa kN 0 := by rw [← he, hk9, show kN - (j + 1) = k9 by omega, tb_takeF, ← er_2, if_pos c_3]
          exact ih (j + 1) _ _ _ (by omega) hlt he9 (hP.sub [2, 3, 0, 1] rfl) (hD.sub [2, 3, 0, 1] (by decide) rfl) hS (lv_sub hl [1, 0] rfl)
        · refine lv_aload_n hx hb d_Tb_takeFree_20 rfl (lv_at hl 0 rfl) ?_
          refine lv_iload_n hx hb d_Tb_takeFree_21 rfl (lv_at hl 1 rfl) ?_
          refine lv_ldc (v := 268435455) hx hb hown (hts _ (k_Tb_38)) d_Tb_takeFree_22 ?_
          have hPc := hP.sub (ws' := [(b0, .inr (4, [.ref h0, .int cl, .int be, .int co, .int le, .int ro, .int sa, .int (nI kN), .ref b1, .ref b2])), (b1, .inl (c1, nl, .inl nx)), (h0, .inr (0, [.int sec, .ref h1, .int pw])), (h1, .inl (cB, n, .inl f))]) [2, 3, 0, 1] rfl
          have hDc := hD.sub (ws' := [(b0, .inr (4, [.ref h0, .int cl, .int be, .int co, .int le, .int ro, .int sa, .int (nI kN), .ref b1, .ref b2])), (b1, .inl (c1, nl, .inl nx)), (h0, .inr (0, [.int sec, .ref h1, .int pw])), (h1, .inl (cB, n, .inl f))]) [2, 3, 0, 1] (by decide) rfl
          have hKc := hK.sub (tys' := [(c1, .int), (cB, .byte)]) [0, 1] rfl
          have hFc := va_free (wc := [(b0, .inr (4, [.ref h0, .int cl, .int be, .int co, .int le, .int ro, .int sa, .int (nI kN), .ref b1, .ref b2])), (b1, .inl (c1, nl, .inl nx)), (h0, .inr (0, [.int sec, .ref h1, .int pw])), (h1, .inl (cB, n, .inl f))]) hD hS hA [2, 3, 0, 1] rfl
          refine va_callv (va_runV (As := [.int (nI (j + 2)), .int 268435455]) (rest := []) ⟨hx, hb, hml, hown, hts⟩ (c_Tb_link l dC dI b0 b1 b2 h0 H.size cl be co le ro sa (nI kN) c1 nl nx hnl h1 cB sec pw n f h4 hn hco (nI (j + 2)) 268435455) (cwV 2 hts (gwV good_Tb (k_Tb_91) (k_Tb_92) (k_Tb_93) (k_Tb_0) (wcs (k_Tb_94) (fun _ h => h))) rfl rfl rfl (by decide +kernel) ⟨Nat.le_of_ble_eq_true rfl, Nat.le_of_ble_eq_true rfl⟩) (pv_of hPc hKc hDc (va_recv hKc hPc (ci := 4) (q0 := 0) rfl rfl)) rfl rfl hl.1 rfl (lv_room (Nat.le_of_ble_eq_true rfl)) d_Tb_takeFree_24 ⟨by decide, by decide⟩) hS (fun q _ h => hFc q h) hFc (fun u t H1 locs ht hvm hw hB hz1 hk1 hS => ?_)
          obtain ⟨x_4, f_4⟩ := u
          have ef_4 : (x_4, f_4) = tb_link n f nl nx (nI kN) be co le (nI (j + 2)) 268435455 := hw
          obtain ⟨hP1, hK1, hD1⟩ := hB
          rw [ht] at hP1
          have hP1 : va_P (dC, dI) classes [(b0, .inr (4, [.ref h0, .int cl, .int be, .int co, .int le, .int ro, .int sa, .int (nI kN), .ref b1, .ref b2])), (b1, .inl (c1, nl, .inl x_4)), (h0, .inr (0, [.int sec, .ref h1, .int pw])), (h1, .inl (cB, n, .inl f_4))] H1 := hP1
          have hD1 : va_D _ [(b0, .inr (4, [.ref h0, .int cl, .int be, .int co, .int le, .int ro, .int sa, .int (nI kN), .ref b1, .ref b2])), (b1, .inl (c1, nl, .inl x_4)), (h0, .inr (0, [.int sec, .ref h1, .int pw])), (h1, .inl (cB, n, .inl f_4))] := hD1
          obtain ⟨hP, hD⟩ := va_join (wr := []) (w1 := [(b0, .inr (4, [.ref h0, .int cl, .int be, .int co, .int le, .int ro, .int sa, .int (nI kN), .ref b1, .ref b2])), (b1, .inl (c1, nl, .inl x_4)), (h0, .inr (0, [.int sec, .ref h1, .int pw])), (h1, .inl (cB, n, .inl f_4))]) hP hD [2, 3, 0, 1] [] rfl rfl (by decide) (by decide) hk1 hFc hP1 hD1
          generalize H1 = H at hP hS ⊢
          have hP : va_P (dC, dI) classes [(b0, .inr (4, [.ref h0, .int cl, .int be, .int co, .int le, .int ro, .int sa, .int (nI kN), .ref b1, .ref b2])), (b1, .inl (c1, nl, .inl x_4)), (h0, .inr (0, [.int sec, .ref h1, .int pw])), (h1, .inl (cB, n, .inl f_4))] H := hP
          have hD : va_D A [(b0, .inr (4, [.ref h0, .int cl, .int be, .int co, .int le, .int ro, .int sa, .int (nI kN), .ref b1, .ref b2])), (b1, .inl (c1, nl, .inl x_4)), (h0, .inr (0, [.int sec, .ref h1, .int pw])), (h1, .inl (cB, n, .inl f_4))] := hD
          refine lv_aload_n hx hb d_Tb_takeFree_27 rfl (lv_at hl 0 rfl) ?_
          refine va_get (D := (dC, dI)) (ci := 4) (v := .ref h0) (C := R_Tb) (T := F_Tb) (N := 10) hx hb hts i_Tb hown hK hP 0 rfl rfl 0 (by decide) (hts _ (k_Tb_6)) (fun _ h9 => h9) rfl d_Tb_takeFree_28 ?_
          refine lv_aload_n hx hb d_Tb_takeFree_31 rfl (lv_at hl 0 rfl) ?_
          refine lv_iload_n hx hb d_Tb_takeFree_32 rfl (lv_at hl 1 rfl) ?_
          have hPc := hP.sub (ws' := [(b0, .inr (4, [.ref h0, .int cl, .int be, .int co, .int le, .int ro, .int sa, .int (nI kN), .ref b1, .ref b2]))]) [0] rfl
          have hDc := hD.sub (ws' := [(b0, .inr (4, [.ref h0, .int cl, .int be, .int co, .int le, .int ro, .int sa, .int (nI kN), .ref b1, .ref b2]))]) [0] (by decide) rfl
          have hKc := hK.sub (tys' := []) [] rfl
          have hFc := va_free (wc := [(b0, .inr (4, [.ref h0, .int cl, .int be, .int co, .int le, .int ro, .int sa, .int (nI kN), .ref b1, .ref b2]))]) hD hS hA [0] rfl
          refine va_calli (va_runV (As := [.int (nI (j + 2))]) (rest := [.ref h0]) ⟨hx, hb, hml, hown, hts⟩ (c_Tb_place l dC dI b0 b1 b2 h0 H.size cl be co le ro sa (nI kN) (nI (j + 2))) (cwV 1 hts (gwV good_Tb (k_Tb_56) (k_Tb_57) (k_Tb_58) (k_Tb_0) (wcs (k_Tb_59) (fun _ h => h))) rfl rfl rfl (by decide +kernel) ⟨Nat.le_of_ble_eq_true rfl, Nat.le_of_ble_eq_true rfl⟩) (pv_of hPc hKc hDc (va_recv hKc hPc (ci := 4) (q0 := 0) rfl rfl)) rfl rfl hl.1 rfl (lv_room (Nat.le_of_ble_eq_true rfl)) d_Tb_takeFree_33 ⟨by decide, by decide⟩) hS (fun q _ h => hFc q h) hFc (fun r_5 u t H1 locs ht hvm hw hB hz1 hk1 hS => ?_)
          have er_5 := hw
          obtain ⟨hP1, hK1, hD1⟩ := hB
          rw [ht] at hP1
          have hP1 : va_P (dC, dI) classes [(b0, .inr (4, [.ref h0, .int cl, .int be, .int co, .int le, .int ro, .int sa, .int (nI kN), .ref b1, .ref b2]))] H1 := hP1
          have hD1 : va_D _ [(b0, .inr (4, [.ref h0, .int cl, .int be, .int co, .int le, .int ro, .int sa, .int (nI kN), .ref b1, .ref b2]))] := hD1
          obtain ⟨hP, hD⟩ := va_join (wr := [(b1, .inl (c1, nl, .inl x_4)), (h0, .inr (0, [.int sec, .ref h1, .int pw])), (h1, .inl (cB, n, .inl f_4))]) (w1 := [(b0, .inr (4, [.ref h0, .int cl, .int be, .int co, .int le, .int ro, .int sa, .int (nI kN), .ref b1, .ref b2]))]) hP hD [0] [1, 2, 3] rfl rfl (by decide) (by decide) hk1 hFc hP1 hD1
          generalize H1 = H at hP hS ⊢
          have hP : va_P (dC, dI) classes [(b1, .inl (c1, nl, .inl x_4)), (h0, .inr (0, [.int sec, .ref h1, .int pw])), (h1, .inl (cB, n, .inl f_4)), (b0, .inr (4, [.ref h0, .int cl, .int be, .int co, .int le, .int ro, .int sa, .int (nI kN), .ref b1, .ref b2]))] H := hP
          have hD : va_D A [(b1, .inl (c1, nl, .inl x_4)), (h0, .inr (0, [.int sec, .ref h1, .int pw])), (h1, .inl (cB, n, .inl f_4)), (b0, .inr (4, [.ref h0, .int cl, .int be, .int co, .int le, .int ro, .int sa, .int (nI kN), .ref b1, .ref b2]))] := hD
          refine lv_aload_n hx hb d_Tb_takeFree_36 rfl (lv_at hl 0 rfl) ?_
          have hPc := hP.sub (ws' := [(b0, .inr (4, [.ref h0, .int cl, .int be, .int co, .int le, .int ro, .int sa, .int (nI kN), .ref b1, .ref b2]))]) [3] rfl
          have hDc := hD.sub (ws' := [(b0, .inr (4, [.ref h0, .int cl, .int be, .int co, .int le, .int ro, .int sa, .int (nI kN), .ref b1, .ref b2]))]) [3] (by decide) rfl
          have hKc := hK.sub (tys' := []) [] rfl
          have hFc := va_free (wc := [(b0, .inr (4, [.ref h0, .int cl, .int be, .int co, .int le, .int ro, .int sa, .int (nI kN), .ref b1, .ref b2]))]) hD hS hA [3] rfl
          refine va_calli (va_runV (As := []) (rest := [.int r_5, .ref h0]) ⟨hx, hb, hml, hown, hts⟩ (c_Tb_clusterBytes l dC dI b0 b1 b2 h0 H.size cl be co le ro sa (nI kN) ) (cwV 0 hts (gwV good_Tb (k_Tb_107) (k_Tb_60) (k_Tb_61) (k_Tb_0) (wcs (k_Tb_62) (fun _ h => h))) rfl rfl rfl (by decide +kernel) ⟨Nat.le_of_ble_eq_true rfl, Nat.le_of_ble_eq_true rfl⟩) (pv_of hPc hKc hDc (va_recv hKc hPc (ci := 4) (q0 := 0) rfl rfl)) rfl rfl hl.1 rfl (lv_room (Nat.le_of_ble_eq_true rfl)) d_Tb_takeFree_37 ⟨by decide, by decide⟩) hS (fun q _ h => hFc q h) hFc (fun r_6 u t H1 locs ht hvm hw hB hz1 hk1 hS => ?_)
          have er_6 := hw
          obtain ⟨hP1, hK1, hD1⟩ := hB
          rw [ht] at hP1
          have hP1 : va_P (dC, dI) classes [(b0, .inr (4, [.ref h0, .int cl, .int be, .int co, .int le, .int ro, .int sa, .int (nI kN), .ref b1, .ref b2]))] H1 := hP1
          have hD1 : va_D _ [(b0, .inr (4, [.ref h0, .int cl, .int be, .int co, .int le, .int ro, .int sa, .int (nI kN), .ref b1, .ref b2]))] := hD1
          obtain ⟨hP, hD⟩ := va_join (wr := [(b1, .inl (c1, nl, .inl x_4)), (h0, .inr (0, [.int sec, .ref h1, .int pw])), (h1, .inl (cB, n, .inl f_4))]) (w1 := [(b0, .inr (4, [.ref h0, .int cl, .int be, .int co, .int le, .int ro, .int sa, .int (nI kN), .ref b1, .ref b2]))]) hP hD [3] [0, 1, 2] rfl rfl (by decide) (by decide) hk1 hFc hP1 hD1
          generalize H1 = H at hP hS ⊢
          have hP : va_P (dC, dI) classes [(b1, .inl (c1, nl, .inl x_4)), (h0, .inr (0, [.int sec, .ref h1, .int pw])), (h1, .inl (cB, n, .inl f_4)), (b0, .inr (4, [.ref h0, .int cl, .int be, .int co, .int le, .int ro, .int sa, .int (nI kN), .ref b1, .ref b2]))] H := hP
          have hD : va_D A [(b1, .inl (c1, nl, .inl x_4)), (h0, .inr (0, [.int sec, .ref h1, .int pw])), (h1, .inl (cB, n, .inl f_4)), (b0, .inr (4, [.ref h0, .int cl, .int be, .int co, .int le, .int ro, .int sa, .int (nI kN), .ref b1, .ref b2]))] := hD
          have hPc := hP.sub (ws' := [(h0, .inr (0, [.int sec, .ref h1, .int pw])), (h1, .inl (cB, n, .inl f_4))]) [1, 2] rfl
          have hDc := hD.sub (ws' := [(h0, .inr (0, [.int sec, .ref h1, .int pw])), (h1, .inl (cB, n, .inl f_4))]) [1, 2] (by decide) rfl
          have hKc := hK.sub (tys' := [(cB, .byte)]) [1] rfl
          have hFc := va_free (wc := [(h0, .inr (0, [.int sec, .ref h1, .int pw])), (h1, .inl (cB, n, .inl f_4))]) hD hS hA [1, 2] rfl
          refine va_callv (va_runV (As := [.int r_5, .int r_6]) (rest := []) ⟨hx, hb, hml, hown, hts⟩ (c_Dk_zero l dC dI h0 h1 H.size cB sec pw n f_4 h4 hn30 r_5 r_6) (cwV 2 hts (gwV good_Tb (k_Tb_108) (u_Tb_Dk _ k_Dk_23) (u_Tb_Dk _ k_Dk_24) (u_Tb_Dk _ k_Dk_0) (wcs (u_Tb_Dk _ k_Dk_25) u_Tb_Dk)) rfl rfl rfl (by decide +kernel) ⟨Nat.le_of_ble_eq_true rfl, Nat.le_of_ble_eq_true rfl⟩) (pv_of hPc hKc hDc (va_recv hKc hPc (ci := 0) (q0 := 0) rfl rfl)) rfl rfl hl.1 rfl (lv_room (Nat.le_of_ble_eq_true rfl)) d_Tb_takeFree_40 ⟨by decide, by decide⟩) hS (fun q _ h => hFc q h) hFc (fun u t H1 locs ht hvm hw hB hz1 hk1 hS => ?_)
          subst hw
          obtain ⟨hP1, hK1, hD1⟩ := hB
          rw [ht] at hP1
          have hP1 : va_P (dC, dI) classes [(h0, .inr (0, [.int sec, .ref h1, .int pw])), (h1, .inl (cB, n, .inl (dk_zero n f_4 r_5 r_6)))] H1 := hP1
          have hD1 : va_D _ [(h0, .inr (0, [.int sec, .ref h1, .int pw])), (h1, .inl (cB, n, .inl (dk_zero n f_4 r_5 r_6)))] := hD1
          obtain ⟨hP, hD⟩ := va_join (wr := [(b1, .inl (c1, nl, .inl x_4)), (b0, .inr (4, [.ref h0, .int cl, .int be, .int co, .int le, .int ro, .int sa, .int (nI kN), .ref b1, .ref b2]))]) (w1 := [(h0, .inr (0, [.int sec, .ref h1, .int pw])), (h1, .inl (cB, n, .inl (dk_zero n f_4 r_5 r_6)))]) hP hD [1, 2] [0, 3] rfl rfl (by decide) (by decide) hk1 hFc hP1 hD1
          generalize H1 = H at hP hS ⊢
          have hP : va_P (dC, dI) classes [(b1, .inl (c1, nl, .inl x_4)), (b0, .inr (4, [.ref h0, .int cl, .int be, .int co, .int le, .int ro, .int sa, .int (nI kN), .ref b1, .ref b2])), (h0, .inr (0, [.int sec, .ref h1, .int pw])), (h1, .inl (cB, n, .inl (dk_zero n f_4 r_5 r_6)))] H := hP
          have hD : va_D A [(b1, .inl (c1, nl, .inl x_4)), (b0, .inr (4, [.ref h0, .int cl, .int be, .int co, .int le, .int ro, .int sa, .int (nI kN), .ref b1, .ref b2])), (h0, .inr (0, [.int sec, .ref h1, .int pw])), (h1, .inl (cB, n, .inl (dk_zero n f_4 r_5 r_6)))] := hD
          refine lv_iload_n hx hb d_Tb_takeFree_43 rfl (lv_at hl 1 rfl) ?_
          have hP := hP.sub (ws' := [(b0, .inr (4, [.ref h0, .int cl, .int be, .int co, .int le, .int ro, .int sa, .int (nI kN), .ref b1, .ref b2])), (b1, .inl (c1, nl, .inl x_4)), (h0, .inr (0, [.int sec, .ref h1, .int pw])), (h1, .inl (cB, n, .inl (dk_zero n f_4 r_5 r_6)))]) [1, 0, 2, 3] rfl
          have hD := hD.sub (ws' := [(b0, .inr (4, [.ref h0, .int cl, .int be, .int co, .int le, .int ro, .int sa, .int (nI kN), .ref b1, .ref b2])), (b1, .inl (c1, nl, .inl x_4)), (h0, .inr (0, [.int sec, .ref h1, .int pw])), (h1, .inl (cB, n, .inl (dk_zero n f_4 r_5 r_6)))]) [1, 0, 2, 3] (by decide) rfl
          rw [hQ]
          exact W.iret (v := (nI (j + 2))) hx hb hr (fun t ht hW => ⟨⟨(nI (j + 2)), (x_4, dk_zero n f_4 r_5 r_6), rfl, by obtain ⟨k9, hk9⟩ : ∃ k, kN - j = k + 1 := ⟨kN - j - 1, by omega⟩; rw [← he, hk9, tb_takeF, ← er_2, if_neg c_3, ← ef_4, er_5, er_6], by rw [ht]; exact hP, va_K.moved hW.alike hK, hD⟩, hS.F ht⟩) hS.2.2 d_Tb_takeFree_44
  refine lv_iconst (v := 2) hx hb d_Tb_takeFree_0 (by decide) ?_
  refine lv_istore_n (lv' := [(1, .int 2), (0, .ref b0)]) hx hb d_Tb_takeFree_1 rfl hl (by decide) rfl (fun ls hl => ?_)
  exact hL2 (kN + 1) 0 _ _ _ (by omega) (Nat.zero_le _) rfl hP hD hS (lv_sub hl [1, 0] rfl)
