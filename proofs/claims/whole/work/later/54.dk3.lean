/-- a sector that is there: its bytes lie within -/
theorem dk_cp {p1 : Int32} {sN n : Nat} (h : ¬ dk_has (nI sN) p1 0 = 0) (hs : sN ≤ 1024) (hn : n = sN * 512) : ¬ p1 * 512 < 0 ∧ (p1 * 512).toNatClampNeg + (512 : Int32).toNatClampNeg ≤ n := by
  unfold dk_has at h
  by_cases h0 : p1 < 0
  · rw [if_pos h0] at h; exact absurd rfl h
  · rw [if_neg h0] at h
    by_cases h1 : nI sN ≤ p1
    · rw [if_pos h1] at h; exact absurd rfl h
    · obtain ⟨k, hk, rfl⟩ := vp_in_of (in_of h0 h1 (by omega)) (by omega)
      rw [show nI k * 512 = nI (k * 512) from pk_mul k 512]
      refine ⟨nI_pos (by omega), ?_⟩
      rw [nI_clamp (by omega), show (512 : Int32).toNatClampNeg = 512 by decide]
      omega
theorem dk_cq {p3 : Int32} {n2 : Nat} (h0 : ¬ p3 < 0) (h1 : p3 ≤ nI n2 - 512) (h2 : 512 ≤ n2) (hn : n2 < 2 ^ 31) : p3.toNatClampNeg + (512 : Int32).toNatClampNeg ≤ n2 := by
  obtain ⟨j, rfl, hj⟩ := in_k (k := 512) h0 h1 h2 hn
  rw [nI_clamp (by omega), show (512 : Int32).toNatClampNeg = 512 by decide]
  exact hj
def dk_load (n : Nat) (f : Nat → Int32) (sN n2 : Nat) (g : Nat → Int32) (p1 p3 : Int32) : Nat → Int32 := if (dk_has (nI sN) p1 0) = 0 then (g) else if p3 < 0 then (g) else if ((nI n2) - 512) < p3 then (g) else (va_cpy f g (p1 * 512).toNatClampNeg p3.toNatClampNeg (512 : Int32).toNatClampNeg)
set_option maxHeartbeats 4000000 in
set_option maxRecDepth 100000 in
theorem c_Dk_load (l : Launch) (dC : Nat → ClassId) (dI : Nat → Nat → Nat) (h0 h1 h2 sz : Nat) (cB cC : ClassId) (sN : Nat) (hsN : sN ≤ 1024) (pw : Int32) (n : Nat) (f : Nat → Int32) (hnn : n = sN * 512) (h4 : 4 ≤ n) (hn : n < 2 ^ 31) (n2 : Nat) (g : Nat → Int32) (h52 : 512 ≤ n2) (hn2 : n2 < 2 ^ 31) (hff : sb_Fit f) (hfg : sb_Fit g) (p1 p3 : Int32) : Met l y_Dk_load (.code y_Dk_load b_Dk_load 4 none :: V_Dk) ({ frames := 1, cells := 0, slots := 0, locals := 26 }) (va_Pc [.ref h0, .int p1, .ref h2, .int p3] (fun U => U.heap.size = sz ∧ at_ (dC, dI) (fun _ => True) [(h0, .inr (0, [.int (nI sN), .ref h1, .int pw])), (h1, .inl (cB, n, .inl f)), (h2, .inl (cC, n2, .inl g))] [(cB, .byte), (cC, .byte)] U)) (va_Qv (fun u : Nat → Int32 => u = dk_load n f sN n2 g p1 p3) (fun (u : Nat → Int32) t => at_ (dC, dI) (va_A [(h0, .inr (0, [.int (nI sN), .ref h1, .int pw])), (h1, .inl (cB, n, .inl f)), (h2, .inl (cC, n2, .inl g))] sz) [(h0, .inr (0, [.int (nI sN), .ref h1, .int pw])), (h1, .inl (cB, n, .inl f)), (h2, .inl (cC, n2, .inl u))] [(cB, .byte), (cC, .byte)] t) (va_A [(h0, .inr (0, [.int (nI sN), .ref h1, .int pw])), (h1, .inl (cB, n, .inl f)), (h2, .inl (cC, n2, .inl g))] sz)) 0 0 (va_A [(h0, .inr (0, [.int (nI sN), .ref h1, .int pw])), (h1, .inl (cB, n, .inl f)), (h2, .inl (cC, n2, .inl g))] sz) := by
  refine Met.ofW (cc := b_Dk_load) (maxL := 4) (ret := none) (by decide) rfl ?_
  intro p e s m args below meth c s₁ B hml hv
  obtain ⟨rfl, hsz, hP, hK, hD0⟩ := hv
  have hx := B.exec
  have hb := B.bytes
  have hr := B.returns
  have hts0 := atoms_spec (ws := .code y_Dk_load b_Dk_load 4 none :: V_Dk) B.pre
  have hts : ∀ w ∈ V_Dk, w.before ([.ref h0, .int p1, .ref h2, .int p3] : List Value).toArray s = true := fun w h => hts0 w (List.mem_cons_of_mem _ h)
  have hown : s.vm.findClass R_Dk = some m.cls := findClass_of_methodNamed B.named
  have hlocks := B.notSynchronized
  subst hsz
  have hD := hD0.self (sz := s.heap.size)
  generalize hAe : va_A [(h0, .inr (0, [.int (nI sN), .ref h1, .int pw])), (h1, .inl (cB, n, .inl f)), (h2, .inl (cC, n2, .inl g))] s.heap.size = A at hD ⊢
  have hA : ∀ q : Nat, s.heap.size ≤ q → A q := fun q h => by rw [← hAe]; exact Or.inr h
  have hS : va_S A s.heap s.heap [] := va_S.rf
  have hP : va_P (dC, dI) classes [(h0, .inr (0, [.int (nI sN), .ref h1, .int pw])), (h1, .inl (cB, n, .inl f)), (h2, .inl (cC, n2, .inl g))] s.heap := hP
  have hK : va_K (dC, dI) classes [(cB, .byte), (cC, .byte)] s := hK
  have hl := lv_entry ([.ref h0, .int p1, .ref h2, .int p3]) (n := 4) (Nat.le_of_ble_eq_true rfl)
  rw [lg_entry_eq]
  generalize (lg_sl ([.ref h0, .int p1, .ref h2, .int p3]) ++ List.replicate (4 - (lg_sl ([.ref h0, .int p1, .ref h2, .int p3])).length) Slot.unset).toArray = ls at hl ⊢
  have hl : lv_has ls 4 [(0, .ref h0), (1, .int p1), (2, .ref h2), (3, .int p3)] := hl
  refine lv_aload_n hx hb d_Dk_load_0 rfl (lv_at hl 0 rfl) ?_
  refine lv_iload_n hx hb d_Dk_load_1 rfl (lv_at hl 1 rfl) ?_
  refine lv_iconst (v := 0) hx hb d_Dk_load_2 (by decide) ?_
  have hPc := hP.sub (ws' := [(h0, .inr (0, [.int (nI sN), .ref h1, .int pw])), (h1, .inl (cB, n, .inl f))]) [0, 1] rfl
  have hDc := hD.sub (ws' := [(h0, .inr (0, [.int (nI sN), .ref h1, .int pw])), (h1, .inl (cB, n, .inl f))]) [0, 1] (by decide) rfl
  have hKc := hK.sub (tys' := [(cB, .byte)]) [0] rfl
  have hFc := va_free (wc := [(h0, .inr (0, [.int (nI sN), .ref h1, .int pw])), (h1, .inl (cB, n, .inl f))]) hD hS hA [0, 1] rfl
  refine va_calli (va_runV (As := [.int p1, .int 0]) (rest := []) ⟨hx, hb, hml, hown, hts⟩ (c_Dk_has l dC dI h0 h1 s.heap.size cB (nI sN) pw n f h4 hn p1 0) (cwV 2 hts (gwV good_Dk (k_Dk_39) (k_Dk_8) (k_Dk_9) (k_Dk_0) (wcs (k_Dk_10) (fun _ h => h))) rfl rfl rfl (by decide +kernel) ⟨Nat.le_of_ble_eq_true rfl, Nat.le_of_ble_eq_true rfl⟩) (pv_of hPc hKc hDc (va_recv hKc hPc (ci := 0) (q0 := 0) rfl rfl)) rfl rfl hl.1 rfl (lv_room (Nat.le_of_ble_eq_true rfl)) d_Dk_load_3 ⟨by decide, by decide⟩) hS (fun q _ h => hFc q h) hFc (fun r_1 u t H1 locs ht hvm hw hB hz1 hk1 hS => ?_)
  obtain ⟨er_1, rfl⟩ := hw
  obtain ⟨hP1, hK1, hD1⟩ := hB
  rw [ht] at hP1
  have hP1 : va_P (dC, dI) classes [(h0, .inr (0, [.int (nI sN), .ref h1, .int pw])), (h1, .inl (cB, n, .inl f))] H1 := hP1
  have hD1 : va_D _ [(h0, .inr (0, [.int (nI sN), .ref h1, .int pw])), (h1, .inl (cB, n, .inl f))] := hD1
  obtain ⟨hP, hD⟩ := va_join (wr := [(h2, .inl (cC, n2, .inl g))]) (w1 := [(h0, .inr (0, [.int (nI sN), .ref h1, .int pw])), (h1, .inl (cB, n, .inl f))]) hP hD [0, 1] [2] rfl rfl (by decide) (by decide) hk1 hFc hP1 hD1
  generalize H1 = H at hP hS ⊢
  have hP : va_P (dC, dI) classes [(h2, .inl (cC, n2, .inl g)), (h0, .inr (0, [.int (nI sN), .ref h1, .int pw])), (h1, .inl (cB, n, .inl f))] H := hP
  have hD : va_D A [(h2, .inl (cC, n2, .inl g)), (h0, .inr (0, [.int (nI sN), .ref h1, .int pw])), (h1, .inl (cB, n, .inl f))] := hD
  refine lv_if_eq (tgt := 40) hx hb d_Dk_load_6 (by decide) (fun c_2 => ?_) (fun c_2 => ?_)
  · have hP := hP.sub (ws' := [(h0, .inr (0, [.int (nI sN), .ref h1, .int pw])), (h1, .inl (cB, n, .inl f)), (h2, .inl (cC, n2, .inl g))]) [1, 2, 0] rfl
    have hD := hD.sub (ws' := [(h0, .inr (0, [.int (nI sN), .ref h1, .int pw])), (h1, .inl (cB, n, .inl f)), (h2, .inl (cC, n2, .inl g))]) [1, 2, 0] (by decide) rfl
    exact W.vret hx hb hr (fun t ht hW => ⟨⟨g, rfl, by rw [dk_load]; try rw [← er_1]; try rw [if_pos c_2]; try rfl, by rw [ht]; exact hP, va_K.moved hW.alike hK, hD⟩, hS.F ht⟩) hS.2.2 d_Dk_load_40
  · refine lv_iload_n hx hb d_Dk_load_9 rfl (lv_at hl 3 rfl) ?_
    refine lv_if_lt (tgt := 40) hx hb d_Dk_load_10 (by decide) (fun c_3 => ?_) (fun c_3 => ?_)
    · have hP := hP.sub (ws' := [(h0, .inr (0, [.int (nI sN), .ref h1, .int pw])), (h1, .inl (cB, n, .inl f)), (h2, .inl (cC, n2, .inl g))]) [1, 2, 0] rfl
      have hD := hD.sub (ws' := [(h0, .inr (0, [.int (nI sN), .ref h1, .int pw])), (h1, .inl (cB, n, .inl f)), (h2, .inl (cC, n2, .inl g))]) [1, 2, 0] (by decide) rfl
      exact W.vret hx hb hr (fun t ht hW => ⟨⟨g, rfl, by rw [dk_load]; try rw [← er_1]; try rw [if_neg c_2]; try rw [if_pos c_3]; try rfl, by rw [ht]; exact hP, va_K.moved hW.alike hK, hD⟩, hS.F ht⟩) hS.2.2 d_Dk_load_40
    · refine lv_iload_n hx hb d_Dk_load_13 rfl (lv_at hl 3 rfl) ?_
      refine lv_aload_n hx hb d_Dk_load_14 rfl (lv_at hl 2 rfl) ?_
      refine va_alen (v := nI n2) hx hb hK hP 0 1 rfl rfl rfl d_Dk_load_15 ?_
      refine lv_sipush (v := 512) hx hb d_Dk_load_16 (by decide) ?_
      refine lv_isub hx hb d_Dk_load_19 ?_
      refine lv_icmp_gt (tgt := 40) hx hb d_Dk_load_20 (by decide) (fun c_4 => ?_) (fun c_4 => ?_)
      · have hP := hP.sub (ws' := [(h0, .inr (0, [.int (nI sN), .ref h1, .int pw])), (h1, .inl (cB, n, .inl f)), (h2, .inl (cC, n2, .inl g))]) [1, 2, 0] rfl
        have hD := hD.sub (ws' := [(h0, .inr (0, [.int (nI sN), .ref h1, .int pw])), (h1, .inl (cB, n, .inl f)), (h2, .inl (cC, n2, .inl g))]) [1, 2, 0] (by decide) rfl
        exact W.vret hx hb hr (fun t ht hW => ⟨⟨g, rfl, by rw [dk_load]; try rw [← er_1]; try rw [if_neg c_2]; try rw [if_neg c_3]; try rw [if_pos c_4]; try rfl, by rw [ht]; exact hP, va_K.moved hW.alike hK, hD⟩, hS.F ht⟩) hS.2.2 d_Dk_load_40
      · refine lv_aload_n hx hb d_Dk_load_23 rfl (lv_at hl 0 rfl) ?_
        refine va_get (D := (dC, dI)) (ci := 0) (v := .ref h1) (C := R_Dk) (T := F_Dk) (N := 3) hx hb hts i_Dk hown hK hP 1 rfl rfl 1 (by decide) (hts _ (k_Dk_6)) (fun _ h9 => h9) rfl d_Dk_load_24 ?_
        refine lv_iload_n hx hb d_Dk_load_27 rfl (lv_at hl 1 rfl) ?_
        refine lv_sipush (v := 512) hx hb d_Dk_load_28 (by decide) ?_
        refine lv_imul hx hb d_Dk_load_31 ?_
        refine lv_aload_n hx hb d_Dk_load_32 rfl (lv_at hl 2 rfl) ?_
        refine lv_iload_n hx hb d_Dk_load_33 rfl (lv_at hl 3 rfl) ?_
        refine lv_sipush (v := 512) hx hb d_Dk_load_34 (by decide) ?_
        refine va_copyi (ty := .byte) hx hb (by rw [hml]; exact hl.1.symm) hown (hts _ (k_Dk_40)) (hts _ (u_Dk_J _ k_J_13)) (hts _ (u_Dk_J _ k_J_12)) (hts _ (u_Dk_J _ k_J_1)) hK hP hD hS 2 0 0 1 rfl rfl rfl rfl rfl (dk_cp (by rw [← er_1]; exact c_2) hsN hnn).1 c_3 (by decide) (dk_cp (by rw [← er_1]; exact c_2) hsN hnn).2 (dk_cq c_3 (le_of_nlt c_4) h52 hn2) (fun i _ => hff _) (Nat.le_of_ble_eq_true rfl) (Nat.le_of_ble_eq_true rfl) d_Dk_load_37 (fun H locs hP hD hS => ?_)
        have hP : va_P (dC, dI) classes [(h2, .inl (cC, n2, .inl (va_cpy f g (p1 * 512).toNatClampNeg p3.toNatClampNeg (512 : Int32).toNatClampNeg))), (h0, .inr (0, [.int (nI sN), .ref h1, .int pw])), (h1, .inl (cB, n, .inl f))] H := hP
        have hD : va_D A [(h2, .inl (cC, n2, .inl (va_cpy f g (p1 * 512).toNatClampNeg p3.toNatClampNeg (512 : Int32).toNatClampNeg))), (h0, .inr (0, [.int (nI sN), .ref h1, .int pw])), (h1, .inl (cB, n, .inl f))] := hD
        have hP := hP.sub (ws' := [(h0, .inr (0, [.int (nI sN), .ref h1, .int pw])), (h1, .inl (cB, n, .inl f)), (h2, .inl (cC, n2, .inl (va_cpy f g (p1 * 512).toNatClampNeg p3.toNatClampNeg (512 : Int32).toNatClampNeg)))]) [1, 2, 0] rfl
        have hD := hD.sub (ws' := [(h0, .inr (0, [.int (nI sN), .ref h1, .int pw])), (h1, .inl (cB, n, .inl f)), (h2, .inl (cC, n2, .inl (va_cpy f g (p1 * 512).toNatClampNeg p3.toNatClampNeg (512 : Int32).toNatClampNeg)))]) [1, 2, 0] (by decide) rfl
        exact W.vret hx hb hr (fun t ht hW => ⟨⟨va_cpy f g (p1 * 512).toNatClampNeg p3.toNatClampNeg (512 : Int32).toNatClampNeg, rfl, by rw [dk_load]; try rw [← er_1]; try rw [if_neg c_2]; try rw [if_neg c_3]; try rw [if_neg c_4]; try rfl, by rw [ht]; exact hP, va_K.moved hW.alike hK, hD⟩, hS.F ht⟩) hS.2.2 d_Dk_load_40
def dk_store (n : Nat) (f : Nat → Int32) (sN n2 : Nat) (g : Nat → Int32) (pw p1 p3 : Int32) : Int32 × (Nat → Int32) := if pw = 0 then ((pw, f)) else if (dk_has (nI sN) p1 0) = 0 then ((pw, f)) else if p3 < 0 then ((pw, f)) else if p3 ≤ ((nI n2) - 512) then if pw ≤ 0 then ((pw, va_cpy g f p3.toNatClampNeg (p1 * 512).toNatClampNeg (512 : Int32).toNatClampNeg)) else (((pw - 1), va_cpy g f p3.toNatClampNeg (p1 * 512).toNatClampNeg (512 : Int32).toNatClampNeg)) else ((pw, f))
set_option maxHeartbeats 4000000 in
set_option maxRecDepth 100000 in
theorem c_Dk_store (l : Launch) (dC : Nat → ClassId) (dI : Nat → Nat → Nat) (h0 h1 h2 sz : Nat) (cB cC : ClassId) (sN : Nat) (hsN : sN ≤ 1024) (pw : Int32) (n : Nat) (f : Nat → Int32) (hnn : n = sN * 512) (h4 : 4 ≤ n) (hn : n < 2 ^ 31) (n2 : Nat) (g : Nat → Int32) (h52 : 512 ≤ n2) (hn2 : n2 < 2 ^ 31) (hff : sb_Fit f) (hfg : sb_Fit g) (p1 p3 : Int32) : Met l y_Dk_store (.code y_Dk_store b_Dk_store 4 none :: V_Dk) ({ frames := 1, cells := 0, slots := 0, locals := 26 }) (va_Pc [.ref h0, .int p1, .ref h2, .int p3] (fun U => U.heap.size = sz ∧ at_ (dC, dI) (fun _ => True) [(h0, .inr (0, [.int (nI sN), .ref h1, .int pw])), (h1, .inl (cB, n, .inl f)), (h2, .inl (cC, n2, .inl g))] [(cB, .byte), (cC, .byte)] U)) (va_Qv (fun u : Int32 × (Nat → Int32) => u = dk_store n f sN n2 g pw p1 p3) (fun (u : Int32 × (Nat → Int32)) t => at_ (dC, dI) (va_A [(h0, .inr (0, [.int (nI sN), .ref h1, .int pw])), (h1, .inl (cB, n, .inl f)), (h2, .inl (cC, n2, .inl g))] sz) [(h0, .inr (0, [.int (nI sN), .ref h1, .int u.1])), (h1, .inl (cB, n, .inl u.2)), (h2, .inl (cC, n2, .inl g))] [(cB, .byte), (cC, .byte)] t) (va_A [(h0, .inr (0, [.int (nI sN), .ref h1, .int pw])), (h1, .inl (cB, n, .inl f)), (h2, .inl (cC, n2, .inl g))] sz)) 0 0 (va_A [(h0, .inr (0, [.int (nI sN), .ref h1, .int pw])), (h1, .inl (cB, n, .inl f)), (h2, .inl (cC, n2, .inl g))] sz) := by
  refine Met.ofW (cc := b_Dk_store) (maxL := 4) (ret := none) (by decide) rfl ?_
  intro p e s m args below meth c s₁ B hml hv
  obtain ⟨rfl, hsz, hP, hK, hD0⟩ := hv
  have hx := B.exec
  have hb := B.bytes
  have hr := B.returns
  have hts0 := atoms_spec (ws := .code y_Dk_store b_Dk_store 4 none :: V_Dk) B.pre
  have hts : ∀ w ∈ V_Dk, w.before ([.ref h0, .int p1, .ref h2, .int p3] : List Value).toArray s = true := fun w h => hts0 w (List.mem_cons_of_mem _ h)
  have hown : s.vm.findClass R_Dk = some m.cls := findClass_of_methodNamed B.named
  have hlocks := B.notSynchronized
  subst hsz
  have hD := hD0.self (sz := s.heap.size)
  generalize hAe : va_A [(h0, .inr (0, [.int (nI sN), .ref h1, .int pw])), (h1, .inl (cB, n, .inl f)), (h2, .inl (cC, n2, .inl g))] s.heap.size = A at hD ⊢
  have hA : ∀ q : Nat, s.heap.size ≤ q → A q := fun q h => by rw [← hAe]; exact Or.inr h
  have hS : va_S A s.heap s.heap [] := va_S.rf
  have hP : va_P (dC, dI) classes [(h0, .inr (0, [.int (nI sN), .ref h1, .int pw])), (h1, .inl (cB, n, .inl f)), (h2, .inl (cC, n2, .inl g))] s.heap := hP
  have hK : va_K (dC, dI) classes [(cB, .byte), (cC, .byte)] s := hK
  have hl := lv_entry ([.ref h0, .int p1, .ref h2, .int p3]) (n := 4) (Nat.le_of_ble_eq_true rfl)
  rw [lg_entry_eq]
  generalize (lg_sl ([.ref h0, .int p1, .ref h2, .int p3]) ++ List.replicate (4 - (lg_sl ([.ref h0, .int p1, .ref h2, .int p3])).length) Slot.unset).toArray = ls at hl ⊢
  have hl : lv_has ls 4 [(0, .ref h0), (1, .int p1), (2, .ref h2), (3, .int p3)] := hl
  refine lv_aload_n hx hb d_Dk_store_0 rfl (lv_at hl 0 rfl) ?_
  refine va_get (D := (dC, dI)) (ci := 0) (v := .int pw) (C := R_Dk) (T := F_Dk) (N := 3) hx hb hts i_Dk hown hK hP 0 rfl rfl 2 (by decide) (hts _ (k_Dk_7)) (fun _ h9 => h9) rfl d_Dk_store_1 ?_
  refine lv_if_eq (tgt := 30) hx hb d_Dk_store_4 (by decide) (fun c_1 => ?_) (fun c_1 => ?_)
  · exact W.vret hx hb hr (fun t ht hW => ⟨⟨(pw, f), rfl, by rw [dk_store]; try rw [if_pos c_1]; try rfl, by rw [ht]; exact hP, va_K.moved hW.alike hK, hD⟩, hS.F ht⟩) hS.2.2 d_Dk_store_30
  · refine lv_aload_n hx hb d_Dk_store_7 rfl (lv_at hl 0 rfl) ?_
    refine lv_iload_n hx hb d_Dk_store_8 rfl (lv_at hl 1 rfl) ?_
    refine lv_iconst (v := 0) hx hb d_Dk_store_9 (by decide) ?_
    have hPc := hP.sub (ws' := [(h0, .inr (0, [.int (nI sN), .ref h1, .int pw])), (h1, .inl (cB, n, .inl f))]) [0, 1] rfl
    have hDc := hD.sub (ws' := [(h0, .inr (0, [.int (nI sN), .ref h1, .int pw])), (h1, .inl (cB, n, .inl f))]) [0, 1] (by decide) rfl
    have hKc := hK.sub (tys' := [(cB, .byte)]) [0] rfl
    have hFc := va_free (wc := [(h0, .inr (0, [.int (nI sN), .ref h1, .int pw])), (h1, .inl (cB, n, .inl f))]) hD hS hA [0, 1] rfl
    refine va_calli (va_runV (As := [.int p1, .int 0]) (rest := []) ⟨hx, hb, hml, hown, hts⟩ (c_Dk_has l dC dI h0 h1 s.heap.size cB (nI sN) pw n f h4 hn p1 0) (cwV 2 hts (gwV good_Dk (k_Dk_39) (k_Dk_8) (k_Dk_9) (k_Dk_0) (wcs (k_Dk_10) (fun _ h => h))) rfl rfl rfl (by decide +kernel) ⟨Nat.le_of_ble_eq_true rfl, Nat.le_of_ble_eq_true rfl⟩) (pv_of hPc hKc hDc (va_recv hKc hPc (ci := 0) (q0 := 0) rfl rfl)) rfl rfl hl.1 rfl (lv_room (Nat.le_of_ble_eq_true rfl)) d_Dk_store_10 ⟨by decide, by decide⟩) hS (fun q _ h => hFc q h) hFc (fun r_2 u t H1 locs ht hvm hw hB hz1 hk1 hS => ?_)
    obtain ⟨er_2, rfl⟩ := hw
    obtain ⟨hP1, hK1, hD1⟩ := hB
    rw [ht] at hP1
    have hP1 : va_P (dC, dI) classes [(h0, .inr (0, [.int (nI sN), .ref h1, .int pw])), (h1, .inl (cB, n, .inl f))] H1 := hP1
    have hD1 : va_D _ [(h0, .inr (0, [.int (nI sN), .ref h1, .int pw])), (h1, .inl (cB, n, .inl f))] := hD1
    obtain ⟨hP, hD⟩ := va_join (wr := [(h2, .inl (cC, n2, .inl g))]) (w1 := [(h0, .inr (0, [.int (nI sN), .ref h1, .int pw])), (h1, .inl (cB, n, .inl f))]) hP hD [0, 1] [2] rfl rfl (by decide) (by decide) hk1 hFc hP1 hD1
    generalize H1 = H at hP hS ⊢
    have hP : va_P (dC, dI) classes [(h2, .inl (cC, n2, .inl g)), (h0, .inr (0, [.int (nI sN), .ref h1, .int pw])), (h1, .inl (cB, n, .inl f))] H := hP
    have hD : va_D A [(h2, .inl (cC, n2, .inl g)), (h0, .inr (0, [.int (nI sN), .ref h1, .int pw])), (h1, .inl (cB, n, .inl f))] := hD
    refine lv_if_eq (tgt := 30) hx hb d_Dk_store_13 (by decide) (fun c_3 => ?_) (fun c_3 => ?_)
    · have hP := hP.sub (ws' := [(h0, .inr (0, [.int (nI sN), .ref h1, .int pw])), (h1, .inl (cB, n, .inl f)), (h2, .inl (cC, n2, .inl g))]) [1, 2, 0] rfl
      have hD := hD.sub (ws' := [(h0, .inr (0, [.int (nI sN), .ref h1, .int pw])), (h1, .inl (cB, n, .inl f)), (h2, .inl (cC, n2, .inl g))]) [1, 2, 0] (by decide) rfl
      exact W.vret hx hb hr (fun t ht hW => ⟨⟨(pw, f), rfl, by rw [dk_store]; try rw [if_neg c_1]; try rw [← er_2]; try rw [if_pos c_3]; try rfl, by rw [ht]; exact hP, va_K.moved hW.alike hK, hD⟩, hS.F ht⟩) hS.2.2 d_Dk_store_30
    · refine lv_iload_n hx hb d_Dk_store_16 rfl (lv_at hl 3 rfl) ?_
      refine lv_if_lt (tgt := 30) hx hb d_Dk_store_17 (by decide) (fun c_4 => ?_) (fun c_4 => ?_)
      · have hP := hP.sub (ws' := [(h0, .inr (0, [.int (nI sN), .ref h1, .int pw])), (h1, .inl (cB, n, .inl f)), (h2, .inl (cC, n2, .inl g))]) [1, 2, 0] rfl
        have hD := hD.sub (ws' := [(h0, .inr (0, [.int (nI sN), .ref h1, .int pw])), (h1, .inl (cB, n, .inl f)), (h2, .inl (cC, n2, .inl g))]) [1, 2, 0] (by decide) rfl
        exact W.vret hx hb hr (fun t ht hW => ⟨⟨(pw, f), rfl, by rw [dk_store]; try rw [if_neg c_1]; try rw [← er_2]; try rw [if_neg c_3]; try rw [if_pos c_4]; try rfl, by rw [ht]; exact hP, va_K.moved hW.alike hK, hD⟩, hS.F ht⟩) hS.2.2 d_Dk_store_30
      · refine lv_iload_n hx hb d_Dk_store_20 rfl (lv_at hl 3 rfl) ?_
        refine lv_aload_n hx hb d_Dk_store_21 rfl (lv_at hl 2 rfl) ?_
        refine va_alen (v := nI n2) hx hb hK hP 0 1 rfl rfl rfl d_Dk_store_22 ?_
        refine lv_sipush (v := 512) hx hb d_Dk_store_23 (by decide) ?_
        refine lv_isub hx hb d_Dk_store_26 ?_
        refine lv_icmp_le (tgt := 31) hx hb d_Dk_store_27 (by decide) (fun c_5 => ?_) (fun c_5 => ?_)
        · refine lv_aload_n hx hb d_Dk_store_31 rfl (lv_at hl 0 rfl) ?_
          refine va_get (D := (dC, dI)) (ci := 0) (v := .int pw) (C := R_Dk) (T := F_Dk) (N := 3) hx hb hts i_Dk hown hK hP 1 rfl rfl 2 (by decide) (hts _ (k_Dk_7)) (fun _ h9 => h9) rfl d_Dk_store_32 ?_
          refine lv_if_le (tgt := 48) hx hb d_Dk_store_35 (by decide) (fun c_6 => ?_) (fun c_6 => ?_)
          · refine lv_aload_n hx hb d_Dk_store_48 rfl (lv_at hl 2 rfl) ?_
            refine lv_iload_n hx hb d_Dk_store_49 rfl (lv_at hl 3 rfl) ?_
            refine lv_aload_n hx hb d_Dk_store_50 rfl (lv_at hl 0 rfl) ?_
            refine va_get (D := (dC, dI)) (ci := 0) (v := .ref h1) (C := R_Dk) (T := F_Dk) (N := 3) hx hb hts i_Dk hown hK hP 1 rfl rfl 1 (by decide) (hts _ (k_Dk_6)) (fun _ h9 => h9) rfl d_Dk_store_51 ?_
            refine lv_iload_n hx hb d_Dk_store_54 rfl (lv_at hl 1 rfl) ?_
            refine lv_sipush (v := 512) hx hb d_Dk_store_55 (by decide) ?_
            refine lv_imul hx hb d_Dk_store_58 ?_
            refine lv_sipush (v := 512) hx hb d_Dk_store_59 (by decide) ?_
            refine va_copyi (ty := .byte) hx hb (by rw [hml]; exact hl.1.symm) hown (hts _ (k_Dk_40)) (hts _ (u_Dk_J _ k_J_13)) (hts _ (u_Dk_J _ k_J_12)) (hts _ (u_Dk_J _ k_J_1)) hK hP hD hS 0 2 1 0 rfl rfl rfl rfl rfl c_4 (dk_cp (by rw [← er_2]; exact c_3) hsN hnn).1 (by decide) (dk_cq c_4 c_5 h52 hn2) (dk_cp (by rw [← er_2]; exact c_3) hsN hnn).2 (fun i _ => hfg _) (Nat.le_of_ble_eq_true rfl) (Nat.le_of_ble_eq_true rfl) d_Dk_store_62 (fun H locs hP hD hS => ?_)
            have hP : va_P (dC, dI) classes [(h2, .inl (cC, n2, .inl g)), (h0, .inr (0, [.int (nI sN), .ref h1, .int pw])), (h1, .inl (cB, n, .inl (va_cpy g f p3.toNatClampNeg (p1 * 512).toNatClampNeg (512 : Int32).toNatClampNeg)))] H := hP
            have hD : va_D A [(h2, .inl (cC, n2, .inl g)), (h0, .inr (0, [.int (nI sN), .ref h1, .int pw])), (h1, .inl (cB, n, .inl (va_cpy g f p3.toNatClampNeg (p1 * 512).toNatClampNeg (512 : Int32).toNatClampNeg)))] := hD
            have hP := hP.sub (ws' := [(h0, .inr (0, [.int (nI sN), .ref h1, .int pw])), (h1, .inl (cB, n, .inl (va_cpy g f p3.toNatClampNeg (p1 * 512).toNatClampNeg (512 : Int32).toNatClampNeg))), (h2, .inl (cC, n2, .inl g))]) [1, 2, 0] rfl
            have hD := hD.sub (ws' := [(h0, .inr (0, [.int (nI sN), .ref h1, .int pw])), (h1, .inl (cB, n, .inl (va_cpy g f p3.toNatClampNeg (p1 * 512).toNatClampNeg (512 : Int32).toNatClampNeg))), (h2, .inl (cC, n2, .inl g))]) [1, 2, 0] (by decide) rfl
            exact W.vret hx hb hr (fun t ht hW => ⟨⟨(pw, va_cpy g f p3.toNatClampNeg (p1 * 512).toNatClampNeg (512 : Int32).toNatClampNeg), rfl, by rw [dk_store]; try rw [if_neg c_1]; try rw [← er_2]; try rw [if_neg c_3]; try rw [if_neg c_4]; try rw [if_pos c_5]; try rw [if_pos c_6]; try rfl, by rw [ht]; exact hP, va_K.moved hW.alike hK, hD⟩, hS.F ht⟩) hS.2.2 d_Dk_store_65
          · refine lv_aload_n hx hb d_Dk_store_38 rfl (lv_at hl 0 rfl) ?_
            refine lv_dup hx hb d_Dk_store_39 rfl ?_
            refine va_get (D := (dC, dI)) (ci := 0) (v := .int pw) (C := R_Dk) (T := F_Dk) (N := 3) hx hb hts i_Dk hown hK hP 1 rfl rfl 2 (by decide) (hts _ (k_Dk_7)) (fun _ h9 => h9) rfl d_Dk_store_40 ?_
            refine lv_iconst (v := 1) hx hb d_Dk_store_43 (by decide) ?_
            refine lv_isub hx hb d_Dk_store_44 ?_
            refine lv_topi (fun x_7 ex_7 => ?_)
            refine va_put (D := (dC, dI)) (ci := 0) (v := .int x_7) (ty := .int) (C := R_Dk) (T := F_Dk) (N := 3) hx hb hts i_Dk t_Dk t_Dk_ok n_Dk hown hK hP hD hS 1 rfl rfl 2 (by decide) (hts _ (k_Dk_7)) (fun _ h9 => h9) rfl (by decide +kernel) rfl rfl (Nat.le_of_ble_eq_true rfl) d_Dk_store_45 (fun H locs hP hD hS => ?_)
            have hP : va_P (dC, dI) classes [(h2, .inl (cC, n2, .inl g)), (h0, .inr (0, [.int (nI sN), .ref h1, .int x_7])), (h1, .inl (cB, n, .inl f))] H := hP
            have hD : va_D A [(h2, .inl (cC, n2, .inl g)), (h0, .inr (0, [.int (nI sN), .ref h1, .int x_7])), (h1, .inl (cB, n, .inl f))] := hD
            refine lv_aload_n hx hb d_Dk_store_48 rfl (lv_at hl 2 rfl) ?_
            refine lv_iload_n hx hb d_Dk_store_49 rfl (lv_at hl 3 rfl) ?_
            refine lv_aload_n hx hb d_Dk_store_50 rfl (lv_at hl 0 rfl) ?_
            refine va_get (D := (dC, dI)) (ci := 0) (v := .ref h1) (C := R_Dk) (T := F_Dk) (N := 3) hx hb hts i_Dk hown hK hP 1 rfl rfl 1 (by decide) (hts _ (k_Dk_6)) (fun _ h9 => h9) rfl d_Dk_store_51 ?_
            refine lv_iload_n hx hb d_Dk_store_54 rfl (lv_at hl 1 rfl) ?_
            refine lv_sipush (v := 512) hx hb d_Dk_store_55 (by decide) ?_
            refine lv_imul hx hb d_Dk_store_58 ?_
            refine lv_sipush (v := 512) hx hb d_Dk_store_59 (by decide) ?_
            refine va_copyi (ty := .byte) hx hb (by rw [hml]; exact hl.1.symm) hown (hts _ (k_Dk_40)) (hts _ (u_Dk_J _ k_J_13)) (hts _ (u_Dk_J _ k_J_12)) (hts _ (u_Dk_J _ k_J_1)) hK hP hD hS 0 2 1 0 rfl rfl rfl rfl rfl c_4 (dk_cp (by rw [← er_2]; exact c_3) hsN hnn).1 (by decide) (dk_cq c_4 c_5 h52 hn2) (dk_cp (by rw [← er_2]; exact c_3) hsN hnn).2 (fun i _ => hfg _) (Nat.le_of_ble_eq_true rfl) (Nat.le_of_ble_eq_true rfl) d_Dk_store_62 (fun H locs hP hD hS => ?_)
            have hP : va_P (dC, dI) classes [(h2, .inl (cC, n2, .inl g)), (h0, .inr (0, [.int (nI sN), .ref h1, .int x_7])), (h1, .inl (cB, n, .inl (va_cpy g f p3.toNatClampNeg (p1 * 512).toNatClampNeg (512 : Int32).toNatClampNeg)))] H := hP
            have hD : va_D A [(h2, .inl (cC, n2, .inl g)), (h0, .inr (0, [.int (nI sN), .ref h1, .int x_7])), (h1, .inl (cB, n, .inl (va_cpy g f p3.toNatClampNeg (p1 * 512).toNatClampNeg (512 : Int32).toNatClampNeg)))] := hD
            have hP := hP.sub (ws' := [(h0, .inr (0, [.int (nI sN), .ref h1, .int x_7])), (h1, .inl (cB, n, .inl (va_cpy g f p3.toNatClampNeg (p1 * 512).toNatClampNeg (512 : Int32).toNatClampNeg))), (h2, .inl (cC, n2, .inl g))]) [1, 2, 0] rfl
            have hD := hD.sub (ws' := [(h0, .inr (0, [.int (nI sN), .ref h1, .int x_7])), (h1, .inl (cB, n, .inl (va_cpy g f p3.toNatClampNeg (p1 * 512).toNatClampNeg (512 : Int32).toNatClampNeg))), (h2, .inl (cC, n2, .inl g))]) [1, 2, 0] (by decide) rfl
            exact W.vret hx hb hr (fun t ht hW => ⟨⟨(x_7, va_cpy g f p3.toNatClampNeg (p1 * 512).toNatClampNeg (512 : Int32).toNatClampNeg), rfl, by rw [dk_store]; try rw [if_neg c_1]; try rw [← er_2]; try rw [if_neg c_3]; try rw [if_neg c_4]; try rw [if_pos c_5]; try rw [if_neg c_6]; try rw [← ex_7]; try rfl, by rw [ht]; exact hP, va_K.moved hW.alike hK, hD⟩, hS.F ht⟩) hS.2.2 d_Dk_store_65
        · have hP := hP.sub (ws' := [(h0, .inr (0, [.int (nI sN), .ref h1, .int pw])), (h1, .inl (cB, n, .inl f)), (h2, .inl (cC, n2, .inl g))]) [1, 2, 0] rfl
          have hD := hD.sub (ws' := [(h0, .inr (0, [.int (nI sN), .ref h1, .int pw])), (h1, .inl (cB, n, .inl f)), (h2, .inl (cC, n2, .inl g))]) [1, 2, 0] (by decide) rfl
          exact W.vret hx hb hr (fun t ht hW => ⟨⟨(pw, f), rfl, by rw [dk_store]; try rw [if_neg c_1]; try rw [← er_2]; try rw [if_neg c_3]; try rw [if_neg c_4]; try rw [if_neg c_5]; try rfl, by rw [ht]; exact hP, va_K.moved hW.alike hK, hD⟩, hS.F ht⟩) hS.2.2 d_Dk_store_30
