theorem tr_ix {cn : Nat} {x : Int32} (h : ¬ tr_has cn x = 0) (hc : cn < 2 ^ 31) : ∃ k : Nat, k < cn ∧ x = nI k := by
  unfold tr_has at h
  by_cases h0 : x < 0
  · rw [if_pos h0] at h; exact absurd rfl h
  · rw [if_neg h0] at h
    by_cases h1 : nI cn ≤ x
    · rw [if_pos h1] at h; exact absurd rfl h
    · obtain ⟨j, hj, rfl⟩ := nI_of h0
      exact ⟨j, Nat.lt_of_not_le (fun q => h1 (nI_le q hj)), rfl⟩
/-- the names of a tree's items lie in its pool -/
def tr_Nm (cn pl : Nat) (gna gnl : Nat → Int32) : Prop := ∀ k : Nat, k < cn → ∃ a m : Nat, gna k = nI a ∧ gnl k = nI m ∧ a + m ≤ pl
def tr_nmF (gp gu : Nat → Int32) (a : Nat) : Nat → Nat → Int32
  | 0, _ => 1
  | k + 1, j => if gp (a + j) = gu j then tr_nmF gp gu a k (j + 1) else if wo_cap (gp (a + j)) = wo_cap (gu j) then tr_nmF gp gu a k (j + 1) else 0
def tr_named (cn : Nat) (gna gnl gp : Nat → Int32) (ul : Nat) (gu : Nat → Int32) (p1 p3 : Int32) : Int32 := if tr_has cn p1 = 0 then 0 else if gnl p1.toNatClampNeg = p3 then (if p3 ≤ nI ul then tr_nmF gp gu (gna p1.toNatClampNeg).toNatClampNeg p3.toNatClampNeg 0 else 0) else 0
set_option maxHeartbeats 4000000 in
set_option maxRecDepth 100000 in
/-- whether an item has this name -/
theorem c_Tr_isNamed (l : Launch) (dC : Nat → ClassId) (dI : Nat → Nat → Nat) (t0 sz : Nat) (a0 a1 a2 a3 a4 a5 a6 a7 a8 a9 a10 a11 a12 a13 a14 : Nat) (cn tl : Nat) (lb po : Int32) (kL kA kP : ClassId) (gnl gna gp : Nat → Int32) (pl : Nat) (hcn : cn ≤ tl) (htl : tl < 2 ^ 31) (hpl : pl < 2 ^ 31) (hNm : tr_Nm cn pl gna gnl) (un ul : Nat) (kU : ClassId) (gu : Nat → Int32) (hul : ul < 2 ^ 31) (p1 p3 : Int32) : Met l y_Tr_isNamed (.code y_Tr_isNamed b_Tr_isNamed 6 (some .boolean) :: V_Tr) ({ frames := 1, cells := 0, slots := 0, locals := 21 }) (va_Pc [.ref t0, .int p1, .ref un, .int p3] (fun U => U.heap.size = sz ∧ at_ (dC, dI) (fun _ => True) [(t0, .inr (5, [.int (nI cn), .int lb, .ref a0, .ref a1, .ref a2, .ref a3, .ref a4, .ref a5, .ref a6, .ref a7, .ref a8, .ref a9, .ref a10, .ref a11, .ref a12, .ref a13, .ref a14, .int po])), (a10, .inl (kL, tl, .inl gnl)), (a9, .inl (kA, tl, .inl gna)), (a14, .inl (kP, pl, .inl gp)), (un, .inl (kU, ul, .inl gu))] [(kL, .int), (kA, .int), (kP, .int), (kU, .int)] U)) (va_Qi (fun (r : Int32) (u : Unit) => r = tr_named cn gna gnl gp ul gu p1 p3) (fun (u : Unit) t => at_ (dC, dI) (va_A [(t0, .inr (5, [.int (nI cn), .int lb, .ref a0, .ref a1, .ref a2, .ref a3, .ref a4, .ref a5, .ref a6, .ref a7, .ref a8, .ref a9, .ref a10, .ref a11, .ref a12, .ref a13, .ref a14, .int po])), (a10, .inl (kL, tl, .inl gnl)), (a9, .inl (kA, tl, .inl gna)), (a14, .inl (kP, pl, .inl gp)), (un, .inl (kU, ul, .inl gu))] sz) [(t0, .inr (5, [.int (nI cn), .int lb, .ref a0, .ref a1, .ref a2, .ref a3, .ref a4, .ref a5, .ref a6, .ref a7, .ref a8, .ref a9, .ref a10, .ref a11, .ref a12, .ref a13, .ref a14, .int po])), (a10, .inl (kL, tl, .inl gnl)), (a9, .inl (kA, tl, .inl gna)), (a14, .inl (kP, pl, .inl gp)), (un, .inl (kU, ul, .inl gu))] [(kL, .int), (kA, .int), (kP, .int), (kU, .int)] t) (va_A [(t0, .inr (5, [.int (nI cn), .int lb, .ref a0, .ref a1, .ref a2, .ref a3, .ref a4, .ref a5, .ref a6, .ref a7, .ref a8, .ref a9, .ref a10, .ref a11, .ref a12, .ref a13, .ref a14, .int po])), (a10, .inl (kL, tl, .inl gnl)), (a9, .inl (kA, tl, .inl gna)), (a14, .inl (kP, pl, .inl gp)), (un, .inl (kU, ul, .inl gu))] sz)) 0 0 (va_A [(t0, .inr (5, [.int (nI cn), .int lb, .ref a0, .ref a1, .ref a2, .ref a3, .ref a4, .ref a5, .ref a6, .ref a7, .ref a8, .ref a9, .ref a10, .ref a11, .ref a12, .ref a13, .ref a14, .int po])), (a10, .inl (kL, tl, .inl gnl)), (a9, .inl (kA, tl, .inl gna)), (a14, .inl (kP, pl, .inl gp)), (un, .inl (kU, ul, .inl gu))] sz) := by
  refine Met.ofW (cc := b_Tr_isNamed) (maxL := 6) (ret := (some .boolean)) (by decide) rfl ?_
  intro p e s m args below meth c s₁ B hml hv
  obtain ⟨rfl, hsz, hP, hK, hD0⟩ := hv
  have hx := B.exec
  have hb := B.bytes
  have hr := B.returns
  have hts0 := atoms_spec (ws := .code y_Tr_isNamed b_Tr_isNamed 6 (some .boolean) :: V_Tr) B.pre
  have hts : ∀ w ∈ V_Tr, w.before ([.ref t0, .int p1, .ref un, .int p3] : List Value).toArray s = true := fun w h => hts0 w (List.mem_cons_of_mem _ h)
  have hown : s.vm.findClass R_Tr = some m.cls := findClass_of_methodNamed B.named
  have hlocks := B.notSynchronized
  subst hsz
  have hD := hD0.self (sz := s.heap.size)
  generalize hAe : va_A [(t0, .inr (5, [.int (nI cn), .int lb, .ref a0, .ref a1, .ref a2, .ref a3, .ref a4, .ref a5, .ref a6, .ref a7, .ref a8, .ref a9, .ref a10, .ref a11, .ref a12, .ref a13, .ref a14, .int po])), (a10, .inl (kL, tl, .inl gnl)), (a9, .inl (kA, tl, .inl gna)), (a14, .inl (kP, pl, .inl gp)), (un, .inl (kU, ul, .inl gu))] s.heap.size = A at hD ⊢
  have hA : ∀ q : Nat, s.heap.size ≤ q → A q := fun q h => by rw [← hAe]; exact Or.inr h
  have hS : va_S A s.heap s.heap [] := va_S.rf
  have hP : va_P (dC, dI) classes [(t0, .inr (5, [.int (nI cn), .int lb, .ref a0, .ref a1, .ref a2, .ref a3, .ref a4, .ref a5, .ref a6, .ref a7, .ref a8, .ref a9, .ref a10, .ref a11, .ref a12, .ref a13, .ref a14, .int po])), (a10, .inl (kL, tl, .inl gnl)), (a9, .inl (kA, tl, .inl gna)), (a14, .inl (kP, pl, .inl gp)), (un, .inl (kU, ul, .inl gu))] s.heap := hP
  have hK : va_K (dC, dI) classes [(kL, .int), (kA, .int), (kP, .int), (kU, .int)] s := hK
  have hl := lv_entry ([.ref t0, .int p1, .ref un, .int p3]) (n := 6) (Nat.le_of_ble_eq_true rfl)
  rw [lg_entry_eq]
  generalize (lg_sl ([.ref t0, .int p1, .ref un, .int p3]) ++ List.replicate (6 - (lg_sl ([.ref t0, .int p1, .ref un, .int p3])).length) Slot.unset).toArray = ls at hl ⊢
  have hl : lv_has ls 6 [(0, .ref t0), (1, .int p1), (2, .ref un), (3, .int p3)] := hl
  refine qabs (fun Q hQ => ?_)
  have hL37 : ∀ (k_ : Nat) (j : Nat) (nN : Nat) (aN : Nat) (H : Heap) (locs : List Loc) (ls : Array Slot), nN - j < k_ → (j ≤ nN) → (aN + nN ≤ pl) → (nN ≤ ul) → (tr_nmF gp gu aN (nN - j) j = tr_named cn gna gnl gp ul gu p1 p3) → va_P (dC, dI) classes [(t0, .inr (5, [.int (nI cn), .int lb, .ref a0, .ref a1, .ref a2, .ref a3, .ref a4, .ref a5, .ref a6, .ref a7, .ref a8, .ref a9, .ref a10, .ref a11, .ref a12, .ref a13, .ref a14, .int po])), (a10, .inl (kL, tl, .inl gnl)), (a9, .inl (kA, tl, .inl gna)), (a14, .inl (kP, pl, .inl gp)), (un, .inl (kU, ul, .inl gu))] H → va_D A [(t0, .inr (5, [.int (nI cn), .int lb, .ref a0, .ref a1, .ref a2, .ref a3, .ref a4, .ref a5, .ref a6, .ref a7, .ref a8, .ref a9, .ref a10, .ref a11, .ref a12, .ref a13, .ref a14, .int po])), (a10, .inl (kL, tl, .inl gnl)), (a9, .inl (kA, tl, .inl gna)), (a14, .inl (kP, pl, .inl gp)), (un, .inl (kU, ul, .inl gu))] → va_S A s.heap H locs → lv_has ls 6 [(0, .ref t0), (1, .int p1), (2, .ref un), (3, .int (nI nN)), (4, .int (nI aN)), (5, .int (nI j))] → W p l e ({ frames := 1, cells := 0, slots := 0, locals := 21 }) s m ([.ref t0, .int p1, .ref un, .int p3] : List Value).toArray below meth c H locs 0 0 Q (F0 m 37 ls []) := by
    intro k_
    induction k_ with
    | zero => intro j nN aN H locs ls hk_; exact absurd hk_ (Nat.not_lt_zero _)
    | succ k_ ih =>
      intro j nN aN H locs ls hk_ hj hna hnu he hP hD hS hl
      refine lv_iload hx hb d_Tr_isNamed_37 (lv_at hl 5 rfl) ?_
      refine lv_iload_n hx hb d_Tr_isNamed_39 rfl (lv_at hl 3 rfl) ?_
      refine lv_icmp_ge (tgt := 91) hx hb d_Tr_isNamed_40 (by decide) (fun c_1 => ?_) (fun c_1 => ?_)
      · have hj9 : j = nN := Nat.le_antisymm hj ((nI_leI (by omega) (by omega)).mp c_1)
        refine lv_iconst (v := 1) hx hb d_Tr_isNamed_91 (by decide) ?_
        rw [hQ]
        exact W.zret (v := 1) hx hb hr rfl (fun t ht hW => ⟨⟨1, (), rfl, by rw [← he, hj9, Nat.sub_self, tr_nmF], by rw [ht]; exact hP, va_K.moved hW.alike hK, hD⟩, hS.F ht⟩) hS.2.2 d_Tr_isNamed_92
      · have hlt : j < nN := Nat.lt_of_not_le (fun h => c_1 ((nI_leI (by omega) (by omega)).mpr h))
        have hcl : (nI aN + nI j).toNatClampNeg = aN + j := by rw [nI_add]; exact nI_clamp (by omega)
        have hcj : (nI j).toNatClampNeg = j := nI_clamp (by omega)
        refine lv_aload_n hx hb d_Tr_isNamed_43 rfl (lv_at hl 0 rfl) ?_
        refine va_get (D := (dC, dI)) (ci := 5) (v := .ref a14) (C := R_Tr) (T := F_Tr) (N := 18) hx hb hts i_Tr hown hK hP 0 rfl rfl 16 (by decide) (hts _ (k_Tr_21)) (fun _ h9 => h9) rfl d_Tr_isNamed_44 ?_
        refine lv_iload hx hb d_Tr_isNamed_47 (lv_at hl 4 rfl) ?_
        refine lv_iload hx hb d_Tr_isNamed_49 (lv_at hl 5 rfl) ?_
        refine lv_iadd hx hb d_Tr_isNamed_51 ?_
        refine va_iald hx hb hK hP 3 2 rfl rfl (by rw [nI_add]; exact vp_in_nI (by omega) hpl) d_Tr_isNamed_52 ?_
        refine lv_aload_n hx hb d_Tr_isNamed_53 rfl (lv_at hl 2 rfl) ?_
        refine lv_iload hx hb d_Tr_isNamed_54 (lv_at hl 5 rfl) ?_
        refine va_iald hx hb hK hP 4 3 rfl rfl (vp_in_nI (by omega) hul) d_Tr_isNamed_56 ?_
        refine lv_icmp_eq (tgt := 85) hx hb d_Tr_isNamed_57 (by decide) (fun c_2 => ?_) (fun c_2 => ?_)
        · refine lv_iinc (v := nI (j + 1)) (lv' := [(5, .int (nI (j + 1))), (0, .ref t0), (1, .int p1), (2, .ref un), (3, .int (nI nN)), (4, .int (nI aN))]) hx hb d_Tr_isNamed_85 hl (k := 5) rfl (by exact nI_1 j) (by decide) rfl (fun ls hl => ?_)
          refine lv_goto (tgt := 37) hx hb d_Tr_isNamed_88 (by decide) ?_
          have z1 := c_2
          rw [hcl, hcj] at z1
          have he9 : tr_nmF gp gu aN (nN - (j + 1)) (j + 1) = tr_named cn gna gnl gp ul gu p1 p3 := by rw [← he, show nN - j = (nN - (j + 1)) + 1 by omega, tr_nmF, if_pos z1]
          exact ih (j + 1) nN aN _ _ _ (by omega) hlt hna hnu he9 hP hD hS (lv_sub hl [1, 2, 3, 4, 5, 0] rfl)
        · refine lv_aload_n hx hb d_Tr_isNamed_60 rfl (lv_at hl 0 rfl) ?_
          refine va_get (D := (dC, dI)) (ci := 5) (v := .ref a14) (C := R_Tr) (T := F_Tr) (N := 18) hx hb hts i_Tr hown hK hP 0 rfl rfl 16 (by decide) (hts _ (k_Tr_21)) (fun _ h9 => h9) rfl d_Tr_isNamed_61 ?_
          refine lv_iload hx hb d_Tr_isNamed_64 (lv_at hl 4 rfl) ?_
          refine lv_iload hx hb d_Tr_isNamed_66 (lv_at hl 5 rfl) ?_
          refine lv_iadd hx hb d_Tr_isNamed_68 ?_
          refine va_iald hx hb hK hP 3 2 rfl rfl (by rw [nI_add]; exact vp_in_nI (by omega) hpl) d_Tr_isNamed_69 ?_
          have hPc := hP.sub (ws' := []) [] rfl
          have hDc := hD.sub (ws' := []) [] (by decide) rfl
          have hKc := hK.sub (tys' := []) [] rfl
          have hFc := va_free (wc := []) hD hS hA [] rfl
          refine va_calli (va_runS (As := [.int (gp ((nI aN) + (nI j)).toNatClampNeg)]) (rest := []) ⟨hx, hb, hml, hown, hts⟩ (c_Wo_capital l dC dI H.size (gp ((nI aN) + (nI j)).toNatClampNeg)) (va_cwS 1 hts (gwS good_Tr (k_Tr_63) (u_Tr_Wo _ k_Wo_17) (u_Tr_Wo _ k_Wo_0) (wcs (u_Tr_Wo _ k_Wo_18) u_Tr_Wo)) rfl rfl rfl (by decide +kernel) ⟨Nat.le_of_ble_eq_true rfl, Nat.le_of_ble_eq_true rfl⟩) (ps_of hPc hKc hDc) rfl rfl hl.1 rfl (lv_room (Nat.le_of_ble_eq_true rfl)) d_Tr_isNamed_70 ⟨by decide, by decide⟩) hS (fun q _ h => hFc q h) hFc (fun r_3 u t H1 locs ht hvm hw hB hz1 hk1 hS => ?_)
          have er_3 := hw
          obtain ⟨hP1, hK1, hD1⟩ := hB
          rw [ht] at hP1
          have hP1 : va_P (dC, dI) classes [] H1 := hP1
          have hD1 : va_D _ [] := hD1
          obtain ⟨hP, hD⟩ := va_join (wr := [(t0, .inr (5, [.int (nI cn), .int lb, .ref a0, .ref a1, .ref a2, .ref a3, .ref a4, .ref a5, .ref a6, .ref a7, .ref a8, .ref a9, .ref a10, .ref a11, .ref a12, .ref a13, .ref a14, .int po])), (a10, .inl (kL, tl, .inl gnl)), (a9, .inl (kA, tl, .inl gna)), (a14, .inl (kP, pl, .inl gp)), (un, .inl (kU, ul, .inl gu))]) (w1 := []) hP hD [] [0, 1, 2, 3, 4] rfl rfl (by decide) (by decide) hk1 hFc hP1 hD1
          generalize H1 = H at hP hS ⊢
          have hP : va_P (dC, dI) classes [(t0, .inr (5, [.int (nI cn), .int lb, .ref a0, .ref a1, .ref a2, .ref a3, .ref a4, .ref a5, .ref a6, .ref a7, .ref a8, .ref a9, .ref a10, .ref a11, .ref a12, .ref a13, .ref a14, .int po])), (a10, .inl (kL, tl, .inl gnl)), (a9, .inl (kA, tl, .inl gna)), (a14, .inl (kP, pl, .inl gp)), (un, .inl (kU, ul, .inl gu))] H := hP
          have hD : va_D A [(t0, .inr (5, [.int (nI cn), .int lb, .ref a0, .ref a1, .ref a2, .ref a3, .ref a4, .ref a5, .ref a6, .ref a7, .ref a8, .ref a9, .ref a10, .ref a11, .ref a12, .ref a13, .ref a14, .int po])), (a10, .inl (kL, tl, .inl gnl)), (a9, .inl (kA, tl, .inl gna)), (a14, .inl (kP, pl, .inl gp)), (un, .inl (kU, ul, .inl gu))] := hD
          refine lv_aload_n hx hb d_Tr_isNamed_73 rfl (lv_at hl 2 rfl) ?_
          refine lv_iload hx hb d_Tr_isNamed_74 (lv_at hl 5 rfl) ?_
          refine va_iald hx hb hK hP 4 3 rfl rfl (vp_in_nI (by omega) hul) d_Tr_isNamed_76 ?_
          have hPc := hP.sub (ws' := []) [] rfl
          have hDc := hD.sub (ws' := []) [] (by decide) rfl
          have hKc := hK.sub (tys' := []) [] rfl
          have hFc := va_free (wc := []) hD hS hA [] rfl
          refine va_calli (va_runS (As := [.int (gu (nI j).toNatClampNeg)]) (rest := [.int r_3]) ⟨hx, hb, hml, hown, hts⟩ (c_Wo_capital l dC dI H.size (gu (nI j).toNatClampNeg)) (va_cwS 1 hts (gwS good_Tr (k_Tr_63) (u_Tr_Wo _ k_Wo_17) (u_Tr_Wo _ k_Wo_0) (wcs (u_Tr_Wo _ k_Wo_18) u_Tr_Wo)) rfl rfl rfl (by decide +kernel) ⟨Nat.le_of_ble_eq_true rfl, Nat.le_of_ble_eq_true rfl⟩) (ps_of hPc hKc hDc) rfl rfl hl.1 rfl (lv_room (Nat.le_of_ble_eq_true rfl)) d_Tr_isNamed_77 ⟨by decide, by decide⟩) hS (fun q _ h => hFc q h) hFc (fun r_4 u t H1 locs ht hvm hw hB hz1 hk1 hS => ?_)
          have er_4 := hw
          obtain ⟨hP1, hK1, hD1⟩ := hB
          rw [ht] at hP1
          have hP1 : va_P (dC, dI) classes [] H1 := hP1
          have hD1 : va_D _ [] := hD1
          obtain ⟨hP, hD⟩ := va_join (wr := [(t0, .inr (5, [.int (nI cn), .int lb, .ref a0, .ref a1, .ref a2, .ref a3, .ref a4, .ref a5, .ref a6, .ref a7, .ref a8, .ref a9, .ref a10, .ref a11, .ref a12, .ref a13, .ref a14, .int po])), (a10, .inl (kL, tl, .inl gnl)), (a9, .inl (kA, tl, .inl gna)), (a14, .inl (kP, pl, .inl gp)), (un, .inl (kU, ul, .inl gu))]) (w1 := []) hP hD [] [0, 1, 2, 3, 4] rfl rfl (by decide) (by decide) hk1 hFc hP1 hD1
          generalize H1 = H at hP hS ⊢
          have hP : va_P (dC, dI) classes [(t0, .inr (5, [.int (nI cn), .int lb, .ref a0, .ref a1, .ref a2, .ref a3, .ref a4, .ref a5, .ref a6, .ref a7, .ref a8, .ref a9, .ref a10, .ref a11, .ref a12, .ref a13, .ref a14, .int po])), (a10, .inl (kL, tl, .inl gnl)), (a9, .inl (kA, tl, .inl gna)), (a14, .inl (kP, pl, .inl gp)), (un, .inl (kU, ul, .inl gu))] H := hP
          have hD : va_D A [(t0, .inr (5, [.int (nI cn), .int lb, .ref a0, .ref a1, .ref a2, .ref a3, .ref a4, .ref a5, .ref a6, .ref a7, .ref a8, .ref a9, .ref a10, .ref a11, .ref a12, .ref a13, .ref a14, .int po])), (a10, .inl (kL, tl, .inl gnl)), (a9, .inl (kA, tl, .inl gna)), (a14, .inl (kP, pl, .inl gp)), (un, .inl (kU, ul, .inl gu))] := hD
          refine lv_icmp_eq (tgt := 85) hx hb d_Tr_isNamed_80 (by decide) (fun c_5 => ?_) (fun c_5 => ?_)
          · refine lv_iinc (v := nI (j + 1)) (lv' := [(5, .int (nI (j + 1))), (0, .ref t0), (1, .int p1), (2, .ref un), (3, .int (nI nN)), (4, .int (nI aN))]) hx hb d_Tr_isNamed_85 hl (k := 5) rfl (by exact nI_1 j) (by decide) rfl (fun ls hl => ?_)
            refine lv_goto (tgt := 37) hx hb d_Tr_isNamed_88 (by decide) ?_
            have z1 := c_2
            rw [hcl, hcj] at z1
            have z2 := c_5
            rw [er_3, er_4, hcl, hcj] at z2
            have he9 : tr_nmF gp gu aN (nN - (j + 1)) (j + 1) = tr_named cn gna gnl gp ul gu p1 p3 := by rw [← he, show nN - j = (nN - (j + 1)) + 1 by omega, tr_nmF, if_neg z1, if_pos z2]
            exact ih (j + 1) nN aN _ _ _ (by omega) hlt hna hnu he9 hP hD hS (lv_sub hl [1, 2, 3, 4, 5, 0] rfl)
          · refine lv_iconst (v := 0) hx hb d_Tr_isNamed_83 (by decide) ?_
            rw [hQ]
            exact W.zret (v := 0) hx hb hr rfl (fun t ht hW => ⟨⟨0, (), rfl, (by have z1 := c_2; rw [hcl, hcj] at z1; have z2 := c_5; rw [er_3, er_4, hcl, hcj] at z2; rw [← he, show nN - j = (nN - (j + 1)) + 1 by omega, tr_nmF, if_neg z1, if_neg z2]), by rw [ht]; exact hP, va_K.moved hW.alike hK, hD⟩, hS.F ht⟩) hS.2.2 d_Tr_isNamed_84
  refine lv_aload_n hx hb d_Tr_isNamed_0 rfl (lv_at hl 0 rfl) ?_
  refine lv_iload_n hx hb d_Tr_isNamed_1 rfl (lv_at hl 1 rfl) ?_
  have hPc := hP.sub (ws' := [(t0, .inr (5, [.int (nI cn), .int lb, .ref a0, .ref a1, .ref a2, .ref a3, .ref a4, .ref a5, .ref a6, .ref a7, .ref a8, .ref a9, .ref a10, .ref a11, .ref a12, .ref a13, .ref a14, .int po]))]) [0] rfl
  have hDc := hD.sub (ws' := [(t0, .inr (5, [.int (nI cn), .int lb, .ref a0, .ref a1, .ref a2, .ref a3, .ref a4, .ref a5, .ref a6, .ref a7, .ref a8, .ref a9, .ref a10, .ref a11, .ref a12, .ref a13, .ref a14, .int po]))]) [0] (by decide) rfl
  have hKc := hK.sub (tys' := []) [] rfl
  have hFc := va_free (wc := [(t0, .inr (5, [.int (nI cn), .int lb, .ref a0, .ref a1, .ref a2, .ref a3, .ref a4, .ref a5, .ref a6, .ref a7, .ref a8, .ref a9, .ref a10, .ref a11, .ref a12, .ref a13, .ref a14, .int po]))]) hD hS hA [0] rfl
  refine va_calli (va_runV (As := [.int p1]) (rest := []) ⟨hx, hb, hml, hown, hts⟩ (c_Tr_has l dC dI t0 s.heap.size a0 a1 a2 a3 a4 a5 a6 a7 a8 a9 a10 a11 a12 a13 a14 cn tl lb po p1) (cwV 1 hts (gwV good_Tr (k_Tr_38) (k_Tr_39) (k_Tr_40) (k_Tr_0) (wcs (k_Tr_41) (fun _ h => h))) rfl rfl rfl (by decide +kernel) ⟨Nat.le_of_ble_eq_true rfl, Nat.le_of_ble_eq_true rfl⟩) (pv_of hPc hKc hDc (va_recv hKc hPc (ci := 5) (q0 := 0) rfl rfl)) rfl rfl hl.1 rfl (lv_room (Nat.le_of_ble_eq_true rfl)) d_Tr_isNamed_2 ⟨by decide, by decide⟩) hS (fun q _ h => hFc q h) hFc (fun r_6 u t H1 locs ht hvm hw hB hz1 hk1 hS => ?_)
  have er_6 := hw
  obtain ⟨hP1, hK1, hD1⟩ := hB
  rw [ht] at hP1
  have hP1 : va_P (dC, dI) classes [(t0, .inr (5, [.int (nI cn), .int lb, .ref a0, .ref a1, .ref a2, .ref a3, .ref a4, .ref a5, .ref a6, .ref a7, .ref a8, .ref a9, .ref a10, .ref a11, .ref a12, .ref a13, .ref a14, .int po]))] H1 := hP1
  have hD1 : va_D _ [(t0, .inr (5, [.int (nI cn), .int lb, .ref a0, .ref a1, .ref a2, .ref a3, .ref a4, .ref a5, .ref a6, .ref a7, .ref a8, .ref a9, .ref a10, .ref a11, .ref a12, .ref a13, .ref a14, .int po]))] := hD1
  obtain ⟨hP, hD⟩ := va_join (wr := [(a10, .inl (kL, tl, .inl gnl)), (a9, .inl (kA, tl, .inl gna)), (a14, .inl (kP, pl, .inl gp)), (un, .inl (kU, ul, .inl gu))]) (w1 := [(t0, .inr (5, [.int (nI cn), .int lb, .ref a0, .ref a1, .ref a2, .ref a3, .ref a4, .ref a5, .ref a6, .ref a7, .ref a8, .ref a9, .ref a10, .ref a11, .ref a12, .ref a13, .ref a14, .int po]))]) hP hD [0] [1, 2, 3, 4] rfl rfl (by decide) (by decide) hk1 hFc hP1 hD1
  generalize H1 = H at hP hS ⊢
  have hP : va_P (dC, dI) classes [(a10, .inl (kL, tl, .inl gnl)), (a9, .inl (kA, tl, .inl gna)), (a14, .inl (kP, pl, .inl gp)), (un, .inl (kU, ul, .inl gu)), (t0, .inr (5, [.int (nI cn), .int lb, .ref a0, .ref a1, .ref a2, .ref a3, .ref a4, .ref a5, .ref a6, .ref a7, .ref a8, .ref a9, .ref a10, .ref a11, .ref a12, .ref a13, .ref a14, .int po]))] H := hP
  have hD : va_D A [(a10, .inl (kL, tl, .inl gnl)), (a9, .inl (kA, tl, .inl gna)), (a14, .inl (kP, pl, .inl gp)), (un, .inl (kU, ul, .inl gu)), (t0, .inr (5, [.int (nI cn), .int lb, .ref a0, .ref a1, .ref a2, .ref a3, .ref a4, .ref a5, .ref a6, .ref a7, .ref a8, .ref a9, .ref a10, .ref a11, .ref a12, .ref a13, .ref a14, .int po]))] := hD
  refine lv_if_eq (tgt := 24) hx hb d_Tr_isNamed_5 (by decide) (fun c_7 => ?_) (fun c_7 => ?_)
  · refine lv_iconst (v := 0) hx hb d_Tr_isNamed_24 (by decide) ?_
    have hP := hP.sub (ws' := [(t0, .inr (5, [.int (nI cn), .int lb, .ref a0, .ref a1, .ref a2, .ref a3, .ref a4, .ref a5, .ref a6, .ref a7, .ref a8, .ref a9, .ref a10, .ref a11, .ref a12, .ref a13, .ref a14, .int po])), (a10, .inl (kL, tl, .inl gnl)), (a9, .inl (kA, tl, .inl gna)), (a14, .inl (kP, pl, .inl gp)), (un, .inl (kU, ul, .inl gu))]) [4, 0, 1, 2, 3] rfl
    have hD := hD.sub (ws' := [(t0, .inr (5, [.int (nI cn), .int lb, .ref a0, .ref a1, .ref a2, .ref a3, .ref a4, .ref a5, .ref a6, .ref a7, .ref a8, .ref a9, .ref a10, .ref a11, .ref a12, .ref a13, .ref a14, .int po])), (a10, .inl (kL, tl, .inl gnl)), (a9, .inl (kA, tl, .inl gna)), (a14, .inl (kP, pl, .inl gp)), (un, .inl (kU, ul, .inl gu))]) [4, 0, 1, 2, 3] (by decide) rfl
    rw [hQ]
    exact W.zret (v := 0) hx hb hr rfl (fun t ht hW => ⟨⟨0, (), rfl, by rw [tr_named, ← er_6, if_pos c_7], by rw [ht]; exact hP, va_K.moved hW.alike hK, hD⟩, hS.F ht⟩) hS.2.2 d_Tr_isNamed_25
  · refine lv_aload_n hx hb d_Tr_isNamed_8 rfl (lv_at hl 0 rfl) ?_
    refine va_get (D := (dC, dI)) (ci := 5) (v := .ref a10) (C := R_Tr) (T := F_Tr) (N := 18) hx hb hts i_Tr hown hK hP 4 rfl rfl 12 (by decide) (hts _ (k_Tr_17)) (fun _ h9 => h9) rfl d_Tr_isNamed_9 ?_
    refine lv_iload_n hx hb d_Tr_isNamed_12 rfl (lv_at hl 1 rfl) ?_
    refine va_iald hx hb hK hP 0 0 rfl rfl (tr_in (by rw [← er_6]; exact c_7) hcn htl) d_Tr_isNamed_13 ?_
    refine lv_iload_n hx hb d_Tr_isNamed_14 rfl (lv_at hl 3 rfl) ?_
    refine lv_icmp_ne (tgt := 24) hx hb d_Tr_isNamed_15 (by decide) (fun c_8 => ?_) (fun c_8 => ?_)
    · refine lv_iconst (v := 0) hx hb d_Tr_isNamed_24 (by decide) ?_
      have hP := hP.sub (ws' := [(t0, .inr (5, [.int (nI cn), .int lb, .ref a0, .ref a1, .ref a2, .ref a3, .ref a4, .ref a5, .ref a6, .ref a7, .ref a8, .ref a9, .ref a10, .ref a11, .ref a12, .ref a13, .ref a14, .int po])), (a10, .inl (kL, tl, .inl gnl)), (a9, .inl (kA, tl, .inl gna)), (a14, .inl (kP, pl, .inl gp)), (un, .inl (kU, ul, .inl gu))]) [4, 0, 1, 2, 3] rfl
      have hD := hD.sub (ws' := [(t0, .inr (5, [.int (nI cn), .int lb, .ref a0, .ref a1, .ref a2, .ref a3, .ref a4, .ref a5, .ref a6, .ref a7, .ref a8, .ref a9, .ref a10, .ref a11, .ref a12, .ref a13, .ref a14, .int po])), (a10, .inl (kL, tl, .inl gnl)), (a9, .inl (kA, tl, .inl gna)), (a14, .inl (kP, pl, .inl gp)), (un, .inl (kU, ul, .inl gu))]) [4, 0, 1, 2, 3] (by decide) rfl
      rw [hQ]
      exact W.zret (v := 0) hx hb hr rfl (fun t ht hW => ⟨⟨0, (), rfl, by rw [tr_named, ← er_6, if_neg c_7, if_neg c_8], by rw [ht]; exact hP, va_K.moved hW.alike hK, hD⟩, hS.F ht⟩) hS.2.2 d_Tr_isNamed_25
    · refine lv_iload_n hx hb d_Tr_isNamed_18 rfl (lv_at hl 3 rfl) ?_
      refine lv_aload_n hx hb d_Tr_isNamed_19 rfl (lv_at hl 2 rfl) ?_
      refine va_alen (v := nI ul) hx hb hK hP 3 3 rfl rfl rfl d_Tr_isNamed_20 ?_
      refine lv_icmp_le (tgt := 26) hx hb d_Tr_isNamed_21 (by decide) (fun c_9 => ?_) (fun c_9 => ?_)
      · refine lv_aload_n hx hb d_Tr_isNamed_26 rfl (lv_at hl 0 rfl) ?_
        refine va_get (D := (dC, dI)) (ci := 5) (v := .ref a9) (C := R_Tr) (T := F_Tr) (N := 18) hx hb hts i_Tr hown hK hP 4 rfl rfl 11 (by decide) (hts _ (k_Tr_16)) (fun _ h9 => h9) rfl d_Tr_isNamed_27 ?_
        refine lv_iload_n hx hb d_Tr_isNamed_30 rfl (lv_at hl 1 rfl) ?_
        refine va_iald hx hb hK hP 1 1 rfl rfl (tr_in (by rw [← er_6]; exact c_7) hcn htl) d_Tr_isNamed_31 ?_
        refine lv_topi (fun x_10 ex_10 => ?_)
        refine lv_istore (lv' := [(4, .int x_10), (0, .ref t0), (1, .int p1), (2, .ref un), (3, .int p3)]) hx hb d_Tr_isNamed_32 hl (by decide) rfl (fun ls hl => ?_)
        refine lv_iconst (v := 0) hx hb d_Tr_isNamed_34 (by decide) ?_
        refine lv_istore (lv' := [(5, .int 0), (4, .int x_10), (0, .ref t0), (1, .int p1), (2, .ref un), (3, .int p3)]) hx hb d_Tr_isNamed_35 hl (by decide) rfl (fun ls hl => ?_)
        obtain ⟨k9, hk9, e9⟩ := tr_ix (by rw [← er_6]; exact c_7) (Nat.lt_of_le_of_lt hcn htl)
        obtain ⟨a9, m9, h91, h92, h93⟩ := hNm k9 hk9
        have hk : p1.toNatClampNeg = k9 := by rw [e9]; exact nI_clamp (by omega)
        have hx4 : x_10 = nI a9 := by rw [ex_10, hk]; exact h91
        have hp3 : p3 = nI m9 := by rw [← c_8, hk]; exact h92
        have hnu : m9 ≤ ul := by have z := c_9; rw [hp3] at z; exact (nI_leI (by omega) hul).mp z
        have he : tr_nmF gp gu a9 (m9 - 0) 0 = tr_named cn gna gnl gp ul gu p1 p3 := by rw [tr_named, ← er_6, if_neg c_7, if_pos c_8, if_pos c_9, hk, h91, nI_clamp (by omega), hp3, nI_clamp (by omega), Nat.sub_zero]
        have hl := hl
        rw [hx4, hp3] at hl
        exact hL37 (m9 + 1) 0 m9 a9 _ _ _ (by omega) (Nat.zero_le _) h93 hnu he (hP.sub [4, 0, 1, 2, 3] rfl) (hD.sub [4, 0, 1, 2, 3] (by decide) rfl) hS (lv_sub hl [2, 3, 4, 5, 1, 0] rfl)
      · refine lv_iconst (v := 0) hx hb d_Tr_isNamed_24 (by decide) ?_
        have hP := hP.sub (ws' := [(t0, .inr (5, [.int (nI cn), .int lb, .ref a0, .ref a1, .ref a2, .ref a3, .ref a4, .ref a5, .ref a6, .ref a7, .ref a8, .ref a9, .ref a10, .ref a11, .ref a12, .ref a13, .ref a14, .int po])), (a10, .inl (kL, tl, .inl gnl)), (a9, .inl (kA, tl, .inl gna)), (a14, .inl (kP, pl, .inl gp)), (un, .inl (kU, ul, .inl gu))]) [4, 0, 1, 2, 3] rfl
        have hD := hD.sub (ws' := [(t0, .inr (5, [.int (nI cn), .int lb, .ref a0, .ref a1, .ref a2, .ref a3, .ref a4, .ref a5, .ref a6, .ref a7, .ref a8, .ref a9, .ref a10, .ref a11, .ref a12, .ref a13, .ref a14, .int po])), (a10, .inl (kL, tl, .inl gnl)), (a9, .inl (kA, tl, .inl gna)), (a14, .inl (kP, pl, .inl gp)), (un, .inl (kU, ul, .inl gu))]) [4, 0, 1, 2, 3] (by decide) rfl
        rw [hQ]
        exact W.zret (v := 0) hx hb hr rfl (fun t ht hW => ⟨⟨0, (), rfl, by rw [tr_named, ← er_6, if_neg c_7, if_pos c_8, if_neg c_9], by rw [ht]; exact hP, va_K.moved hW.alike hK, hD⟩, hS.F ht⟩) hS.2.2 d_Tr_isNamed_25
