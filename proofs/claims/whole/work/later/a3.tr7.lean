def tr_nbF (gp : Nat → Int32) (a : Nat) : Nat → Nat → Int32 → Int32
  | 0, _, _ => -1
  | k + 1, j, l => if wo_width (gp (a + j)) ≤ l then tr_nbF gp a k (j + 1) (l - wo_width (gp (a + j))) else wo_byte (gp (a + j)) l
def tr_nbyte (cn : Nat) (gnb gna gnl gp : Nat → Int32) (p1 p2 : Int32) : Int32 := if tr_has cn p1 = 0 then -1 else if p2 < 0 then -1 else if p2 < gnb p1.toNatClampNeg then tr_nbF gp (gna p1.toNatClampNeg).toNatClampNeg (gnl p1.toNatClampNeg).toNatClampNeg 0 p2 else -1
set_option maxHeartbeats 4000000 in
set_option maxRecDepth 100000 in
/-- a byte of a name -/
theorem c_Tr_nameByte (l : Launch) (dC : Nat → ClassId) (dI : Nat → Nat → Nat) (t0 sz : Nat) (a0 a1 a2 a3 a4 a5 a6 a7 a8 a9 a10 a11 a12 a13 a14 : Nat) (cn tl : Nat) (lb po : Int32) (kL kA kP : ClassId) (gnl gna gp : Nat → Int32) (pl : Nat) (hcn : cn ≤ tl) (htl : tl < 2 ^ 31) (hpl : pl < 2 ^ 31) (hNm : tr_Nm cn pl gna gnl) (kB : ClassId) (gnb : Nat → Int32) (p1 p2 : Int32) : Met l y_Tr_nameByte (.code y_Tr_nameByte b_Tr_nameByte 7 (some .int) :: V_Tr) ({ frames := 2, cells := 0, slots := 0, locals := 43 }) (va_Pc [.ref t0, .int p1, .int p2] (fun U => U.heap.size = sz ∧ at_ (dC, dI) (fun _ => True) [(t0, .inr (5, [.int (nI cn), .int lb, .ref a0, .ref a1, .ref a2, .ref a3, .ref a4, .ref a5, .ref a6, .ref a7, .ref a8, .ref a9, .ref a10, .ref a11, .ref a12, .ref a13, .ref a14, .int po])), (a10, .inl (kL, tl, .inl gnl)), (a9, .inl (kA, tl, .inl gna)), (a14, .inl (kP, pl, .inl gp)), (a11, .inl (kB, tl, .inl gnb))] [(kL, .int), (kA, .int), (kP, .int), (kB, .int)] U)) (va_Qi (fun (r : Int32) (u : Unit) => r = tr_nbyte cn gnb gna gnl gp p1 p2) (fun (u : Unit) t => at_ (dC, dI) (va_A [(t0, .inr (5, [.int (nI cn), .int lb, .ref a0, .ref a1, .ref a2, .ref a3, .ref a4, .ref a5, .ref a6, .ref a7, .ref a8, .ref a9, .ref a10, .ref a11, .ref a12, .ref a13, .ref a14, .int po])), (a10, .inl (kL, tl, .inl gnl)), (a9, .inl (kA, tl, .inl gna)), (a14, .inl (kP, pl, .inl gp)), (a11, .inl (kB, tl, .inl gnb))] sz) [(t0, .inr (5, [.int (nI cn), .int lb, .ref a0, .ref a1, .ref a2, .ref a3, .ref a4, .ref a5, .ref a6, .ref a7, .ref a8, .ref a9, .ref a10, .ref a11, .ref a12, .ref a13, .ref a14, .int po])), (a10, .inl (kL, tl, .inl gnl)), (a9, .inl (kA, tl, .inl gna)), (a14, .inl (kP, pl, .inl gp)), (a11, .inl (kB, tl, .inl gnb))] [(kL, .int), (kA, .int), (kP, .int), (kB, .int)] t) (va_A [(t0, .inr (5, [.int (nI cn), .int lb, .ref a0, .ref a1, .ref a2, .ref a3, .ref a4, .ref a5, .ref a6, .ref a7, .ref a8, .ref a9, .ref a10, .ref a11, .ref a12, .ref a13, .ref a14, .int po])), (a10, .inl (kL, tl, .inl gnl)), (a9, .inl (kA, tl, .inl gna)), (a14, .inl (kP, pl, .inl gp)), (a11, .inl (kB, tl, .inl gnb))] sz)) 0 0 (va_A [(t0, .inr (5, [.int (nI cn), .int lb, .ref a0, .ref a1, .ref a2, .ref a3, .ref a4, .ref a5, .ref a6, .ref a7, .ref a8, .ref a9, .ref a10, .ref a11, .ref a12, .ref a13, .ref a14, .int po])), (a10, .inl (kL, tl, .inl gnl)), (a9, .inl (kA, tl, .inl gna)), (a14, .inl (kP, pl, .inl gp)), (a11, .inl (kB, tl, .inl gnb))] sz) := by
  refine Met.ofW (cc := b_Tr_nameByte) (maxL := 7) (ret := (some .int)) (by decide) rfl ?_
  intro p e s m args below meth c s₁ B hml hv
  obtain ⟨rfl, hsz, hP, hK, hD0⟩ := hv
  have hx := B.exec
  have hb := B.bytes
  have hr := B.returns
  have hts0 := atoms_spec (ws := .code y_Tr_nameByte b_Tr_nameByte 7 (some .int) :: V_Tr) B.pre
  have hts : ∀ w ∈ V_Tr, w.before ([.ref t0, .int p1, .int p2] : List Value).toArray s = true := fun w h => hts0 w (List.mem_cons_of_mem _ h)
  have hown : s.vm.findClass R_Tr = some m.cls := findClass_of_methodNamed B.named
  have hlocks := B.notSynchronized
  subst hsz
  have hD := hD0.self (sz := s.heap.size)
  generalize hAe : va_A [(t0, .inr (5, [.int (nI cn), .int lb, .ref a0, .ref a1, .ref a2, .ref a3, .ref a4, .ref a5, .ref a6, .ref a7, .ref a8, .ref a9, .ref a10, .ref a11, .ref a12, .ref a13, .ref a14, .int po])), (a10, .inl (kL, tl, .inl gnl)), (a9, .inl (kA, tl, .inl gna)), (a14, .inl (kP, pl, .inl gp)), (a11, .inl (kB, tl, .inl gnb))] s.heap.size = A at hD ⊢
  have hA : ∀ q : Nat, s.heap.size ≤ q → A q := fun q h => by rw [← hAe]; exact Or.inr h
  have hS : va_S A s.heap s.heap [] := va_S.rf
  have hP : va_P (dC, dI) classes [(t0, .inr (5, [.int (nI cn), .int lb, .ref a0, .ref a1, .ref a2, .ref a3, .ref a4, .ref a5, .ref a6, .ref a7, .ref a8, .ref a9, .ref a10, .ref a11, .ref a12, .ref a13, .ref a14, .int po])), (a10, .inl (kL, tl, .inl gnl)), (a9, .inl (kA, tl, .inl gna)), (a14, .inl (kP, pl, .inl gp)), (a11, .inl (kB, tl, .inl gnb))] s.heap := hP
  have hK : va_K (dC, dI) classes [(kL, .int), (kA, .int), (kP, .int), (kB, .int)] s := hK
  have hl := lv_entry ([.ref t0, .int p1, .int p2]) (n := 7) (Nat.le_of_ble_eq_true rfl)
  rw [lg_entry_eq]
  generalize (lg_sl ([.ref t0, .int p1, .int p2]) ++ List.replicate (7 - (lg_sl ([.ref t0, .int p1, .int p2])).length) Slot.unset).toArray = ls at hl ⊢
  have hl : lv_has ls 7 [(0, .ref t0), (1, .int p1), (2, .int p2)] := hl
  refine qabs (fun Q hQ => ?_)
  have hL29 : ∀ (k_ : Nat) (j : Nat) (nN : Nat) (aN : Nat) (lv : Int32) (H : Heap) (locs : List Loc) (ls : Array Slot), nN - j < k_ → (j ≤ nN) → (aN + nN ≤ pl) → (gnl p1.toNatClampNeg = nI nN) → (gna p1.toNatClampNeg = nI aN) → (vp_in p1 tl) → (tr_nbF gp aN (nN - j) j lv = tr_nbyte cn gnb gna gnl gp p1 p2) → va_P (dC, dI) classes [(t0, .inr (5, [.int (nI cn), .int lb, .ref a0, .ref a1, .ref a2, .ref a3, .ref a4, .ref a5, .ref a6, .ref a7, .ref a8, .ref a9, .ref a10, .ref a11, .ref a12, .ref a13, .ref a14, .int po])), (a10, .inl (kL, tl, .inl gnl)), (a9, .inl (kA, tl, .inl gna)), (a14, .inl (kP, pl, .inl gp)), (a11, .inl (kB, tl, .inl gnb))] H → va_D A [(t0, .inr (5, [.int (nI cn), .int lb, .ref a0, .ref a1, .ref a2, .ref a3, .ref a4, .ref a5, .ref a6, .ref a7, .ref a8, .ref a9, .ref a10, .ref a11, .ref a12, .ref a13, .ref a14, .int po])), (a10, .inl (kL, tl, .inl gnl)), (a9, .inl (kA, tl, .inl gna)), (a14, .inl (kP, pl, .inl gp)), (a11, .inl (kB, tl, .inl gnb))] → va_S A s.heap H locs → lv_has ls 7 [(0, .ref t0), (1, .int p1), (2, .int p2), (3, .int lv), (4, .int (nI j))] → W p l e ({ frames := 2, cells := 0, slots := 0, locals := 43 }) s m ([.ref t0, .int p1, .int p2] : List Value).toArray below meth c H locs 0 0 Q (F0 m 29 ls []) := by
    intro k_
    induction k_ with
    | zero => intro j nN aN lv H locs ls hk_; exact absurd hk_ (Nat.not_lt_zero _)
    | succ k_ ih =>
      intro j nN aN lv H locs ls hk_ hj hna hm ha hin1 he hP hD hS hl
      refine lv_iload hx hb d_Tr_nameByte_29 (lv_at hl 4 rfl) ?_
      refine lv_aload_n hx hb d_Tr_nameByte_31 rfl (lv_at hl 0 rfl) ?_
      refine va_get (D := (dC, dI)) (ci := 5) (v := .ref a10) (C := R_Tr) (T := F_Tr) (N := 18) hx hb hts i_Tr hown hK hP 0 rfl rfl 12 (by decide) (hts _ (k_Tr_17)) (fun _ h9 => h9) rfl d_Tr_nameByte_32 ?_
      refine lv_iload_n hx hb d_Tr_nameByte_35 rfl (lv_at hl 1 rfl) ?_
      refine va_iald hx hb hK hP 1 0 rfl rfl (hin1) d_Tr_nameByte_36 ?_
      refine lv_icmp_ge (tgt := 87) hx hb d_Tr_nameByte_37 (by decide) (fun c_1 => ?_) (fun c_1 => ?_)
      · have hj9 : j = nN := Nat.le_antisymm hj (by have z := c_1; rw [hm] at z; exact (nI_leI (by omega) (by omega)).mp z)
        refine lv_iconst (v := (-1)) hx hb d_Tr_nameByte_87 (by decide) ?_
        rw [hQ]
        exact W.iret (v := ((-1))) hx hb hr (fun t ht hW => ⟨⟨((-1)), (), rfl, by rw [← he, hj9, Nat.sub_self, tr_nbF], by rw [ht]; exact hP, va_K.moved hW.alike hK, hD⟩, hS.F ht⟩) hS.2.2 d_Tr_nameByte_88
      · have hlt : j < nN := Nat.lt_of_not_le (fun h => c_1 (by rw [hm]; exact (nI_leI (by omega) (by omega)).mpr h))
        refine lv_aload_n hx hb d_Tr_nameByte_40 rfl (lv_at hl 0 rfl) ?_
        refine va_get (D := (dC, dI)) (ci := 5) (v := .ref a14) (C := R_Tr) (T := F_Tr) (N := 18) hx hb hts i_Tr hown hK hP 0 rfl rfl 16 (by decide) (hts _ (k_Tr_21)) (fun _ h9 => h9) rfl d_Tr_nameByte_41 ?_
        refine lv_aload_n hx hb d_Tr_nameByte_44 rfl (lv_at hl 0 rfl) ?_
        refine va_get (D := (dC, dI)) (ci := 5) (v := .ref a9) (C := R_Tr) (T := F_Tr) (N := 18) hx hb hts i_Tr hown hK hP 0 rfl rfl 11 (by decide) (hts _ (k_Tr_16)) (fun _ h9 => h9) rfl d_Tr_nameByte_45 ?_
        refine lv_iload_n hx hb d_Tr_nameByte_48 rfl (lv_at hl 1 rfl) ?_
        refine va_iald hx hb hK hP 2 1 rfl rfl (hin1) d_Tr_nameByte_49 ?_
        refine lv_iload hx hb d_Tr_nameByte_50 (lv_at hl 4 rfl) ?_
        refine lv_iadd hx hb d_Tr_nameByte_52 ?_
        refine va_iald hx hb hK hP 3 2 rfl rfl (by rw [ha, nI_add]; exact vp_in_nI (by omega) hpl) d_Tr_nameByte_53 ?_
        refine lv_topi (fun x_2 ex_2 => ?_)
        refine lv_istore (lv' := [(5, .int x_2), (0, .ref t0), (1, .int p1), (2, .int p2), (3, .int lv), (4, .int (nI j))]) hx hb d_Tr_nameByte_54 hl (by decide) rfl (fun ls hl => ?_)
        refine lv_iload hx hb d_Tr_nameByte_56 (lv_at hl 0 rfl) ?_
        have hPc := hP.sub (ws' := []) [] rfl
        have hDc := hD.sub (ws' := []) [] (by decide) rfl
        have hKc := hK.sub (tys' := []) [] rfl
        have hFc := va_free (wc := []) hD hS hA [] rfl
        refine va_calli (va_runS (As := [.int x_2]) (rest := []) ⟨hx, hb, hml, hown, hts⟩ (c_Wo_width l dC dI H.size x_2) (va_cwS 1 hts (gwS good_Tr (k_Tr_67) (u_Tr_Wo _ k_Wo_19) (u_Tr_Wo _ k_Wo_0) (wcs (u_Tr_Wo _ k_Wo_20) u_Tr_Wo)) rfl rfl rfl (by decide +kernel) ⟨Nat.le_of_ble_eq_true rfl, Nat.le_of_ble_eq_true rfl⟩) (ps_of hPc hKc hDc) rfl rfl hl.1 rfl (lv_room (Nat.le_of_ble_eq_true rfl)) d_Tr_nameByte_58 ⟨by decide, by decide⟩) hS (fun q _ h => hFc q h) hFc (fun r_3 u t H1 locs ht hvm hw hB hz1 hk1 hS => ?_)
        have er_3 := hw
        obtain ⟨hP1, hK1, hD1⟩ := hB
        rw [ht] at hP1
        have hP1 : va_P (dC, dI) classes [] H1 := hP1
        have hD1 : va_D _ [] := hD1
        obtain ⟨hP, hD⟩ := va_join (wr := [(t0, .inr (5, [.int (nI cn), .int lb, .ref a0, .ref a1, .ref a2, .ref a3, .ref a4, .ref a5, .ref a6, .ref a7, .ref a8, .ref a9, .ref a10, .ref a11, .ref a12, .ref a13, .ref a14, .int po])), (a10, .inl (kL, tl, .inl gnl)), (a9, .inl (kA, tl, .inl gna)), (a14, .inl (kP, pl, .inl gp)), (a11, .inl (kB, tl, .inl gnb))]) (w1 := []) hP hD [] [0, 1, 2, 3, 4] rfl rfl (by decide) (by decide) hk1 hFc hP1 hD1
        generalize H1 = H at hP hS ⊢
        have hP : va_P (dC, dI) classes [(t0, .inr (5, [.int (nI cn), .int lb, .ref a0, .ref a1, .ref a2, .ref a3, .ref a4, .ref a5, .ref a6, .ref a7, .ref a8, .ref a9, .ref a10, .ref a11, .ref a12, .ref a13, .ref a14, .int po])), (a10, .inl (kL, tl, .inl gnl)), (a9, .inl (kA, tl, .inl gna)), (a14, .inl (kP, pl, .inl gp)), (a11, .inl (kB, tl, .inl gnb))] H := hP
        have hD : va_D A [(t0, .inr (5, [.int (nI cn), .int lb, .ref a0, .ref a1, .ref a2, .ref a3, .ref a4, .ref a5, .ref a6, .ref a7, .ref a8, .ref a9, .ref a10, .ref a11, .ref a12, .ref a13, .ref a14, .int po])), (a10, .inl (kL, tl, .inl gnl)), (a9, .inl (kA, tl, .inl gna)), (a14, .inl (kP, pl, .inl gp)), (a11, .inl (kB, tl, .inl gnb))] := hD
        refine lv_istore (lv' := [(6, .int r_3), (5, .int x_2), (0, .ref t0), (1, .int p1), (2, .int p2), (3, .int lv), (4, .int (nI j))]) hx hb d_Tr_nameByte_61 hl (by decide) rfl (fun ls hl => ?_)
        refine lv_iload_n hx hb d_Tr_nameByte_63 rfl (lv_at hl 5 rfl) ?_
        refine lv_iload hx hb d_Tr_nameByte_64 (lv_at hl 0 rfl) ?_
        refine lv_icmp_ge (tgt := 76) hx hb d_Tr_nameByte_66 (by decide) (fun c_4 => ?_) (fun c_4 => ?_)
        · refine lv_iload_n hx hb d_Tr_nameByte_76 rfl (lv_at hl 5 rfl) ?_
          refine lv_iload hx hb d_Tr_nameByte_77 (lv_at hl 0 rfl) ?_
          refine lv_isub hx hb d_Tr_nameByte_79 ?_
          refine lv_topi (fun x_5 ex_5 => ?_)
          refine lv_istore_n (lv' := [(3, .int x_5), (6, .int r_3), (5, .int x_2), (0, .ref t0), (1, .int p1), (2, .int p2), (4, .int (nI j))]) hx hb d_Tr_nameByte_80 rfl hl (by decide) rfl (fun ls hl => ?_)
          refine lv_iinc (v := nI (j + 1)) (lv' := [(4, .int (nI (j + 1))), (3, .int x_5), (6, .int r_3), (5, .int x_2), (0, .ref t0), (1, .int p1), (2, .int p2)]) hx hb d_Tr_nameByte_81 hl (k := 6) rfl (by exact nI_1 j) (by decide) rfl (fun ls hl => ?_)
          refine lv_goto (tgt := 29) hx hb d_Tr_nameByte_84 (by decide) ?_
          have hu : x_2 = gp (aN + j) := by rw [ex_2, ha, nI_add, nI_clamp (by omega)]
          have he9 : tr_nbF gp aN (nN - (j + 1)) (j + 1) x_5 = tr_nbyte cn gnb gna gnl gp p1 p2 := by rw [← he, show nN - j = (nN - (j + 1)) + 1 by omega, tr_nbF, ← hu, ← er_3, if_pos c_4, ex_5]
          exact ih (j + 1) nN aN x_5 _ _ _ (by omega) hlt hna hm ha hin1 he9 hP hD hS (lv_sub hl [4, 5, 6, 1, 0] rfl)
        · refine lv_iload hx hb d_Tr_nameByte_69 (lv_at hl 1 rfl) ?_
          refine lv_iload_n hx hb d_Tr_nameByte_71 rfl (lv_at hl 5 rfl) ?_
          have hPc := hP.sub (ws' := []) [] rfl
          have hDc := hD.sub (ws' := []) [] (by decide) rfl
          have hKc := hK.sub (tys' := []) [] rfl
          have hFc := va_free (wc := []) hD hS hA [] rfl
          refine va_calli (va_runS (As := [.int x_2, .int lv]) (rest := []) ⟨hx, hb, hml, hown, hts⟩ (c_Wo_byteOf l dC dI H.size x_2 lv) (va_cwS 2 hts (gwS good_Tr (k_Tr_100) (u_Tr_Wo _ k_Wo_21) (u_Tr_Wo _ k_Wo_0) (wcs (u_Tr_Wo _ k_Wo_22) u_Tr_Wo)) rfl rfl rfl (by decide +kernel) ⟨Nat.le_of_ble_eq_true rfl, Nat.le_of_ble_eq_true rfl⟩) (ps_of hPc hKc hDc) rfl rfl hl.1 rfl (lv_room (Nat.le_of_ble_eq_true rfl)) d_Tr_nameByte_72 ⟨by decide, by decide⟩) hS (fun q _ h => hFc q h) hFc (fun r_6 u t H1 locs ht hvm hw hB hz1 hk1 hS => ?_)
          have er_6 := hw
          obtain ⟨hP1, hK1, hD1⟩ := hB
          rw [ht] at hP1
          have hP1 : va_P (dC, dI) classes [] H1 := hP1
          have hD1 : va_D _ [] := hD1
          obtain ⟨hP, hD⟩ := va_join (wr := [(t0, .inr (5, [.int (nI cn), .int lb, .ref a0, .ref a1, .ref a2, .ref a3, .ref a4, .ref a5, .ref a6, .ref a7, .ref a8, .ref a9, .ref a10, .ref a11, .ref a12, .ref a13, .ref a14, .int po])), (a10, .inl (kL, tl, .inl gnl)), (a9, .inl (kA, tl, .inl gna)), (a14, .inl (kP, pl, .inl gp)), (a11, .inl (kB, tl, .inl gnb))]) (w1 := []) hP hD [] [0, 1, 2, 3, 4] rfl rfl (by decide) (by decide) hk1 hFc hP1 hD1
          generalize H1 = H at hP hS ⊢
          have hP : va_P (dC, dI) classes [(t0, .inr (5, [.int (nI cn), .int lb, .ref a0, .ref a1, .ref a2, .ref a3, .ref a4, .ref a5, .ref a6, .ref a7, .ref a8, .ref a9, .ref a10, .ref a11, .ref a12, .ref a13, .ref a14, .int po])), (a10, .inl (kL, tl, .inl gnl)), (a9, .inl (kA, tl, .inl gna)), (a14, .inl (kP, pl, .inl gp)), (a11, .inl (kB, tl, .inl gnb))] H := hP
          have hD : va_D A [(t0, .inr (5, [.int (nI cn), .int lb, .ref a0, .ref a1, .ref a2, .ref a3, .ref a4, .ref a5, .ref a6, .ref a7, .ref a8, .ref a9, .ref a10, .ref a11, .ref a12, .ref a13, .ref a14, .int po])), (a10, .inl (kL, tl, .inl gnl)), (a9, .inl (kA, tl, .inl gna)), (a14, .inl (kP, pl, .inl gp)), (a11, .inl (kB, tl, .inl gnb))] := hD
          rw [hQ]
          exact W.iret (v := r_6) hx hb hr (fun t ht hW => ⟨⟨r_6, (), rfl, by rw [← he, show nN - j = (nN - (j + 1)) + 1 by omega, tr_nbF, show gp (aN + j) = x_2 from by rw [ex_2, ha, nI_add, nI_clamp (by omega)], ← er_3, if_neg c_4]; exact er_6, by rw [ht]; exact hP, va_K.moved hW.alike hK, hD⟩, hS.F ht⟩) hS.2.2 d_Tr_nameByte_75
  refine lv_aload_n hx hb d_Tr_nameByte_0 rfl (lv_at hl 0 rfl) ?_
  refine lv_iload_n hx hb d_Tr_nameByte_1 rfl (lv_at hl 1 rfl) ?_
  have hPc := hP.sub (ws' := [(t0, .inr (5, [.int (nI cn), .int lb, .ref a0, .ref a1, .ref a2, .ref a3, .ref a4, .ref a5, .ref a6, .ref a7, .ref a8, .ref a9, .ref a10, .ref a11, .ref a12, .ref a13, .ref a14, .int po]))]) [0] rfl
  have hDc := hD.sub (ws' := [(t0, .inr (5, [.int (nI cn), .int lb, .ref a0, .ref a1, .ref a2, .ref a3, .ref a4, .ref a5, .ref a6, .ref a7, .ref a8, .ref a9, .ref a10, .ref a11, .ref a12, .ref a13, .ref a14, .int po]))]) [0] (by decide) rfl
  have hKc := hK.sub (tys' := []) [] rfl
  have hFc := va_free (wc := [(t0, .inr (5, [.int (nI cn), .int lb, .ref a0, .ref a1, .ref a2, .ref a3, .ref a4, .ref a5, .ref a6, .ref a7, .ref a8, .ref a9, .ref a10, .ref a11, .ref a12, .ref a13, .ref a14, .int po]))]) hD hS hA [0] rfl
  refine va_calli (va_runV (As := [.int p1]) (rest := []) ⟨hx, hb, hml, hown, hts⟩ (c_Tr_has l dC dI t0 s.heap.size a0 a1 a2 a3 a4 a5 a6 a7 a8 a9 a10 a11 a12 a13 a14 cn tl lb po p1) (cwV 1 hts (gwV good_Tr (k_Tr_38) (k_Tr_39) (k_Tr_40) (k_Tr_0) (wcs (k_Tr_41) (fun _ h => h))) rfl rfl rfl (by decide +kernel) ⟨Nat.le_of_ble_eq_true rfl, Nat.le_of_ble_eq_true rfl⟩) (pv_of hPc hKc hDc (va_recv hKc hPc (ci := 5) (q0 := 0) rfl rfl)) rfl rfl hl.1 rfl (lv_room (Nat.le_of_ble_eq_true rfl)) d_Tr_nameByte_2 ⟨by decide, by decide⟩) hS (fun q _ h => hFc q h) hFc (fun r_7 u t H1 locs ht hvm hw hB hz1 hk1 hS => ?_)
  have er_7 := hw
  obtain ⟨hP1, hK1, hD1⟩ := hB
  rw [ht] at hP1
  have hP1 : va_P (dC, dI) classes [(t0, .inr (5, [.int (nI cn), .int lb, .ref a0, .ref a1, .ref a2, .ref a3, .ref a4, .ref a5, .ref a6, .ref a7, .ref a8, .ref a9, .ref a10, .ref a11, .ref a12, .ref a13, .ref a14, .int po]))] H1 := hP1
  have hD1 : va_D _ [(t0, .inr (5, [.int (nI cn), .int lb, .ref a0, .ref a1, .ref a2, .ref a3, .ref a4, .ref a5, .ref a6, .ref a7, .ref a8, .ref a9, .ref a10, .ref a11, .ref a12, .ref a13, .ref a14, .int po]))] := hD1
  obtain ⟨hP, hD⟩ := va_join (wr := [(a10, .inl (kL, tl, .inl gnl)), (a9, .inl (kA, tl, .inl gna)), (a14, .inl (kP, pl, .inl gp)), (a11, .inl (kB, tl, .inl gnb))]) (w1 := [(t0, .inr (5, [.int (nI cn), .int lb, .ref a0, .ref a1, .ref a2, .ref a3, .ref a4, .ref a5, .ref a6, .ref a7, .ref a8, .ref a9, .ref a10, .ref a11, .ref a12, .ref a13, .ref a14, .int po]))]) hP hD [0] [1, 2, 3, 4] rfl rfl (by decide) (by decide) hk1 hFc hP1 hD1
  generalize H1 = H at hP hS ⊢
  have hP : va_P (dC, dI) classes [(a10, .inl (kL, tl, .inl gnl)), (a9, .inl (kA, tl, .inl gna)), (a14, .inl (kP, pl, .inl gp)), (a11, .inl (kB, tl, .inl gnb)), (t0, .inr (5, [.int (nI cn), .int lb, .ref a0, .ref a1, .ref a2, .ref a3, .ref a4, .ref a5, .ref a6, .ref a7, .ref a8, .ref a9, .ref a10, .ref a11, .ref a12, .ref a13, .ref a14, .int po]))] H := hP
  have hD : va_D A [(a10, .inl (kL, tl, .inl gnl)), (a9, .inl (kA, tl, .inl gna)), (a14, .inl (kP, pl, .inl gp)), (a11, .inl (kB, tl, .inl gnb)), (t0, .inr (5, [.int (nI cn), .int lb, .ref a0, .ref a1, .ref a2, .ref a3, .ref a4, .ref a5, .ref a6, .ref a7, .ref a8, .ref a9, .ref a10, .ref a11, .ref a12, .ref a13, .ref a14, .int po]))] := hD
  refine lv_if_eq (tgt := 22) hx hb d_Tr_nameByte_5 (by decide) (fun c_8 => ?_) (fun c_8 => ?_)
  · refine lv_iconst (v := (-1)) hx hb d_Tr_nameByte_22 (by decide) ?_
    have hP := hP.sub (ws' := [(t0, .inr (5, [.int (nI cn), .int lb, .ref a0, .ref a1, .ref a2, .ref a3, .ref a4, .ref a5, .ref a6, .ref a7, .ref a8, .ref a9, .ref a10, .ref a11, .ref a12, .ref a13, .ref a14, .int po])), (a10, .inl (kL, tl, .inl gnl)), (a9, .inl (kA, tl, .inl gna)), (a14, .inl (kP, pl, .inl gp)), (a11, .inl (kB, tl, .inl gnb))]) [4, 0, 1, 2, 3] rfl
    have hD := hD.sub (ws' := [(t0, .inr (5, [.int (nI cn), .int lb, .ref a0, .ref a1, .ref a2, .ref a3, .ref a4, .ref a5, .ref a6, .ref a7, .ref a8, .ref a9, .ref a10, .ref a11, .ref a12, .ref a13, .ref a14, .int po])), (a10, .inl (kL, tl, .inl gnl)), (a9, .inl (kA, tl, .inl gna)), (a14, .inl (kP, pl, .inl gp)), (a11, .inl (kB, tl, .inl gnb))]) [4, 0, 1, 2, 3] (by decide) rfl
    rw [hQ]
    exact W.iret (v := ((-1))) hx hb hr (fun t ht hW => ⟨⟨((-1)), (), rfl, by rw [tr_nbyte, ← er_7, if_pos c_8], by rw [ht]; exact hP, va_K.moved hW.alike hK, hD⟩, hS.F ht⟩) hS.2.2 d_Tr_nameByte_23
  · refine lv_iload_n hx hb d_Tr_nameByte_8 rfl (lv_at hl 2 rfl) ?_
    refine lv_if_lt (tgt := 22) hx hb d_Tr_nameByte_9 (by decide) (fun c_9 => ?_) (fun c_9 => ?_)
    · refine lv_iconst (v := (-1)) hx hb d_Tr_nameByte_22 (by decide) ?_
      have hP := hP.sub (ws' := [(t0, .inr (5, [.int (nI cn), .int lb, .ref a0, .ref a1, .ref a2, .ref a3, .ref a4, .ref a5, .ref a6, .ref a7, .ref a8, .ref a9, .ref a10, .ref a11, .ref a12, .ref a13, .ref a14, .int po])), (a10, .inl (kL, tl, .inl gnl)), (a9, .inl (kA, tl, .inl gna)), (a14, .inl (kP, pl, .inl gp)), (a11, .inl (kB, tl, .inl gnb))]) [4, 0, 1, 2, 3] rfl
      have hD := hD.sub (ws' := [(t0, .inr (5, [.int (nI cn), .int lb, .ref a0, .ref a1, .ref a2, .ref a3, .ref a4, .ref a5, .ref a6, .ref a7, .ref a8, .ref a9, .ref a10, .ref a11, .ref a12, .ref a13, .ref a14, .int po])), (a10, .inl (kL, tl, .inl gnl)), (a9, .inl (kA, tl, .inl gna)), (a14, .inl (kP, pl, .inl gp)), (a11, .inl (kB, tl, .inl gnb))]) [4, 0, 1, 2, 3] (by decide) rfl
      rw [hQ]
      exact W.iret (v := ((-1))) hx hb hr (fun t ht hW => ⟨⟨((-1)), (), rfl, by rw [tr_nbyte, ← er_7, if_neg c_8, if_pos c_9], by rw [ht]; exact hP, va_K.moved hW.alike hK, hD⟩, hS.F ht⟩) hS.2.2 d_Tr_nameByte_23
    · refine lv_iload_n hx hb d_Tr_nameByte_12 rfl (lv_at hl 2 rfl) ?_
      refine lv_aload_n hx hb d_Tr_nameByte_13 rfl (lv_at hl 0 rfl) ?_
      refine va_get (D := (dC, dI)) (ci := 5) (v := .ref a11) (C := R_Tr) (T := F_Tr) (N := 18) hx hb hts i_Tr hown hK hP 4 rfl rfl 13 (by decide) (hts _ (k_Tr_18)) (fun _ h9 => h9) rfl d_Tr_nameByte_14 ?_
      refine lv_iload_n hx hb d_Tr_nameByte_17 rfl (lv_at hl 1 rfl) ?_
      refine va_iald hx hb hK hP 3 3 rfl rfl (tr_in (by rw [← er_7]; exact c_8) hcn htl) d_Tr_nameByte_18 ?_
      refine lv_icmp_lt (tgt := 24) hx hb d_Tr_nameByte_19 (by decide) (fun c_10 => ?_) (fun c_10 => ?_)
      · refine lv_iload_n hx hb d_Tr_nameByte_24 rfl (lv_at hl 2 rfl) ?_
        refine lv_istore_n (lv' := [(3, .int p2), (0, .ref t0), (1, .int p1), (2, .int p2)]) hx hb d_Tr_nameByte_25 rfl hl (by decide) rfl (fun ls hl => ?_)
        refine lv_iconst (v := 0) hx hb d_Tr_nameByte_26 (by decide) ?_
        refine lv_istore (lv' := [(4, .int 0), (3, .int p2), (0, .ref t0), (1, .int p1), (2, .int p2)]) hx hb d_Tr_nameByte_27 hl (by decide) rfl (fun ls hl => ?_)
        obtain ⟨k9, hk9, e9⟩ := tr_ix (by rw [← er_7]; exact c_8) (Nat.lt_of_le_of_lt hcn htl)
        obtain ⟨a9, m9, h91, h92, h93⟩ := hNm k9 hk9
        have hk : p1.toNatClampNeg = k9 := by rw [e9]; exact nI_clamp (by omega)
        have he : tr_nbF gp a9 (m9 - 0) 0 p2 = tr_nbyte cn gnb gna gnl gp p1 p2 := by rw [tr_nbyte, ← er_7, if_neg c_8, if_neg c_9, if_pos c_10, hk, h91, nI_clamp (by omega), h92, nI_clamp (by omega), Nat.sub_zero]
        exact hL29 (m9 + 1) 0 m9 a9 p2 _ _ _ (by omega) (Nat.zero_le _) h93 (by rw [hk]; exact h92) (by rw [hk]; exact h91) (tr_in (by rw [← er_7]; exact c_8) hcn htl) he (hP.sub [4, 0, 1, 2, 3] rfl) (hD.sub [4, 0, 1, 2, 3] (by decide) rfl) hS (lv_sub hl [2, 3, 4, 1, 0] rfl)
      · refine lv_iconst (v := (-1)) hx hb d_Tr_nameByte_22 (by decide) ?_
        have hP := hP.sub (ws' := [(t0, .inr (5, [.int (nI cn), .int lb, .ref a0, .ref a1, .ref a2, .ref a3, .ref a4, .ref a5, .ref a6, .ref a7, .ref a8, .ref a9, .ref a10, .ref a11, .ref a12, .ref a13, .ref a14, .int po])), (a10, .inl (kL, tl, .inl gnl)), (a9, .inl (kA, tl, .inl gna)), (a14, .inl (kP, pl, .inl gp)), (a11, .inl (kB, tl, .inl gnb))]) [4, 0, 1, 2, 3] rfl
        have hD := hD.sub (ws' := [(t0, .inr (5, [.int (nI cn), .int lb, .ref a0, .ref a1, .ref a2, .ref a3, .ref a4, .ref a5, .ref a6, .ref a7, .ref a8, .ref a9, .ref a10, .ref a11, .ref a12, .ref a13, .ref a14, .int po])), (a10, .inl (kL, tl, .inl gnl)), (a9, .inl (kA, tl, .inl gna)), (a14, .inl (kP, pl, .inl gp)), (a11, .inl (kB, tl, .inl gnb))]) [4, 0, 1, 2, 3] (by decide) rfl
        rw [hQ]
        exact W.iret (v := ((-1))) hx hb hr (fun t ht hW => ⟨⟨((-1)), (), rfl, by rw [tr_nbyte, ← er_7, if_neg c_8, if_neg c_9, if_neg c_10], by rw [ht]; exact hP, va_K.moved hW.alike hK, hD⟩, hS.F ht⟩) hS.2.2 d_Tr_nameByte_23
