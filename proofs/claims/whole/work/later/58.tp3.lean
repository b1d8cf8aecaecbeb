def tp_labF (tb : Nat → Int32) : Nat → Nat → Int32
  | 0, _ => 1
  | k + 1, i => if tp_one tb (nI i) = 32 then tp_labF tb k (i + 1) else if wo_short (tp_one tb (nI i)) = 0 then 0 else tp_labF tb k (i + 1)
def tp_lab (tb : Nat → Int32) (pn : Nat) : Int32 := if 11 < nI pn then 0 else if nI pn ≤ 0 then tp_labF tb pn 0 else if tp_one tb 0 = 32 then 0 else tp_labF tb pn 0
set_option maxHeartbeats 4000000 in
set_option maxRecDepth 100000 in
/-- whether the tape is a label -/
theorem c_Tp_isLabel (l : Launch) (dC : Nat → ClassId) (dI : Nat → Nat → Nat) (t0 t1 t2 sz : Nat) (c1 c2 : ClassId) (tb tr : Nat → Int32) (us : Int32) (pn : Nat) (hpn : pn ≤ 4096) : Met l y_Tp_isLabel (.code y_Tp_isLabel b_Tp_isLabel 3 (some .boolean) :: V_Tp) ({ frames := 1, cells := 0, slots := 0, locals := 21 }) (va_Pc [.ref t0, .int (nI pn)] (fun U => U.heap.size = sz ∧ at_ (dC, dI) (fun _ => True) [(t0, .inr (3, [.ref t1, .ref t2, .int us])), (t1, .inl (c1, 4096, .inl tb)), (t2, .inl (c2, 20, .inl tr))] [(c1, .byte), (c2, .byte)] U)) (va_Qi (fun (r : Int32) (u : Unit) => r = tp_lab tb pn) (fun (u : Unit) t => at_ (dC, dI) (va_A [(t0, .inr (3, [.ref t1, .ref t2, .int us])), (t1, .inl (c1, 4096, .inl tb)), (t2, .inl (c2, 20, .inl tr))] sz) [(t0, .inr (3, [.ref t1, .ref t2, .int us])), (t1, .inl (c1, 4096, .inl tb)), (t2, .inl (c2, 20, .inl tr))] [(c1, .byte), (c2, .byte)] t) (va_A [(t0, .inr (3, [.ref t1, .ref t2, .int us])), (t1, .inl (c1, 4096, .inl tb)), (t2, .inl (c2, 20, .inl tr))] sz)) 0 0 (va_A [(t0, .inr (3, [.ref t1, .ref t2, .int us])), (t1, .inl (c1, 4096, .inl tb)), (t2, .inl (c2, 20, .inl tr))] sz) := by
  refine Met.ofW (cc := b_Tp_isLabel) (maxL := 3) (ret := (some .boolean)) (by decide) rfl ?_
  intro p e s m args below meth c s₁ B hml hv
  obtain ⟨rfl, hsz, hP, hK, hD0⟩ := hv
  have hx := B.exec
  have hb := B.bytes
  have hr := B.returns
  have hts0 := atoms_spec (ws := .code y_Tp_isLabel b_Tp_isLabel 3 (some .boolean) :: V_Tp) B.pre
  have hts : ∀ w ∈ V_Tp, w.before ([.ref t0, .int (nI pn)] : List Value).toArray s = true := fun w h => hts0 w (List.mem_cons_of_mem _ h)
  have hown : s.vm.findClass R_Tp = some m.cls := findClass_of_methodNamed B.named
  have hlocks := B.notSynchronized
  subst hsz
  have hD := hD0.self (sz := s.heap.size)
  generalize hAe : va_A [(t0, .inr (3, [.ref t1, .ref t2, .int us])), (t1, .inl (c1, 4096, .inl tb)), (t2, .inl (c2, 20, .inl tr))] s.heap.size = A at hD ⊢
  have hA : ∀ q : Nat, s.heap.size ≤ q → A q := fun q h => by rw [← hAe]; exact Or.inr h
  have hS : va_S A s.heap s.heap [] := va_S.rf
  have hP : va_P (dC, dI) classes [(t0, .inr (3, [.ref t1, .ref t2, .int us])), (t1, .inl (c1, 4096, .inl tb)), (t2, .inl (c2, 20, .inl tr))] s.heap := hP
  have hK : va_K (dC, dI) classes [(c1, .byte), (c2, .byte)] s := hK
  have hl := lv_entry ([.ref t0, .int (nI pn)]) (n := 3) (Nat.le_of_ble_eq_true rfl)
  rw [lg_entry_eq]
  generalize (lg_sl ([.ref t0, .int (nI pn)]) ++ List.replicate (3 - (lg_sl ([.ref t0, .int (nI pn)])).length) Slot.unset).toArray = ls at hl ⊢
  have hl : lv_has ls 3 [(0, .ref t0), (1, .int (nI pn))] := hl
  refine qabs (fun Q hQ => ?_)
  have hL24 : ∀ (k_ : Nat) (i : Nat) (H : Heap) (locs : List Loc) (ls : Array Slot), pn - i < k_ → (i ≤ pn) → (tp_labF tb (pn - i) i = tp_lab tb pn) → va_P (dC, dI) classes [(t0, .inr (3, [.ref t1, .ref t2, .int us])), (t1, .inl (c1, 4096, .inl tb)), (t2, .inl (c2, 20, .inl tr))] H → va_D A [(t0, .inr (3, [.ref t1, .ref t2, .int us])), (t1, .inl (c1, 4096, .inl tb)), (t2, .inl (c2, 20, .inl tr))] → va_S A s.heap H locs → lv_has ls 3 [(0, .ref t0), (1, .int (nI pn)), (2, .int (nI i))] → W p l e ({ frames := 1, cells := 0, slots := 0, locals := 21 }) s m ([.ref t0, .int (nI pn)] : List Value).toArray below meth c H locs 0 0 Q (F0 m 24 ls []) := by
    intro k_
    induction k_ with
    | zero => intro i H locs ls hk_; exact absurd hk_ (Nat.not_lt_zero _)
    | succ k_ ih =>
      intro i H locs ls hk_ hi he hP hD hS hl
      refine lv_iload_n hx hb d_Tp_isLabel_24 rfl (lv_at hl 2 rfl) ?_
      refine lv_iload_n hx hb d_Tp_isLabel_25 rfl (lv_at hl 1 rfl) ?_
      refine lv_icmp_ge (tgt := 58) hx hb d_Tp_isLabel_26 (by decide) (fun c_1 => ?_) (fun c_1 => ?_)
      · have hi9 : pn ≤ i := (nI_leI (by omega) (by omega)).mp c_1
        refine lv_iconst (v := 1) hx hb d_Tp_isLabel_58 (by decide) ?_
        rw [hQ]
        exact W.zret (v := 1) hx hb hr rfl (fun t ht hW => ⟨⟨1, (), rfl, by rw [← he, show pn - i = 0 by omega]; rfl, by rw [ht]; exact hP, va_K.moved hW.alike hK, hD⟩, hS.F ht⟩) hS.2.2 d_Tp_isLabel_59
      · have hlt : i < pn := Nat.lt_of_not_le (fun h => c_1 ((nI_leI (by omega) (by omega)).mpr h))
        refine lv_aload_n hx hb d_Tp_isLabel_29 rfl (lv_at hl 0 rfl) ?_
        refine lv_iload_n hx hb d_Tp_isLabel_30 rfl (lv_at hl 2 rfl) ?_
        have hPc := hP.sub (ws' := [(t0, .inr (3, [.ref t1, .ref t2, .int us])), (t1, .inl (c1, 4096, .inl tb)), (t2, .inl (c2, 20, .inl tr))]) [0, 1, 2] rfl
        have hDc := hD.sub (ws' := [(t0, .inr (3, [.ref t1, .ref t2, .int us])), (t1, .inl (c1, 4096, .inl tb)), (t2, .inl (c2, 20, .inl tr))]) [0, 1, 2] (by decide) rfl
        have hKc := hK.sub (tys' := [(c1, .byte), (c2, .byte)]) [0, 1] rfl
        have hFc := va_free (wc := [(t0, .inr (3, [.ref t1, .ref t2, .int us])), (t1, .inl (c1, 4096, .inl tb)), (t2, .inl (c2, 20, .inl tr))]) hD hS hA [0, 1, 2] rfl
        refine va_calli (va_runV (As := [.int (nI i)]) (rest := []) ⟨hx, hb, hml, hown, hts⟩ (c_Tp_one l dC dI t0 t1 t2 H.size c1 c2 tb tr us (nI i)) (cwV 1 hts (gwV good_Tp (k_Tp_22) (k_Tp_23) (k_Tp_24) (k_Tp_0) (wcs (k_Tp_25) (fun _ h => h))) rfl rfl rfl (by decide +kernel) ⟨Nat.le_of_ble_eq_true rfl, Nat.le_of_ble_eq_true rfl⟩) (pv_of hPc hKc hDc (va_recv hKc hPc (ci := 3) (q0 := 0) rfl rfl)) rfl rfl hl.1 rfl (lv_room (Nat.le_of_ble_eq_true rfl)) d_Tp_isLabel_31 ⟨by decide, by decide⟩) hS (fun q _ h => hFc q h) hFc (fun r_2 u t H1 locs ht hvm hw hB hz1 hk1 hS => ?_)
        obtain ⟨er_2, rfl⟩ := hw
        obtain ⟨hP1, hK1, hD1⟩ := hB
        rw [ht] at hP1
        have hP1 : va_P (dC, dI) classes [(t0, .inr (3, [.ref t1, .ref t2, .int us])), (t1, .inl (c1, 4096, .inl tb)), (t2, .inl (c2, 20, .inl tr))] H1 := hP1
        have hD1 : va_D _ [(t0, .inr (3, [.ref t1, .ref t2, .int us])), (t1, .inl (c1, 4096, .inl tb)), (t2, .inl (c2, 20, .inl tr))] := hD1
        obtain ⟨hP, hD⟩ := va_join (wr := []) (w1 := [(t0, .inr (3, [.ref t1, .ref t2, .int us])), (t1, .inl (c1, 4096, .inl tb)), (t2, .inl (c2, 20, .inl tr))]) hP hD [0, 1, 2] [] rfl rfl (by decide) (by decide) hk1 hFc hP1 hD1
        generalize H1 = H at hP hS ⊢
        have hP : va_P (dC, dI) classes [(t0, .inr (3, [.ref t1, .ref t2, .int us])), (t1, .inl (c1, 4096, .inl tb)), (t2, .inl (c2, 20, .inl tr))] H := hP
        have hD : va_D A [(t0, .inr (3, [.ref t1, .ref t2, .int us])), (t1, .inl (c1, 4096, .inl tb)), (t2, .inl (c2, 20, .inl tr))] := hD
        refine lv_bipush (v := 32) hx hb d_Tp_isLabel_34 (by decide) ?_
        refine lv_icmp_eq (tgt := 52) hx hb d_Tp_isLabel_36 (by decide) (fun c_3 => ?_) (fun c_3 => ?_)
        · refine lv_iinc (v := nI (i + 1)) (lv' := [(2, .int (nI (i + 1))), (0, .ref t0), (1, .int (nI pn))]) hx hb d_Tp_isLabel_52 hl (k := 2) rfl (by exact nI_1 i) (by decide) rfl (fun ls hl => ?_)
          refine lv_goto (tgt := 24) hx hb d_Tp_isLabel_55 (by decide) ?_
          obtain ⟨k9, hk9⟩ : ∃ k, pn - i = k + 1 := ⟨pn - i - 1, by omega⟩
          have he9 : tp_labF tb (pn - (i + 1)) (i + 1) = tp_lab tb pn := by rw [← he, hk9, show pn - (i + 1) = k9 by omega, tp_labF]; (try rw [if_neg c_1]); (try rw [← er_2]); (try rw [if_pos c_3])
          exact ih (i + 1) _ _ _ (by omega) hlt he9 hP hD hS (lv_sub hl [1, 2, 0] rfl)
        · refine lv_aload_n hx hb d_Tp_isLabel_39 rfl (lv_at hl 0 rfl) ?_
          refine lv_iload_n hx hb d_Tp_isLabel_40 rfl (lv_at hl 2 rfl) ?_
          have hPc := hP.sub (ws' := [(t0, .inr (3, [.ref t1, .ref t2, .int us])), (t1, .inl (c1, 4096, .inl tb)), (t2, .inl (c2, 20, .inl tr))]) [0, 1, 2] rfl
          have hDc := hD.sub (ws' := [(t0, .inr (3, [.ref t1, .ref t2, .int us])), (t1, .inl (c1, 4096, .inl tb)), (t2, .inl (c2, 20, .inl tr))]) [0, 1, 2] (by decide) rfl
          have hKc := hK.sub (tys' := [(c1, .byte), (c2, .byte)]) [0, 1] rfl
          have hFc := va_free (wc := [(t0, .inr (3, [.ref t1, .ref t2, .int us])), (t1, .inl (c1, 4096, .inl tb)), (t2, .inl (c2, 20, .inl tr))]) hD hS hA [0, 1, 2] rfl
          refine va_calli (va_runV (As := [.int (nI i)]) (rest := []) ⟨hx, hb, hml, hown, hts⟩ (c_Tp_one l dC dI t0 t1 t2 H.size c1 c2 tb tr us (nI i)) (cwV 1 hts (gwV good_Tp (k_Tp_22) (k_Tp_23) (k_Tp_24) (k_Tp_0) (wcs (k_Tp_25) (fun _ h => h))) rfl rfl rfl (by decide +kernel) ⟨Nat.le_of_ble_eq_true rfl, Nat.le_of_ble_eq_true rfl⟩) (pv_of hPc hKc hDc (va_recv hKc hPc (ci := 3) (q0 := 0) rfl rfl)) rfl rfl hl.1 rfl (lv_room (Nat.le_of_ble_eq_true rfl)) d_Tp_isLabel_41 ⟨by decide, by decide⟩) hS (fun q _ h => hFc q h) hFc (fun r_4 u t H1 locs ht hvm hw hB hz1 hk1 hS => ?_)
          obtain ⟨er_4, rfl⟩ := hw
          obtain ⟨hP1, hK1, hD1⟩ := hB
          rw [ht] at hP1
          have hP1 : va_P (dC, dI) classes [(t0, .inr (3, [.ref t1, .ref t2, .int us])), (t1, .inl (c1, 4096, .inl tb)), (t2, .inl (c2, 20, .inl tr))] H1 := hP1
          have hD1 : va_D _ [(t0, .inr (3, [.ref t1, .ref t2, .int us])), (t1, .inl (c1, 4096, .inl tb)), (t2, .inl (c2, 20, .inl tr))] := hD1
          obtain ⟨hP, hD⟩ := va_join (wr := []) (w1 := [(t0, .inr (3, [.ref t1, .ref t2, .int us])), (t1, .inl (c1, 4096, .inl tb)), (t2, .inl (c2, 20, .inl tr))]) hP hD [0, 1, 2] [] rfl rfl (by decide) (by decide) hk1 hFc hP1 hD1
          generalize H1 = H at hP hS ⊢
          have hP : va_P (dC, dI) classes [(t0, .inr (3, [.ref t1, .ref t2, .int us])), (t1, .inl (c1, 4096, .inl tb)), (t2, .inl (c2, 20, .inl tr))] H := hP
          have hD : va_D A [(t0, .inr (3, [.ref t1, .ref t2, .int us])), (t1, .inl (c1, 4096, .inl tb)), (t2, .inl (c2, 20, .inl tr))] := hD
          have hPc := hP.sub (ws' := []) [] rfl
          have hDc := hD.sub (ws' := []) [] (by decide) rfl
          have hKc := hK.sub (tys' := []) [] rfl
          have hFc := va_free (wc := []) hD hS hA [] rfl
          refine va_calli (va_runS (As := [.int r_4]) (rest := []) ⟨hx, hb, hml, hown, hts⟩ (c_Wo_mayBeShort l dC dI H.size r_4) (va_cwS 1 hts (gwS good_Tp (k_Tp_26) (u_Tp_Wo _ k_Wo_5) (u_Tp_Wo _ k_Wo_0) (wcs (u_Tp_Wo _ k_Wo_6) u_Tp_Wo)) rfl rfl rfl (by decide +kernel) ⟨Nat.le_of_ble_eq_true rfl, Nat.le_of_ble_eq_true rfl⟩) (ps_of hPc hKc hDc) rfl rfl hl.1 rfl (lv_room (Nat.le_of_ble_eq_true rfl)) d_Tp_isLabel_44 ⟨by decide, by decide⟩) hS (fun q _ h => hFc q h) hFc (fun r_5 u t H1 locs ht hvm hw hB hz1 hk1 hS => ?_)
          have er_5 := hw
          obtain ⟨hP1, hK1, hD1⟩ := hB
          rw [ht] at hP1
          have hP1 : va_P (dC, dI) classes [] H1 := hP1
          have hD1 : va_D _ [] := hD1
          obtain ⟨hP, hD⟩ := va_join (wr := [(t0, .inr (3, [.ref t1, .ref t2, .int us])), (t1, .inl (c1, 4096, .inl tb)), (t2, .inl (c2, 20, .inl tr))]) (w1 := []) hP hD [] [0, 1, 2] rfl rfl (by decide) (by decide) hk1 hFc hP1 hD1
          generalize H1 = H at hP hS ⊢
          have hP : va_P (dC, dI) classes [(t0, .inr (3, [.ref t1, .ref t2, .int us])), (t1, .inl (c1, 4096, .inl tb)), (t2, .inl (c2, 20, .inl tr))] H := hP
          have hD : va_D A [(t0, .inr (3, [.ref t1, .ref t2, .int us])), (t1, .inl (c1, 4096, .inl tb)), (t2, .inl (c2, 20, .inl tr))] := hD
          refine lv_if_ne (tgt := 52) hx hb d_Tp_isLabel_47 (by decide) (fun c_6 => ?_) (fun c_6 => ?_)
          · refine lv_iinc (v := nI (i + 1)) (lv' := [(2, .int (nI (i + 1))), (0, .ref t0), (1, .int (nI pn))]) hx hb d_Tp_isLabel_52 hl (k := 2) rfl (by exact nI_1 i) (by decide) rfl (fun ls hl => ?_)
            refine lv_goto (tgt := 24) hx hb d_Tp_isLabel_55 (by decide) ?_
            obtain ⟨k9, hk9⟩ : ∃ k, pn - i = k + 1 := ⟨pn - i - 1, by omega⟩
            have he9 : tp_labF tb (pn - (i + 1)) (i + 1) = tp_lab tb pn := by rw [← he, hk9, show pn - (i + 1) = k9 by omega, tp_labF]; rw [← er_2, if_neg c_3, show r_2 = r_4 from er_2.trans er_4.symm, ← er_5, if_neg c_6]
            exact ih (i + 1) _ _ _ (by omega) hlt he9 hP hD hS (lv_sub hl [1, 2, 0] rfl)
          · refine lv_iconst (v := 0) hx hb d_Tp_isLabel_50 (by decide) ?_
            rw [hQ]
            exact W.zret (v := 0) hx hb hr rfl (fun t ht hW => ⟨⟨0, (), rfl, by obtain ⟨k9, hk9⟩ : ∃ k, pn - i = k + 1 := ⟨pn - i - 1, by omega⟩; rw [← he, hk9, tp_labF]; rw [← er_2, if_neg c_3, show r_2 = r_4 from er_2.trans er_4.symm, ← er_5, if_pos c_6], by rw [ht]; exact hP, va_K.moved hW.alike hK, hD⟩, hS.F ht⟩) hS.2.2 d_Tp_isLabel_51
  refine lv_iload_n hx hb d_Tp_isLabel_0 rfl (lv_at hl 1 rfl) ?_
  refine lv_bipush (v := 11) hx hb d_Tp_isLabel_1 (by decide) ?_
  refine lv_icmp_gt (tgt := 20) hx hb d_Tp_isLabel_3 (by decide) (fun c_7 => ?_) (fun c_7 => ?_)
  · refine lv_iconst (v := 0) hx hb d_Tp_isLabel_20 (by decide) ?_
    rw [hQ]
    exact W.zret (v := 0) hx hb hr rfl (fun t ht hW => ⟨⟨0, (), rfl, by rw [tp_lab]; (try rw [if_pos c_7]); (try rfl), by rw [ht]; exact hP, va_K.moved hW.alike hK, hD⟩, hS.F ht⟩) hS.2.2 d_Tp_isLabel_21
  · refine lv_iload_n hx hb d_Tp_isLabel_6 rfl (lv_at hl 1 rfl) ?_
    refine lv_if_le (tgt := 22) hx hb d_Tp_isLabel_7 (by decide) (fun c_8 => ?_) (fun c_8 => ?_)
    · refine lv_iconst (v := 0) hx hb d_Tp_isLabel_22 (by decide) ?_
      refine lv_istore_n (lv' := [(2, .int 0), (0, .ref t0), (1, .int (nI pn))]) hx hb d_Tp_isLabel_23 rfl hl (by decide) rfl (fun ls hl => ?_)
      exact hL24 (pn + 1) 0 _ _ _ (by omega) (Nat.zero_le _) (by rw [tp_lab]; (try rw [if_neg c_7]); (try rw [if_pos c_8]); (try rfl)) hP hD hS (lv_sub hl [1, 2, 0] rfl)
    · refine lv_aload_n hx hb d_Tp_isLabel_10 rfl (lv_at hl 0 rfl) ?_
      refine lv_iconst (v := 0) hx hb d_Tp_isLabel_11 (by decide) ?_
      have hPc := hP.sub (ws' := [(t0, .inr (3, [.ref t1, .ref t2, .int us])), (t1, .inl (c1, 4096, .inl tb)), (t2, .inl (c2, 20, .inl tr))]) [0, 1, 2] rfl
      have hDc := hD.sub (ws' := [(t0, .inr (3, [.ref t1, .ref t2, .int us])), (t1, .inl (c1, 4096, .inl tb)), (t2, .inl (c2, 20, .inl tr))]) [0, 1, 2] (by decide) rfl
      have hKc := hK.sub (tys' := [(c1, .byte), (c2, .byte)]) [0, 1] rfl
      have hFc := va_free (wc := [(t0, .inr (3, [.ref t1, .ref t2, .int us])), (t1, .inl (c1, 4096, .inl tb)), (t2, .inl (c2, 20, .inl tr))]) hD hS hA [0, 1, 2] rfl
      refine va_calli (va_runV (As := [.int 0]) (rest := []) ⟨hx, hb, hml, hown, hts⟩ (c_Tp_one l dC dI t0 t1 t2 s.heap.size c1 c2 tb tr us 0) (cwV 1 hts (gwV good_Tp (k_Tp_22) (k_Tp_23) (k_Tp_24) (k_Tp_0) (wcs (k_Tp_25) (fun _ h => h))) rfl rfl rfl (by decide +kernel) ⟨Nat.le_of_ble_eq_true rfl, Nat.le_of_ble_eq_true rfl⟩) (pv_of hPc hKc hDc (va_recv hKc hPc (ci := 3) (q0 := 0) rfl rfl)) rfl rfl hl.1 rfl (lv_room (Nat.le_of_ble_eq_true rfl)) d_Tp_isLabel_12 ⟨by decide, by decide⟩) hS (fun q _ h => hFc q h) hFc (fun r_9 u t H1 locs ht hvm hw hB hz1 hk1 hS => ?_)
      obtain ⟨er_9, rfl⟩ := hw
      obtain ⟨hP1, hK1, hD1⟩ := hB
      rw [ht] at hP1
      have hP1 : va_P (dC, dI) classes [(t0, .inr (3, [.ref t1, .ref t2, .int us])), (t1, .inl (c1, 4096, .inl tb)), (t2, .inl (c2, 20, .inl tr))] H1 := hP1
      have hD1 : va_D _ [(t0, .inr (3, [.ref t1, .ref t2, .int us])), (t1, .inl (c1, 4096, .inl tb)), (t2, .inl (c2, 20, .inl tr))] := hD1
      obtain ⟨hP, hD⟩ := va_join (wr := []) (w1 := [(t0, .inr (3, [.ref t1, .ref t2, .int us])), (t1, .inl (c1, 4096, .inl tb)), (t2, .inl (c2, 20, .inl tr))]) hP hD [0, 1, 2] [] rfl rfl (by decide) (by decide) hk1 hFc hP1 hD1
      generalize H1 = H at hP hS ⊢
      have hP : va_P (dC, dI) classes [(t0, .inr (3, [.ref t1, .ref t2, .int us])), (t1, .inl (c1, 4096, .inl tb)), (t2, .inl (c2, 20, .inl tr))] H := hP
      have hD : va_D A [(t0, .inr (3, [.ref t1, .ref t2, .int us])), (t1, .inl (c1, 4096, .inl tb)), (t2, .inl (c2, 20, .inl tr))] := hD
      refine lv_bipush (v := 32) hx hb d_Tp_isLabel_15 (by decide) ?_
      refine lv_icmp_ne (tgt := 22) hx hb d_Tp_isLabel_17 (by decide) (fun c_10 => ?_) (fun c_10 => ?_)
      · refine lv_iconst (v := 0) hx hb d_Tp_isLabel_22 (by decide) ?_
        refine lv_istore_n (lv' := [(2, .int 0), (0, .ref t0), (1, .int (nI pn))]) hx hb d_Tp_isLabel_23 rfl hl (by decide) rfl (fun ls hl => ?_)
        exact hL24 (pn + 1) 0 _ _ _ (by omega) (Nat.zero_le _) (by rw [tp_lab]; (try rw [if_neg c_7]); (try rw [if_neg c_8]); (try rw [← er_9]); (try rw [if_neg c_10]); (try rfl)) hP hD hS (lv_sub hl [1, 2, 0] rfl)
      · refine lv_iconst (v := 0) hx hb d_Tp_isLabel_20 (by decide) ?_
        rw [hQ]
        exact W.zret (v := 0) hx hb hr rfl (fun t ht hW => ⟨⟨0, (), rfl, by rw [tp_lab]; (try rw [if_neg c_7]); (try rw [if_neg c_8]); (try rw [← er_9]); (try rw [if_pos c_10]); (try rfl), by rw [ht]; exact hP, va_K.moved hW.alike hK, hD⟩, hS.F ht⟩) hS.2.2 d_Tp_isLabel_21
def in_block (n : Nat) (f : Nat → Int32) (p1 p2 : Int32) : Int32 := if 12 ≤ p2 then if 256 ≤ (p2 - 12) then ((dk_four n f (((dk_four n f (((dk_four n f (p1 + 92)) * 1024) + (4 * (((p2 - 12) + (-256)) / 256)))) * 1024) + (4 * (((p2 - 12) + (-256)) - ((p2 - 12) + (-256)) / 256 * 256))))) else ((dk_four n f (((dk_four n f (p1 + 88)) * 1024) + (4 * (p2 - 12))))) else ((dk_four n f ((p1 + 40) + (4 * p2))))
set_option maxHeartbeats 4000000 in
set_option maxRecDepth 100000 in
theorem c_In_blockOf (l : Launch) (dC : Nat → ClassId) (dI : Nat → Nat → Nat) (i0 h0 sz : Nat) (se : Int32) (h1 : Nat) (cB : ClassId) (sec pw : Int32) (n : Nat) (f : Nat → Int32) (h4 : 4 ≤ n) (hn : n < 2 ^ 31) (p1 p2 : Int32) : Met l y_In_blockOf (.code y_In_blockOf b_In_blockOf 5 (some .int) :: V_In) ({ frames := 1, cells := 0, slots := 0, locals := 21 }) (va_Pc [.ref i0, .int p1, .int p2] (fun U => U.heap.size = sz ∧ at_ (dC, dI) (fun _ => True) [(i0, .inr (6, [.ref h0, .int se])), (h0, .inr (0, [.int sec, .ref h1, .int pw])), (h1, .inl (cB, n, .inl f))] [(cB, .byte)] U)) (va_Qi (fun (r : Int32) (u : Unit) => r = in_block n f p1 p2) (fun (u : Unit) t => at_ (dC, dI) (va_A [(i0, .inr (6, [.ref h0, .int se])), (h0, .inr (0, [.int sec, .ref h1, .int pw])), (h1, .inl (cB, n, .inl f))] sz) [(i0, .inr (6, [.ref h0, .int se])), (h0, .inr (0, [.int sec, .ref h1, .int pw])), (h1, .inl (cB, n, .inl f))] [(cB, .byte)] t) (va_A [(i0, .inr (6, [.ref h0, .int se])), (h0, .inr (0, [.int sec, .ref h1, .int pw])), (h1, .inl (cB, n, .inl f))] sz)) 0 0 (va_A [(i0, .inr (6, [.ref h0, .int se])), (h0, .inr (0, [.int sec, .ref h1, .int pw])), (h1, .inl (cB, n, .inl f))] sz) := by
  refine Met.ofW (cc := b_In_blockOf) (maxL := 5) (ret := (some .int)) (by decide) rfl ?_
  intro p e s m args below meth c s₁ B hml hv
  obtain ⟨rfl, hsz, hP, hK, hD0⟩ := hv
  have hx := B.exec
  have hb := B.bytes
  have hr := B.returns
  have hts0 := atoms_spec (ws := .code y_In_blockOf b_In_blockOf 5 (some .int) :: V_In) B.pre
  have hts : ∀ w ∈ V_In, w.before ([.ref i0, .int p1, .int p2] : List Value).toArray s = true := fun w h => hts0 w (List.mem_cons_of_mem _ h)
  have hown : s.vm.findClass R_In = some m.cls := findClass_of_methodNamed B.named
  have hlocks := B.notSynchronized
  subst hsz
  have hD := hD0.self (sz := s.heap.size)
  generalize hAe : va_A [(i0, .inr (6, [.ref h0, .int se])), (h0, .inr (0, [.int sec, .ref h1, .int pw])), (h1, .inl (cB, n, .inl f))] s.heap.size = A at hD ⊢
  have hA : ∀ q : Nat, s.heap.size ≤ q → A q := fun q h => by rw [← hAe]; exact Or.inr h
  have hS : va_S A s.heap s.heap [] := va_S.rf
  have hP : va_P (dC, dI) classes [(i0, .inr (6, [.ref h0, .int se])), (h0, .inr (0, [.int sec, .ref h1, .int pw])), (h1, .inl (cB, n, .inl f))] s.heap := hP
  have hK : va_K (dC, dI) classes [(cB, .byte)] s := hK
  have hl := lv_entry ([.ref i0, .int p1, .int p2]) (n := 5) (Nat.le_of_ble_eq_true rfl)
  rw [lg_entry_eq]
  generalize (lg_sl ([.ref i0, .int p1, .int p2]) ++ List.replicate (5 - (lg_sl ([.ref i0, .int p1, .int p2])).length) Slot.unset).toArray = ls at hl ⊢
  have hl : lv_has ls 5 [(0, .ref i0), (1, .int p1), (2, .int p2)] := hl
  refine lv_iload_n hx hb d_In_blockOf_0 rfl (lv_at hl 2 rfl) ?_
  refine lv_bipush (v := 12) hx hb d_In_blockOf_1 (by decide) ?_
  refine lv_icmp_ge (tgt := 22) hx hb d_In_blockOf_3 (by decide) (fun c_1 => ?_) (fun c_1 => ?_)
  · refine lv_iload_n hx hb d_In_blockOf_22 rfl (lv_at hl 2 rfl) ?_
    refine lv_bipush (v := 12) hx hb d_In_blockOf_23 (by decide) ?_
    refine lv_isub hx hb d_In_blockOf_25 ?_
    refine lv_topi (fun x_2 ex_2 => ?_)
    refine lv_istore_n (lv' := [(3, .int x_2), (0, .ref i0), (1, .int p1), (2, .int p2)]) hx hb d_In_blockOf_26 rfl hl (by decide) rfl (fun ls hl => ?_)
    refine lv_iload_n hx hb d_In_blockOf_27 rfl (lv_at hl 0 rfl) ?_
    refine lv_sipush (v := 256) hx hb d_In_blockOf_28 (by decide) ?_
    refine lv_icmp_ge (tgt := 61) hx hb d_In_blockOf_31 (by decide) (fun c_3 => ?_) (fun c_3 => ?_)
    · obtain ⟨x_4, ex_4⟩ : ∃ y : Int32, y = x_2 + (-256) := ⟨_, rfl⟩
      refine lv_iincW (v := x_4) (lv' := [(3, .int x_4), (0, .ref i0), (1, .int p1), (2, .int p2)]) hx hb d_In_blockOf_61 hl (k := 0) rfl (by rw [ex_4]; rfl) (by decide) rfl (fun ls hl => ?_)
      refine lv_aload_n hx hb d_In_blockOf_67 rfl (lv_at hl 1 rfl) ?_
      refine va_get (D := (dC, dI)) (ci := 6) (v := .ref h0) (C := R_In) (T := F_In) (N := 2) hx hb hts i_In hown hK hP 0 rfl rfl 0 (by decide) (hts _ (k_In_5)) (fun _ h9 => h9) rfl d_In_blockOf_68 ?_
      refine lv_aload_n hx hb d_In_blockOf_71 rfl (lv_at hl 1 rfl) ?_
      refine va_get (D := (dC, dI)) (ci := 6) (v := .ref h0) (C := R_In) (T := F_In) (N := 2) hx hb hts i_In hown hK hP 0 rfl rfl 0 (by decide) (hts _ (k_In_5)) (fun _ h9 => h9) rfl d_In_blockOf_72 ?_
      refine lv_iload_n hx hb d_In_blockOf_75 rfl (lv_at hl 2 rfl) ?_
      refine lv_bipush (v := 92) hx hb d_In_blockOf_76 (by decide) ?_
      refine lv_iadd hx hb d_In_blockOf_78 ?_
      have hPc := hP.sub (ws' := [(h0, .inr (0, [.int sec, .ref h1, .int pw])), (h1, .inl (cB, n, .inl f))]) [1, 2] rfl
      have hDc := hD.sub (ws' := [(h0, .inr (0, [.int sec, .ref h1, .int pw])), (h1, .inl (cB, n, .inl f))]) [1, 2] (by decide) rfl
      have hKc := hK.sub (tys' := [(cB, .byte)]) [0] rfl
      have hFc := va_free (wc := [(h0, .inr (0, [.int sec, .ref h1, .int pw])), (h1, .inl (cB, n, .inl f))]) hD hS hA [1, 2] rfl
      refine va_calli (va_runV (As := [.int (p1 + 92)]) (rest := [.ref h0]) ⟨hx, hb, hml, hown, hts⟩ (c_Dk_four l dC dI h0 h1 s.heap.size cB sec pw n f h4 hn (p1 + 92)) (cwV 1 hts (gwV good_In (k_In_14) (u_In_Dk _ k_Dk_14) (u_In_Dk _ k_Dk_15) (u_In_Dk _ k_Dk_0) (wcs (u_In_Dk _ k_Dk_16) u_In_Dk)) rfl rfl rfl (by decide +kernel) ⟨Nat.le_of_ble_eq_true rfl, Nat.le_of_ble_eq_true rfl⟩) (pv_of hPc hKc hDc (va_recv hKc hPc (ci := 0) (q0 := 0) rfl rfl)) rfl rfl hl.1 rfl (lv_room (Nat.le_of_ble_eq_true rfl)) d_In_blockOf_79 ⟨by decide, by decide⟩) hS (fun q _ h => hFc q h) hFc (fun r_5 u t H1 locs ht hvm hw hB hz1 hk1 hS => ?_)
      obtain ⟨er_5, rfl⟩ := hw
      obtain ⟨hP1, hK1, hD1⟩ := hB
      rw [ht] at hP1
      have hP1 : va_P (dC, dI) classes [(h0, .inr (0, [.int sec, .ref h1, .int pw])), (h1, .inl (cB, n, .inl f))] H1 := hP1
      have hD1 : va_D _ [(h0, .inr (0, [.int sec, .ref h1, .int pw])), (h1, .inl (cB, n, .inl f))] := hD1
      obtain ⟨hP, hD⟩ := va_join (wr := [(i0, .inr (6, [.ref h0, .int se]))]) (w1 := [(h0, .inr (0, [.int sec, .ref h1, .int pw])), (h1, .inl (cB, n, .inl f))]) hP hD [1, 2] [0] rfl rfl (by decide) (by decide) hk1 hFc hP1 hD1
      generalize H1 = H at hP hS ⊢
      have hP : va_P (dC, dI) classes [(i0, .inr (6, [.ref h0, .int se])), (h0, .inr (0, [.int sec, .ref h1, .int pw])), (h1, .inl (cB, n, .inl f))] H := hP
      have hD : va_D A [(i0, .inr (6, [.ref h0, .int se])), (h0, .inr (0, [.int sec, .ref h1, .int pw])), (h1, .inl (cB, n, .inl f))] := hD
      refine lv_sipush (v := 1024) hx hb d_In_blockOf_82 (by decide) ?_
      refine lv_imul hx hb d_In_blockOf_85 ?_
      refine lv_iconst (v := 4) hx hb d_In_blockOf_86 (by decide) ?_
      refine lv_iload_n hx hb d_In_blockOf_87 rfl (lv_at hl 0 rfl) ?_
      refine lv_sipush (v := 256) hx hb d_In_blockOf_88 (by decide) ?_
      refine lv_idiv hx hb d_In_blockOf_91 (by decide) ?_
      refine lv_imul hx hb d_In_blockOf_92 ?_
      refine lv_iadd hx hb d_In_blockOf_93 ?_
      have hPc := hP.sub (ws' := [(h0, .inr (0, [.int sec, .ref h1, .int pw])), (h1, .inl (cB, n, .inl f))]) [1, 2] rfl
      have hDc := hD.sub (ws' := [(h0, .inr (0, [.int sec, .ref h1, .int pw])), (h1, .inl (cB, n, .inl f))]) [1, 2] (by decide) rfl
      have hKc := hK.sub (tys' := [(cB, .byte)]) [0] rfl
      have hFc := va_free (wc := [(h0, .inr (0, [.int sec, .ref h1, .int pw])), (h1, .inl (cB, n, .inl f))]) hD hS hA [1, 2] rfl
      refine va_calli (va_runV (As := [.int ((r_5 * 1024) + (4 * (x_4 / 256)))]) (rest := []) ⟨hx, hb, hml, hown, hts⟩ (c_Dk_four l dC dI h0 h1 H.size cB sec pw n f h4 hn ((r_5 * 1024) + (4 * (x_4 / 256)))) (cwV 1 hts (gwV good_In (k_In_14) (u_In_Dk _ k_Dk_14) (u_In_Dk _ k_Dk_15) (u_In_Dk _ k_Dk_0) (wcs (u_In_Dk _ k_Dk_16) u_In_Dk)) rfl rfl rfl (by decide +kernel) ⟨Nat.le_of_ble_eq_true rfl, Nat.le_of_ble_eq_true rfl⟩) (pv_of hPc hKc hDc (va_recv hKc hPc (ci := 0) (q0 := 0) rfl rfl)) rfl rfl hl.1 rfl (lv_room (Nat.le_of_ble_eq_true rfl)) d_In_blockOf_94 ⟨by decide, by decide⟩) hS (fun q _ h => hFc q h) hFc (fun r_6 u t H1 locs ht hvm hw hB hz1 hk1 hS => ?_)
      obtain ⟨er_6, rfl⟩ := hw
      obtain ⟨hP1, hK1, hD1⟩ := hB
      rw [ht] at hP1
      have hP1 : va_P (dC, dI) classes [(h0, .inr (0, [.int sec, .ref h1, .int pw])), (h1, .inl (cB, n, .inl f))] H1 := hP1
      have hD1 : va_D _ [(h0, .inr (0, [.int sec, .ref h1, .int pw])), (h1, .inl (cB, n, .inl f))] := hD1
      obtain ⟨hP, hD⟩ := va_join (wr := [(i0, .inr (6, [.ref h0, .int se]))]) (w1 := [(h0, .inr (0, [.int sec, .ref h1, .int pw])), (h1, .inl (cB, n, .inl f))]) hP hD [1, 2] [0] rfl rfl (by decide) (by decide) hk1 hFc hP1 hD1
      generalize H1 = H at hP hS ⊢
      have hP : va_P (dC, dI) classes [(i0, .inr (6, [.ref h0, .int se])), (h0, .inr (0, [.int sec, .ref h1, .int pw])), (h1, .inl (cB, n, .inl f))] H := hP
      have hD : va_D A [(i0, .inr (6, [.ref h0, .int se])), (h0, .inr (0, [.int sec, .ref h1, .int pw])), (h1, .inl (cB, n, .inl f))] := hD
      refine lv_istore (lv' := [(4, .int r_6), (3, .int x_4), (0, .ref i0), (1, .int p1), (2, .int p2)]) hx hb d_In_blockOf_97 hl (by decide) rfl (fun ls hl => ?_)
      refine lv_aload_n hx hb d_In_blockOf_99 rfl (lv_at hl 2 rfl) ?_
      refine va_get (D := (dC, dI)) (ci := 6) (v := .ref h0) (C := R_In) (T := F_In) (N := 2) hx hb hts i_In hown hK hP 0 rfl rfl 0 (by decide) (hts _ (k_In_5)) (fun _ h9 => h9) rfl d_In_blockOf_100 ?_
      refine lv_iload hx hb d_In_blockOf_103 (lv_at hl 0 rfl) ?_
      refine lv_sipush (v := 1024) hx hb d_In_blockOf_105 (by decide) ?_
      refine lv_imul hx hb d_In_blockOf_108 ?_
      refine lv_iconst (v := 4) hx hb d_In_blockOf_109 (by decide) ?_
      refine lv_iload_n hx hb d_In_blockOf_110 rfl (lv_at hl 1 rfl) ?_
      refine lv_sipush (v := 256) hx hb d_In_blockOf_111 (by decide) ?_
      refine lv_irem hx hb d_In_blockOf_114 (by decide) ?_
      refine lv_imul hx hb d_In_blockOf_115 ?_
      refine lv_iadd hx hb d_In_blockOf_116 ?_
      have hPc := hP.sub (ws' := [(h0, .inr (0, [.int sec, .ref h1, .int pw])), (h1, .inl (cB, n, .inl f))]) [1, 2] rfl
      have hDc := hD.sub (ws' := [(h0, .inr (0, [.int sec, .ref h1, .int pw])), (h1, .inl (cB, n, .inl f))]) [1, 2] (by decide) rfl
      have hKc := hK.sub (tys' := [(cB, .byte)]) [0] rfl
      have hFc := va_free (wc := [(h0, .inr (0, [.int sec, .ref h1, .int pw])), (h1, .inl (cB, n, .inl f))]) hD hS hA [1, 2] rfl
      refine va_calli (va_runV (As := [.int ((r_6 * 1024) + (4 * (x_4 - x_4 / 256 * 256)))]) (rest := []) ⟨hx, hb, hml, hown, hts⟩ (c_Dk_four l dC dI h0 h1 H.size cB sec pw n f h4 hn ((r_6 * 1024) + (4 * (x_4 - x_4 / 256 * 256)))) (cwV 1 hts (gwV good_In (k_In_14) (u_In_Dk _ k_Dk_14) (u_In_Dk _ k_Dk_15) (u_In_Dk _ k_Dk_0) (wcs (u_In_Dk _ k_Dk_16) u_In_Dk)) rfl rfl rfl (by decide +kernel) ⟨Nat.le_of_ble_eq_true rfl, Nat.le_of_ble_eq_true rfl⟩) (pv_of hPc hKc hDc (va_recv hKc hPc (ci := 0) (q0 := 0) rfl rfl)) rfl rfl hl.1 rfl (lv_room (Nat.le_of_ble_eq_true rfl)) d_In_blockOf_117 ⟨by decide, by decide⟩) hS (fun q _ h => hFc q h) hFc (fun r_7 u t H1 locs ht hvm hw hB hz1 hk1 hS => ?_)
      obtain ⟨er_7, rfl⟩ := hw
      obtain ⟨hP1, hK1, hD1⟩ := hB
      rw [ht] at hP1
      have hP1 : va_P (dC, dI) classes [(h0, .inr (0, [.int sec, .ref h1, .int pw])), (h1, .inl (cB, n, .inl f))] H1 := hP1
      have hD1 : va_D _ [(h0, .inr (0, [.int sec, .ref h1, .int pw])), (h1, .inl (cB, n, .inl f))] := hD1
      obtain ⟨hP, hD⟩ := va_join (wr := [(i0, .inr (6, [.ref h0, .int se]))]) (w1 := [(h0, .inr (0, [.int sec, .ref h1, .int pw])), (h1, .inl (cB, n, .inl f))]) hP hD [1, 2] [0] rfl rfl (by decide) (by decide) hk1 hFc hP1 hD1
      generalize H1 = H at hP hS ⊢
      have hP : va_P (dC, dI) classes [(i0, .inr (6, [.ref h0, .int se])), (h0, .inr (0, [.int sec, .ref h1, .int pw])), (h1, .inl (cB, n, .inl f))] H := hP
      have hD : va_D A [(i0, .inr (6, [.ref h0, .int se])), (h0, .inr (0, [.int sec, .ref h1, .int pw])), (h1, .inl (cB, n, .inl f))] := hD
      exact W.iret (v := r_7) hx hb hr (fun t ht hW => ⟨⟨r_7, (), rfl, by rw [in_block, if_pos c_1, ← ex_2, if_pos c_3, ← ex_4, ← er_5, ← er_6, ← er_7], by rw [ht]; exact hP, va_K.moved hW.alike hK, hD⟩, hS.F ht⟩) hS.2.2 d_In_blockOf_120
    · refine lv_aload_n hx hb d_In_blockOf_34 rfl (lv_at hl 1 rfl) ?_
      refine va_get (D := (dC, dI)) (ci := 6) (v := .ref h0) (C := R_In) (T := F_In) (N := 2) hx hb hts i_In hown hK hP 0 rfl rfl 0 (by decide) (hts _ (k_In_5)) (fun _ h9 => h9) rfl d_In_blockOf_35 ?_
      refine lv_aload_n hx hb d_In_blockOf_38 rfl (lv_at hl 1 rfl) ?_
      refine va_get (D := (dC, dI)) (ci := 6) (v := .ref h0) (C := R_In) (T := F_In) (N := 2) hx hb hts i_In hown hK hP 0 rfl rfl 0 (by decide) (hts _ (k_In_5)) (fun _ h9 => h9) rfl d_In_blockOf_39 ?_
      refine lv_iload_n hx hb d_In_blockOf_42 rfl (lv_at hl 2 rfl) ?_
      refine lv_bipush (v := 88) hx hb d_In_blockOf_43 (by decide) ?_
      refine lv_iadd hx hb d_In_blockOf_45 ?_
      have hPc := hP.sub (ws' := [(h0, .inr (0, [.int sec, .ref h1, .int pw])), (h1, .inl (cB, n, .inl f))]) [1, 2] rfl
      have hDc := hD.sub (ws' := [(h0, .inr (0, [.int sec, .ref h1, .int pw])), (h1, .inl (cB, n, .inl f))]) [1, 2] (by decide) rfl
      have hKc := hK.sub (tys' := [(cB, .byte)]) [0] rfl
      have hFc := va_free (wc := [(h0, .inr (0, [.int sec, .ref h1, .int pw])), (h1, .inl (cB, n, .inl f))]) hD hS hA [1, 2] rfl
      refine va_calli (va_runV (As := [.int (p1 + 88)]) (rest := [.ref h0]) ⟨hx, hb, hml, hown, hts⟩ (c_Dk_four l dC dI h0 h1 s.heap.size cB sec pw n f h4 hn (p1 + 88)) (cwV 1 hts (gwV good_In (k_In_14) (u_In_Dk _ k_Dk_14) (u_In_Dk _ k_Dk_15) (u_In_Dk _ k_Dk_0) (wcs (u_In_Dk _ k_Dk_16) u_In_Dk)) rfl rfl rfl (by decide +kernel) ⟨Nat.le_of_ble_eq_true rfl, Nat.le_of_ble_eq_true rfl⟩) (pv_of hPc hKc hDc (va_recv hKc hPc (ci := 0) (q0 := 0) rfl rfl)) rfl rfl hl.1 rfl (lv_room (Nat.le_of_ble_eq_true rfl)) d_In_blockOf_46 ⟨by decide, by decide⟩) hS (fun q _ h => hFc q h) hFc (fun r_8 u t H1 locs ht hvm hw hB hz1 hk1 hS => ?_)
      obtain ⟨er_8, rfl⟩ := hw
      obtain ⟨hP1, hK1, hD1⟩ := hB
      rw [ht] at hP1
      have hP1 : va_P (dC, dI) classes [(h0, .inr (0, [.int sec, .ref h1, .int pw])), (h1, .inl (cB, n, .inl f))] H1 := hP1
      have hD1 : va_D _ [(h0, .inr (0, [.int sec, .ref h1, .int pw])), (h1, .inl (cB, n, .inl f))] := hD1
      obtain ⟨hP, hD⟩ := va_join (wr := [(i0, .inr (6, [.ref h0, .int se]))]) (w1 := [(h0, .inr (0, [.int sec, .ref h1, .int pw])), (h1, .inl (cB, n, .inl f))]) hP hD [1, 2] [0] rfl rfl (by decide) (by decide) hk1 hFc hP1 hD1
      generalize H1 = H at hP hS ⊢
      have hP : va_P (dC, dI) classes [(i0, .inr (6, [.ref h0, .int se])), (h0, .inr (0, [.int sec, .ref h1, .int pw])), (h1, .inl (cB, n, .inl f))] H := hP
      have hD : va_D A [(i0, .inr (6, [.ref h0, .int se])), (h0, .inr (0, [.int sec, .ref h1, .int pw])), (h1, .inl (cB, n, .inl f))] := hD
      refine lv_sipush (v := 1024) hx hb d_In_blockOf_49 (by decide) ?_
      refine lv_imul hx hb d_In_blockOf_52 ?_
      refine lv_iconst (v := 4) hx hb d_In_blockOf_53 (by decide) ?_
      refine lv_iload_n hx hb d_In_blockOf_54 rfl (lv_at hl 0 rfl) ?_
      refine lv_imul hx hb d_In_blockOf_55 ?_
      refine lv_iadd hx hb d_In_blockOf_56 ?_
      have hPc := hP.sub (ws' := [(h0, .inr (0, [.int sec, .ref h1, .int pw])), (h1, .inl (cB, n, .inl f))]) [1, 2] rfl
      have hDc := hD.sub (ws' := [(h0, .inr (0, [.int sec, .ref h1, .int pw])), (h1, .inl (cB, n, .inl f))]) [1, 2] (by decide) rfl
      have hKc := hK.sub (tys' := [(cB, .byte)]) [0] rfl
      have hFc := va_free (wc := [(h0, .inr (0, [.int sec, .ref h1, .int pw])), (h1, .inl (cB, n, .inl f))]) hD hS hA [1, 2] rfl
      refine va_calli (va_runV (As := [.int ((r_8 * 1024) + (4 * x_2))]) (rest := []) ⟨hx, hb, hml, hown, hts⟩ (c_Dk_four l dC dI h0 h1 H.size cB sec pw n f h4 hn ((r_8 * 1024) + (4 * x_2))) (cwV 1 hts (gwV good_In (k_In_14) (u_In_Dk _ k_Dk_14) (u_In_Dk _ k_Dk_15) (u_In_Dk _ k_Dk_0) (wcs (u_In_Dk _ k_Dk_16) u_In_Dk)) rfl rfl rfl (by decide +kernel) ⟨Nat.le_of_ble_eq_true rfl, Nat.le_of_ble_eq_true rfl⟩) (pv_of hPc hKc hDc (va_recv hKc hPc (ci := 0) (q0 := 0) rfl rfl)) rfl rfl hl.1 rfl (lv_room (Nat.le_of_ble_eq_true rfl)) d_In_blockOf_57 ⟨by decide, by decide⟩) hS (fun q _ h => hFc q h) hFc (fun r_9 u t H1 locs ht hvm hw hB hz1 hk1 hS => ?_)
      obtain ⟨er_9, rfl⟩ := hw
      obtain ⟨hP1, hK1, hD1⟩ := hB
      rw [ht] at hP1
      have hP1 : va_P (dC, dI) classes [(h0, .inr (0, [.int sec, .ref h1, .int pw])), (h1, .inl (cB, n, .inl f))] H1 := hP1
      have hD1 : va_D _ [(h0, .inr (0, [.int sec, .ref h1, .int pw])), (h1, .inl (cB, n, .inl f))] := hD1
      obtain ⟨hP, hD⟩ := va_join (wr := [(i0, .inr (6, [.ref h0, .int se]))]) (w1 := [(h0, .inr (0, [.int sec, .ref h1, .int pw])), (h1, .inl (cB, n, .inl f))]) hP hD [1, 2] [0] rfl rfl (by decide) (by decide) hk1 hFc hP1 hD1
      generalize H1 = H at hP hS ⊢
      have hP : va_P (dC, dI) classes [(i0, .inr (6, [.ref h0, .int se])), (h0, .inr (0, [.int sec, .ref h1, .int pw])), (h1, .inl (cB, n, .inl f))] H := hP
      have hD : va_D A [(i0, .inr (6, [.ref h0, .int se])), (h0, .inr (0, [.int sec, .ref h1, .int pw])), (h1, .inl (cB, n, .inl f))] := hD
      exact W.iret (v := r_9) hx hb hr (fun t ht hW => ⟨⟨r_9, (), rfl, by rw [in_block, if_pos c_1, ← ex_2, if_neg c_3, ← er_8, ← er_9], by rw [ht]; exact hP, va_K.moved hW.alike hK, hD⟩, hS.F ht⟩) hS.2.2 d_In_blockOf_60
  · refine lv_aload_n hx hb d_In_blockOf_6 rfl (lv_at hl 0 rfl) ?_
    refine va_get (D := (dC, dI)) (ci := 6) (v := .ref h0) (C := R_In) (T := F_In) (N := 2) hx hb hts i_In hown hK hP 0 rfl rfl 0 (by decide) (hts _ (k_In_5)) (fun _ h9 => h9) rfl d_In_blockOf_7 ?_
    refine lv_iload_n hx hb d_In_blockOf_10 rfl (lv_at hl 1 rfl) ?_
    refine lv_bipush (v := 40) hx hb d_In_blockOf_11 (by decide) ?_
    refine lv_iadd hx hb d_In_blockOf_13 ?_
    refine lv_iconst (v := 4) hx hb d_In_blockOf_14 (by decide) ?_
    refine lv_iload_n hx hb d_In_blockOf_15 rfl (lv_at hl 2 rfl) ?_
    refine lv_imul hx hb d_In_blockOf_16 ?_
    refine lv_iadd hx hb d_In_blockOf_17 ?_
    have hPc := hP.sub (ws' := [(h0, .inr (0, [.int sec, .ref h1, .int pw])), (h1, .inl (cB, n, .inl f))]) [1, 2] rfl
    have hDc := hD.sub (ws' := [(h0, .inr (0, [.int sec, .ref h1, .int pw])), (h1, .inl (cB, n, .inl f))]) [1, 2] (by decide) rfl
    have hKc := hK.sub (tys' := [(cB, .byte)]) [0] rfl
    have hFc := va_free (wc := [(h0, .inr (0, [.int sec, .ref h1, .int pw])), (h1, .inl (cB, n, .inl f))]) hD hS hA [1, 2] rfl
    refine va_calli (va_runV (As := [.int ((p1 + 40) + (4 * p2))]) (rest := []) ⟨hx, hb, hml, hown, hts⟩ (c_Dk_four l dC dI h0 h1 s.heap.size cB sec pw n f h4 hn ((p1 + 40) + (4 * p2))) (cwV 1 hts (gwV good_In (k_In_14) (u_In_Dk _ k_Dk_14) (u_In_Dk _ k_Dk_15) (u_In_Dk _ k_Dk_0) (wcs (u_In_Dk _ k_Dk_16) u_In_Dk)) rfl rfl rfl (by decide +kernel) ⟨Nat.le_of_ble_eq_true rfl, Nat.le_of_ble_eq_true rfl⟩) (pv_of hPc hKc hDc (va_recv hKc hPc (ci := 0) (q0 := 0) rfl rfl)) rfl rfl hl.1 rfl (lv_room (Nat.le_of_ble_eq_true rfl)) d_In_blockOf_18 ⟨by decide, by decide⟩) hS (fun q _ h => hFc q h) hFc (fun r_10 u t H1 locs ht hvm hw hB hz1 hk1 hS => ?_)
    obtain ⟨er_10, rfl⟩ := hw
    obtain ⟨hP1, hK1, hD1⟩ := hB
    rw [ht] at hP1
    have hP1 : va_P (dC, dI) classes [(h0, .inr (0, [.int sec, .ref h1, .int pw])), (h1, .inl (cB, n, .inl f))] H1 := hP1
    have hD1 : va_D _ [(h0, .inr (0, [.int sec, .ref h1, .int pw])), (h1, .inl (cB, n, .inl f))] := hD1
    obtain ⟨hP, hD⟩ := va_join (wr := [(i0, .inr (6, [.ref h0, .int se]))]) (w1 := [(h0, .inr (0, [.int sec, .ref h1, .int pw])), (h1, .inl (cB, n, .inl f))]) hP hD [1, 2] [0] rfl rfl (by decide) (by decide) hk1 hFc hP1 hD1
    generalize H1 = H at hP hS ⊢
    have hP : va_P (dC, dI) classes [(i0, .inr (6, [.ref h0, .int se])), (h0, .inr (0, [.int sec, .ref h1, .int pw])), (h1, .inl (cB, n, .inl f))] H := hP
    have hD : va_D A [(i0, .inr (6, [.ref h0, .int se])), (h0, .inr (0, [.int sec, .ref h1, .int pw])), (h1, .inl (cB, n, .inl f))] := hD
    exact W.iret (v := r_10) hx hb hr (fun t ht hW => ⟨⟨r_10, (), rfl, by rw [in_block, if_neg c_1, ← er_10], by rw [ht]; exact hP, va_K.moved hW.alike hK, hD⟩, hS.F ht⟩) hS.2.2 d_In_blockOf_21
def in_place (n : Nat) (f : Nat → Int32) (p1 : Int32) : Int32 := if p1 < 1 then (0) else if 1 ≤ (dk_four n f 1064) then (((dk_four n f ((2048 + (32 * ((p1 - 1) / (dk_four n f 1064)))) + 8)) * 1024) + (((p1 - 1) - (p1 - 1) / (dk_four n f 1064) * (dk_four n f 1064)) * 128)) else (0)
set_option maxHeartbeats 4000000 in
set_option maxRecDepth 100000 in
theorem c_In_inodePlace (l : Launch) (dC : Nat → ClassId) (dI : Nat → Nat → Nat) (i0 h0 sz : Nat) (se : Int32) (h1 : Nat) (cB : ClassId) (sec pw : Int32) (n : Nat) (f : Nat → Int32) (h4 : 4 ≤ n) (hn : n < 2 ^ 31) (p1 : Int32) : Met l y_In_inodePlace (.code y_In_inodePlace b_In_inodePlace 4 (some .int) :: V_In) ({ frames := 1, cells := 0, slots := 0, locals := 21 }) (va_Pc [.ref i0, .int p1] (fun U => U.heap.size = sz ∧ at_ (dC, dI) (fun _ => True) [(i0, .inr (6, [.ref h0, .int se])), (h0, .inr (0, [.int sec, .ref h1, .int pw])), (h1, .inl (cB, n, .inl f))] [(cB, .byte)] U)) (va_Qi (fun (r : Int32) (u : Unit) => r = in_place n f p1) (fun (u : Unit) t => at_ (dC, dI) (va_A [(i0, .inr (6, [.ref h0, .int se])), (h0, .inr (0, [.int sec, .ref h1, .int pw])), (h1, .inl (cB, n, .inl f))] sz) [(i0, .inr (6, [.ref h0, .int se])), (h0, .inr (0, [.int sec, .ref h1, .int pw])), (h1, .inl (cB, n, .inl f))] [(cB, .byte)] t) (va_A [(i0, .inr (6, [.ref h0, .int se])), (h0, .inr (0, [.int sec, .ref h1, .int pw])), (h1, .inl (cB, n, .inl f))] sz)) 0 0 (va_A [(i0, .inr (6, [.ref h0, .int se])), (h0, .inr (0, [.int sec, .ref h1, .int pw])), (h1, .inl (cB, n, .inl f))] sz) := by
  refine Met.ofW (cc := b_In_inodePlace) (maxL := 4) (ret := (some .int)) (by decide) rfl ?_
  intro p e s m args below meth c s₁ B hml hv
  obtain ⟨rfl, hsz, hP, hK, hD0⟩ := hv
  have hx := B.exec
  have hb := B.bytes
  have hr := B.returns
  have hts0 := atoms_spec (ws := .code y_In_inodePlace b_In_inodePlace 4 (some .int) :: V_In) B.pre
  have hts : ∀ w ∈ V_In, w.before ([.ref i0, .int p1] : List Value).toArray s = true := fun w h => hts0 w (List.mem_cons_of_mem _ h)
  have hown : s.vm.findClass R_In = some m.cls := findClass_of_methodNamed B.named
  have hlocks := B.notSynchronized
  subst hsz
  have hD := hD0.self (sz := s.heap.size)
  generalize hAe : va_A [(i0, .inr (6, [.ref h0, .int se])), (h0, .inr (0, [.int sec, .ref h1, .int pw])), (h1, .inl (cB, n, .inl f))] s.heap.size = A at hD ⊢
  have hA : ∀ q : Nat, s.heap.size ≤ q → A q := fun q h => by rw [← hAe]; exact Or.inr h
  have hS : va_S A s.heap s.heap [] := va_S.rf
  have hP : va_P (dC, dI) classes [(i0, .inr (6, [.ref h0, .int se])), (h0, .inr (0, [.int sec, .ref h1, .int pw])), (h1, .inl (cB, n, .inl f))] s.heap := hP
  have hK : va_K (dC, dI) classes [(cB, .byte)] s := hK
  have hl := lv_entry ([.ref i0, .int p1]) (n := 4) (Nat.le_of_ble_eq_true rfl)
  rw [lg_entry_eq]
  generalize (lg_sl ([.ref i0, .int p1]) ++ List.replicate (4 - (lg_sl ([.ref i0, .int p1])).length) Slot.unset).toArray = ls at hl ⊢
  have hl : lv_has ls 4 [(0, .ref i0), (1, .int p1)] := hl
  refine lv_aload_n hx hb d_In_inodePlace_0 rfl (lv_at hl 0 rfl) ?_
  refine va_get (D := (dC, dI)) (ci := 6) (v := .ref h0) (C := R_In) (T := F_In) (N := 2) hx hb hts i_In hown hK hP 0 rfl rfl 0 (by decide) (hts _ (k_In_5)) (fun _ h9 => h9) rfl d_In_inodePlace_1 ?_
  refine lv_sipush (v := 1064) hx hb d_In_inodePlace_4 (by decide) ?_
  have hPc := hP.sub (ws' := [(h0, .inr (0, [.int sec, .ref h1, .int pw])), (h1, .inl (cB, n, .inl f))]) [1, 2] rfl
  have hDc := hD.sub (ws' := [(h0, .inr (0, [.int sec, .ref h1, .int pw])), (h1, .inl (cB, n, .inl f))]) [1, 2] (by decide) rfl
  have hKc := hK.sub (tys' := [(cB, .byte)]) [0] rfl
  have hFc := va_free (wc := [(h0, .inr (0, [.int sec, .ref h1, .int pw])), (h1, .inl (cB, n, .inl f))]) hD hS hA [1, 2] rfl
  refine va_calli (va_runV (As := [.int 1064]) (rest := []) ⟨hx, hb, hml, hown, hts⟩ (c_Dk_four l dC dI h0 h1 s.heap.size cB sec pw n f h4 hn 1064) (cwV 1 hts (gwV good_In (k_In_14) (u_In_Dk _ k_Dk_14) (u_In_Dk _ k_Dk_15) (u_In_Dk _ k_Dk_0) (wcs (u_In_Dk _ k_Dk_16) u_In_Dk)) rfl rfl rfl (by decide +kernel) ⟨Nat.le_of_ble_eq_true rfl, Nat.le_of_ble_eq_true rfl⟩) (pv_of hPc hKc hDc (va_recv hKc hPc (ci := 0) (q0 := 0) rfl rfl)) rfl rfl hl.1 rfl (lv_room (Nat.le_of_ble_eq_true rfl)) d_In_inodePlace_7 ⟨by decide, by decide⟩) hS (fun q _ h => hFc q h) hFc (fun r_1 u t H1 locs ht hvm hw hB hz1 hk1 hS => ?_)
  obtain ⟨er_1, rfl⟩ := hw
  obtain ⟨hP1, hK1, hD1⟩ := hB
  rw [ht] at hP1
  have hP1 : va_P (dC, dI) classes [(h0, .inr (0, [.int sec, .ref h1, .int pw])), (h1, .inl (cB, n, .inl f))] H1 := hP1
  have hD1 : va_D _ [(h0, .inr (0, [.int sec, .ref h1, .int pw])), (h1, .inl (cB, n, .inl f))] := hD1
  obtain ⟨hP, hD⟩ := va_join (wr := [(i0, .inr (6, [.ref h0, .int se]))]) (w1 := [(h0, .inr (0, [.int sec, .ref h1, .int pw])), (h1, .inl (cB, n, .inl f))]) hP hD [1, 2] [0] rfl rfl (by decide) (by decide) hk1 hFc hP1 hD1
  generalize H1 = H at hP hS ⊢
  have hP : va_P (dC, dI) classes [(i0, .inr (6, [.ref h0, .int se])), (h0, .inr (0, [.int sec, .ref h1, .int pw])), (h1, .inl (cB, n, .inl f))] H := hP
  have hD : va_D A [(i0, .inr (6, [.ref h0, .int se])), (h0, .inr (0, [.int sec, .ref h1, .int pw])), (h1, .inl (cB, n, .inl f))] := hD
  refine lv_istore_n (lv' := [(2, .int r_1), (0, .ref i0), (1, .int p1)]) hx hb d_In_inodePlace_10 rfl hl (by decide) rfl (fun ls hl => ?_)
  refine lv_iload_n hx hb d_In_inodePlace_11 rfl (lv_at hl 2 rfl) ?_
  refine lv_iconst (v := 1) hx hb d_In_inodePlace_12 (by decide) ?_
  refine lv_icmp_lt (tgt := 21) hx hb d_In_inodePlace_13 (by decide) (fun c_2 => ?_) (fun c_2 => ?_)
  · refine lv_iconst (v := 0) hx hb d_In_inodePlace_21 (by decide) ?_
    exact W.iret (v := 0) hx hb hr (fun t ht hW => ⟨⟨0, (), rfl, by rw [in_place, ← er_1, if_pos c_2], by rw [ht]; exact hP, va_K.moved hW.alike hK, hD⟩, hS.F ht⟩) hS.2.2 d_In_inodePlace_22
  · refine lv_iload_n hx hb d_In_inodePlace_16 rfl (lv_at hl 0 rfl) ?_
    refine lv_iconst (v := 1) hx hb d_In_inodePlace_17 (by decide) ?_
    refine lv_icmp_ge (tgt := 23) hx hb d_In_inodePlace_18 (by decide) (fun c_3 => ?_) (fun c_3 => ?_)
    · refine lv_aload_n hx hb d_In_inodePlace_23 rfl (lv_at hl 1 rfl) ?_
      refine va_get (D := (dC, dI)) (ci := 6) (v := .ref h0) (C := R_In) (T := F_In) (N := 2) hx hb hts i_In hown hK hP 0 rfl rfl 0 (by decide) (hts _ (k_In_5)) (fun _ h9 => h9) rfl d_In_inodePlace_24 ?_
      refine lv_sipush (v := 2048) hx hb d_In_inodePlace_27 (by decide) ?_
      refine lv_bipush (v := 32) hx hb d_In_inodePlace_30 (by decide) ?_
      refine lv_iload_n hx hb d_In_inodePlace_32 rfl (lv_at hl 2 rfl) ?_
      refine lv_iconst (v := 1) hx hb d_In_inodePlace_33 (by decide) ?_
      refine lv_isub hx hb d_In_inodePlace_34 ?_
      refine lv_iload_n hx hb d_In_inodePlace_35 rfl (lv_at hl 0 rfl) ?_
      refine lv_idiv hx hb d_In_inodePlace_36 (fun h => by have q := c_3; rw [h] at q; exact absurd q (by decide)) ?_
      refine lv_imul hx hb d_In_inodePlace_37 ?_
      refine lv_iadd hx hb d_In_inodePlace_38 ?_
      refine lv_bipush (v := 8) hx hb d_In_inodePlace_39 (by decide) ?_
      refine lv_iadd hx hb d_In_inodePlace_41 ?_
      have hPc := hP.sub (ws' := [(h0, .inr (0, [.int sec, .ref h1, .int pw])), (h1, .inl (cB, n, .inl f))]) [1, 2] rfl
      have hDc := hD.sub (ws' := [(h0, .inr (0, [.int sec, .ref h1, .int pw])), (h1, .inl (cB, n, .inl f))]) [1, 2] (by decide) rfl
      have hKc := hK.sub (tys' := [(cB, .byte)]) [0] rfl
      have hFc := va_free (wc := [(h0, .inr (0, [.int sec, .ref h1, .int pw])), (h1, .inl (cB, n, .inl f))]) hD hS hA [1, 2] rfl
      refine va_calli (va_runV (As := [.int ((2048 + (32 * ((p1 - 1) / r_1))) + 8)]) (rest := []) ⟨hx, hb, hml, hown, hts⟩ (c_Dk_four l dC dI h0 h1 H.size cB sec pw n f h4 hn ((2048 + (32 * ((p1 - 1) / r_1))) + 8)) (cwV 1 hts (gwV good_In (k_In_14) (u_In_Dk _ k_Dk_14) (u_In_Dk _ k_Dk_15) (u_In_Dk _ k_Dk_0) (wcs (u_In_Dk _ k_Dk_16) u_In_Dk)) rfl rfl rfl (by decide +kernel) ⟨Nat.le_of_ble_eq_true rfl, Nat.le_of_ble_eq_true rfl⟩) (pv_of hPc hKc hDc (va_recv hKc hPc (ci := 0) (q0 := 0) rfl rfl)) rfl rfl hl.1 rfl (lv_room (Nat.le_of_ble_eq_true rfl)) d_In_inodePlace_42 ⟨by decide, by decide⟩) hS (fun q _ h => hFc q h) hFc (fun r_4 u t H1 locs ht hvm hw hB hz1 hk1 hS => ?_)
      obtain ⟨er_4, rfl⟩ := hw
      obtain ⟨hP1, hK1, hD1⟩ := hB
      rw [ht] at hP1
      have hP1 : va_P (dC, dI) classes [(h0, .inr (0, [.int sec, .ref h1, .int pw])), (h1, .inl (cB, n, .inl f))] H1 := hP1
      have hD1 : va_D _ [(h0, .inr (0, [.int sec, .ref h1, .int pw])), (h1, .inl (cB, n, .inl f))] := hD1
      obtain ⟨hP, hD⟩ := va_join (wr := [(i0, .inr (6, [.ref h0, .int se]))]) (w1 := [(h0, .inr (0, [.int sec, .ref h1, .int pw])), (h1, .inl (cB, n, .inl f))]) hP hD [1, 2] [0] rfl rfl (by decide) (by decide) hk1 hFc hP1 hD1
      generalize H1 = H at hP hS ⊢
      have hP : va_P (dC, dI) classes [(i0, .inr (6, [.ref h0, .int se])), (h0, .inr (0, [.int sec, .ref h1, .int pw])), (h1, .inl (cB, n, .inl f))] H := hP
      have hD : va_D A [(i0, .inr (6, [.ref h0, .int se])), (h0, .inr (0, [.int sec, .ref h1, .int pw])), (h1, .inl (cB, n, .inl f))] := hD
      refine lv_istore_n (lv' := [(3, .int r_4), (2, .int r_1), (0, .ref i0), (1, .int p1)]) hx hb d_In_inodePlace_45 rfl hl (by decide) rfl (fun ls hl => ?_)
      refine lv_iload_n hx hb d_In_inodePlace_46 rfl (lv_at hl 0 rfl) ?_
      refine lv_sipush (v := 1024) hx hb d_In_inodePlace_47 (by decide) ?_
      refine lv_imul hx hb d_In_inodePlace_50 ?_
      refine lv_iload_n hx hb d_In_inodePlace_51 rfl (lv_at hl 3 rfl) ?_
      refine lv_iconst (v := 1) hx hb d_In_inodePlace_52 (by decide) ?_
      refine lv_isub hx hb d_In_inodePlace_53 ?_
      refine lv_iload_n hx hb d_In_inodePlace_54 rfl (lv_at hl 1 rfl) ?_
      refine lv_irem hx hb d_In_inodePlace_55 (fun h => by have q := c_3; rw [h] at q; exact absurd q (by decide)) ?_
      refine lv_sipush (v := 128) hx hb d_In_inodePlace_56 (by decide) ?_
      refine lv_imul hx hb d_In_inodePlace_59 ?_
      refine lv_iadd hx hb d_In_inodePlace_60 ?_
      exact W.iret (v := ((r_4 * 1024) + (((p1 - 1) - (p1 - 1) / r_1 * r_1) * 128))) hx hb hr (fun t ht hW => ⟨⟨((r_4 * 1024) + (((p1 - 1) - (p1 - 1) / r_1 * r_1) * 128)), (), rfl, by rw [in_place, ← er_1, if_neg c_2, if_pos c_3, ← er_4], by rw [ht]; exact hP, va_K.moved hW.alike hK, hD⟩, hS.F ht⟩) hS.2.2 d_In_inodePlace_61
    · refine lv_iconst (v := 0) hx hb d_In_inodePlace_21 (by decide) ?_
      exact W.iret (v := 0) hx hb hr (fun t ht hW => ⟨⟨0, (), rfl, by rw [in_place, ← er_1, if_neg c_2, if_neg c_3], by rw [ht]; exact hP, va_K.moved hW.alike hK, hD⟩, hS.F ht⟩) hS.2.2 d_In_inodePlace_22
def in_shows (n : Nat) (f : Nat → Int32) (p1 : Int32) : Int32 := if (p1 / 2) < 1 then (1) else if 1 ≤ (in_gsize n f ) then if (((dk_one n f (((dk_four n f (2048 + (32 * (((p1 / 2) - 1) / (in_gsize n f ))))) * 1024) + ((((p1 / 2) - 1) - ((p1 / 2) - 1) / (in_gsize n f ) * (in_gsize n f )) / 8))) >>> (((((p1 / 2) - 1) - ((p1 / 2) - 1) / (in_gsize n f ) * (in_gsize n f )) - (((p1 / 2) - 1) - ((p1 / 2) - 1) / (in_gsize n f ) * (in_gsize n f )) / 8 * 8) &&& 31)) &&& 1) = 0 then (0) else (1) else (1)
set_option maxHeartbeats 4000000 in
set_option maxRecDepth 100000 in
theorem c_In_shows (l : Launch) (dC : Nat → ClassId) (dI : Nat → Nat → Nat) (i0 h0 sz : Nat) (se : Int32) (h1 : Nat) (cB : ClassId) (sec pw : Int32) (n : Nat) (f : Nat → Int32) (h4 : 4 ≤ n) (hn : n < 2 ^ 31) (p1 : Int32) : Met l y_In_shows (.code y_In_shows b_In_shows 6 (some .boolean) :: V_In) ({ frames := 2, cells := 0, slots := 0, locals := 41 }) (va_Pc [.ref i0, .int p1] (fun U => U.heap.size = sz ∧ at_ (dC, dI) (fun _ => True) [(i0, .inr (6, [.ref h0, .int se])), (h0, .inr (0, [.int sec, .ref h1, .int pw])), (h1, .inl (cB, n, .inl f))] [(cB, .byte)] U)) (va_Qi (fun (r : Int32) (u : Unit) => r = in_shows n f p1) (fun (u : Unit) t => at_ (dC, dI) (va_A [(i0, .inr (6, [.ref h0, .int se])), (h0, .inr (0, [.int sec, .ref h1, .int pw])), (h1, .inl (cB, n, .inl f))] sz) [(i0, .inr (6, [.ref h0, .int se])), (h0, .inr (0, [.int sec, .ref h1, .int pw])), (h1, .inl (cB, n, .inl f))] [(cB, .byte)] t) (va_A [(i0, .inr (6, [.ref h0, .int se])), (h0, .inr (0, [.int sec, .ref h1, .int pw])), (h1, .inl (cB, n, .inl f))] sz)) 0 0 (va_A [(i0, .inr (6, [.ref h0, .int se])), (h0, .inr (0, [.int sec, .ref h1, .int pw])), (h1, .inl (cB, n, .inl f))] sz) := by
  refine Met.ofW (cc := b_In_shows) (maxL := 6) (ret := (some .boolean)) (by decide) rfl ?_
  intro p e s m args below meth c s₁ B hml hv
  obtain ⟨rfl, hsz, hP, hK, hD0⟩ := hv
  have hx := B.exec
  have hb := B.bytes
  have hr := B.returns
  have hts0 := atoms_spec (ws := .code y_In_shows b_In_shows 6 (some .boolean) :: V_In) B.pre
  have hts : ∀ w ∈ V_In, w.before ([.ref i0, .int p1] : List Value).toArray s = true := fun w h => hts0 w (List.mem_cons_of_mem _ h)
  have hown : s.vm.findClass R_In = some m.cls := findClass_of_methodNamed B.named
  have hlocks := B.notSynchronized
  subst hsz
  have hD := hD0.self (sz := s.heap.size)
  generalize hAe : va_A [(i0, .inr (6, [.ref h0, .int se])), (h0, .inr (0, [.int sec, .ref h1, .int pw])), (h1, .inl (cB, n, .inl f))] s.heap.size = A at hD ⊢
  have hA : ∀ q : Nat, s.heap.size ≤ q → A q := fun q h => by rw [← hAe]; exact Or.inr h
  have hS : va_S A s.heap s.heap [] := va_S.rf
  have hP : va_P (dC, dI) classes [(i0, .inr (6, [.ref h0, .int se])), (h0, .inr (0, [.int sec, .ref h1, .int pw])), (h1, .inl (cB, n, .inl f))] s.heap := hP
  have hK : va_K (dC, dI) classes [(cB, .byte)] s := hK
  have hl := lv_entry ([.ref i0, .int p1]) (n := 6) (Nat.le_of_ble_eq_true rfl)
  rw [lg_entry_eq]
  generalize (lg_sl ([.ref i0, .int p1]) ++ List.replicate (6 - (lg_sl ([.ref i0, .int p1])).length) Slot.unset).toArray = ls at hl ⊢
  have hl : lv_has ls 6 [(0, .ref i0), (1, .int p1)] := hl
  refine lv_aload_n hx hb d_In_shows_0 rfl (lv_at hl 0 rfl) ?_
  have hPc := hP.sub (ws' := [(i0, .inr (6, [.ref h0, .int se])), (h0, .inr (0, [.int sec, .ref h1, .int pw])), (h1, .inl (cB, n, .inl f))]) [0, 1, 2] rfl
  have hDc := hD.sub (ws' := [(i0, .inr (6, [.ref h0, .int se])), (h0, .inr (0, [.int sec, .ref h1, .int pw])), (h1, .inl (cB, n, .inl f))]) [0, 1, 2] (by decide) rfl
  have hKc := hK.sub (tys' := [(cB, .byte)]) [0] rfl
  have hFc := va_free (wc := [(i0, .inr (6, [.ref h0, .int se])), (h0, .inr (0, [.int sec, .ref h1, .int pw])), (h1, .inl (cB, n, .inl f))]) hD hS hA [0, 1, 2] rfl
  refine va_calli (va_runV (As := []) (rest := []) ⟨hx, hb, hml, hown, hts⟩ (c_In_groupSize l dC dI i0 h0 s.heap.size se h1 cB sec pw n f h4 hn ) (cwV 0 hts (gwV good_In (k_In_21) (k_In_22) (k_In_23) (k_In_0) (wcs (k_In_24) (fun _ h => h))) rfl rfl rfl (by decide +kernel) ⟨Nat.le_of_ble_eq_true rfl, Nat.le_of_ble_eq_true rfl⟩) (pv_of hPc hKc hDc (va_recv hKc hPc (ci := 6) (q0 := 0) rfl rfl)) rfl rfl hl.1 rfl (lv_room (Nat.le_of_ble_eq_true rfl)) d_In_shows_1 ⟨by decide, by decide⟩) hS (fun q _ h => hFc q h) hFc (fun r_1 u t H1 locs ht hvm hw hB hz1 hk1 hS => ?_)
  have er_1 := hw
  obtain ⟨hP1, hK1, hD1⟩ := hB
  rw [ht] at hP1
  have hP1 : va_P (dC, dI) classes [(i0, .inr (6, [.ref h0, .int se])), (h0, .inr (0, [.int sec, .ref h1, .int pw])), (h1, .inl (cB, n, .inl f))] H1 := hP1
  have hD1 : va_D _ [(i0, .inr (6, [.ref h0, .int se])), (h0, .inr (0, [.int sec, .ref h1, .int pw])), (h1, .inl (cB, n, .inl f))] := hD1
  obtain ⟨hP, hD⟩ := va_join (wr := []) (w1 := [(i0, .inr (6, [.ref h0, .int se])), (h0, .inr (0, [.int sec, .ref h1, .int pw])), (h1, .inl (cB, n, .inl f))]) hP hD [0, 1, 2] [] rfl rfl (by decide) (by decide) hk1 hFc hP1 hD1
  generalize H1 = H at hP hS ⊢
  have hP : va_P (dC, dI) classes [(i0, .inr (6, [.ref h0, .int se])), (h0, .inr (0, [.int sec, .ref h1, .int pw])), (h1, .inl (cB, n, .inl f))] H := hP
  have hD : va_D A [(i0, .inr (6, [.ref h0, .int se])), (h0, .inr (0, [.int sec, .ref h1, .int pw])), (h1, .inl (cB, n, .inl f))] := hD
  refine lv_istore_n (lv' := [(2, .int r_1), (0, .ref i0), (1, .int p1)]) hx hb d_In_shows_4 rfl hl (by decide) rfl (fun ls hl => ?_)
  refine lv_iload_n hx hb d_In_shows_5 rfl (lv_at hl 2 rfl) ?_
  refine lv_iconst (v := 2) hx hb d_In_shows_6 (by decide) ?_
  refine lv_idiv hx hb d_In_shows_7 (by decide) ?_
  refine lv_topi (fun x_2 ex_2 => ?_)
  refine lv_istore_n (lv' := [(3, .int x_2), (2, .int r_1), (0, .ref i0), (1, .int p1)]) hx hb d_In_shows_8 rfl hl (by decide) rfl (fun ls hl => ?_)
  refine lv_iload_n hx hb d_In_shows_9 rfl (lv_at hl 0 rfl) ?_
  refine lv_iconst (v := 1) hx hb d_In_shows_10 (by decide) ?_
  refine lv_icmp_lt (tgt := 19) hx hb d_In_shows_11 (by decide) (fun c_3 => ?_) (fun c_3 => ?_)
  · refine lv_iconst (v := 1) hx hb d_In_shows_19 (by decide) ?_
    exact W.zret (v := 1) hx hb hr rfl (fun t ht hW => ⟨⟨1, (), rfl, by rw [in_shows, ← er_1, ← ex_2, if_pos c_3], by rw [ht]; exact hP, va_K.moved hW.alike hK, hD⟩, hS.F ht⟩) hS.2.2 d_In_shows_20
  · refine lv_iload_n hx hb d_In_shows_14 rfl (lv_at hl 1 rfl) ?_
    refine lv_iconst (v := 1) hx hb d_In_shows_15 (by decide) ?_
    refine lv_icmp_ge (tgt := 21) hx hb d_In_shows_16 (by decide) (fun c_4 => ?_) (fun c_4 => ?_)
    · refine lv_iload_n hx hb d_In_shows_21 rfl (lv_at hl 0 rfl) ?_
      refine lv_iconst (v := 1) hx hb d_In_shows_22 (by decide) ?_
      refine lv_isub hx hb d_In_shows_23 ?_
      refine lv_iload_n hx hb d_In_shows_24 rfl (lv_at hl 1 rfl) ?_
      refine lv_irem hx hb d_In_shows_25 (fun h => by have q := c_4; rw [h] at q; exact absurd q (by decide)) ?_
      refine lv_topi (fun x_5 ex_5 => ?_)
      refine lv_istore (lv' := [(4, .int x_5), (3, .int x_2), (2, .int r_1), (0, .ref i0), (1, .int p1)]) hx hb d_In_shows_26 hl (by decide) rfl (fun ls hl => ?_)
      refine lv_aload_n hx hb d_In_shows_28 rfl (lv_at hl 3 rfl) ?_
      refine va_get (D := (dC, dI)) (ci := 6) (v := .ref h0) (C := R_In) (T := F_In) (N := 2) hx hb hts i_In hown hK hP 0 rfl rfl 0 (by decide) (hts _ (k_In_5)) (fun _ h9 => h9) rfl d_In_shows_29 ?_
      refine lv_sipush (v := 2048) hx hb d_In_shows_32 (by decide) ?_
      refine lv_bipush (v := 32) hx hb d_In_shows_35 (by decide) ?_
      refine lv_iload_n hx hb d_In_shows_37 rfl (lv_at hl 1 rfl) ?_
      refine lv_iconst (v := 1) hx hb d_In_shows_38 (by decide) ?_
      refine lv_isub hx hb d_In_shows_39 ?_
      refine lv_iload_n hx hb d_In_shows_40 rfl (lv_at hl 2 rfl) ?_
      refine lv_idiv hx hb d_In_shows_41 (fun h => by have q := c_4; rw [h] at q; exact absurd q (by decide)) ?_
      refine lv_imul hx hb d_In_shows_42 ?_
      refine lv_iadd hx hb d_In_shows_43 ?_
      have hPc := hP.sub (ws' := [(h0, .inr (0, [.int sec, .ref h1, .int pw])), (h1, .inl (cB, n, .inl f))]) [1, 2] rfl
      have hDc := hD.sub (ws' := [(h0, .inr (0, [.int sec, .ref h1, .int pw])), (h1, .inl (cB, n, .inl f))]) [1, 2] (by decide) rfl
      have hKc := hK.sub (tys' := [(cB, .byte)]) [0] rfl
      have hFc := va_free (wc := [(h0, .inr (0, [.int sec, .ref h1, .int pw])), (h1, .inl (cB, n, .inl f))]) hD hS hA [1, 2] rfl
      refine va_calli (va_runV (As := [.int (2048 + (32 * ((x_2 - 1) / r_1)))]) (rest := []) ⟨hx, hb, hml, hown, hts⟩ (c_Dk_four l dC dI h0 h1 H.size cB sec pw n f h4 hn (2048 + (32 * ((x_2 - 1) / r_1)))) (cwV 1 hts (gwV good_In (k_In_14) (u_In_Dk _ k_Dk_14) (u_In_Dk _ k_Dk_15) (u_In_Dk _ k_Dk_0) (wcs (u_In_Dk _ k_Dk_16) u_In_Dk)) rfl rfl rfl (by decide +kernel) ⟨Nat.le_of_ble_eq_true rfl, Nat.le_of_ble_eq_true rfl⟩) (pv_of hPc hKc hDc (va_recv hKc hPc (ci := 0) (q0 := 0) rfl rfl)) rfl rfl hl.1 rfl (lv_room (Nat.le_of_ble_eq_true rfl)) d_In_shows_44 ⟨by decide, by decide⟩) hS (fun q _ h => hFc q h) hFc (fun r_6 u t H1 locs ht hvm hw hB hz1 hk1 hS => ?_)
      obtain ⟨er_6, rfl⟩ := hw
      obtain ⟨hP1, hK1, hD1⟩ := hB
      rw [ht] at hP1
      have hP1 : va_P (dC, dI) classes [(h0, .inr (0, [.int sec, .ref h1, .int pw])), (h1, .inl (cB, n, .inl f))] H1 := hP1
      have hD1 : va_D _ [(h0, .inr (0, [.int sec, .ref h1, .int pw])), (h1, .inl (cB, n, .inl f))] := hD1
      obtain ⟨hP, hD⟩ := va_join (wr := [(i0, .inr (6, [.ref h0, .int se]))]) (w1 := [(h0, .inr (0, [.int sec, .ref h1, .int pw])), (h1, .inl (cB, n, .inl f))]) hP hD [1, 2] [0] rfl rfl (by decide) (by decide) hk1 hFc hP1 hD1
      generalize H1 = H at hP hS ⊢
      have hP : va_P (dC, dI) classes [(i0, .inr (6, [.ref h0, .int se])), (h0, .inr (0, [.int sec, .ref h1, .int pw])), (h1, .inl (cB, n, .inl f))] H := hP
      have hD : va_D A [(i0, .inr (6, [.ref h0, .int se])), (h0, .inr (0, [.int sec, .ref h1, .int pw])), (h1, .inl (cB, n, .inl f))] := hD
      refine lv_istore (lv' := [(5, .int r_6), (4, .int x_5), (3, .int x_2), (2, .int r_1), (0, .ref i0), (1, .int p1)]) hx hb d_In_shows_47 hl (by decide) rfl (fun ls hl => ?_)
      refine lv_aload_n hx hb d_In_shows_49 rfl (lv_at hl 4 rfl) ?_
      refine va_get (D := (dC, dI)) (ci := 6) (v := .ref h0) (C := R_In) (T := F_In) (N := 2) hx hb hts i_In hown hK hP 0 rfl rfl 0 (by decide) (hts _ (k_In_5)) (fun _ h9 => h9) rfl d_In_shows_50 ?_
      refine lv_iload hx hb d_In_shows_53 (lv_at hl 0 rfl) ?_
      refine lv_sipush (v := 1024) hx hb d_In_shows_55 (by decide) ?_
      refine lv_imul hx hb d_In_shows_58 ?_
      refine lv_iload hx hb d_In_shows_59 (lv_at hl 1 rfl) ?_
      refine lv_bipush (v := 8) hx hb d_In_shows_61 (by decide) ?_
      refine lv_idiv hx hb d_In_shows_63 (by decide) ?_
      refine lv_iadd hx hb d_In_shows_64 ?_
      have hPc := hP.sub (ws' := [(h0, .inr (0, [.int sec, .ref h1, .int pw])), (h1, .inl (cB, n, .inl f))]) [1, 2] rfl
      have hDc := hD.sub (ws' := [(h0, .inr (0, [.int sec, .ref h1, .int pw])), (h1, .inl (cB, n, .inl f))]) [1, 2] (by decide) rfl
      have hKc := hK.sub (tys' := [(cB, .byte)]) [0] rfl
      have hFc := va_free (wc := [(h0, .inr (0, [.int sec, .ref h1, .int pw])), (h1, .inl (cB, n, .inl f))]) hD hS hA [1, 2] rfl
      refine va_calli (va_runV (As := [.int ((r_6 * 1024) + (x_5 / 8))]) (rest := []) ⟨hx, hb, hml, hown, hts⟩ (c_Dk_one l dC dI h0 h1 H.size cB sec pw n f h4 hn ((r_6 * 1024) + (x_5 / 8))) (cwV 1 hts (gwV good_In (k_In_25) (u_In_Dk _ k_Dk_20) (u_In_Dk _ k_Dk_21) (u_In_Dk _ k_Dk_0) (wcs (u_In_Dk _ k_Dk_22) u_In_Dk)) rfl rfl rfl (by decide +kernel) ⟨Nat.le_of_ble_eq_true rfl, Nat.le_of_ble_eq_true rfl⟩) (pv_of hPc hKc hDc (va_recv hKc hPc (ci := 0) (q0 := 0) rfl rfl)) rfl rfl hl.1 rfl (lv_room (Nat.le_of_ble_eq_true rfl)) d_In_shows_65 ⟨by decide, by decide⟩) hS (fun q _ h => hFc q h) hFc (fun r_7 u t H1 locs ht hvm hw hB hz1 hk1 hS => ?_)
      obtain ⟨er_7, rfl⟩ := hw
      obtain ⟨hP1, hK1, hD1⟩ := hB
      rw [ht] at hP1
      have hP1 : va_P (dC, dI) classes [(h0, .inr (0, [.int sec, .ref h1, .int pw])), (h1, .inl (cB, n, .inl f))] H1 := hP1
      have hD1 : va_D _ [(h0, .inr (0, [.int sec, .ref h1, .int pw])), (h1, .inl (cB, n, .inl f))] := hD1
      obtain ⟨hP, hD⟩ := va_join (wr := [(i0, .inr (6, [.ref h0, .int se]))]) (w1 := [(h0, .inr (0, [.int sec, .ref h1, .int pw])), (h1, .inl (cB, n, .inl f))]) hP hD [1, 2] [0] rfl rfl (by decide) (by decide) hk1 hFc hP1 hD1
      generalize H1 = H at hP hS ⊢
      have hP : va_P (dC, dI) classes [(i0, .inr (6, [.ref h0, .int se])), (h0, .inr (0, [.int sec, .ref h1, .int pw])), (h1, .inl (cB, n, .inl f))] H := hP
      have hD : va_D A [(i0, .inr (6, [.ref h0, .int se])), (h0, .inr (0, [.int sec, .ref h1, .int pw])), (h1, .inl (cB, n, .inl f))] := hD
      refine lv_iload hx hb d_In_shows_68 (lv_at hl 1 rfl) ?_
      refine lv_bipush (v := 8) hx hb d_In_shows_70 (by decide) ?_
      refine lv_irem hx hb d_In_shows_72 (by decide) ?_
      refine lv_ishr hx hb d_In_shows_73 ?_
      refine lv_iconst (v := 1) hx hb d_In_shows_74 (by decide) ?_
      refine lv_iand hx hb d_In_shows_75 ?_
      refine lv_if_eq (tgt := 83) hx hb d_In_shows_76 (by decide) (fun c_8 => ?_) (fun c_8 => ?_)
      · refine lv_iconst (v := 0) hx hb d_In_shows_83 (by decide) ?_
        exact W.zret (v := 0) hx hb hr rfl (fun t ht hW => ⟨⟨0, (), rfl, by rw [in_shows, ← er_1, ← ex_2, if_neg c_3, if_pos c_4, ← ex_5, ← er_6, ← er_7, if_pos c_8], by rw [ht]; exact hP, va_K.moved hW.alike hK, hD⟩, hS.F ht⟩) hS.2.2 d_In_shows_84
      · refine lv_iconst (v := 1) hx hb d_In_shows_79 (by decide) ?_
        refine lv_goto (tgt := 84) hx hb d_In_shows_80 (by decide) ?_
        exact W.zret (v := 1) hx hb hr rfl (fun t ht hW => ⟨⟨1, (), rfl, by rw [in_shows, ← er_1, ← ex_2, if_neg c_3, if_pos c_4, ← ex_5, ← er_6, ← er_7, if_neg c_8], by rw [ht]; exact hP, va_K.moved hW.alike hK, hD⟩, hS.F ht⟩) hS.2.2 d_In_shows_84
    · refine lv_iconst (v := 1) hx hb d_In_shows_19 (by decide) ?_
      exact W.zret (v := 1) hx hb hr rfl (fun t ht hW => ⟨⟨1, (), rfl, by rw [in_shows, ← er_1, ← ex_2, if_neg c_3, if_neg c_4], by rw [ht]; exact hP, va_K.moved hW.alike hK, hD⟩, hS.F ht⟩) hS.2.2 d_In_shows_20
